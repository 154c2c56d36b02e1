/-! THE TEXT -/
def dg (t : Nat → Int32) (n s : Nat) : Int32 := if s < n then t s - 48 else -1
def stp (t : Nat → Int32) (n s : Nat) (v u lo hi : Int32) : Bool := rngI (dg t n s) 0 9 && (!decide (hi < v + dg t n s * u) && decide (lo ≤ v + dg t n s * u + u - 1))
/-- a number of one digit or two, and where the reader is then -/
def fg (t : Nat → Int32) (n s : Nat) (ahead : Int32) (two : Bool) (lo hi : Int32) : Int32 × Nat :=
  if ahead = -1 then (-1, s)
  else if two = true then
    if stp t n s 0 10 lo hi = true then
      (if stp t n (s + 1) (0 + dg t n s * 10) 1 lo hi = true then (0 + dg t n s * 10 + dg t n (s + 1) * 1, s + 2) else (-1, s + 1))
    else (-1, s)
  else if stp t n s 0 1 lo hi = true then (0 + dg t n s * 1, s + 1) else (-1, s)
abbrev Cm : Type := Int32 × Int32 × Int32 × Int32 × Int32 × Int32
def rdS (t : Nat → Int32) (n s : Nat) : Option Cm × Nat :=
  let a := fg t n s 0 false 0 4
  let b := fg t n a.2 a.1 false 0 9
  let d := fg t n b.2 b.1 true 0 15
  let e := fg t n d.2 d.1 true 1 16
  let f := fg t n e.2 e.1 false 1 9
  (if f.1 = -1 then none else some (115, a.1, b.1, d.1, e.1, f.1), f.2)
def rdG (t : Nat → Int32) (n s : Nat) : Option Cm × Nat :=
  let a := fg t n s 0 true 0 15
  let b := fg t n a.2 a.1 false 0 5
  (if b.1 = -1 then none else some (103, a.1, b.1, 0, 0, 0), b.2)
def rd1 (t : Nat → Int32) (n s : Nat) (w : Int32) (two : Bool) (hi : Int32) : Option Cm × Nat :=
  let a := fg t n s 0 two 1 hi
  (if a.1 = -1 then none else some (w, a.1, 0, 0, 0, 0), a.2)
def rdC (t : Nat → Int32) (n s : Nat) : Option Cm × Nat :=
  if t s = 110 then rd1 t n (s + 1) 110 true 20
  else if t s = 115 then rdS t n (s + 1)
  else if t s = 103 then rdG t n (s + 1)
  else if t s = 97 then (some (97, 0, 0, 0, 0, 0), s + 1)
  else if t s = 100 then rd1 t n (s + 1) 100 false 9
  else (none, s)
def gvOk (c : Cal) (k p : Int32) : Bool := inN k (cSs c).length && (inN p (cPs c).length && decide (why c k.toNatClampNeg p.toNatClampNeg = 0))
def doC (c : Cal) (m : Cm) : Cal × Bool :=
  if m.1 = 110 then (if (cPs c).length < 6 then (hireC c m.2.1, true) else (c, false))
  else if m.1 = 115 then (if isNw c m.2.1 m.2.2.1 m.2.2.2.1 m.2.2.2.2.1 m.2.2.2.2.2 = true then (insS c (m.2.1, m.2.2.1, m.2.2.2.1, m.2.2.2.2.1, m.2.2.2.2.2, -1), true) else (c, false))
  else if m.1 = 103 then (if gvOk c m.2.1 m.2.2.1 = true then (setS c m.2.1.toNatClampNeg 5 m.2.2.1, true) else (c, false))
  else if m.1 = 97 then ((gvAll c).1, true)
  else (runTo c m.2.1.toNatClampNeg, true)
def afC (r : Option Cm) (c : Cal) : Cal := match r with | none => c | some m => (doC c m).1
def afO (r : Option Cm) (c : Cal) (o : Int32) : Int32 := match r with | none => o | some m => o + if (doC c m).2 = true then 0 else 1
theorem fg_le {t : Nat → Int32} {n s : Nat} {ah : Int32} {two : Bool} {lo hi : Int32} (h : s ≤ n) : (fg t n s ah two lo hi).2 ≤ n ∧ s ≤ (fg t n s ah two lo hi).2 := by
  have st : ∀ {s v u}, stp t n s v u lo hi = true → s < n := fun {s v u} q => by
    unfold stp at q
    simp only [Bool.and_eq_true, rngI_iff] at q
    obtain ⟨⟨q1, q2⟩, -⟩ := q
    unfold dg at q1
    by_cases z : s < n
    · exact z
    · rw [if_neg z, show (-1 : Int32).toInt = -1 from by decide] at q1
      omega
  unfold fg
  split
  · exact ⟨h, Nat.le_refl _⟩
  · split
    · split
      · rename_i q
        have := st q
        split
        · rename_i q2
          have := st q2
          exact ⟨by show s + 2 ≤ n; omega, by show s ≤ s + 2; omega⟩
        · exact ⟨by show s + 1 ≤ n; omega, by show s ≤ s + 1; omega⟩
      · exact ⟨h, Nat.le_refl _⟩
    · split
      · rename_i q
        have := st q
        exact ⟨by show s + 1 ≤ n; omega, by show s ≤ s + 1; omega⟩
      · exact ⟨h, Nat.le_refl _⟩
theorem fg_rng {t : Nat → Int32} {n s : Nat} {ah : Int32} {two : Bool} {lo hi : Int32} : (fg t n s ah two lo hi).1 = -1 ∨ (lo ≤ (fg t n s ah two lo hi).1 ∧ (fg t n s ah two lo hi).1 ≤ hi) := by
  have st : ∀ {s v}, stp t n s v 1 lo hi = true → lo ≤ v + dg t n s * 1 ∧ v + dg t n s * 1 ≤ hi := fun {s v} q => by
    unfold stp at q
    simp only [Bool.and_eq_true, Bool.not_eq_true', decide_eq_false_iff_not, decide_eq_true_eq] at q
    obtain ⟨-, q1, q2⟩ := q
    rw [Int32.add_sub_cancel] at q2
    exact ⟨q2, by rw [i32_le]; rw [i32_lt] at q1; omega⟩
  unfold fg
  split
  · exact Or.inl rfl
  · split
    · split
      · split
        · rename_i q; exact Or.inr (st q)
        · exact Or.inl rfl
      · exact Or.inl rfl
    · split
      · rename_i q; exact Or.inr (st q)
      · exact Or.inl rfl
section TX
variable {G : GG} {l : Launch} {w0 w : Wd} {A : Nat → Nat} {rf : Int32} {y : Sy} {T : (Nat → Int32) → Prop} {sp ou : Int32}
theorem c_done {b : Bool} {Q : Int32 → Wd → Prop} (hi : Inj A) (h : MG w0 A rf y T sp ou w) (hq : ∀ w2, MG w0 A rf y T sp (ou + if b = true then 0 else 1) w2 → Q 1 w2) : CX6_done G l [.ref (A 0), .int (bI b)] w Q := by
  refine sX6_done (bX6_done_0 h.o rfl (fun q => ?_) (fun q => ?_))
  · cases b with
    | true => exact absurd q (by decide)
    | false => exact bX6_done_13 (bX6_done_14 h.o (mf_l (by decide)) mf_14 (hq _ (h.setO hi rf sp _)))
  · cases b with
    | false => exact absurd rfl q
    | true => exact bX6_done_9 (bX6_done_14 h.o (mf_l (by decide)) mf_14 (hq _ (h.setO hi rf sp _)))
theorem c_figures {s : Nat} {x1 x2 lo hi : Int32} {two : Bool} {Q : Int32 → Wd → Prop} (hi9 : Inj A) (h : MG w0 A rf y T (nI s) ou w) (h2 : x2 = if two = true then 2 else 1) (hs : s ≤ yN y)
    (hq : ∀ w2, MG w0 A rf y T (nI (fg (yT y) (yN y) s x1 two lo hi).2) ou w2 → Q (fg (yT y) (yN y) s x1 two lo hi).1 w2) : CX6_figures G l [.ref (A 0), .int x1, .int x2, .int lo, .int hi] w Q := by
  have hnb := h.nb
  by_cases ha : x1 = -1
  · have : fg (yT y) (yN y) s x1 two lo hi = (-1, s) := by unfold fg; rw [if_pos ha]
    rw [this] at hq
    have j16 : ∀ u : Int32, 0 < u → KX6_figures G l w (ZI G 0 0 w Q) w 16 [(0, .ref (A 0)), (1, .int x1), (3, .int lo), (4, .int hi), (5, .int 0), (6, .int u)] [] := fun u hu => by
      refine bX6_figures_16 (fun q => absurd q (by rw [i32_le]; rw [i32_lt] at hu; omega)) (fun _ => bX6_figures_21 (fun _ => bX6_figures_122 (fun q => absurd ha q) (fun _ => bX6_figures_127 (bX6_figures_133 (hq w h)))) (fun q => absurd ha q))
    exact sX6_figures (bX6_figures_0 (fun _ => bX6_figures_13 (bX6_figures_14 (j16 1 (by decide)))) (fun _ => bX6_figures_8 (bX6_figures_14 (j16 10 (by decide)))))
  -- one digit
  have st : ∀ (u : Int32) (s : Nat) (v : Int32) (w1 : Wd), 0 < u → s ≤ yN y → MG w0 A rf y T (nI s) ou w1 → (stp (yT y) (yN y) s v u lo hi = false → Q (-1) w1) →
      (stp (yT y) (yN y) s v u lo hi = true → s + 1 ≤ yN y → ∀ w2, MG w0 A rf y T (nI (s + 1)) ou w2 → KX6_figures G l w (ZI G 0 0 w Q) w2 16 [(0, .ref (A 0)), (1, .int x1), (3, .int lo), (4, .int hi), (5, .int (v + dg (yT y) (yN y) s * u)), (6, .int (u / 10))] []) →
      KX6_figures G l w (ZI G 0 0 w Q) w1 16 [(0, .ref (A 0)), (1, .int x1), (3, .int lo), (4, .int hi), (5, .int v), (6, .int u)] [] := by
    intro u s v w1 hu hs h kn ky9
    have j53 : KX6_figures G l w (ZI G 0 0 w Q) w1 53 [(0, .ref (A 0)), (1, .int x1), (3, .int lo), (4, .int hi), (5, .int v), (6, .int u)] [.int (dg (yT y) (yN y) s)] := by
      refine bX6_figures_53 (c_in ?_) (fun _ _ h => h)
      rw [in_R (a := 0) (b := 9) rfl rfl]
      have no : stp (yT y) (yN y) s v u lo hi = false → KX6_figures G l w (ZI G 0 0 w Q) w1 96 [] [] := fun q => bX6_figures_96 (kn q)
      unfold stp at no
      refine bX6_figures_75 (fun q => no (by rw [bI_0.mp q]; rfl)) (fun q1 => ?_)
      have r1 : rngI (dg (yT y) (yN y) s) 0 9 = true := bI_n0.mp q1
      refine bX6_figures_78 (fun q => no (by rw [decide_eq_true q, Bool.not_true, Bool.false_and, Bool.and_false])) (fun q2 => ?_)
      refine bX6_figures_85 (fun q3 => ?_) (fun q => no (by rw [decide_eq_false q, Bool.and_false, Bool.and_false]))
      have hsn : s + 1 ≤ yN y := by
        have := (rngI_iff.mp r1).1
        unfold dg at this
        by_cases z : s < yN y
        · exact z
        · rw [if_neg z, show (-1 : Int32).toInt = -1 from by decide] at this
          omega
      refine bX6_figures_98 h.o rfl (mf_l (by decide)) mf_13 (ky9 ?_ hsn _ ?_)
      · unfold stp; rw [r1, decide_eq_false q2, decide_eq_true q3]; rfl
      · rw [nI_1]
        exact h.setO hi9 rf (nI (s + 1)) ou
    refine bX6_figures_16 (fun q => absurd q (by rw [i32_le]; rw [i32_lt] at hu; omega)) (fun _ => bX6_figures_21 (fun q => absurd q ha) (fun _ => ?_))
    obtain ⟨g, hx, hg⟩ := h.x
    by_cases z : s < yN y
    · have e : dg (yT y) (yN y) s = g s - 48 := by unfold dg; rw [if_pos z, hg s z]
      rw [e] at j53
      refine bX6_figures_26 h.o rfl rfl (fun q => absurd q (nI_ge z (by omega))) (fun _ => ?_)
      refine bX6_figures_37 h.o rfl rfl hx (vp_in_nI (by omega) (by omega)) ?_
      rw [nI_clamp (by omega)]
      exact j53
    · have e : dg (yT y) (yN y) s = -1 := by unfold dg; rw [if_neg z]
      rw [e] at j53
      exact bX6_figures_26 h.o rfl rfl (fun _ => bX6_figures_52 j53) (fun q => absurd (nI_le (by omega) (by omega)) q)
  have out : ∀ (v : Int32) (w2 : Wd), Q v w2 → KX6_figures G l w (ZI G 0 0 w Q) w2 16 [(0, .ref (A 0)), (1, .int x1), (3, .int lo), (4, .int hi), (5, .int v), (6, .int (1 / 10))] [] := fun v w2 hv =>
    bX6_figures_16 (fun _ => bX6_figures_122 (fun _ => bX6_figures_131 (bX6_figures_133 hv)) (fun q => absurd q ha)) (fun q => absurd (by decide) q)
  cases two with
  | false =>
    have e : fg (yT y) (yN y) s x1 false lo hi = if stp (yT y) (yN y) s 0 1 lo hi = true then (0 + dg (yT y) (yN y) s * 1, s + 1) else (-1, s) := by unfold fg; rw [if_neg ha]; rfl
    rw [e] at hq
    refine sX6_figures (bX6_figures_0 (fun _ => bX6_figures_13 (bX6_figures_14 ?_)) (fun q => absurd (h2.symm.trans q) (by decide)))
    refine st 1 s 0 w (by decide) hs h (fun q => ?_) (fun q hs2 w2 hw2 => ?_)
    · rw [if_neg (by rw [q]; exact Bool.false_ne_true)] at hq; exact hq w h
    · rw [if_pos q] at hq; exact out _ _ (hq w2 hw2)
  | true =>
    have e : fg (yT y) (yN y) s x1 true lo hi = if stp (yT y) (yN y) s 0 10 lo hi = true then (if stp (yT y) (yN y) (s + 1) (0 + dg (yT y) (yN y) s * 10) 1 lo hi = true then (0 + dg (yT y) (yN y) s * 10 + dg (yT y) (yN y) (s + 1) * 1, s + 2) else (-1, s + 1)) else (-1, s) := by unfold fg; rw [if_neg ha]; rfl
    rw [e] at hq
    refine sX6_figures (bX6_figures_0 (fun q => absurd h2 q) (fun _ => bX6_figures_8 (bX6_figures_14 ?_)))
    refine st 10 s 0 w (by decide) hs h (fun q => ?_) (fun q hs2 w2 hw2 => ?_)
    · rw [if_neg (by rw [q]; exact Bool.false_ne_true)] at hq; exact hq w h
    · rw [if_pos q] at hq
      refine st 1 (s + 1) _ w2 (by decide) hs2 hw2 (fun q2 => ?_) (fun q2 hs3 w3 hw3 => ?_)
      · rw [if_neg (by rw [q2]; exact Bool.false_ne_true)] at hq; exact hq w2 hw2
      · rw [if_pos q2] at hq; exact out _ _ (hq w3 hw3)
theorem rdS_eq {t : Nat → Int32} {n s : Nat} {a b d e f : Int32 × Nat} (ha : fg t n s 0 false 0 4 = a) (hb : fg t n a.2 a.1 false 0 9 = b) (hd : fg t n b.2 b.1 true 0 15 = d) (he : fg t n d.2 d.1 true 1 16 = e) (hf : fg t n e.2 e.1 false 1 9 = f) : rdS t n s = (if f.1 = -1 then none else some (115, a.1, b.1, d.1, e.1, f.1), f.2) := by
  subst ha; subst hb; subst hd; subst he; subst hf; rfl
theorem c_readSession {s : Nat} {o : Int32} {c : Cal} {Q : Int32 → Wd → Prop} (hi9 : Inj A) (h : MG w0 A rf y (fun g => MRep g c) (nI s) o w) (hs : s ≤ yN y)
    (hq : ∀ w2, MG w0 A rf y (fun g => MRep g (afC (rdS (yT y) (yN y) s).1 c)) (nI (rdS (yT y) (yN y) s).2) (afO (rdS (yT y) (yN y) s).1 c o) w2 → Q (bI (rdS (yT y) (yN y) s).1.isSome) w2) : CX6_readSession G l [.ref (A 0), .ref (A 3)] w Q := by
  refine sX6_readSession (bX6_readSession_0 h.o (c_figures (two := false) hi9 h rfl hs (fun w1 h1 => ?_)) (fun _ _ h => h))
  have s1 := (fg_le (t := yT y) (ah := 0) (two := false) (lo := 0) (hi := 4) hs).1
  generalize ha9 : fg (yT y) (yN y) s 0 false 0 4 = a at h1 s1 ⊢
  refine bX6_readSession_8 h1.o (c_figures (two := false) hi9 h1 rfl s1 (fun w1 h2 => ?_)) (fun _ _ h => h)
  have s2 := (fg_le (t := yT y) (ah := a.1) (two := false) (lo := 0) (hi := 9) s1).1
  generalize hb9 : fg (yT y) (yN y) a.2 a.1 false 0 9 = b at h2 s2 ⊢
  refine bX6_readSession_18 h2.o (c_figures (two := true) hi9 h2 rfl s2 (fun w1 h3 => ?_)) (fun _ _ h => h)
  have s3 := (fg_le (t := yT y) (ah := b.1) (two := true) (lo := 0) (hi := 15) s2).1
  generalize hd9 : fg (yT y) (yN y) b.2 b.1 true 0 15 = d at h3 s3 ⊢
  refine bX6_readSession_28 h3.o (c_figures (two := true) hi9 h3 rfl s3 (fun w1 h4 => ?_)) (fun _ _ h => h)
  have s4 := (fg_le (t := yT y) (ah := d.1) (two := true) (lo := 1) (hi := 16) s3).1
  generalize he9 : fg (yT y) (yN y) d.2 d.1 true 1 16 = e at h4 s4 ⊢
  refine bX6_readSession_40 h4.o (c_figures (two := false) hi9 h4 rfl s4 (fun w1 h5 => ?_)) (fun _ _ h => h)
  generalize hf9 : fg (yT y) (yN y) e.2 e.1 false 1 9 = f at h5 ⊢
  rw [rdS_eq ha9 hb9 hd9 he9 hf9] at hq
  refine bX6_readSession_52 (fun q => ?_) (fun q => bX6_readSession_60 ?_)
  · rw [if_neg q] at hq
    change ∀ w2, MG w0 A rf y (fun g => MRep g (doC c (115, a.1, b.1, d.1, e.1, f.1)).1) (nI f.2) (o + if (doC c (115, a.1, b.1, d.1, e.1, f.1)).2 = true then 0 else 1) w2 → Q 1 w2 at hq
    obtain ⟨g, hg, hc⟩ := h5.t
    have e9 : doC c (115, a.1, b.1, d.1, e.1, f.1) = if isNw c a.1 b.1 d.1 e.1 f.1 = true then (insS c (a.1, b.1, d.1, e.1, f.1, -1), true) else (c, false) := rfl
    rw [e9] at hq
    refine bX6_readSession_62 (c_isNew hg hc ?_) (fun _ _ h => h)
    by_cases q2 : isNw c a.1 b.1 d.1 e.1 f.1 = true
    · rw [if_pos q2] at hq
      rw [q2]
      have hlt : (cSs c).length < 16 := by
        unfold isNw at q2
        simp only [Bool.and_eq_true, decide_eq_true_eq] at q2
        exact q2.2.2.2.1
      refine bX6_readSession_75 (fun z => absurd z (by decide)) (fun _ => ?_)
      refine bX6_readSession_78 (c_insert hg hc hlt (fun g2 hg2 => ?_)) (fun _ _ h => h)
      have h6 := h5.setT hi9 (T2 := fun g => MRep g (insS c (a.1, b.1, d.1, e.1, f.1, -1))) hg2
      have hp := insTo_le (cSs c) b.1 d.1 a.1 (cSs c).length
      refine bX6_readSession_91 (fun z => absurd z ?_) (fun _ => bX6_readSession_94 ?_)
      · rw [i32_lt, show insP (cSs c) (a.1, b.1, d.1, e.1, f.1, -1) = insTo (cSs c) b.1 d.1 a.1 (cSs c).length from rfl, nI_toInt (by omega), show (0 : Int32).toInt = 0 from rfl]
        omega
      · exact bX6_readSession_99 h6.o (c_done (b := true) hi9 h6 (fun w7 h7 => bX6_readSession_102 (hq w7 h7) rfl)) (fun _ _ h => h)
    · rw [if_neg q2] at hq
      rw [Bool.eq_false_iff.mpr q2]
      refine bX6_readSession_75 (fun _ => bX6_readSession_98 ?_) (fun z => absurd rfl z)
      exact bX6_readSession_99 h5.o (c_done (b := false) hi9 h5 (fun w7 h7 => bX6_readSession_102 (hq w7 h7) rfl)) (fun _ _ h => h)
  · rw [if_pos q] at hq
    exact hq w1 h5
end TX
