/-! THE TEXT: reading it all; copies of the state -/
def rdTo (t : Nat → Int32) (n : Nat) : Nat → Nat → Cal → Int32 → Int32 × Cal × Int32
  | 0, _, c, o => (-1, c, o)
  | f + 1, s, c, o => if s < n then (match (rdC t n s).1 with | none => (nI (rdC t n s).2, c, o) | some m => rdTo t n f (rdC t n s).2 (doC c m).1 (o + if (doC c m).2 = true then 0 else 1)) else (-1, c, o)
def txt (y : Sy) : Int32 × Cal × Int32 := if yN y = 0 ∨ ¬ yT y 0 = 74 then (0, calN, 0) else rdTo (yT y) (yN y) (yN y) 1 calN 0
theorem rd1_some {t : Nat → Int32} {n s : Nat} {w : Int32} {two : Bool} {hi : Int32} {m : Cm} (hs : s ≤ n) (h : (rd1 t n s w two hi).1 = some m) : s ≤ (rd1 t n s w two hi).2 ∧ (rd1 t n s w two hi).2 ≤ n ∧ m.1 = w ∧ (1 ≤ m.2.1 ∧ m.2.1 ≤ hi) := by
  have h1 := fg_le (t := t) (n := n) (s := s) (ah := 0) (two := two) (lo := 1) (hi := hi) hs
  have h2 := fg_rng (t := t) (n := n) (s := s) (ah := 0) (two := two) (lo := 1) (hi := hi)
  have e : rd1 t n s w two hi = (if (fg t n s 0 two 1 hi).1 = -1 then none else some (w, (fg t n s 0 two 1 hi).1, 0, 0, 0, 0), (fg t n s 0 two 1 hi).2) := rfl
  rw [e] at h ⊢
  generalize fg t n s 0 two 1 hi = a at h h1 h2 ⊢
  by_cases q : a.1 = -1
  · rw [if_pos q] at h; cases h
  · rw [if_neg q] at h
    cases h
    exact ⟨h1.2, h1.1, rfl, h2.resolve_left q⟩
theorem rdG_some {t : Nat → Int32} {n s : Nat} {m : Cm} (hs : s ≤ n) (h : (rdG t n s).1 = some m) : s ≤ (rdG t n s).2 ∧ (rdG t n s).2 ≤ n ∧ m.1 = 103 := by
  have h1 := fg_le (t := t) (n := n) (s := s) (ah := 0) (two := true) (lo := 0) (hi := 15) hs
  have e : rdG t n s = (if (fg t n (fg t n s 0 true 0 15).2 (fg t n s 0 true 0 15).1 false 0 5).1 = -1 then none else some (103, (fg t n s 0 true 0 15).1, (fg t n (fg t n s 0 true 0 15).2 (fg t n s 0 true 0 15).1 false 0 5).1, 0, 0, 0), (fg t n (fg t n s 0 true 0 15).2 (fg t n s 0 true 0 15).1 false 0 5).2) := rfl
  rw [e] at h ⊢
  generalize fg t n s 0 true 0 15 = a at h h1 ⊢
  have h2 := fg_le (t := t) (n := n) (s := a.2) (ah := a.1) (two := false) (lo := 0) (hi := 5) h1.1
  generalize fg t n a.2 a.1 false 0 5 = b at h h2 ⊢
  by_cases q : b.1 = -1
  · rw [if_pos q] at h; cases h
  · rw [if_neg q] at h
    cases h
    exact ⟨Nat.le_trans h1.2 h2.2, h2.1, rfl⟩
theorem rdS_some {t : Nat → Int32} {n s : Nat} {m : Cm} (hs : s ≤ n) (h : (rdS t n s).1 = some m) : s ≤ (rdS t n s).2 ∧ (rdS t n s).2 ≤ n ∧ m.1 = 115 := by
  have h1 := fg_le (t := t) (n := n) (s := s) (ah := 0) (two := false) (lo := 0) (hi := 4) hs
  generalize ha : fg t n s 0 false 0 4 = a at h1
  have h2 := fg_le (t := t) (n := n) (s := a.2) (ah := a.1) (two := false) (lo := 0) (hi := 9) h1.1
  generalize hb : fg t n a.2 a.1 false 0 9 = b at h2
  have h3 := fg_le (t := t) (n := n) (s := b.2) (ah := b.1) (two := true) (lo := 0) (hi := 15) h2.1
  generalize hd : fg t n b.2 b.1 true 0 15 = d at h3
  have h4 := fg_le (t := t) (n := n) (s := d.2) (ah := d.1) (two := true) (lo := 1) (hi := 16) h3.1
  generalize he : fg t n d.2 d.1 true 1 16 = e at h4
  have h5 := fg_le (t := t) (n := n) (s := e.2) (ah := e.1) (two := false) (lo := 1) (hi := 9) h4.1
  generalize hf : fg t n e.2 e.1 false 1 9 = f at h5
  rw [rdS_eq ha hb hd he hf] at h ⊢
  by_cases q : f.1 = -1
  · rw [if_pos q] at h; cases h
  · rw [if_neg q] at h
    cases h
    exact ⟨by show s ≤ f.2; omega, h5.1, rfl⟩
/-- a command that was read: the reader is behind it; the days of 'd' are few -/
theorem rdC_some {t : Nat → Int32} {n s : Nat} {m : Cm} (hs : s < n) (h : (rdC t n s).1 = some m) : s + 1 ≤ (rdC t n s).2 ∧ (rdC t n s).2 ≤ n ∧ (m.1 = 110 ∨ m.1 = 115 ∨ m.1 = 103 ∨ m.1 = 97 ∨ (m.1 = 100 ∧ 1 ≤ m.2.1 ∧ m.2.1 ≤ 9)) := by
  unfold rdC at h ⊢
  by_cases q1 : t s = 110
  · rw [if_pos q1] at h ⊢
    have := rd1_some (by omega) h
    exact ⟨this.1, this.2.1, Or.inl this.2.2.1⟩
  rw [if_neg q1] at h ⊢
  by_cases q2 : t s = 115
  · rw [if_pos q2] at h ⊢
    have := rdS_some (by omega) h
    exact ⟨this.1, this.2.1, Or.inr (Or.inl this.2.2)⟩
  rw [if_neg q2] at h ⊢
  by_cases q3 : t s = 103
  · rw [if_pos q3] at h ⊢
    have := rdG_some (by omega) h
    exact ⟨this.1, this.2.1, Or.inr (Or.inr (Or.inl this.2.2))⟩
  rw [if_neg q3] at h ⊢
  by_cases q4 : t s = 97
  · rw [if_pos q4] at h ⊢
    cases h
    exact ⟨Nat.le_refl _, hs, Or.inr (Or.inr (Or.inr (Or.inl rfl)))⟩
  rw [if_neg q4] at h ⊢
  by_cases q5 : t s = 100
  · rw [if_pos q5] at h ⊢
    have := rd1_some (by omega) h
    exact ⟨this.1, this.2.1, Or.inr (Or.inr (Or.inr (Or.inr ⟨this.2.2.1, this.2.2.2⟩)))⟩
  rw [if_neg q5] at h
  cases h
theorem doC_inv {T9 : Nat} {c : Cal} (h : Inv T9 c) {m : Cm} (hm : m.1 = 110 ∨ m.1 = 115 ∨ m.1 = 103 ∨ m.1 = 97 ∨ (m.1 = 100 ∧ 1 ≤ m.2.1 ∧ m.2.1 ≤ 9)) (hT : T9 + 9 < 2 ^ 31) : Inv (T9 + 9) (doC c m).1 := by
  have hmo : ∀ {c2 : Cal}, Inv T9 c2 → Inv (T9 + 9) c2 := fun q => q.mono (by omega)
  unfold doC
  split
  · split
    · exact hmo (h.hire _ (by assumption))
    · exact hmo h
  · split
    · split
      · exact hmo (h.add (by assumption))
      · exact hmo h
    · split
      · split
        · rename_i q
          obtain ⟨q1, q2, q3⟩ := gvOk_of q
          have hb := h.b0
          obtain ⟨p1, p2⟩ := inN_k q2 (by omega)
          exact hmo (h.hold _ (Or.inr ⟨_, p1, p2⟩))
        · exact hmo h
      · split
        · exact hmo (h.gv _)
        · rename_i n1 n2 n3 n4
          obtain ⟨-, h1, h2⟩ := (((hm.resolve_left n1).resolve_left n2).resolve_left n3).resolve_left n4
          obtain ⟨r1, r2⟩ := rng_nat ⟨h1, h2⟩ (by decide)
          rw [i32_le, show (9 : Int32).toInt = 9 from rfl] at h2
          exact (h.run m.2.1.toNatClampNeg (by omega)).mono (by omega)
theorem rdTo_inv (t : Nat → Int32) (n : Nat) : ∀ (f s : Nat) (c : Cal) (o : Int32) (T9 : Nat), Inv T9 c → T9 + 9 * f < 2 ^ 31 → Inv (T9 + 9 * f) (rdTo t n f s c o).2.1
  | 0, s, c, o, T9, h, _ => h
  | f + 1, s, c, o, T9, h, hT => by
    unfold rdTo
    split
    · rename_i hs
      split
      · exact h.mono (by omega)
      · rename_i m hm
        have h2 := doC_inv h (rdC_some hs hm).2.2 (by omega)
        have := rdTo_inv t n f (rdC t n s).2 (doC c m).1 (o + if (doC c m).2 = true then 0 else 1) (T9 + 9) h2 (by omega)
        exact this.mono (by omega)
    · exact h.mono (by omega)
theorem txt_inv {y : Sy} (hn : yN y ≤ 120) : Inv 1080 (txt y).2.1 := by
  unfold txt
  split
  · exact Inv.new.mono (by omega)
  · exact (rdTo_inv (yT y) (yN y) (yN y) 1 calN 0 0 Inv.new (by omega)).mono (by omega)
theorem rdS_le {t : Nat → Int32} {n s : Nat} (hs : s ≤ n) : (rdS t n s).2 ≤ n := by
  have h1 := (fg_le (t := t) (n := n) (s := s) (ah := 0) (two := false) (lo := 0) (hi := 4) hs).1
  generalize ha : fg t n s 0 false 0 4 = a at h1
  have h2 := (fg_le (t := t) (n := n) (s := a.2) (ah := a.1) (two := false) (lo := 0) (hi := 9) h1).1
  generalize hb : fg t n a.2 a.1 false 0 9 = b at h2
  have h3 := (fg_le (t := t) (n := n) (s := b.2) (ah := b.1) (two := true) (lo := 0) (hi := 15) h2).1
  generalize hd : fg t n b.2 b.1 true 0 15 = d at h3
  have h4 := (fg_le (t := t) (n := n) (s := d.2) (ah := d.1) (two := true) (lo := 1) (hi := 16) h3).1
  generalize he : fg t n d.2 d.1 true 1 16 = e at h4
  have h5 := (fg_le (t := t) (n := n) (s := e.2) (ah := e.1) (two := false) (lo := 1) (hi := 9) h4).1
  generalize hf : fg t n e.2 e.1 false 1 9 = f at h5
  rw [rdS_eq ha hb hd he hf]
  exact h5
theorem rdG_le {t : Nat → Int32} {n s : Nat} (hs : s ≤ n) : (rdG t n s).2 ≤ n := by
  have h1 := (fg_le (t := t) (n := n) (s := s) (ah := 0) (two := true) (lo := 0) (hi := 15) hs).1
  exact (fg_le (t := t) (n := n) (s := (fg t n s 0 true 0 15).2) (ah := (fg t n s 0 true 0 15).1) (two := false) (lo := 0) (hi := 5) h1).1
theorem rd1_le {t : Nat → Int32} {n s : Nat} {w : Int32} {two : Bool} {hi : Int32} (hs : s ≤ n) : (rd1 t n s w two hi).2 ≤ n :=
  (fg_le (t := t) (n := n) (s := s) (ah := 0) (two := two) (lo := 1) (hi := hi) hs).1
theorem rdC_le {t : Nat → Int32} {n s : Nat} (hs : s < n) : (rdC t n s).2 ≤ n := by
  unfold rdC
  split
  · exact rd1_le hs
  · split
    · exact rdS_le hs
    · split
      · exact rdG_le hs
      · split
        · exact hs
        · split
          · exact rd1_le hs
          · exact Nat.le_of_lt hs
def zR (y : Sy) : Sy := (y.1, y.2.1, y.2.2.1, [], y.2.2.2.2)
def wS (y : Sy) (i : Nat) (o : Option Cal) : Sy := (y.1, y.2.1, y.2.2.1, y.2.2.2.1, fun j => if j = i then o else yS y j)
section TX3
variable {G : GG} {l : Launch} {w0 w : Wd} {A : Nat → Nat} {rf : Int32} {y : Sy} {T : (Nat → Int32) → Prop} {sp ou : Int32}
theorem MG.setR0 (hi : Inj A) (h : MG w0 A rf y T sp ou w) : MG w0 A rf (zR y) T sp ou (wset w (A 0) (.inl (5, mf A rf (nI (yN y)) 0 sp ou))) :=
  h.chg hi (y2 := zR y) (by decide) rfl (fun g q => ⟨g, rfl, q⟩) (fun g q => ⟨g, rfl, q⟩) (fun g q => ⟨g, rfl, q⟩) (fun g q => ⟨g, rfl, fun i hi => absurd hi (Nat.not_lt_zero _)⟩) (fun g q => ⟨g, rfl, q⟩) (fun g q => ⟨g, rfl, q⟩) (by decide) h.nb (Nat.zero_le _)
theorem MG.setB0 (hi : Inj A) (h : MG w0 A rf y T sp ou w) {g : Nat → Int32} (hb : ∀ i, i < 2 → g i = bI (yS y i).isSome) (k : Nat) : MG w0 A rf (wS y k none) T sp ou (wset w (A 6) (brow 2 (upd g k 0))) := by
  refine h.chg hi (y2 := wS y k none) (by decide) rfl (fun g q => ⟨g, rfl, q⟩) (fun g q => ⟨g, rfl, q⟩) (fun g q => ⟨g, rfl, q⟩) (fun g q => ⟨g, rfl, q⟩) (fun g9 q => ⟨g9, rfl, fun i hi c hc => ?_⟩) (fun _ _ => ⟨upd g k 0, rfl, fun i hi => ?_⟩) (by decide) h.nb h.rb
  · have hc : (if i = k then none else yS y i) = some c := hc
    by_cases e : i = k
    · rw [if_pos e] at hc; cases hc
    · rw [if_neg e] at hc; exact q i hi c hc
  · show upd g k 0 i = bI (if i = k then none else yS y i).isSome
    by_cases e : i = k
    · subst e; rw [upd_eq, if_pos rfl]; rfl
    · rw [upd_ne _ _ e, if_neg e, hb i hi]
theorem cp_nt {Q : Wd → Prop} (hi : Inj A) (h : MG w0 A rf y T sp ou w) (hq : ∀ w2, MG w0 A rf y (fun g => MRep g (yC y)) sp ou w2 → Q w2) : CX6_copyState G l [.ref (A 2), .int 0, .ref (A 3), .int 0] w Q := by
  obtain ⟨g, hg, hc⟩ := h.n
  obtain ⟨g2, hg2, -⟩ := h.t
  refine c_copyState (fa := 0) (ta := 0) (n := (cTs (yC y)).length) hg hg2 (Or.inl (hi.ne (by decide) (by decide) (by decide))) rfl rfl (by decide) (by decide) (by decide) (by decide) hc.n2 hc.b2 (hq _ ?_)
  exact h.setT hi (T2 := fun g => MRep g (yC y)) hc.at0.cpy.of0
theorem cp_tn {c : Cal} {Q : Wd → Prop} (hi : Inj A) (h : MG w0 A rf y (fun g => MRep g c) sp ou w) (hq : ∀ w2, MG w0 A rf (wC y c) (fun g => MRep g c) sp ou w2 → Q w2) : CX6_copyState G l [.ref (A 3), .int 0, .ref (A 2), .int 0] w Q := by
  obtain ⟨g, hg, -⟩ := h.n
  obtain ⟨g2, hg2, hc⟩ := h.t
  refine c_copyState (fa := 0) (ta := 0) (n := (cTs c).length) hg2 hg (Or.inl (hi.ne (by decide) (by decide) (by decide))) rfl rfl (by decide) (by decide) (by decide) (by decide) hc.n2 hc.b2 (hq _ ?_)
  exact h.setN hi hc.at0.cpy.of0
theorem c_readText {Q : Int32 → Wd → Prop} (hi9 : Inj A) (h : MG w0 A rf y T sp ou w) (hq : ∀ w2 sp2 ou2 c2, ((txt y).1 = -1 → c2 = (txt y).2.1 ∧ ou2 = (txt y).2.2) → MG w0 A rf y (fun g => MRep g c2) sp2 ou2 w2 → Q (txt y).1 w2) : CX6_readText G l [.ref (A 0), .ref (A 3)] w Q := by
  have hnb := h.nb
  obtain ⟨g, hg, -⟩ := h.t
  refine sX6_readText (bX6_readText_0 (c_begin hg (fun g2 hg2 => ?_)) (fun _ h => h))
  have h1 := h.setT hi9 (T2 := fun g => MRep g calN) hg2
  have h2 := (h1.setO hi9 rf sp 0).setO hi9 rf 0 0
  have bad : (txt y).1 = 0 → ∀ w2 sp2, MG w0 A rf y (fun g => MRep g calN) sp2 0 w2 → KX6_readText G l w (ZI G 0 0 w Q) w2 32 [] [] := fun e w2 sp2 hw => by
    refine bX6_readText_32 ?_
    have := hq w2 sp2 0 calN (fun q => absurd (e.symm.trans q) (by decide)) hw
    rw [e] at this
    exact this
  refine bX6_readText_4 h1.o (mf_l (by decide)) mf_14 (mf_l (by decide)) mf_13 rfl (fun z => bad ?_ _ _ h2) (fun z => ?_)
  · unfold txt; rw [if_pos (Or.inl (by rw [i32_eq, nI_toInt (by omega), show (0 : Int32).toInt = 0 from rfl] at z; omega))]
  have hn0 : ¬ yN y = 0 := fun e => z (by rw [e]; rfl)
  obtain ⟨gx, hx, hxe⟩ := h2.x
  have e0 : gx ((0 : Int32).toNatClampNeg) = yT y 0 := hxe 0 (by omega)
  refine bX6_readText_21 h2.o rfl hx (vlit rfl) (fun z1 => ?_) (fun z1 => bad ?_ _ _ h2)
  · rw [e0] at z1
    have e9 : txt y = rdTo (yT y) (yN y) (yN y) 1 calN 0 := by unfold txt; rw [if_neg (fun q => q.elim hn0 (fun q => q z1))]
    rw [e9] at hq
    refine bX6_readText_34 h2.o (mf_l (by decide)) mf_13 ?_
    have h3 := h2.setO hi9 rf 1 0
    have key : ∀ (f s : Nat) (c : Cal) (o : Int32) (T9 : Nat) (w3 : Wd), s ≤ yN y → yN y ≤ f + s → Inv T9 c → T9 + 9 * f ≤ 1080 → MG w0 A rf y (fun g => MRep g c) (nI s) o w3 → rdTo (yT y) (yN y) f s c o = rdTo (yT y) (yN y) (yN y) 1 calN 0 →
        KX6_readText G l w (ZI G 0 0 w Q) w3 39 [(0, .ref (A 0)), (1, .ref (A 3))] [] := by
      intro f
      induction f with
      | zero =>
        intro s c o T9 w3 hs hf _ _ hw e
        refine bX6_readText_39 hw.o rfl rfl (fun _ => bX6_readText_63 ?_) (fun q => absurd (nI_le (by omega) (by omega)) q)
        have e1 : rdTo (yT y) (yN y) 0 s c o = (-1, c, o) := rfl
        rw [← e, e1] at hq
        exact hq w3 (nI s) o c (fun _ => ⟨rfl, rfl⟩) hw
      | succ f ih =>
        intro s c o T9 w3 hs hf hI hT hw e
        have e1 : rdTo (yT y) (yN y) (f + 1) s c o = if s < yN y then (match (rdC (yT y) (yN y) s).1 with | none => (nI (rdC (yT y) (yN y) s).2, c, o) | some m => rdTo (yT y) (yN y) f (rdC (yT y) (yN y) s).2 (doC c m).1 (o + if (doC c m).2 = true then 0 else 1)) else (-1, c, o) := rfl
        by_cases hsn : s < yN y
        · rw [if_pos hsn] at e1
          refine bX6_readText_39 hw.o rfl rfl (fun q => absurd q (nI_ge hsn (by omega))) (fun _ => ?_)
          refine bX6_readText_50 hw.o (c_readCommand hi9 hI (by omega) hw hsn (fun w4 h4 => ?_)) (fun _ _ h => h)
          cases hr : (rdC (yT y) (yN y) s).1 with
          | none =>
            rw [hr] at h4 e1
            refine bX6_readText_55 (fun q => absurd rfl q) (fun _ => bX6_readText_58 h4.o rfl ?_)
            rw [← e, e1] at hq
            have hne : ¬ nI (rdC (yT y) (yN y) s).2 = -1 := by
              have : (rdC (yT y) (yN y) s).2 ≤ yN y := rdC_le hsn
              exact nI_m1 (by omega)
            exact hq w4 _ _ c (fun q => absurd q hne) h4
          | some m =>
            rw [hr] at h4 e1
            obtain ⟨p1, p2, p3⟩ := rdC_some hsn hr
            refine bX6_readText_55 (fun _ => ?_) (fun q => absurd q (show ¬ (1 : Int32) = 0 by decide))
            exact ih _ _ _ (T9 + 9) w4 p2 (by omega) (doC_inv hI p3 (by omega)) (by omega) h4 (e1.symm.trans e)
        · rw [if_neg hsn] at e1
          refine bX6_readText_39 hw.o rfl rfl (fun _ => bX6_readText_63 ?_) (fun q => absurd (nI_le (by omega) (by omega)) q)
          rw [← e, e1] at hq
          exact hq w3 (nI s) o c (fun _ => ⟨rfl, rfl⟩) hw
    exact key (yN y) 1 calN 0 0 _ (by omega) (by omega) Inv.new (by omega) h3 rfl
  · rw [e0] at z1
    unfold txt; rw [if_pos (Or.inr z1)]
theorem c_errorPosition {Q : Int32 → Wd → Prop} (hi9 : Inj A) (h : MG w0 A rf y T sp ou w) (hq : ∀ w2 sp2 ou2, MG w0 A 0 y (fun _ => True) sp2 ou2 w2 → Q (txt y).1 w2) : CX6_errorPosition G l [.ref (A 0)] w Q := by
  have h1 := h.setO hi9 0 sp ou
  exact sX6_errorPosition (bX6_errorPosition_0 h.o (mf_l (by decide)) mf_0 rfl (c_readText hi9 h1 (fun w2 sp2 ou2 c2 _ h2 => hq w2 sp2 ou2 h2.any)) (fun r w2 hr => bX6_errorPosition_13 hr))
def oLoad (y : Sy) : Int32 × Int32 × Sy := if (txt y).1 = -1 then (0, (txt y).2.2, (y.1, y.2.1, (txt y).2.1, [], fun _ => none)) else (1, 0, y)
theorem MG.ys {y2 : Sy} (h : MG w0 A rf y T sp ou w) (e : y.1 = y2.1 ∧ yN y = yN y2 ∧ yC y = yC y2 ∧ yR y = yR y2 ∧ ∀ i, i < 2 → yS y i = yS y2 i) : MG w0 A rf y2 T sp ou w := by
  obtain ⟨e1, e2, e3, e4, e5⟩ := e
  obtain ⟨f, h0, ⟨g1, a1, h1⟩, ⟨g2, a2, h2⟩, h3, ⟨g4, a4, h4⟩, ⟨g5, a5, h5⟩, ⟨g6, a6, h6⟩, hr1, hr2, hr3, hr4, hnb, hrb⟩ := h
  refine ⟨f, by rw [← e2, ← e4]; exact h0, ⟨g1, a1, ?_⟩, ⟨g2, a2, e3 ▸ h2⟩, h3, ⟨g4, a4, e4 ▸ h4⟩, ⟨g5, a5, fun i hi c hc => h5 i hi c ((e5 i hi).trans hc)⟩, ⟨g6, a6, fun i hi => (h6 i hi).trans (by rw [e5 i hi])⟩, hr1, hr2, hr3, hr4, by rw [← e2]; exact hnb, by rw [← e4]; exact hrb⟩
  rw [← e2]
  show ∀ i, _ → _ = y2.1 i
  rw [← e1]; exact h1
theorem c_load {Q : Int32 → Wd → Prop} (hi9 : Inj A) (h : MG w0 A rf y T sp ou w) (hq : ∀ w2 sp2 ou2, MG w0 A (oLoad y).1 (oLoad y).2.2 (fun _ => True) sp2 ou2 w2 → Q (oLoad y).2.1 w2) : CX6_load G l [.ref (A 0)] w Q := by
  refine sX6_load (bX6_load_0 h.o rfl (c_readText hi9 h (fun w2 sp2 ou2 c2 he h2 => ?_)) (fun _ _ h => h))
  unfold oLoad at hq
  refine bX6_load_9 (fun q => bX6_load_17 ?_) (fun q => bX6_load_13 ?_)
  · rw [if_neg q] at hq
    refine bX6_load_18 h2.o (c_refused hi9 h2 (fun w3 h3 => ?_)) (fun _ _ h => h)
    exact bX6_load_21 (fun z => absurd z (by decide)) (fun _ => bX6_load_24 (hq w3 sp2 ou2 h3.any))
  · rw [if_pos q] at hq
    obtain ⟨hc2, ho2⟩ := he q
    subst hc2; subst ho2
    refine bX6_load_18 h2.o (c_refused hi9 h2 (fun w3 h3 => ?_)) (fun _ _ h => h)
    refine bX6_load_21 (fun _ => ?_) (fun z => absurd rfl z)
    refine bX6_load_26 h3.o rfl rfl (cp_tn hi9 h3 (fun w4 h4 => ?_)) (fun _ h => h)
    have h5 := h4.setR0 hi9
    obtain ⟨g6, e6, b6⟩ := h5.b
    have h6 := h5.setB0 hi9 b6 0
    obtain ⟨g7, e7, b7⟩ := h6.b
    have h7 := h6.setB0 hi9 b7 1
    refine bX6_load_39 h4.o (mf_l (by decide)) mf_6 rfl e6 (vlit rfl) h6.o rfl e7 (vlit rfl) h7.o rfl (hq _ sp2 (txt y).2.2 ?_)
    refine h7.any.ys ⟨rfl, rfl, rfl, rfl, fun i hi => ?_⟩
    show (if i = 1 then none else if i = 0 then none else yS y i) = none
    by_cases q1 : i = 1
    · rw [if_pos q1]
    · rw [if_neg q1, if_pos (by omega)]
end TX3
