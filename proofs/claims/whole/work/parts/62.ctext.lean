/-! THE CLASS'S TEXT -/
abbrev txF (E : Nat → Nat) (n : Nat) (at9 err lt : Int32) : List Value := [.ref (E 1), .int (nI n), .int at9, .int err, .int lt, .ref (E 2)]
theorem tx_l {E : Nat → Nat} {n i : Nat} {a b d : Int32} (h : i < 6) : i < (txF E n a b d).length := h
def TxW (fr : Wd) (E : Nat → Nat) (t : Nat → Int32) (n : Nat) (at9 err lt : Int32) (nu : Nat → Int32) (w : Wd) : Prop :=
  (∀ q e, fr q = some e → w q = some e) ∧ (∀ i, i < 3 → fr (E i) = none) ∧ (E 0 ≠ E 1 ∧ E 0 ≠ E 2 ∧ E 1 ≠ E 2) ∧ w (E 0) = some (.inl (3, txF E n at9 err lt)) ∧ (∃ g, w (E 1) = some (irow 120 g) ∧ ∀ i, i < n → g i = t i) ∧ w (E 2) = some (irow 5 nu) ∧ n ≤ 120
section TX
variable {fr w : Wd} {E : Nat → Nat} {t : Nat → Int32} {n : Nat} {at9 err lt : Int32} {nu : Nat → Int32}
theorem TxW.o (h : TxW fr E t n at9 err lt nu w) : w (E 0) = some (.inl (3, txF E n at9 err lt)) := h.2.2.2.1
theorem TxW.x (h : TxW fr E t n at9 err lt nu w) : ∃ g, w (E 1) = some (irow 120 g) ∧ ∀ i, i < n → g i = t i := h.2.2.2.2.1
theorem TxW.u (h : TxW fr E t n at9 err lt nu w) : w (E 2) = some (irow 5 nu) := h.2.2.2.2.2.1
theorem TxW.b (h : TxW fr E t n at9 err lt nu w) : n ≤ 120 := h.2.2.2.2.2.2
theorem TxW.setO (h : TxW fr E t n at9 err lt nu w) (a b d : Int32) : TxW fr E t n a b d nu (wset w (E 0) (.inl (3, txF E n a b d))) := by
  obtain ⟨f, m, ⟨n1, n2, n3⟩, e0, ⟨g, e1, c1⟩, e2, b9⟩ := h
  exact ⟨fun q e hq => wn (fr_ne hq (m 0 (by decide))) (f q e hq), m, ⟨n1, n2, n3⟩, wset_eq _ _ _, ⟨g, wn n1.symm e1, c1⟩, wn n2.symm e2, b9⟩
theorem TxW.setU (h : TxW fr E t n at9 err lt nu w) (nu2 : Nat → Int32) : TxW fr E t n at9 err lt nu2 (wset w (E 2) (irow 5 nu2)) := by
  obtain ⟨f, m, ⟨n1, n2, n3⟩, e0, ⟨g, e1, c1⟩, e2, b9⟩ := h
  exact ⟨fun q e hq => wn (fr_ne hq (m 2 (by decide))) (f q e hq), m, ⟨n1, n2, n3⟩, wn n2 e0, ⟨g, wn n3 e1, c1⟩, wset_eq _ _ _, b9⟩
end TX
theorem dg_of {t : Nat → Int32} {n s : Nat} : (s < n → dg t n s = t s - 48) ∧ (¬ s < n → dg t n s = -1) := ⟨fun h => if_pos h, fun h => if_neg h⟩
/-- the class's look at a number's beginning -/
def stq (t : Nat → Int32) (n s : Nat) (v u lo hi : Int32) : Bool := rngI (dg t n s) 0 9 && (!decide (hi < v * u) && decide (lo ≤ v * u + u - 1))
section TR
variable {G : GG} {l : Launch} {fr w : Wd} {E : Nat → Nat} {t : Nat → Int32} {n : Nat}
theorem c_readNumber {i s : Nat} {x1 x2 lo hi err lt : Int32} {nu : Nat → Int32} {two : Bool} {Q : Int32 → Wd → Prop} (h : TxW fr E t n (nI s) err lt nu w) (hs : s ≤ n) (h1 : x1 = nI i) (hi5 : i < 5) (h2 : x2 = if two = true then 2 else 1) (hlo : 0 ≤ lo.toInt)
    (hq0 : (fg t n s 0 two lo hi).1 = -1 → ∀ w2, TxW fr E t n (nI (fg t n s 0 two lo hi).2) (nI (fg t n s 0 two lo hi).2) lt nu w2 → Q 0 w2)
    (hq1 : ¬ (fg t n s 0 two lo hi).1 = -1 → ∀ w2, TxW fr E t n (nI (fg t n s 0 two lo hi).2) err lt (upd nu i (fg t n s 0 two lo hi).1) w2 → Q 1 w2) : CX4_readNumber G l [.ref (E 0), .int x1, .int x2, .int lo, .int hi] w Q := by
  subst h1
  have hb := h.b
  refine sX4_readNumber (bX4_readNumber_0 ?_)
  have fail : ∀ (s : Nat) (w1 : Wd), TxW fr E t n (nI s) err lt nu w1 → (∀ w2, TxW fr E t n (nI s) (nI s) lt nu w2 → Q 0 w2) → KX4_readNumber G l w (ZI G 0 0 w Q) w1 102 [(0, .ref (E 0))] [] := fun s w1 hw hq => bX4_readNumber_102 hw.o rfl (tx_l (by decide)) (f3 := txF E n (nI s) (nI s) lt) rfl (hq _ (hw.setO (nI s) (nI s) lt))
  have step : ∀ (v : Int32) (j : Nat) (u : Int32) (s : Nat) (w1 : Wd), s ≤ n → j < 3 → u = (if x2 ≤ nI j then 1 else 10) → TxW fr E t n (nI s) err lt nu w1 → ¬ x2 < nI j →
      (stq t n s (10 * v + dg t n s) u lo hi = false → ∀ w2, TxW fr E t n (nI s) (nI s) lt nu w2 → Q 0 w2) →
      (stq t n s (10 * v + dg t n s) u lo hi = true → s < n → ∀ w2, TxW fr E t n (nI (s + 1)) err lt nu w2 → KX4_readNumber G l w (ZI G 0 0 w Q) w2 6 [(0, .ref (E 0)), (1, .int (nI i)), (2, .int x2), (3, .int lo), (4, .int hi), (5, .int (10 * v + dg t n s)), (6, .int (nI (j + 1)))] []) →
      KX4_readNumber G l w (ZI G 0 0 w Q) w1 6 [(0, .ref (E 0)), (1, .int (nI i)), (2, .int x2), (3, .int lo), (4, .int hi), (5, .int v), (6, .int (nI j))] [] := by
    intro v j u s w1 hs hj hu hw hx2 hf hok
    have hb := hw.b
    -- behind the digit
    have body : KX4_readNumber G l w (ZI G 0 0 w Q) w1 39 [(0, .ref (E 0)), (1, .int (nI i)), (2, .int x2), (3, .int lo), (4, .int hi), (5, .int v), (6, .int (nI j))] [.int (dg t n s)] := by
      have rest : KX4_readNumber G l w (ZI G 0 0 w Q) w1 63 [(0, .ref (E 0)), (1, .int (nI i)), (2, .int x2), (3, .int lo), (4, .int hi), (5, .int (10 * v + dg t n s)), (6, .int (nI j)), (7, .int (dg t n s))] [.int u] := by
        have no : stq t n s (10 * v + dg t n s) u lo hi = false → KX4_readNumber G l w (ZI G 0 0 w Q) w1 102 [(0, .ref (E 0))] [] := fun z => fail s w1 hw (hf z)
        refine bX4_readNumber_63 (fun z => no ?_) (fun z1 => bX4_readNumber_77 (fun z => no ?_) (fun z2 => bX4_readNumber_84 (fun z => no ?_) (fun z3 => bX4_readNumber_91 (fun z4 => ?_) (fun z => no ?_))))
        · unfold stq; rw [rng_lo (a := 0) rfl z]; rfl
        · unfold stq; rw [rng_hi (b := 9) rfl z]; rfl
        · unfold stq; rw [decide_eq_true z]; simp
        · have hr : rngI (dg t n s) 0 9 = true := rng_ok (a := 0) (b := 9) rfl rfl z1 (nlt_le z2)
          have hsn : s < n := by
            by_cases q : s < n
            · exact q
            · rw [dg_of.2 q] at z1
              exact absurd (by decide) z1
          have hk := hw.setO (nI (s + 1)) err lt
          refine bX4_readNumber_112 hw.o rfl (tx_l (by decide)) (f3 := txF E n (nI (s + 1)) err lt) (by rw [← nI_1]; rfl) ?_
          rw [nI_1]
          refine hok ?_ hsn _ hk
          unfold stq
          rw [hr, decide_eq_false z3, decide_eq_true z4]; rfl
        · unfold stq; rw [decide_eq_false z]; simp
      refine bX4_readNumber_39 (fun z => bX4_readNumber_62 ?_) (fun z => bX4_readNumber_57 ?_)
      · rw [if_pos z] at hu; subst hu; exact rest
      · rw [if_neg z] at hu; subst hu; exact rest
    refine bX4_readNumber_6 (fun z => absurd z hx2) (fun _ => ?_)
    by_cases q : s < n
    · obtain ⟨g, eg, hg⟩ := hw.x
      refine bX4_readNumber_12 hw.o rfl rfl (fun z => absurd z (nI_ge q (by omega))) (fun _ => ?_)
      refine bX4_readNumber_23 hw.o rfl rfl eg (ix_of rfl (by omega) (by decide)) ?_
      rw [nI_clamp (by omega), hg s q, ← dg_of.1 q]
      exact body
    · refine bX4_readNumber_12 hw.o rfl rfl (fun _ => bX4_readNumber_38 ?_) (fun z => absurd (nI_le (by omega) (by omega)) z)
      rw [← dg_of.2 q]
      exact body
  -- the end
  have fin : ∀ (v : Int32) (j : Nat) (w1 : Wd) (s : Nat), x2 < nI j → TxW fr E t n (nI s) err lt nu w1 → (∀ w2, TxW fr E t n (nI s) err lt (upd nu i v) w2 → Q 1 w2) → KX4_readNumber G l w (ZI G 0 0 w Q) w1 6 [(0, .ref (E 0)), (1, .int (nI i)), (2, .int x2), (3, .int lo), (4, .int hi), (5, .int v), (6, .int (nI j))] [] := by
    intro v j w1 s hx hw hq
    refine bX4_readNumber_6 (fun _ => bX4_readNumber_128 hw.o rfl hw.u (ix_of rfl hi5 (by decide)) ?_) (fun z => absurd hx z)
    rw [nI_clamp (by omega)]
    exact hq _ (hw.setU _)
  have m1 : (10 : Int32) * 0 = 0 := by decide
  have ne1 : ∀ v : Int32, lo ≤ v → ¬ v = -1 := fun v hv z => by
    rw [z, i32_le, show (-1 : Int32).toInt = -1 from by decide] at hv
    omega
  cases two with
  | false =>
    have h2 : x2 = 1 := h2
    subst h2
    have eq1 : ∀ s, stq t n s (10 * 0 + dg t n s) 1 lo hi = stp t n s 0 1 lo hi := fun s => by
      unfold stq stp
      rw [m1, Int32.zero_add, Int32.zero_add]
    unfold fg at hq0 hq1
    rw [if_neg (by decide), if_neg (by decide)] at hq0 hq1
    refine step 0 1 1 s w hs (by decide) (by rw [if_pos (by decide)]) h (by decide) (fun z => ?_) (fun z hsn w2 hw2 => ?_)
    · rw [eq1] at z
      rw [z] at hq0
      exact hq0 rfl
    · rw [eq1] at z
      rw [z, if_pos rfl] at hq1
      refine fin _ 2 w2 (s + 1) (by decide) hw2 ?_
      rw [m1, Int32.zero_add]
      have e : (0 : Int32) + dg t n s * 1 = dg t n s := by rw [Int32.mul_one, Int32.zero_add]
      rw [e] at hq1
      refine hq1 (ne1 _ ?_)
      unfold stp at z
      simp only [Bool.and_eq_true, decide_eq_true_eq] at z
      have := z.2.2
      rw [e, Int32.add_sub_cancel] at this
      exact this
  | true =>
    have h2 : x2 = 2 := h2
    subst h2
    have eqA : ∀ s, stq t n s (10 * 0 + dg t n s) 10 lo hi = stp t n s 0 10 lo hi := fun s => by
      unfold stq stp
      rw [m1, Int32.zero_add, Int32.zero_add]
    have eV : ∀ s, (10 : Int32) * (10 * 0 + dg t n s) + dg t n (s + 1) = 0 + dg t n s * 10 + dg t n (s + 1) * 1 := fun s => by
      rw [m1, Int32.zero_add, Int32.zero_add, Int32.mul_one, Int32.mul_comm]
    have eqB : ∀ s, stq t n (s + 1) (10 * (10 * 0 + dg t n s) + dg t n (s + 1)) 1 lo hi = stp t n (s + 1) (0 + dg t n s * 10) 1 lo hi := fun s => by
      unfold stq stp
      rw [eV, Int32.mul_one]
    unfold fg at hq0 hq1
    rw [if_neg (by decide), if_pos rfl] at hq0 hq1
    refine step 0 1 10 s w hs (by decide) (by rw [if_neg (by decide)]) h (by decide) (fun z => ?_) (fun z hsn w2 hw2 => ?_)
    · rw [eqA] at z
      rw [z] at hq0
      exact hq0 rfl
    · rw [eqA] at z
      rw [z, if_pos rfl] at hq0 hq1
      refine step _ 2 1 (s + 1) w2 hsn (by decide) (by rw [if_pos (by decide)]) hw2 (by decide) (fun z2 => ?_) (fun z2 hsn2 w3 hw3 => ?_)
      · rw [eqB] at z2
        rw [z2] at hq0
        exact hq0 rfl
      · rw [eqB] at z2
        rw [z2, if_pos rfl] at hq1
        refine fin _ 3 w3 (s + 2) (by decide) hw3 ?_
        rw [eV]
        refine hq1 (ne1 _ ?_)
        unfold stp at z2
        simp only [Bool.and_eq_true, decide_eq_true_eq] at z2
        have := z2.2.2
        rw [Int32.add_sub_cancel] at this
        exact this
/-- what the text remembers of a command -/
def nmOk (m : Cm) (lt : Int32) (nu : Nat → Int32) : Prop := lt = m.1 ∧ (m.1 = 110 ∨ m.1 = 100 → nu 0 = m.2.1) ∧ (m.1 = 103 → nu 0 = m.2.1 ∧ nu 1 = m.2.2.1) ∧ (m.1 = 115 → nu 0 = m.2.1 ∧ nu 1 = m.2.2.1 ∧ nu 2 = m.2.2.2.1 ∧ nu 3 = m.2.2.2.2.1 ∧ nu 4 = m.2.2.2.2.2)
theorem fg_m1 {t : Nat → Int32} {n s : Nat} {two : Bool} {lo hi : Int32} : fg t n s (-1) two lo hi = (-1, s) := if_pos rfl
theorem fg_a {t : Nat → Int32} {n s : Nat} {a : Int32} {two : Bool} {lo hi : Int32} (h : ¬ a = -1) : fg t n s a two lo hi = fg t n s 0 two lo hi := by
  have h0 : ¬ (0 : Int32) = -1 := by decide
  unfold fg
  rw [if_neg h, if_neg h0]
theorem rd1_n {s : Nat} {w hi : Int32} {two : Bool} (h : (fg t n s 0 two 1 hi).1 = -1) : rd1 t n s w two hi = (none, (fg t n s 0 two 1 hi).2) := by
  show (if (fg t n s 0 two 1 hi).1 = -1 then none else some (w, (fg t n s 0 two 1 hi).1, 0, 0, 0, 0), (fg t n s 0 two 1 hi).2) = _
  rw [if_pos h]
theorem rd1_s {s : Nat} {w hi : Int32} {two : Bool} (h : ¬ (fg t n s 0 two 1 hi).1 = -1) : rd1 t n s w two hi = (some (w, (fg t n s 0 two 1 hi).1, 0, 0, 0, 0), (fg t n s 0 two 1 hi).2) := by
  show (if (fg t n s 0 two 1 hi).1 = -1 then none else some (w, (fg t n s 0 two 1 hi).1, 0, 0, 0, 0), (fg t n s 0 two 1 hi).2) = _
  rw [if_neg h]
theorem rdG_1 {s : Nat} (h : (fg t n s 0 true 0 15).1 = -1) : rdG t n s = (none, (fg t n s 0 true 0 15).2) := by
  show (if (fg t n (fg t n s 0 true 0 15).2 (fg t n s 0 true 0 15).1 false 0 5).1 = -1 then none else some (103, (fg t n s 0 true 0 15).1, (fg t n (fg t n s 0 true 0 15).2 (fg t n s 0 true 0 15).1 false 0 5).1, 0, 0, 0), (fg t n (fg t n s 0 true 0 15).2 (fg t n s 0 true 0 15).1 false 0 5).2) = _
  rw [h, fg_m1]; rfl
theorem rdG_2 {s : Nat} (h : ¬ (fg t n s 0 true 0 15).1 = -1) : rdG t n s = (if (fg t n (fg t n s 0 true 0 15).2 0 false 0 5).1 = -1 then none else some (103, (fg t n s 0 true 0 15).1, (fg t n (fg t n s 0 true 0 15).2 0 false 0 5).1, 0, 0, 0), (fg t n (fg t n s 0 true 0 15).2 0 false 0 5).2) := by
  show (if (fg t n (fg t n s 0 true 0 15).2 (fg t n s 0 true 0 15).1 false 0 5).1 = -1 then none else some (103, (fg t n s 0 true 0 15).1, (fg t n (fg t n s 0 true 0 15).2 (fg t n s 0 true 0 15).1 false 0 5).1, 0, 0, 0), (fg t n (fg t n s 0 true 0 15).2 (fg t n s 0 true 0 15).1 false 0 5).2) = _
  rw [fg_a h]
theorem rdS_g {s : Nat} {a b d e f : Int32 × Nat} (ha : fg t n s 0 false 0 4 = a) (hb : fg t n a.2 a.1 false 0 9 = b) (hd : fg t n b.2 b.1 true 0 15 = d) (he : fg t n d.2 d.1 true 1 16 = e) (hf : fg t n e.2 e.1 false 1 9 = f) : (f.1 = -1 → rdS t n s = (none, f.2)) ∧ (¬ f.1 = -1 → rdS t n s = (some (115, a.1, b.1, d.1, e.1, f.1), f.2)) :=
  ⟨fun h => by rw [rdS_eq ha hb hd he hf, if_pos h], fun h => by rw [rdS_eq ha hb hd he hf, if_neg h]⟩
/-- a number was read, or none -/
def RN (fr : Wd) (E : Nat → Nat) (t : Nat → Int32) (n s i : Nat) (two : Bool) (lo hi err lt : Int32) (nu : Nat → Int32) (r : Int32) (w2 : Wd) : Prop :=
  (r = 0 ∧ (fg t n s 0 two lo hi).1 = -1 ∧ TxW fr E t n (nI (fg t n s 0 two lo hi).2) (nI (fg t n s 0 two lo hi).2) lt nu w2) ∨
  (r = 1 ∧ ¬ (fg t n s 0 two lo hi).1 = -1 ∧ TxW fr E t n (nI (fg t n s 0 two lo hi).2) err lt (upd nu i (fg t n s 0 two lo hi).1) w2)
theorem c_rn {i s : Nat} {x1 x2 lo hi err lt : Int32} {nu : Nat → Int32} {two : Bool} (h : TxW fr E t n (nI s) err lt nu w) (hs : s ≤ n) (h1 : x1 = nI i) (hi5 : i < 5) (h2 : x2 = if two = true then 2 else 1) (hlo : 0 ≤ lo.toInt) : CX4_readNumber G l [.ref (E 0), .int x1, .int x2, .int lo, .int hi] w (RN fr E t n s i two lo hi err lt nu) :=
  c_readNumber h hs h1 hi5 h2 hlo (fun z w2 hw2 => Or.inl ⟨rfl, z, hw2⟩) (fun z w2 hw2 => Or.inr ⟨rfl, z, hw2⟩)
theorem c_readCommand4 {s : Nat} {lt : Int32} {nu : Nat → Int32} {Q : Int32 → Wd → Prop} (h : TxW fr E t n (nI s) (-1) lt nu w) (hs : s < n)
    (hq0 : ∀ p, rdC t n s = (none, p) → ∀ w2 a lt2 nu2, TxW fr E t n a (nI p) lt2 nu2 w2 → Q 0 w2)
    (hq1 : ∀ m p, rdC t n s = (some m, p) → ∀ w2 lt2 nu2, nmOk m lt2 nu2 → TxW fr E t n (nI p) (-1) lt2 nu2 w2 → Q 1 w2) : CX4_readCommand G l [.ref (E 0)] w Q := by
  have hb := h.b
  obtain ⟨g, eg, hg⟩ := h.x
  have hg := hg s hs
  have ec : (nI s).toNatClampNeg = s := nI_clamp (by omega)
  have ix : vp_in (nI s) 120 := ix_of rfl (by omega) (by decide)
  have k1 := h.setO (nI s) (-1) (t s)
  have k2 := k1.setO (nI (s + 1)) (-1) (t s)
  have u6 : (txF E n (nI s) (-1) lt).set 4 (.int (g (nI s).toNatClampNeg)) = txF E n (nI s) (-1) (t s) := by rw [ec, hg]; rfl
  have u8 : (txF E n (nI s) (-1) (t s)).set 2 (.int (nI s + 1)) = txF E n (nI (s + 1)) (-1) (t s) := by rw [← nI_1]; rfl
  refine sX4_readCommand (bX4_readCommand_0 h.o rfl (fun z => absurd rfl z) (fun _ => bX4_readCommand_8 h.o rfl rfl (fun _ => ?_) (fun z => absurd (nI_lt hs (by omega)) z)))
  have i2 : ∀ {k : Int32}, t s = k → (t s).toInt = k.toInt := fun e => by rw [e]
  have ni : ∀ {k : Int32}, ¬ t s = k → ¬ (t s).toInt = k.toInt := fun e z => e ((i32_eq _ _).mpr z)
  have hs1 : s + 1 ≤ n := hs
  by_cases q110 : t s = 110
  · have er : rdC t n s = rd1 t n (s + 1) 110 true 20 := if_pos q110
    rw [er] at hq0 hq1
    refine bX4_readCommand_21_110 h.o rfl rfl eg ix (tx_l (by decide)) u6 rfl (tx_l (by decide)) u8 rfl (i2 q110) ?_
    refine bX4_readCommand_100 k2.o (c_rn (i := 0) (two := true) k2 hs1 rfl (by decide) rfl (by decide)) (fun r w2 hr => ?_)
    rcases hr with ⟨rfl, z, hw⟩ | ⟨rfl, z, hw⟩
    · exact bX4_readCommand_109 (hq0 _ (rd1_n z) _ _ _ _ hw) rfl
    · exact bX4_readCommand_109 (hq1 _ _ (rd1_s z) _ _ _ ⟨q110, fun _ => upd_eq _ _ _, fun y => absurd y (by show ¬ (110 : Int32) = 103; decide), fun y => absurd y (by show ¬ (110 : Int32) = 115; decide)⟩ hw) rfl
  · by_cases q115 : t s = 115
    · have er : rdC t n s = rdS t n (s + 1) := by unfold rdC; rw [if_neg q110, if_pos q115]
      rw [er] at hq0 hq1
      refine bX4_readCommand_21_115 h.o rfl rfl eg ix (tx_l (by decide)) u6 rfl (tx_l (by decide)) u8 rfl (i2 q115) ?_
      refine bX4_readCommand_110 k2.o (c_rn (i := 0) (two := false) k2 hs1 rfl (by decide) rfl (by decide)) (fun r w2 hr => ?_)
      have la : (fg t n (s + 1) 0 false 0 4).2 ≤ n := (fg_le hs1).1
      rcases hr with ⟨rfl, za, hw⟩ | ⟨rfl, za, hw⟩
      · refine bX4_readCommand_118 (fun _ => bX4_readCommand_173 (bX4_readCommand_174 (hq0 _ ?_ _ _ _ _ hw) rfl)) (fun y => absurd rfl y)
        exact (rdS_g (s := s + 1) (f := (-1, (fg t n (s + 1) 0 false 0 4).2)) rfl (by rw [za, fg_m1]) fg_m1 fg_m1 fg_m1).1 rfl
      refine bX4_readCommand_118 (fun y => absurd y (by decide)) (fun _ => ?_)
      refine bX4_readCommand_121 hw.o (c_rn (i := 1) (two := false) hw la rfl (by decide) rfl (by decide)) (fun r w3 hr => ?_)
      have lb : (fg t n (fg t n (s + 1) 0 false 0 4).2 0 false 0 9).2 ≤ n := (fg_le la).1
      have eb : fg t n (fg t n (s + 1) 0 false 0 4).2 (fg t n (s + 1) 0 false 0 4).1 false 0 9 = fg t n (fg t n (s + 1) 0 false 0 4).2 0 false 0 9 := fg_a za
      clear hw
      rcases hr with ⟨rfl, zb, hw⟩ | ⟨rfl, zb, hw⟩
      · refine bX4_readCommand_130 (fun _ => bX4_readCommand_173 (bX4_readCommand_174 (hq0 _ ?_ _ _ _ _ hw) rfl)) (fun y => absurd rfl y)
        exact (rdS_g (s := s + 1) (f := (-1, (fg t n (fg t n (s + 1) 0 false 0 4).2 0 false 0 9).2)) rfl eb (by rw [zb, fg_m1]) fg_m1 fg_m1).1 rfl
      refine bX4_readCommand_130 (fun y => absurd y (by decide)) (fun _ => ?_)
      refine bX4_readCommand_133 hw.o (c_rn (i := 2) (two := true) hw lb rfl (by decide) rfl (by decide)) (fun r w4 hr => ?_)
      have ld : (fg t n (fg t n (fg t n (s + 1) 0 false 0 4).2 0 false 0 9).2 0 true 0 15).2 ≤ n := (fg_le lb).1
      have ed : fg t n (fg t n (fg t n (s + 1) 0 false 0 4).2 0 false 0 9).2 (fg t n (fg t n (s + 1) 0 false 0 4).2 0 false 0 9).1 true 0 15 = fg t n (fg t n (fg t n (s + 1) 0 false 0 4).2 0 false 0 9).2 0 true 0 15 := fg_a zb
      clear hw
      rcases hr with ⟨rfl, zd, hw⟩ | ⟨rfl, zd, hw⟩
      · refine bX4_readCommand_142 (fun _ => bX4_readCommand_173 (bX4_readCommand_174 (hq0 _ ?_ _ _ _ _ hw) rfl)) (fun y => absurd rfl y)
        exact (rdS_g (s := s + 1) (f := (-1, (fg t n (fg t n (fg t n (s + 1) 0 false 0 4).2 0 false 0 9).2 0 true 0 15).2)) rfl eb ed (by rw [zd, fg_m1]) fg_m1).1 rfl
      refine bX4_readCommand_142 (fun y => absurd y (by decide)) (fun _ => ?_)
      refine bX4_readCommand_145 hw.o (c_rn (i := 3) (two := true) hw ld rfl (by decide) rfl (by decide)) (fun r w5 hr => ?_)
      have le : (fg t n (fg t n (fg t n (fg t n (s + 1) 0 false 0 4).2 0 false 0 9).2 0 true 0 15).2 0 true 1 16).2 ≤ n := (fg_le ld).1
      have ee : fg t n (fg t n (fg t n (fg t n (s + 1) 0 false 0 4).2 0 false 0 9).2 0 true 0 15).2 (fg t n (fg t n (fg t n (s + 1) 0 false 0 4).2 0 false 0 9).2 0 true 0 15).1 true 1 16 = fg t n (fg t n (fg t n (fg t n (s + 1) 0 false 0 4).2 0 false 0 9).2 0 true 0 15).2 0 true 1 16 := fg_a zd
      clear hw
      rcases hr with ⟨rfl, ze, hw⟩ | ⟨rfl, ze, hw⟩
      · refine bX4_readCommand_154 (fun _ => bX4_readCommand_173 (bX4_readCommand_174 (hq0 _ ?_ _ _ _ _ hw) rfl)) (fun y => absurd rfl y)
        exact (rdS_g (s := s + 1) (f := (-1, (fg t n (fg t n (fg t n (fg t n (s + 1) 0 false 0 4).2 0 false 0 9).2 0 true 0 15).2 0 true 1 16).2)) rfl eb ed ee (by rw [ze, fg_m1])).1 rfl
      refine bX4_readCommand_154 (fun y => absurd y (by decide)) (fun _ => ?_)
      refine bX4_readCommand_157 hw.o (c_rn (i := 4) (two := false) hw le rfl (by decide) rfl (by decide)) (fun r w6 hr => ?_)
      have ef : fg t n (fg t n (fg t n (fg t n (fg t n (s + 1) 0 false 0 4).2 0 false 0 9).2 0 true 0 15).2 0 true 1 16).2 (fg t n (fg t n (fg t n (fg t n (s + 1) 0 false 0 4).2 0 false 0 9).2 0 true 0 15).2 0 true 1 16).1 false 1 9 = fg t n (fg t n (fg t n (fg t n (fg t n (s + 1) 0 false 0 4).2 0 false 0 9).2 0 true 0 15).2 0 true 1 16).2 0 false 1 9 := fg_a ze
      clear hw
      rcases hr with ⟨rfl, zf, hw⟩ | ⟨rfl, zf, hw⟩
      · refine bX4_readCommand_166 (fun _ => bX4_readCommand_173 (bX4_readCommand_174 (hq0 _ ?_ _ _ _ _ hw) rfl)) (fun y => absurd rfl y)
        exact (rdS_g (s := s + 1) rfl eb ed ee ef).1 zf
      · refine bX4_readCommand_166 (fun y => absurd y (by decide)) (fun _ => bX4_readCommand_169 (bX4_readCommand_174 (hq1 _ _ ((rdS_g (s := s + 1) rfl eb ed ee ef).2 zf) _ _ _ ⟨q115, fun y => ?_, fun y => ?_, fun _ => ⟨rfl, rfl, rfl, rfl, rfl⟩⟩ hw) rfl))
        · rcases y with y | y
          · exact absurd y (by show ¬ (115 : Int32) = 110; decide)
          · exact absurd y (by show ¬ (115 : Int32) = 100; decide)
        · exact absurd y (by show ¬ (115 : Int32) = 103; decide)
    · by_cases q103 : t s = 103
      · have er : rdC t n s = rdG t n (s + 1) := by unfold rdC; rw [if_neg q110, if_neg q115, if_pos q103]
        rw [er] at hq0 hq1
        refine bX4_readCommand_21_103 h.o rfl rfl eg ix (tx_l (by decide)) u6 rfl (tx_l (by decide)) u8 rfl (i2 q103) ?_
        refine bX4_readCommand_175 k2.o (c_rn (i := 0) (two := true) k2 hs1 rfl (by decide) rfl (by decide)) (fun r w2 hr => ?_)
        have la : (fg t n (s + 1) 0 true 0 15).2 ≤ n := (fg_le hs1).1
        rcases hr with ⟨rfl, za, hw⟩ | ⟨rfl, za, hw⟩
        · exact bX4_readCommand_184 (fun _ => bX4_readCommand_202 (bX4_readCommand_203 (hq0 _ (rdG_1 za) _ _ _ _ hw) rfl)) (fun y => absurd rfl y)
        refine bX4_readCommand_184 (fun y => absurd y (by decide)) (fun _ => ?_)
        refine bX4_readCommand_187 hw.o (c_rn (i := 1) (two := false) hw la rfl (by decide) rfl (by decide)) (fun r w3 hr => ?_)
        clear hw
        rcases hr with ⟨rfl, zb, hw⟩ | ⟨rfl, zb, hw⟩
        · exact bX4_readCommand_195 (fun _ => bX4_readCommand_202 (bX4_readCommand_203 (hq0 _ (by rw [rdG_2 za, if_pos zb]) _ _ _ _ hw) rfl)) (fun y => absurd rfl y)
        · refine bX4_readCommand_195 (fun y => absurd y (by decide)) (fun _ => bX4_readCommand_198 (bX4_readCommand_203 (hq1 _ _ (by rw [rdG_2 za, if_neg zb]) _ _ _ ⟨q103, fun y => ?_, fun _ => ⟨rfl, rfl⟩, fun y => ?_⟩ hw) rfl))
          · rcases y with y | y
            · exact absurd y (by show ¬ (103 : Int32) = 110; decide)
            · exact absurd y (by show ¬ (103 : Int32) = 100; decide)
          · exact absurd y (by show ¬ (103 : Int32) = 115; decide)
      · by_cases q97 : t s = 97
        · have er : rdC t n s = (some (97, 0, 0, 0, 0, 0), s + 1) := by unfold rdC; rw [if_neg q110, if_neg q115, if_neg q103, if_pos q97]
          refine bX4_readCommand_21_97 h.o rfl rfl eg ix (tx_l (by decide)) u6 rfl (tx_l (by decide)) u8 rfl (i2 q97) (bX4_readCommand_204 (hq1 _ _ er _ _ _ ⟨q97, fun y => ?_, fun y => ?_, fun y => ?_⟩ k2))
          · rcases y with y | y
            · exact absurd y (by show ¬ (97 : Int32) = 110; decide)
            · exact absurd y (by show ¬ (97 : Int32) = 100; decide)
          · exact absurd y (by show ¬ (97 : Int32) = 103; decide)
          · exact absurd y (by show ¬ (97 : Int32) = 115; decide)
        · by_cases q100 : t s = 100
          · have er : rdC t n s = rd1 t n (s + 1) 100 false 9 := by unfold rdC; rw [if_neg q110, if_neg q115, if_neg q103, if_neg q97, if_pos q100]
            rw [er] at hq0 hq1
            refine bX4_readCommand_21_100 h.o rfl rfl eg ix (tx_l (by decide)) u6 rfl (tx_l (by decide)) u8 rfl (i2 q100) ?_
            refine bX4_readCommand_206 k2.o (c_rn (i := 0) (two := false) k2 hs1 rfl (by decide) rfl (by decide)) (fun r w2 hr => ?_)
            rcases hr with ⟨rfl, z, hw⟩ | ⟨rfl, z, hw⟩
            · exact bX4_readCommand_215 (hq0 _ (rd1_n z) _ _ _ _ hw) rfl
            · exact bX4_readCommand_215 (hq1 _ _ (rd1_s z) _ _ _ ⟨q100, fun _ => upd_eq _ _ _, fun y => absurd y (by show ¬ (100 : Int32) = 103; decide), fun y => absurd y (by show ¬ (100 : Int32) = 115; decide)⟩ hw) rfl
          · have er : rdC t n s = (none, s) := by unfold rdC; rw [if_neg q110, if_neg q115, if_neg q103, if_neg q97, if_neg q100]
            refine bX4_readCommand_21_d h.o rfl rfl eg ix (tx_l (by decide)) u6 rfl (tx_l (by decide)) u8 rfl (lks_d (fun p hp => ?_)) ?_
            · have n1 := ni q110; have n2 := ni q115; have n3 := ni q103; have n4 := ni q97; have n5 := ni q100
              simp only [List.mem_cons, List.not_mem_nil, or_false] at hp
              rcases hp with rfl | rfl | rfl | rfl | rfl
              · exact fun y => n4 y.symm
              · exact fun y => n5 y.symm
              · exact fun y => n3 y.symm
              · exact fun y => n1 y.symm
              · exact fun y => n2 y.symm
            · have k3 := k2.setO (nI (s + 1)) (nI s) (t s)
              refine bX4_readCommand_216 k2.o rfl (tx_l (by decide)) (f3 := txF E n (nI (s + 1)) (nI s) (t s)) (by rw [nI_pred]; rfl) (hq0 _ er _ _ _ _ k3)
theorem c_readCmd_end {at9 err lt : Int32} {nu : Nat → Int32} {Q : Int32 → Wd → Prop} (h : TxW fr E t n at9 err lt nu w) (he : ¬ err = -1 ∨ nI n ≤ at9) (hq : Q 0 w) : CX4_readCommand G l [.ref (E 0)] w Q := by
  by_cases q : err = -1
  · refine sX4_readCommand (bX4_readCommand_0 h.o rfl (fun _ => bX4_readCommand_19 hq) (fun _ => bX4_readCommand_8 h.o rfl rfl (fun z => ?_) (fun _ => bX4_readCommand_19 hq)))
    have := he.resolve_left (fun y => y q)
    rw [i32_le] at this
    rw [i32_lt] at z
    omega
  · exact sX4_readCommand (bX4_readCommand_0 h.o rfl (fun _ => bX4_readCommand_19 hq) (fun z => absurd z q))
theorem c_begin4 {at9 err lt : Int32} {nu : Nat → Int32} {Q : Wd → Prop} (h : TxW fr E t n at9 err lt nu w) (hq : ∀ w2, TxW fr E t n 1 (if n = 0 ∨ ¬ t 0 = 74 then 0 else -1) lt nu w2 → Q w2) : CX4_begin G l [.ref (E 0)] w Q := by
  have hb := h.b
  obtain ⟨g, eg, hg⟩ := h.x
  have k1 := h.setO 1 err lt
  refine sX4_begin (bX4_begin_0 h.o (tx_l (by decide)) (f2 := txF E n 1 err lt) rfl rfl (fun z => ?_) (fun z => ?_))
  · have hn : n = 0 := by
      rw [i32_le, nI_toInt (by omega), show (0 : Int32).toInt = 0 from rfl] at z
      omega
    rw [if_pos (Or.inl hn)] at hq
    exact bX4_begin_28 (bX4_begin_29 k1.o (tx_l (by decide)) (f2 := txF E n 1 0 lt) rfl (hq _ (k1.setO 1 0 lt)))
  · have hn : 0 < n := by
      by_cases q : 0 < n
      · exact q
      · exact absurd (by rw [show n = 0 by omega]; decide) z
    obtain ⟨g1, eg1, hg1⟩ := k1.x
    have e0 : g1 ((0 : Int32).toNatClampNeg) = t 0 := hg1 0 hn
    refine bX4_begin_13 k1.o rfl eg1 (vlit rfl) (fun y => ?_) (fun y => ?_)
    · rw [e0] at y
      rw [if_pos (Or.inr y)] at hq
      exact bX4_begin_28 (bX4_begin_29 k1.o (tx_l (by decide)) (f2 := txF E n 1 0 lt) rfl (hq _ (k1.setO 1 0 lt)))
    · rw [e0] at y
      rw [if_neg (fun x => x.elim (fun x => by omega) (fun x => x y))] at hq
      exact bX4_begin_24 (bX4_begin_29 k1.o (tx_l (by decide)) (f2 := txF E n 1 (-1) lt) rfl (hq _ (k1.setO 1 (-1) lt)))
/-- where reading ends, without what is done -/
def rdE (t : Nat → Int32) (n : Nat) : Nat → Nat → Int32
  | 0, _ => -1
  | f + 1, s => if s < n then (match (rdC t n s).1 with | none => nI (rdC t n s).2 | some _ => rdE t n f (rdC t n s).2) else -1
theorem rdTo_1 (t : Nat → Int32) (n : Nat) : ∀ (f s : Nat) (c : Cal) (o : Int32), (rdTo t n f s c o).1 = rdE t n f s
  | 0, s, c, o => rfl
  | f + 1, s, c, o => by
    rw [rdTo, rdE]
    split
    · cases h : (rdC t n s).1 with
      | none => rfl
      | some m => exact rdTo_1 t n f _ _ _
    · rfl
theorem c_findError {at9 err lt : Int32} {nu : Nat → Int32} {Q : Int32 → Wd → Prop} (h : TxW fr E t n at9 err lt nu w) (hq : ∀ w2 a e l2 u2, TxW fr E t n a e l2 u2 w2 → Q (if n = 0 ∨ ¬ t 0 = 74 then 0 else rdE t n n 1) w2) : CX4_findError G l [.ref (E 0)] w Q := by
  have hb := h.b
  refine sX4_findError (bX4_findError_0 h.o (c_begin4 (Q := fun w2 => TxW fr E t n 1 (if n = 0 ∨ ¬ t 0 = 74 then 0 else -1) lt nu w2) h (fun w2 hw2 => hw2)) (fun w2 hw2 => bX4_findError_4 ?_))
  by_cases z : n = 0 ∨ ¬ t 0 = 74
  · rw [if_pos z] at hw2 hq
    refine bX4_findError_6 (fun y => absurd y (by decide)) (fun _ => bX4_findError_12 hw2.o (c_readCmd_end (Q := fun r w3 => (0 : Int32) = r ∧ w2 = w3) hw2 (Or.inl (by decide)) ⟨rfl, rfl⟩) (fun r w3 hr => ?_))
    obtain ⟨rfl, rfl⟩ := hr
    exact bX4_findError_16 (fun _ => bX4_findError_25 hw2.o rfl (hq _ _ _ _ _ hw2)) (fun y => absurd rfl y)
  · rw [if_neg z] at hw2 hq
    have hn : 0 < n := by
      by_cases q : 0 < n
      · exact q
      · exact absurd (Or.inl (by omega)) z
    have key : ∀ (f s i : Nat) (lt : Int32) (nu : Nat → Int32) (w1 : Wd), n ≤ s + f → s ≤ n → i + 1 ≤ s → TxW fr E t n (nI s) (-1) lt nu w1 → (∀ w2 a e l2 u2, TxW fr E t n a e l2 u2 w2 → Q (rdE t n f s) w2) → KX4_findError G l w (ZI G 0 0 w Q) w1 6 [(0, .ref (E 0)), (1, .int (nI i))] [] := by
      intro f
      induction f with
      | zero =>
        intro s i lt nu w1 h1 h2 h3 hw hq
        refine bX4_findError_6 (fun y => absurd y (nI_ge (b := 120) (by omega) (by decide))) (fun _ => bX4_findError_12 hw.o (c_readCmd_end (Q := fun r w3 => (0 : Int32) = r ∧ w1 = w3) hw (Or.inr (nI_le (by omega) (by omega))) ⟨rfl, rfl⟩) (fun r w3 hr => ?_))
        obtain ⟨rfl, rfl⟩ := hr
        exact bX4_findError_16 (fun _ => bX4_findError_25 hw.o rfl (hq _ _ _ _ _ hw)) (fun y => absurd rfl y)
      | succ f ih =>
        intro s i lt nu w1 h1 h2 h3 hw hq
        refine bX4_findError_6 (fun y => absurd y (nI_ge (b := 120) (by omega) (by decide))) (fun _ => ?_)
        rw [rdE] at hq
        by_cases hsn : s < n
        · rw [if_pos hsn] at hq
          refine bX4_findError_12 hw.o (c_readCommand4 (Q := fun r w3 => (∃ p a l2 u2, rdC t n s = (none, p) ∧ r = 0 ∧ TxW fr E t n a (nI p) l2 u2 w3) ∨ ∃ m p l2 u2, rdC t n s = (some m, p) ∧ r = 1 ∧ TxW fr E t n (nI p) (-1) l2 u2 w3) hw hsn (fun p hp w3 a l2 u2 hw3 => Or.inl ⟨p, a, l2, u2, hp, rfl, hw3⟩) (fun m p hp w3 l2 u2 _ hw3 => Or.inr ⟨m, p, l2, u2, hp, rfl, hw3⟩)) (fun r w3 hr => ?_)
          rcases hr with ⟨p, a, l2, u2, hp, rfl, hw3⟩ | ⟨m, p, l2, u2, hp, rfl, hw3⟩
          · rw [hp] at hq
            exact bX4_findError_16 (fun _ => bX4_findError_25 hw3.o rfl (hq _ _ _ _ _ hw3)) (fun y => absurd rfl y)
          · rw [hp] at hq
            have hpb := rdC_some (m := m) hsn (by rw [hp])
            rw [hp] at hpb
            have hpb1 : s + 1 ≤ p := hpb.1
            have hpb2 : p ≤ n := hpb.2.1
            refine bX4_findError_16 (fun y => absurd y (by decide)) (fun _ => bX4_findError_19 ?_)
            rw [nI_1]
            exact ih p (i + 1) l2 u2 w3 (by omega) hpb2 (by omega) hw3 hq
        · rw [if_neg hsn] at hq
          refine bX4_findError_12 hw.o (c_readCmd_end (Q := fun r w3 => (0 : Int32) = r ∧ w1 = w3) hw (Or.inr (nI_le (by omega) (by omega))) ⟨rfl, rfl⟩) (fun r w3 hr => ?_)
          obtain ⟨rfl, rfl⟩ := hr
          exact bX4_findError_16 (fun _ => bX4_findError_25 hw.o rfl (hq _ _ _ _ _ hw)) (fun y => absurd rfl y)
    exact key n 1 0 lt nu w2 (by omega) (by omega) (by omega) hw2 hq
theorem c_addSign {at9 err lt x : Int32} {nu : Nat → Int32} {Q : Int32 → Wd → Prop} (h : TxW fr E t n at9 err lt nu w) (hn : n < 120) (hq : ∀ w2, TxW fr E (upd t n x) (n + 1) at9 err lt nu w2 → Q (nI (n + 1)) w2) : CX4_addSign G l [.ref (E 0), .int x] w Q := by
  obtain ⟨f, m, ⟨n1, n2, n3⟩, e0, ⟨g, e1, c1⟩, e2, b9⟩ := h
  refine sX4_addSign (bX4_addSign_0 e0 rfl rfl e1 (ix_of rfl hn (by decide)) (wn n1 e0) rfl (tx_l (by decide)) (f8 := txF E (n + 1) at9 err lt) (by rw [nI_1]; rfl) rfl (hq _ ?_))
  rw [nI_clamp (by omega)]
  refine ⟨fun q e hqe => wn (fr_ne hqe (m 0 (by decide))) (wn (fr_ne hqe (m 1 (by decide))) (f q e hqe)), m, ⟨n1, n2, n3⟩, wset_eq _ _ _, ⟨_, wn n1.symm (wset_eq _ _ _), fun i hi => ?_⟩, wn n2.symm (wn n3.symm e2), by omega⟩
  by_cases q : i = n
  · subst q; rw [upd_eq, upd_eq]
  · rw [upd_ne _ _ q, upd_ne _ _ q]; exact c1 i (by omega)
end TR
