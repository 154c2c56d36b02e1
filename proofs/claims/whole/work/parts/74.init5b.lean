/-! THE CLASS'S CONSTRUCTORS: the calendar -/
theorem LayA.set2 {fr w : Wd} {n : Nat} {A : Nat → Nat} (h : LayA fr n A w) {i a : Nat} (hi : i < n) (ea : A i = a) (e : PE) : LayA fr n A (wset w a e) := by
  subst ea
  exact h.set hi e
abbrev ob0 (q1 q2 q3 q4 q5 : Value) (d : Value) : List Value := [.int 0, .int 0, q1, q2, q3, q4, .int 0, q5, d, .int 0, .int 0, .int 0, .int 0]
def LC (fr : Wd) (a q1 q2 q3 q4 q5 i : Nat) (w : Wd) : Prop := ∃ A, LayA fr (6 + i) A w ∧ (A 0 = a ∧ A 1 = q1 ∧ A 2 = q2 ∧ A 3 = q3 ∧ A 4 = q4 ∧ A 5 = q5) ∧ w a = some (.inl (0, ob0 (.ref q1) (.ref q2) (.ref q3) (.ref q4) (.ref q5) .null)) ∧
  w q1 = some (irow 6 (fun _ => 0)) ∧ w q2 = some (irow 6 (fun _ => 0)) ∧ w q3 = some (irow 6 (fun _ => 0)) ∧ w q4 = some (irow 4 (fun _ => 0)) ∧ (∃ g, w q5 = some (qrow 4 16 g) ∧ ∀ k, k < i → g k = some (A (6 + k))) ∧ ∀ k, k < i → w (A (6 + k)) = some (.inl (2, sesF z6))
def pi26 (i : Nat) : Nat := if i < 6 then i else if i < 10 then 16 + i else i - 4
theorem pi26_b {i : Nat} (h : i < 26) : pi26 i < 26 := by unfold pi26; split <;> (try split) <;> omega
theorem pi26_i {i j : Nat} (h : i < 26) (h2 : j < 26) (e : pi26 i = pi26 j) : i = j := by
  unfold pi26 at e
  split at e <;> (try split at e) <;> (try split at e) <;> (try split at e) <;> omega
section I0
variable {G : GG} {l : Launch} {fr w : Wd} {mc ms : Nat}
theorem c_init0 {a : Nat} {Q : Wd → Prop} (hf : ∀ q e, fr q = some e → w q = some e) (ha : fr a = none) (ho : w a = some (.inl (0, ob0 .null .null .null .null .null .null))) (hc : 25 ≤ mc) (hs : 186 ≤ ms) (hq : ∀ A w2, A 0 = a → CalW fr A calN 16 w2 → Q w2) : CX0_init G l mc ms [.ref a] w Q := by
  refine sX0_init (bX0_init_0 (by decide) rfl (by decide) (by omega) (by show 0 + 6 ≤ ms; omega) (fun q1 n1 => ?_))
  have l0 := LayA.one hf ha ho
  have m1 := l0.nn (i := 0) (by omega) n1
  have l1 := l0.new n1 (.inr (0, 6, (ntag 0).2.2.2))
  refine bX0_init_9 (f2 := ob0 (.ref q1) .null .null .null .null .null) (wn m1 ho) (Nat.le_of_ble_eq_true rfl) rfl (by decide) rfl (by decide) (by omega) (by show 0 + 6 + 6 ≤ ms; omega) (fun q2 n2 => ?_)
  have l2 := l1.set (i := 0) (by omega) (.inl (0, ob0 (.ref q1) .null .null .null .null .null))
  have m2 := fun {i : Nat} (hi : i < 2) => l2.nn hi n2
  have l3 := l2.new n2 (.inr (0, 6, (ntag 0).2.2.2))
  refine bX0_init_17 (f2 := ob0 (.ref q1) (.ref q2) .null .null .null .null) (wn (m2 (i := 0) (by omega)) (wset_eq _ _ _)) (Nat.le_of_ble_eq_true rfl) rfl (by decide) rfl (by decide) (by omega) (by show 0 + 6 + 6 + 6 ≤ ms; omega) (fun q3 n3 => ?_)
  have l4 := l3.set (i := 0) (by omega) (.inl (0, ob0 (.ref q1) (.ref q2) .null .null .null .null))
  have m3 := fun {i : Nat} (hi : i < 3) => l4.nn hi n3
  have l5 := l4.new n3 (.inr (0, 6, (ntag 0).2.2.2))
  refine bX0_init_25 (f2 := ob0 (.ref q1) (.ref q2) (.ref q3) .null .null .null) (wn (m3 (i := 0) (by omega)) (wset_eq _ _ _)) (Nat.le_of_ble_eq_true rfl) rfl (by decide) rfl (by decide) (by omega) (by show 0 + 6 + 6 + 6 + 4 ≤ ms; omega) (fun q4 n4 => ?_)
  have l6 := l5.set (i := 0) (by omega) (.inl (0, ob0 (.ref q1) (.ref q2) (.ref q3) .null .null .null))
  have m4 := fun {i : Nat} (hi : i < 4) => l6.nn hi n4
  have l7 := l6.new n4 (.inr (0, 4, (ntag 0).2.2.2))
  refine bX0_init_32 (f2 := ob0 (.ref q1) (.ref q2) (.ref q3) (.ref q4) .null .null) (wn (m4 (i := 0) (by omega)) (wset_eq _ _ _)) (Nat.le_of_ble_eq_true rfl) rfl (by decide) rfl (by decide) (by omega) (by show 0 + 6 + 6 + 6 + 4 + 16 ≤ ms; omega) (fun q5 n5 => ?_)
  have l8 := l7.set (i := 0) (by omega) (.inl (0, ob0 (.ref q1) (.ref q2) (.ref q3) (.ref q4) .null .null))
  have m5 := fun {i : Nat} (hi : i < 5) => l8.nn hi n5
  have l9 := l8.new n5 (qrow 4 16 (fun _ => none))
  refine bX0_init_41 (f2 := ob0 (.ref q1) (.ref q2) (.ref q3) (.ref q4) (.ref q5) .null) (wn (m5 (i := 0) (by omega)) (wset_eq _ _ _)) (Nat.le_of_ble_eq_true rfl) rfl ?_
  have l10 := l9.set (i := 0) (by omega) (.inl (0, ob0 (.ref q1) (.ref q2) (.ref q3) (.ref q4) (.ref q5) .null))
  have a1 : q1 ≠ a := m1.symm
  have a2 : q2 ≠ a := (m2 (i := 0) (by omega)).symm
  have a3 : q3 ≠ a := (m3 (i := 0) (by omega)).symm
  have a4 : q4 ≠ a := (m4 (i := 0) (by omega)).symm
  have a5 : q5 ≠ a := (m5 (i := 0) (by omega)).symm
  have b2 : q1 ≠ q2 := m2 (i := 1) (by omega)
  have b3 : q1 ≠ q3 := m3 (i := 1) (by omega)
  have b4 : q1 ≠ q4 := m4 (i := 1) (by omega)
  have b5 : q1 ≠ q5 := m5 (i := 1) (by omega)
  have d3 : q2 ≠ q3 := m3 (i := 2) (by omega)
  have d4 : q2 ≠ q4 := m4 (i := 2) (by omega)
  have d5 : q2 ≠ q5 := m5 (i := 2) (by omega)
  have g4 : q3 ≠ q4 := m4 (i := 3) (by omega)
  have g5 : q3 ≠ q5 := m5 (i := 3) (by omega)
  have h5 : q4 ≠ q5 := m5 (i := 4) (by omega)
  have start : LC fr a q1 q2 q3 q4 q5 0 (wset (wset (wset (wset (wset (wset (wset (wset (wset (wset w q1 (.inr (0, 6, (ntag 0).2.2.2))) a (.inl (0, ob0 (.ref q1) .null .null .null .null .null))) q2 (.inr (0, 6, (ntag 0).2.2.2))) a (.inl (0, ob0 (.ref q1) (.ref q2) .null .null .null .null))) q3 (.inr (0, 6, (ntag 0).2.2.2))) a (.inl (0, ob0 (.ref q1) (.ref q2) (.ref q3) .null .null .null))) q4 (.inr (0, 4, (ntag 0).2.2.2))) a (.inl (0, ob0 (.ref q1) (.ref q2) (.ref q3) (.ref q4) .null .null))) q5 (qrow 4 16 (fun _ => none))) a (.inl (0, ob0 (.ref q1) (.ref q2) (.ref q3) (.ref q4) (.ref q5) .null))) := by
    refine ⟨_, l10, ⟨rfl, rfl, rfl, rfl, rfl, rfl⟩, wset_eq _ _ _, ?_, ?_, ?_, ?_, ⟨_, wn a5 (wset_eq _ _ _), fun k hk => absurd hk (Nat.not_lt_zero _)⟩, fun k hk => absurd hk (Nat.not_lt_zero _)⟩
    · exact wn a1 (wn b5 (wn a1 (wn b4 (wn a1 (wn b3 (wn a1 (wn b2 (wn a1 (wset_eq _ _ _)))))))))
    · exact wn a2 (wn d5 (wn a2 (wn d4 (wn a2 (wn d3 (wn a2 (wset_eq _ _ _)))))))
    · exact wn a3 (wn g5 (wn a3 (wn g4 (wn a3 (wset_eq _ _ _)))))
    · exact wn a4 (wn h5 (wn a4 (wset_eq _ _ _)))
  have key : ∀ d i, i + d = 16 → ∀ w1, LC fr a q1 q2 q3 q4 q5 i w1 → KX0_init G l mc ms w (ZV G mc ms w Q) w1 46 [(0, .ref a), (1, .int (nI i))] [] (5 + i) (38 + 6 * i) := by
    intro d
    induction d with
    | zero =>
      intro i hi w1 h
      have : i = 16 := by omega
      subst this
      obtain ⟨A, hl, ⟨e0, e1, e2, e3, e4, e5⟩, c0, c1, c2, c3, c4, ⟨g, c5, hg⟩, c6⟩ := h
      refine bX0_init_46 (fun _ => ?_) (fun z => absurd (by decide) z)
      refine bX0_init_71 (by omega) (by omega) (fun q nq => ?_)
      refine bX0_init_75 (mcq := 3) (msq := 48) (Qc := fun w2 => ∃ D, D 0 = q ∧ DeskW w1 D [] 16 w2) (c_init2 (fr := w1) (fun p x hx => wn (fr_ne hx nq) hx) nq (wset_eq _ _ _) (Nat.le_refl _) (Nat.le_refl _) (fun D w2 eD hD => ⟨D, eD, hD⟩)) (by omega) (by omega) (fun w2 hw2 => ?_)
      obtain ⟨D, eD, hD⟩ := hw2
      have hl2 := hl.blk (m := 4) (E := D) hD.1 (fun j hj => ⟨hD.n hj, hD.i.ex hj⟩) (fun i j hi hj e => hD.j i j hi hj e)
      have hl3 := hl2.set2 (i := 0) (by omega) (a := a) e0 (.inl (0, ob0 (.ref q1) (.ref q2) (.ref q3) (.ref q4) (.ref q5) (.ref q)))
      have Dn : ∀ {i : Nat}, i < 4 → D i ≠ a := fun {i} hi z => by
        have := hD.n hi
        rw [z, c0] at this
        cases this
      have ek : ∀ k, k < 22 → ∀ x, A k = x → (if k < 22 then A k else D (k - 22)) = x := fun k hk x hx => by rw [if_pos hk]; exact hx
      have r1 : q1 ≠ a := a1
      have hcal : CalW fr (fun i => if pi26 i < 6 + 16 then A (pi26 i) else D (pi26 i - (6 + 16))) (fun _ => 0, [], [], []) 16 (wset w2 a (.inl (0, ob0 (.ref q1) (.ref q2) (.ref q3) (.ref q4) (.ref q5) (.ref q)))) := by
        refine ⟨hl3.1, fun i hi => (hl3.2.1 (pi26 i) (pi26_b hi)).1, fun i j hi hj e => pi26_i hi hj (hl3.2.2 (pi26 i) (pi26 j) (pi26_b hi) (pi26_b hj) e), ?_, ⟨fun _ => 0, ?_, fun i hi => absurd hi (Nat.not_lt_zero _)⟩, ⟨fun _ => 0, ?_, fun i hi => absurd hi (Nat.not_lt_zero _)⟩, ⟨fun _ => 0, ?_, fun i hi => absurd hi (Nat.not_lt_zero _)⟩, ⟨fun _ => 0, ?_, fun i hi => rfl⟩, ⟨g, ?_, fun k hk => ?_⟩, ?_, fun k hk => ⟨z6, ?_, fun z => absurd z (Nat.not_lt_zero _)⟩, by decide, by decide⟩
        · show wset _ _ _ (A 0) = some (.inl (0, [.int 0, .int (nI 0), .ref (A 1), .ref (A 2), .ref (A 3), .ref (A 4), .int (nI 0), .ref (A 5), .ref (D 0), .int 0, .int 0, .int 0, .int 0]))
          rw [e0, e1, e2, e3, e4, e5, eD]
          exact wset_eq _ _ _
        · show wset _ _ _ (A 1) = _
          rw [e1]; exact wn a1 (hD.f c1)
        · show wset _ _ _ (A 2) = _
          rw [e2]; exact wn a2 (hD.f c2)
        · show wset _ _ _ (A 3) = _
          rw [e3]; exact wn a3 (hD.f c3)
        · show wset _ _ _ (A 4) = _
          rw [e4]; exact wn a4 (hD.f c4)
        · show wset _ _ _ (A 5) = _
          rw [e5]; exact wn a5 (hD.f c5)
        · show g k = some (if pi26 (10 + k) < 6 + 16 then A (pi26 (10 + k)) else D (pi26 (10 + k) - (6 + 16)))
          have : pi26 (10 + k) = 6 + k := by unfold pi26; rw [if_neg (by omega), if_neg (by omega)]; omega
          rw [this, if_pos (by omega)]
          exact hg k hk
        · exact hD.i.keep (fun i hi => Dn hi)
        · show wset _ _ _ (if pi26 (10 + k) < 6 + 16 then A (pi26 (10 + k)) else D (pi26 (10 + k) - (6 + 16))) = _
          have : pi26 (10 + k) = 6 + k := by unfold pi26; rw [if_neg (by omega), if_neg (by omega)]; omega
          rw [this, if_pos (by omega)]
          refine wn ?_ (hD.f (c6 k hk))
          rw [← e0]
          exact hl.ne (by omega) (by omega) (by omega)
      refine bX0_init_79 (f2 := ob0 (.ref q1) (.ref q2) (.ref q3) (.ref q4) (.ref q5) (.ref q)) (Qc := fun w3 => ∃ A', A' 0 = a ∧ CalW fr A' calN 16 w3) (hD.f c0) (Nat.le_of_ble_eq_true rfl) rfl (wset_eq _ _ _) (by
        have := c_makeNew (G := G) (l := l) (Q := fun w3 => ∃ A', A' 0 = a ∧ CalW fr A' calN 16 w3) hcal (fun w3 h3 => ⟨_, e0, h3⟩)
        have e9 : (if pi26 0 < 6 + 16 then A (pi26 0) else D (pi26 0 - (6 + 16))) = a := e0
        rw [e9] at this
        exact this) (by omega) (by omega) (fun w3 h3 => ?_)
      obtain ⟨A', eA, h3⟩ := h3
      exact bX0_init_86 (hq A' w3 eA h3) (by omega) (by omega)
    | succ d ih =>
      intro i hi w1 h
      obtain ⟨A, hl, ⟨e0, e1, e2, e3, e4, e5⟩, c0, c1, c2, c3, c4, ⟨g, c5, hg⟩, c6⟩ := h
      refine bX0_init_46 (fun z => absurd z (nI_ge (b := 16) (by omega) (by decide))) (fun _ => ?_)
      refine bX0_init_52 c0 rfl (by omega) (by omega) (fun q nq => ?_)
      refine bX0_init_60 (Qc := fun w2 => wset w1 q (.inl (2, [.int 0, .int 0, .int 0, .int 0, .int 0, .int 0])) = w2) (sX3_init (bX3_init_0 rfl)) (by omega) (by omega) (fun w2 hw2 => ?_)
      subst hw2
      have k0 : a ≠ q := fun z => by rw [← z, c0] at nq; cases nq
      have k1 : q1 ≠ q := fun z => by rw [← z, c1] at nq; cases nq
      have k2 : q2 ≠ q := fun z => by rw [← z, c2] at nq; cases nq
      have k3 : q3 ≠ q := fun z => by rw [← z, c3] at nq; cases nq
      have k4 : q4 ≠ q := fun z => by rw [← z, c4] at nq; cases nq
      have k5 : q5 ≠ q := fun z => by rw [← z, c5] at nq; cases nq
      refine bX0_init_64 (wn k5 c5) (ix_of rfl (by omega) (by decide)) (wset_eq _ _ _) ?_
      rw [nI_1, nI_clamp (by omega), show 38 + 6 * i + 6 = 38 + 6 * (i + 1) by omega, show 5 + i + 1 = 5 + (i + 1) by omega]
      have hl2 := (hl.new nq (.inl (2, sesF z6))).set2 (i := 5) (by omega) (a := q5) (by show (if 5 < 6 + i then A 5 else q) = q5; rw [if_pos (by omega)]; exact e5) (qrow 4 16 (va_up g i (some q)))
      have ei : ∀ j x, j < 6 + i → A j = x → (if j < 6 + i then A j else q) = x := fun j x hj hx => by rw [if_pos hj]; exact hx
      refine ih (i + 1) (by omega) _ ⟨_, hl2, ⟨ei 0 _ (by omega) e0, ei 1 _ (by omega) e1, ei 2 _ (by omega) e2, ei 3 _ (by omega) e3, ei 4 _ (by omega) e4, ei 5 _ (by omega) e5⟩, wn a5.symm (wn k0 c0), wn b5 (wn k1 c1), wn d5 (wn k2 c2), wn g5 (wn k3 c3), wn h5 (wn k4 c4), ⟨va_up g i (some q), wset_eq _ _ _, fun k hk => ?_⟩, fun k hk => ?_⟩
      · show va_up g i (some q) k = some (if 6 + k < 6 + i then A (6 + k) else q)
        unfold va_up
        by_cases z : k = i
        · rw [if_pos z, if_neg (by omega)]
        · rw [if_neg z, if_pos (by omega)]; exact hg k (by omega)
      · show wset _ _ _ (if 6 + k < 6 + i then A (6 + k) else q) = _
        by_cases z : k = i
        · rw [if_neg (by omega)]; exact wn k5.symm (wset_eq _ _ _)
        · rw [if_pos (by omega)]
          refine wn ?_ (wn ?_ (c6 k (by omega)))
          · rw [← e5]; exact hl.ne (by omega) (by omega) (by omega)
          · exact hl.nn (by omega) nq
  exact key 16 0 rfl _ start
end I0
