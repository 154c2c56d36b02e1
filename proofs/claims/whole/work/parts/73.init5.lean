/-! THE CLASS'S CONSTRUCTORS -/
def LayA (fr : Wd) (n : Nat) (A : Nat → Nat) (w : Wd) : Prop := (∀ q e, fr q = some e → w q = some e) ∧ (∀ i, i < n → fr (A i) = none ∧ ∃ e, w (A i) = some e) ∧ ∀ i j, i < n → j < n → A i = A j → i = j
section LA
variable {fr w : Wd} {n : Nat} {A : Nat → Nat}
theorem LayA.ne (h : LayA fr n A w) {i j : Nat} (hi : i < n) (hj : j < n) (e : i ≠ j) : A i ≠ A j := fun z => e (h.2.2 i j hi hj z)
theorem LayA.one {a : Nat} {e : PE} (hf : ∀ q e, fr q = some e → w q = some e) (ha : fr a = none) (ho : w a = some e) : LayA fr 1 (fun _ => a) w := ⟨hf, fun _ _ => ⟨ha, e, ho⟩, fun i j hi hj _ => by omega⟩
theorem LayA.set (h : LayA fr n A w) {i : Nat} (hi : i < n) (e : PE) : LayA fr n A (wset w (A i) e) := by
  refine ⟨fun q x hq => wn (fr_ne hq (h.2.1 i hi).1) (h.1 q x hq), fun j hj => ⟨(h.2.1 j hj).1, ?_⟩, h.2.2⟩
  by_cases q : A j = A i
  · exact ⟨e, by rw [q]; exact wset_eq _ _ _⟩
  · obtain ⟨x, hx⟩ := (h.2.1 j hj).2
    exact ⟨x, wn q hx⟩
theorem LayA.blk (h : LayA fr n A w) {m : Nat} {E : Nat → Nat} {w2 : Wd} (hs : ∀ q e, w q = some e → w2 q = some e) (hn : ∀ j, j < m → w (E j) = none ∧ ∃ e, w2 (E j) = some e) (hi : ∀ i j, i < m → j < m → E i = E j → i = j) : LayA fr (n + m) (fun i => if i < n then A i else E (i - n)) w2 := by
  refine ⟨fun q e hq => hs q e (h.1 q e hq), fun i hi => ?_, fun i j h1 h2 e => ?_⟩
  · by_cases q : i < n
    · show fr (if i < n then A i else E (i - n)) = none ∧ ∃ e, w2 (if i < n then A i else E (i - n)) = some e
      rw [if_pos q]
      obtain ⟨x, hx⟩ := (h.2.1 i q).2
      exact ⟨(h.2.1 i q).1, x, hs _ _ hx⟩
    · show fr (if i < n then A i else E (i - n)) = none ∧ ∃ e, w2 (if i < n then A i else E (i - n)) = some e
      rw [if_neg q]
      obtain ⟨h1, h2⟩ := hn (i - n) (by omega)
      refine ⟨?_, h2⟩
      cases hf : fr (E (i - n)) with
      | none => rfl
      | some x => rw [h.1 _ _ hf] at h1; cases h1
  · have e : (if i < n then A i else E (i - n)) = (if j < n then A j else E (j - n)) := e
    have no : ∀ i j, i < n → ¬ j < n → j < n + m → A i ≠ E (j - n) := fun i j a b c z => by
      obtain ⟨x, hx⟩ := (h.2.1 i a).2
      rw [z, (hn (j - n) (by omega)).1] at hx
      cases hx
    by_cases q1 : i < n
    · rw [if_pos q1] at e
      by_cases q2 : j < n
      · rw [if_pos q2] at e; exact h.2.2 i j q1 q2 e
      · rw [if_neg q2] at e; exact absurd e (no i j q1 q2 h2)
    · rw [if_neg q1] at e
      by_cases q2 : j < n
      · rw [if_pos q2] at e; exact absurd e.symm (no j i q2 q1 h1)
      · rw [if_neg q2] at e
        have := hi _ _ (by omega) (by omega) e
        omega
theorem LayA.new (h : LayA fr n A w) {q : Nat} (hq : w q = none) (e : PE) : LayA fr (n + 1) (fun i => if i < n then A i else q) (wset w q e) :=
  h.blk (E := fun _ => q) (fun p x hx => wn (fr_ne hx hq) hx) (fun j _ => ⟨hq, e, wset_eq _ _ _⟩) (fun i j hi hj _ => by omega)
/-- what is read where something has been written -/
theorem LayA.rd (h : LayA fr n A w) {i j : Nat} (hi : i < n) (hj : j < n) (e : i ≠ j) {x : PE} {y : Option PE} (hx : w (A i) = y) : wset w (A j) x (A i) = y := wn (h.ne hi hj e) hx
theorem LayA.nn (h : LayA fr n A w) {i q : Nat} (hi : i < n) (hq : w q = none) : A i ≠ q := fun z => by
  obtain ⟨x, hx⟩ := (h.2.1 i hi).2
  rw [z, hq] at hx
  cases hx
end LA
abbrev z6 : Ss := (0, 0, 0, 0, 0, 0)
section IN
variable {G : GG} {l : Launch} {fr w : Wd} {mc ms : Nat}
theorem c_init2 {a : Nat} {Q : Wd → Prop} (hf : ∀ q e, fr q = some e → w q = some e) (ha : fr a = none) (ho : w a = some (.inl (1, [.null, .null, .null, .int 0]))) (hc : 3 ≤ mc) (hs : 48 ≤ ms) (hq : ∀ D w2, D 0 = a → DeskW fr D [] 16 w2 → Q w2) : CX2_init G l mc ms [.ref a] w Q := by
  refine sX2_init (bX2_init_0 (by decide) rfl (by decide) (by omega) (by show 0 + 16 ≤ ms; omega) (fun q1 n1 => ?_))
  have l0 := LayA.one hf ha ho
  have m1 := l0.nn (i := 0) (by omega) n1
  have l1 := l0.new n1 (.inr (0, 16, (ntag 0).2.2.2))
  refine bX2_init_9 (f2 := [.ref q1, .null, .null, .int 0]) (wn m1 ho) (Nat.le_of_ble_eq_true rfl) rfl (by decide) rfl (by decide) (by omega) (by show 0 + 16 + 16 ≤ ms; omega) (fun q2 n2 => ?_)
  have l2 := l1.set (i := 0) (by omega) (.inl (1, [.ref q1, .null, .null, .int 0]))
  have m2 := fun {i : Nat} (hi : i < 2) => l2.nn hi n2
  have l3 := l2.new n2 (.inr (0, 16, (ntag 0).2.2.2))
  refine bX2_init_17 (f2 := [.ref q1, .ref q2, .null, .int 0]) (wn (m2 (i := 0) (by omega)) (wset_eq _ _ _)) (Nat.le_of_ble_eq_true rfl) rfl (by decide) rfl (by decide) (by omega) (by show 0 + 16 + 16 + 16 ≤ ms; omega) (fun q3 n3 => ?_)
  have l4 := l3.set (i := 0) (by omega) (.inl (1, [.ref q1, .ref q2, .null, .int 0]))
  have m3 := fun {i : Nat} (hi : i < 3) => l4.nn hi n3
  have l5 := l4.new n3 (.inr (0, 16, (ntag 0).2.2.2))
  refine bX2_init_25 (f2 := [.ref q1, .ref q2, .ref q3, .int 0]) (f4 := [.ref q1, .ref q2, .ref q3, .int 0]) (wn (m3 (i := 0) (by omega)) (wset_eq _ _ _)) (Nat.le_of_ble_eq_true rfl) rfl (wset_eq _ _ _) (Nat.le_of_ble_eq_true rfl) rfl ?_ (by omega) (by show 0 + 16 + 16 + 16 ≤ ms; omega)
  have l6 := (l5.set (i := 0) (by omega) (.inl (1, [.ref q1, .ref q2, .ref q3, .int 0]))).set (i := 0) (by omega) (.inl (1, [.ref q1, .ref q2, .ref q3, .int 0]))
  have a1 : q1 ≠ a := m1.symm
  have a2 : q2 ≠ a := (m2 (i := 0) (by omega)).symm
  have a3 : q3 ≠ a := (m3 (i := 0) (by omega)).symm
  have b2 : q1 ≠ q2 := m2 (i := 1) (by omega)
  have b3 : q1 ≠ q3 := m3 (i := 1) (by omega)
  have d3 : q2 ≠ q3 := m3 (i := 2) (by omega)
  refine hq _ _ ?_ ⟨l6.1, fun i hi => (l6.2.1 i hi).1, l6.2.2, wset_eq _ _ _, ⟨fun _ => 0, ?_, fun i hi => absurd hi (Nat.not_lt_zero _)⟩, ⟨fun _ => 0, ?_, fun i hi => absurd hi (Nat.not_lt_zero _)⟩, ⟨fun _ => 0, ?_, fun i hi => absurd hi (Nat.not_lt_zero _)⟩, Nat.zero_le _, Nat.le_refl _, by decide⟩
  · rfl
  · exact wn a1 (wn a1 (wn b3 (wn a1 (wn b2 (wn a1 (wset_eq _ _ _))))))
  · exact wn a2 (wn a2 (wn d3 (wn a2 (wset_eq _ _ _))))
  · exact wn a3 (wn a3 (wset_eq _ _ _))
theorem c_init4 {a : Nat} {Q : Wd → Prop} (hf : ∀ q e, fr q = some e → w q = some e) (ha : fr a = none) (ho : w a = some (.inl (3, [.null, .int 0, .int 0, .int 0, .int 0, .null]))) (hc : 2 ≤ mc) (hs : 125 ≤ ms) (hq : ∀ E w2, E 0 = a → TxW fr E (fun _ => 0) 0 0 (-1) 0 (fun _ => 0) w2 → Q w2) : CX4_init G l mc ms [.ref a] w Q := by
  refine sX4_init (bX4_init_0 (by decide) rfl (by decide) (by omega) (by show 0 + 120 ≤ ms; omega) (fun q1 n1 => ?_))
  have l0 := LayA.one hf ha ho
  have m1 := l0.nn (i := 0) (by omega) n1
  have l1 := l0.new n1 (.inr (0, 120, (ntag 0).2.2.2))
  refine bX4_init_9 (f2 := [.ref q1, .int 0, .int 0, .int 0, .int 0, .null]) (f4 := [.ref q1, .int 0, .int 0, .int 0, .int 0, .null]) (f5 := [.ref q1, .int 0, .int 0, .int 0, .int 0, .null]) (f6 := [.ref q1, .int 0, .int 0, .int (-1), .int 0, .null]) (f7 := [.ref q1, .int 0, .int 0, .int (-1), .int 0, .null]) (wn m1 ho) (Nat.le_of_ble_eq_true rfl) rfl (wset_eq _ _ _) (Nat.le_of_ble_eq_true rfl) rfl (Nat.le_of_ble_eq_true rfl) rfl (Nat.le_of_ble_eq_true rfl) rfl (Nat.le_of_ble_eq_true rfl) rfl (by decide) rfl (by decide) (by omega) (by show 0 + 120 + 5 ≤ ms; omega) (fun q2 n2 => ?_)
  rw [wset_wset, wset_wset, wset_wset, wset_wset] at n2 ⊢
  have l2 := l1.set (i := 0) (by omega) (.inl (3, [.ref q1, .int 0, .int 0, .int (-1), .int 0, .null]))
  have m2 := fun {i : Nat} (hi : i < 2) => l2.nn hi n2
  have l3 := l2.new n2 (.inr (0, 5, (ntag 0).2.2.2))
  refine bX4_init_36 (f2 := [.ref q1, .int 0, .int 0, .int (-1), .int 0, .ref q2]) (wn (m2 (i := 0) (by omega)) (wset_eq _ _ _)) (Nat.le_of_ble_eq_true rfl) rfl ?_ (by omega) (by show 0 + 120 + 5 ≤ ms; omega)
  have l4 := l3.set (i := 0) (by omega) (.inl (3, [.ref q1, .int 0, .int 0, .int (-1), .int 0, .ref q2]))
  have a1 : q1 ≠ a := m1.symm
  have a2 : q2 ≠ a := (m2 (i := 0) (by omega)).symm
  have b2 : q1 ≠ q2 := m2 (i := 1) (by omega)
  refine hq _ _ ?_ ⟨l4.1, fun i hi => (l4.2.1 i hi).1, ⟨l4.ne (by omega) (by omega) (by omega), l4.ne (by omega) (by omega) (by omega), l4.ne (by omega) (by omega) (by omega)⟩, wset_eq _ _ _, ⟨fun _ => 0, ?_, fun i hi => absurd hi (Nat.not_lt_zero _)⟩, ?_, Nat.zero_le _⟩
  · rfl
  · exact wn a1 (wn b2 (wn a1 (wset_eq _ _ _)))
  · exact wn a2 (wset_eq _ _ _)
end IN
