/-! THE CLASS'S CONSTRUCTOR, to its end -/
abbrev obs (t c0 c1 sv bl rm : Value) : List Value := [t, c0, c1, sv, bl, rm, .int 0]
section I5
variable {G : GG} {l : Launch} {fr w : Wd} {mc ms : Nat}
theorem c_new0 {q : Nat} (nq : w q = none) : CX0_init G l 25 186 [.ref q] (wset w q (.inl (0, ob0 .null .null .null .null .null .null))) (fun w2 => ∃ E, E 0 = q ∧ CalW w E calN 16 w2) := c_init0 (fr := w) (fun p x hx => wn (fr_ne hx nq) hx) nq (wset_eq _ _ _) (Nat.le_refl _) (Nat.le_refl _) (fun E w2 eE hE => ⟨E, eE, hE⟩)
theorem fr_sub {w w2 : Wd} {q : Nat} (hs : ∀ q e, w q = some e → w2 q = some e) (hq : w2 q = none) : w q = none := by
  cases h : w q with
  | none => rfl
  | some x => rw [hs _ _ h] at hq; cases hq
theorem c_init5 {s : Nat} {Q : Wd → Prop} (hf : ∀ q e, fr q = some e → w q = some e) (hs : fr s = none) (ho : w s = some (.inl (4, obs .null .null .null .null .null .null))) (hc : 474 ≤ mc) (hm : 3731 ≤ ms) (hq : ∀ w2, StW fr s y00 w2 → Q w2) : CX5_init G l mc ms [.ref s] w Q := by
  refine sX5_init (bX5_init_0 (by omega) (by omega) (fun q1 n1 => ?_))
  have l0 := LayA.one hf hs ho
  refine bX5_init_8 (mcq := 2) (msq := 125) (Qc := fun w2 => ∃ E, E 0 = q1 ∧ TxW w E (fun _ => 0) 0 0 (-1) 0 (fun _ => 0) w2) (c_init4 (fr := w) (fun p x hx => wn (fr_ne hx n1) hx) n1 (wset_eq _ _ _) (Nat.le_refl _) (Nat.le_refl _) (fun E w2 eE hE => ⟨E, eE, hE⟩)) (by omega) (by omega) (fun w2 hw2 => ?_)
  obtain ⟨E, eE, hE⟩ := hw2
  obtain ⟨x1, x2, ⟨y1, y2, y3⟩, x3, x4, x5, x6⟩ := id hE
  have l1 := l0.blk (m := 3) (E := E) x1 (fun j hj => ⟨x2 j hj, by
    have : j = 0 ∨ j = 1 ∨ j = 2 := by omega
    rcases this with rfl | rfl | rfl
    · exact ⟨_, x3⟩
    · obtain ⟨g, e, -⟩ := x4; exact ⟨_, e⟩
    · exact ⟨_, x5⟩⟩) (fun i j hi hj e => by
    have a1 : i = 0 ∨ i = 1 ∨ i = 2 := by omega
    have a2 : j = 0 ∨ j = 1 ∨ j = 2 := by omega
    rcases a1 with rfl | rfl | rfl <;> rcases a2 with rfl | rfl | rfl <;> (first | rfl | exact absurd e y1 | exact absurd e y2 | exact absurd e y3 | exact absurd e.symm y1 | exact absurd e.symm y2 | exact absurd e.symm y3))
  have t0 : TxIn w2 E (fun _ => 0) 0 := ⟨0, -1, 0, fun _ => 0, x3, x4, x5, x6⟩
  have h1 : IS fr s 4 0 (obs .null .null .null .null .null .null) _ w2 := ⟨l1, rfl, x1 _ _ ho, by omega, t0.cgA (fun i hi => by
    show (if 1 + i < 1 then s else E (1 + i - 1)) = E i
    rw [if_neg (by omega), Nat.add_sub_cancel_left]) (fun i hi => rfl), fun j hj => absurd hj (Nat.not_lt_zero _)⟩
  refine bX5_init_12 (f2 := obs (.ref q1) .null .null .null .null .null) h1.o (Nat.le_of_ble_eq_true rfl) rfl (by omega) (by omega) (fun q3 n3 => ?_)
  have h2 := h1.obj (obs (.ref q1) .null .null .null .null .null)
  refine bX5_init_19 (c_new0 n3) (by omega) (by omega) (fun w4 hw4 => ?_)
  obtain ⟨E0, eE0, hE0⟩ := hw4
  have h3 := h2.cal (b := 0) rfl hE0
  refine bX5_init_23 (f2 := obs (.ref q1) (.ref q3) .null .null .null .null) h3.o (Nat.le_of_ble_eq_true rfl) rfl (by omega) (by omega) (fun q4 n4 => ?_)
  have h4 := h3.obj (obs (.ref q1) (.ref q3) .null .null .null .null)
  refine bX5_init_30 (c_new0 n4) (by omega) (by omega) (fun w5 hw5 => ?_)
  obtain ⟨E1, eE1, hE1⟩ := hw5
  have h5 := h4.cal (b := 1) rfl hE1
  refine bX5_init_34 (f2 := obs (.ref q1) (.ref q3) (.ref q4) .null .null .null) h5.o (Nat.le_of_ble_eq_true rfl) rfl (by decide) rfl (by decide) (by omega) (by show _ + 2 ≤ ms; omega) (fun q5 n5 => ?_)
  have h6 := (h5.obj (obs (.ref q1) (.ref q3) (.ref q4) .null .null .null)).new n5 (.inr (1, 2, (ntag 1).2.2.2))
  refine bX5_init_41 (f2 := obs (.ref q1) (.ref q3) (.ref q4) .null (.ref q5) .null) h6.o (Nat.le_of_ble_eq_true rfl) rfl (by decide) rfl (by decide) (by omega) (by show _ + 2 + 2 ≤ ms; omega) (fun q6 n6 => ?_)
  have h7 := (h6.obj (obs (.ref q1) (.ref q3) (.ref q4) .null (.ref q5) .null)).new n6 (qrow 3 2 (fun _ => none))
  refine bX5_init_49 (f2 := obs (.ref q1) (.ref q3) (.ref q4) (.ref q6) (.ref q5) .null) h7.o (Nat.le_of_ble_eq_true rfl) rfl ?_
  have h8 := h7.obj (obs (.ref q1) (.ref q3) (.ref q4) (.ref q6) (.ref q5) .null)
  have s5 : q5 ≠ s := fun z => by
    have := h5.o
    rw [← z] at this
    have n5 := (wset_none n5).1
    exact n5 z
  have s6 : q6 ≠ s := fun z => (wset_none n6).1 z
  have n56 : q5 ≠ q6 := fun z => by
    have := (wset_none n6).2
    rw [← z] at this
    rw [wset_eq] at this; cases this
  have st1 : ∃ A, IS fr s (58 + 26 * 0) (2 + 0) (obs (.ref q1) (.ref q3) (.ref q4) (.ref q6) (.ref q5) .null) A (wset (wset (wset (wset (wset (wset w5 s (.inl (4, obs (.ref q1) (.ref q3) (.ref q4) .null .null .null))) q5 (.inr (1, 2, (ntag 1).2.2.2))) s (.inl (4, obs (.ref q1) (.ref q3) (.ref q4) .null (.ref q5) .null))) q6 (qrow 3 2 (fun _ => none))) s (.inl (4, obs (.ref q1) (.ref q3) (.ref q4) (.ref q6) (.ref q5) .null))) s (.inl (4, obs (.ref q1) (.ref q3) (.ref q4) (.ref q6) (.ref q5) .null))) ∧ (A 1 = q1 ∧ A 4 = q3 ∧ A 30 = q4 ∧ A 56 = q5 ∧ A 57 = q6) := ⟨_, h8.obj (obs (.ref q1) (.ref q3) (.ref q4) (.ref q6) (.ref q5) .null), eE, eE0, eE1, rfl, rfl⟩
  rw [wset_wset] at st1
  obtain ⟨A8, h9, f1, f4, f30, f56, f57⟩ := st1
  have r5 : wset (wset (wset (wset (wset w5 s (.inl (4, obs (.ref q1) (.ref q3) (.ref q4) .null .null .null))) q5 (.inr (1, 2, (ntag 1).2.2.2))) s (.inl (4, obs (.ref q1) (.ref q3) (.ref q4) .null (.ref q5) .null))) q6 (qrow 3 2 (fun _ => none))) s (.inl (4, obs (.ref q1) (.ref q3) (.ref q4) (.ref q6) (.ref q5) .null)) q5 = some (brow 2 (fun _ => 0)) := wn s5 (wn n56 (wn s5 (wset_eq _ _ _)))
  have r6 : wset (wset (wset (wset (wset w5 s (.inl (4, obs (.ref q1) (.ref q3) (.ref q4) .null .null .null))) q5 (.inr (1, 2, (ntag 1).2.2.2))) s (.inl (4, obs (.ref q1) (.ref q3) (.ref q4) .null (.ref q5) .null))) q6 (qrow 3 2 (fun _ => none))) s (.inl (4, obs (.ref q1) (.ref q3) (.ref q4) (.ref q6) (.ref q5) .null)) q6 = some (qrow 3 2 (fun _ => none)) := wn s6 (wset_eq _ _ _)
  clear h1 h2 h3 h4 h5 h6 h7 h8 n5 n6 n3 n4 hE0 hE1 hE t0 l1 l0 x1 x2 x3 x4 x5 x6 y1 y2 y3 ho hf
  -- the last: the finished object
  have fin : ∀ (A : Nat → Nat) (w1 : Wd) (q7 : Nat), IS fr s 475 18 (obs (.ref q1) (.ref q3) (.ref q4) (.ref q6) (.ref q5) (.ref q7)) A w1 → A 1 = q1 → A 4 = q3 → A 30 = q4 → A 56 = q5 → A 57 = q6 → A 110 = q7 → w1 q5 = some (brow 2 (fun _ => 0)) → (∃ g, w1 q6 = some (qrow 3 2 g) ∧ ∀ k, k < 2 → g k = some (A (58 + 26 * k))) → (∃ g, w1 q7 = some (qrow 3 14 g) ∧ ∀ k, k < 14 → g k = some (A (111 + 26 * k))) → StW fr s y00 w1 := by
    intro A w1 q7 h f1 f4 f30 f56 f57 f110 r5 r6 r7
    obtain ⟨lay, e0, o, h4, t, c⟩ := h
    refine ⟨fun j i => A (ps j i), fun _ => calN, fun _ => 16, e0, ⟨lay.1, fun j i hj hi => (lay.2.1 _ (ps_b hj hi)).1, fun j i j' i' hj hi hj' hi' e => ps_i hj hi hj' hi' (lay.2.2 _ _ (ps_b hj hi) (ps_b hj' hi') e), ?_, ?_, ?_, ?_, t, fun j hj => ?_, Nat.zero_le _⟩, rfl, fun k hk c2 hc2 => (by cases hc2), fun k hk => absurd hk (Nat.not_lt_zero _)⟩
    · show w1 (A 0) = some (.inl (4, [.ref (A 1), .ref (A 4), .ref (A 30), .ref (A 57), .ref (A 56), .ref (A 110), .int (nI 0)]))
      rw [e0, f1, f4, f30, f57, f56, f110]
      exact o
    · obtain ⟨g, e, hg⟩ := r6
      refine ⟨g, ?_, fun k hk => ?_⟩
      · show w1 (A 57) = _
        rw [f57]; exact e
      · show g k = some (A (ps (2 + k) 0))
        rw [ps_c (by omega), cp_2 hk]
        exact hg k hk
    · refine ⟨fun _ => 0, ?_, fun k hk => rfl⟩
      show w1 (A 56) = _
      rw [f56]; exact r5
    · obtain ⟨g, e, hg⟩ := r7
      refine ⟨g, ?_, fun k hk => ?_⟩
      · show w1 (A 110) = _
        rw [f110]; exact e
      · show g k = some (A (ps (4 + k) 0))
        rw [ps_c (by omega), cp_4]
        exact hg k hk
    · obtain ⟨c1, c2, c3⟩ := c j hj
      exact c3.cgA (fun i hi => by show A (ps j i) = A (cp j + i); rw [ps_c hj]) (fun i hi => rfl)
  have key2 : ∀ d i, i + d = 14 → ∀ (A : Nat → Nat) (w1 : Wd) (q7 : Nat), IS fr s (111 + 26 * i) (4 + i) (obs (.ref q1) (.ref q3) (.ref q4) (.ref q6) (.ref q5) (.ref q7)) A w1 → A 1 = q1 → A 4 = q3 → A 30 = q4 → A 56 = q5 → A 57 = q6 → A 110 = q7 → w1 q5 = some (brow 2 (fun _ => 0)) → (∃ g, w1 q6 = some (qrow 3 2 g) ∧ ∀ k, k < 2 → g k = some (A (58 + 26 * k))) → (∃ g, w1 q7 = some (qrow 3 14 g) ∧ ∀ k, k < i → g k = some (A (111 + 26 * k))) → KX5_init G l mc ms w (ZV G mc ms w Q) w1 89 [(0, .ref s), (1, .int (nI i))] [] (110 + 26 * i) (945 + 199 * i) := by
    intro d
    induction d with
    | zero =>
      intro i hi A w1 q7 h f1 f4 f30 f56 f57 f110 r5 r6 r7
      have : i = 14 := by omega
      subst this
      refine bX5_init_89 (fun _ => ?_) (fun z => absurd (by decide) z)
      refine bX5_init_114 (f2 := obs (.ref q1) (.ref q3) (.ref q4) (.ref q6) (.ref q5) (.ref q7)) h.o (Nat.le_of_ble_eq_true rfl) rfl (hq _ (fin A _ q7 (h.obj _) f1 f4 f30 f56 f57 f110 ?_ ?_ ?_)) (by omega) (by omega)
      · refine wn ?_ r5
        intro z; rw [z, h.o] at r5; cases r5
      · obtain ⟨g, e, hg⟩ := r6
        refine ⟨g, wn ?_ e, hg⟩
        intro z; rw [z, h.o] at e; cases e
      · obtain ⟨g, e, hg⟩ := r7
        refine ⟨g, wn ?_ e, hg⟩
        intro z; rw [z, h.o] at e; cases e
    | succ d ih =>
      intro i hi A w1 q7 h f1 f4 f30 f56 f57 f110 r5 r6 r7
      obtain ⟨g6, e6, hg6⟩ := r6
      obtain ⟨g7, e7, hg7⟩ := r7
      refine bX5_init_89 (fun z => absurd z (nI_ge (b := 14) (by omega) (by decide))) (fun _ => ?_)
      refine bX5_init_95 h.o rfl (by omega) (by omega) (fun q nq => ?_)
      refine bX5_init_103 (c_new0 nq) (by omega) (by omega) (fun w3 hw3 => ?_)
      obtain ⟨E, eE, hE⟩ := hw3
      have h2 := h.cal (by rw [cp_4]) hE
      have up : ∀ m x, m < 111 + 26 * i → A m = x → (if m < 111 + 26 * i then A m else E (m - (111 + 26 * i))) = x := fun m x hm hx => by rw [if_pos hm]; exact hx
      have h3 := h2.put (m := 110) (a := q7) (by omega) (by omega) (up 110 _ (by omega) f110) (fun j hj => by have := cp_b (j := j) (by omega); omega) (qrow 3 14 (va_up g7 i (some q)))
      have u57 : q5 ≠ q7 := by
        intro z
        rw [← f56, ← f110] at z
        exact absurd (h.1.2.2 56 110 (by omega) (by omega) z) (by decide)
      have u67 : q6 ≠ q7 := by
        intro z
        rw [← f57, ← f110] at z
        exact absurd (h.1.2.2 57 110 (by omega) (by omega) z) (by decide)
      refine bX5_init_107 (hE.f e7) (ix_of rfl (by omega) (by decide)) (by rw [← eE]; exact hE.i.o) ?_
      rw [nI_1, nI_clamp (by omega), show 110 + 26 * i + 1 + 25 = 110 + 26 * (i + 1) by omega, show 945 + 199 * i + 13 + 186 = 945 + 199 * (i + 1) by omega]
      refine ih (i + 1) (by omega) (fun m => if m < 111 + 26 * i then A m else E (m - (111 + 26 * i))) _ q7 (by
        have e1 : 111 + 26 * (i + 1) = 111 + 26 * i + 26 := by omega
        rw [e1]; exact h3) (up 1 _ (by omega) f1) (up 4 _ (by omega) f4) (up 30 _ (by omega) f30) (up 56 _ (by omega) f56) (up 57 _ (by omega) f57) (up 110 _ (by omega) f110) (wn u57 (hE.f r5)) ⟨g6, wn u67 (hE.f e6), fun k hk => ?_⟩ ⟨va_up g7 i (some q), wset_eq _ _ _, fun k hk => ?_⟩
      · rw [if_pos (by omega)]; exact hg6 k hk
      · unfold va_up
        by_cases z : k = i
        · subst z
          rw [if_pos rfl, if_neg (by omega), Nat.sub_self, eE]
        · rw [if_neg z, if_pos (by omega)]; exact hg7 k (by omega)
  have key1 : ∀ d i, i + d = 2 → ∀ (A : Nat → Nat) (w1 : Wd), IS fr s (58 + 26 * i) (2 + i) (obs (.ref q1) (.ref q3) (.ref q4) (.ref q6) (.ref q5) .null) A w1 → A 1 = q1 → A 4 = q3 → A 30 = q4 → A 56 = q5 → A 57 = q6 → w1 q5 = some (brow 2 (fun _ => 0)) → (∃ g, w1 q6 = some (qrow 3 2 g) ∧ ∀ k, k < i → g k = some (A (58 + 26 * k))) → KX5_init G l mc ms w (ZV G mc ms w Q) w1 54 [(0, .ref s), (1, .int (nI i))] [] (57 + 26 * i) (533 + 199 * i) := by
    intro d
    induction d with
    | zero =>
      intro i hi A w1 h f1 f4 f30 f56 f57 r5 r6
      have : i = 2 := by omega
      subst this
      obtain ⟨g6, e6, hg6⟩ := r6
      refine bX5_init_54 (fun _ => ?_) (fun z => absurd (by decide) z)
      refine bX5_init_78 (by decide) rfl (by decide) (by omega) (by show 533 + 199 * 2 + 14 ≤ ms; omega) (fun q7 n7 => ?_)
      have h2 := h.new n7 (qrow 3 14 (fun _ => none))
      have h3 := h2.obj (obs (.ref q1) (.ref q3) (.ref q4) (.ref q6) (.ref q5) (.ref q7))
      have k0 : s ≠ q7 := fun z => by rw [← z, h.o] at n7; cases n7
      have k5 : q5 ≠ q7 := fun z => by rw [← z, r5] at n7; cases n7
      have k6 : q6 ≠ q7 := fun z => by rw [← z, e6] at n7; cases n7
      have j5 : q5 ≠ s := fun z => by rw [z, h.o] at r5; cases r5
      have j6 : q6 ≠ s := fun z => by rw [z, h.o] at e6; cases e6
      refine bX5_init_84 (f2 := obs (.ref q1) (.ref q3) (.ref q4) (.ref q6) (.ref q5) (.ref q7)) (wn k0 h.o) (Nat.le_of_ble_eq_true rfl) rfl ?_
      have up : ∀ m x, m < 110 → A m = x → (if m < 58 + 26 * 2 then A m else q7) = x := fun m x hm hx => by rw [if_pos (by omega)]; exact hx
      exact key2 14 0 rfl _ _ q7 h3 (up 1 _ (by omega) f1) (up 4 _ (by omega) f4) (up 30 _ (by omega) f30) (up 56 _ (by omega) f56) (up 57 _ (by omega) f57) rfl (wn j5 (wn k5 r5)) ⟨g6, wn j6 (wn k6 e6), fun k hk => by show g6 k = some (if 58 + 26 * k < 58 + 26 * 2 then A (58 + 26 * k) else q7); rw [if_pos (by omega)]; exact hg6 k hk⟩ ⟨fun _ => none, wn k0.symm (wset_eq _ _ _), fun k hk => absurd hk (Nat.not_lt_zero _)⟩
    | succ d ih =>
      intro i hi A w1 h f1 f4 f30 f56 f57 r5 r6
      obtain ⟨g6, e6, hg6⟩ := r6
      refine bX5_init_54 (fun z => absurd z (nI_ge (b := 2) (by omega) (by decide))) (fun _ => ?_)
      refine bX5_init_59 h.o rfl (by omega) (by omega) (fun q nq => ?_)
      refine bX5_init_67 (c_new0 nq) (by omega) (by omega) (fun w3 hw3 => ?_)
      obtain ⟨E, eE, hE⟩ := hw3
      have h2 := h.cal (by rw [cp_2 (by omega)]) hE
      have up : ∀ m x, m < 58 + 26 * i → A m = x → (if m < 58 + 26 * i then A m else E (m - (58 + 26 * i))) = x := fun m x hm hx => by rw [if_pos hm]; exact hx
      have h3 := h2.put (m := 57) (a := q6) (by omega) (by omega) (up 57 _ (by omega) f57) (fun j hj => by have := cp_b (j := j) (by omega); omega) (qrow 3 2 (va_up g6 i (some q)))
      have u56 : q5 ≠ q6 := by
        intro z
        rw [← f56, ← f57] at z
        exact absurd (h.1.2.2 56 57 (by omega) (by omega) z) (by decide)
      refine bX5_init_71 (hE.f e6) (ix_of rfl (by omega) (by decide)) (by rw [← eE]; exact hE.i.o) ?_
      rw [nI_1, nI_clamp (by omega), show 57 + 26 * i + 1 + 25 = 57 + 26 * (i + 1) by omega, show 533 + 199 * i + 13 + 186 = 533 + 199 * (i + 1) by omega]
      refine ih (i + 1) (by omega) (fun m => if m < 58 + 26 * i then A m else E (m - (58 + 26 * i))) _ (by
        have e1 : 58 + 26 * (i + 1) = 58 + 26 * i + 26 := by omega
        rw [e1]; exact h3) (up 1 _ (by omega) f1) (up 4 _ (by omega) f4) (up 30 _ (by omega) f30) (up 56 _ (by omega) f56) (up 57 _ (by omega) f57) (wn u56 (hE.f r5)) ⟨va_up g6 i (some q), wset_eq _ _ _, fun k hk => ?_⟩
      unfold va_up
      by_cases z : k = i
      · subst z
        rw [if_pos rfl, if_neg (by omega), Nat.sub_self, eE]
      · rw [if_neg z, if_pos (by omega)]; exact hg6 k (by omega)
  exact key1 2 0 rfl A8 _ h9 f1 f4 f30 f56 f57 r5 ⟨fun _ => none, r6, fun k hk => absurd hk (Nat.not_lt_zero _)⟩
end I5
