/-! THE MODEL'S CONSTRUCTOR -/
theorem wset_none {w : Wd} {a q : Nat} {e : PE} (h : wset w a e q = none) : q ≠ a ∧ w q = none := by
  by_cases z : q = a
  · subst z; rw [wset_eq] at h; cases h
  · exact ⟨z, by rwa [wset_ne _ _ z] at h⟩
theorem wn_iff {w : Wd} {a q : Nat} {e : PE} : wset w a e q = none ↔ ¬ q = a ∧ w q = none := ⟨wset_none, fun h => (wset_ne _ _ h.1).trans h.2⟩
/-- the first k fields of the model's object are laid -/
def mk0 (q : Nat → Nat) (k : Nat) : List Value := [.int 0, if 1 ≤ k then .ref (q 1) else .null, .int 0, if 2 ≤ k then .ref (q 2) else .null, if 3 ≤ k then .ref (q 3) else .null, if 4 ≤ k then .ref (q 4) else .null, .int 0, if 5 ≤ k then .ref (q 5) else .null, if 6 ≤ k then .ref (q 6) else .null, if 7 ≤ k then .ref (q 7) else .null, if 8 ≤ k then .ref (q 8) else .null, if 9 ≤ k then .ref (q 9) else .null, if 10 ≤ k then .ref (q 10) else .null, .int 0, .int 0]
def y00 : Sy := (fun _ => 0, 0, calN, [], fun _ => none)
def ad11 (m q1 q2 q3 q4 q5 q6 q7 q8 q9 q10 : Nat) : Nat → Nat
  | 0 => m | 1 => q1 | 2 => q2 | 3 => q3 | 4 => q4 | 5 => q5 | 6 => q6 | 7 => q7 | 8 => q8 | 9 => q9 | _ => q10
section CT
variable {G : GG} {l : Launch} {w : Wd}
theorem c_init6 {m : Nat} {mc ms : Nat} {Q : Wd → Prop} (hm : w m = some (.inl (5, [.int 0, .null, .int 0, .null, .null, .null, .int 0, .null, .null, .null, .null, .null, .null, .int 0, .int 0]))) (hc : 10 ≤ mc) (hs : 37032 ≤ ms) (hq : ∀ A w2, Inj A → A 0 = m → (∀ i, 0 < i → i < 11 → w (A i) = none) → MW w A 0 y00 w2 → Q w2) : CX6_init G l mc ms [.ref m] w Q := by
  refine sX6_init (bX6_init_0 (by decide) rfl (by decide) (by omega) (by show 0 + 120 ≤ ms; omega) (fun q1 n1 => ?_))
  obtain m1 : q1 ≠ m := fun e => by rw [e, hm] at n1; cases n1
  refine bX6_init_9 ((wset_ne _ _ m1.symm).trans hm) (by decide) rfl (by decide) rfl (by decide) (by omega) (by show 0 + 120 + 2047 ≤ ms; omega) (fun q2 n2 => ?_)
  refine bX6_init_18 ((wset_ne _ _ (wset_none n2).1.symm).trans (wset_eq _ _ _)) (Nat.le_of_ble_eq_true rfl) rfl (by decide) rfl (by decide) (by omega) (by show 0 + 120 + 2047 + 2047 ≤ ms; omega) (fun q3 n3 => ?_)
  refine bX6_init_27 ((wset_ne _ _ (wset_none n3).1.symm).trans (wset_eq _ _ _)) (Nat.le_of_ble_eq_true rfl) rfl (by decide) rfl (by decide) (by omega) (by show 0 + 120 + 2047 + 2047 + 28658 ≤ ms; omega) (fun q4 n4 => ?_)
  refine bX6_init_36 ((wset_ne _ _ (wset_none n4).1.symm).trans (wset_eq _ _ _)) (Nat.le_of_ble_eq_true rfl) rfl (by decide) rfl (by decide) (by omega) (by show 0 + 120 + 2047 + 2047 + 28658 + 4094 ≤ ms; omega) (fun q5 n5 => ?_)
  refine bX6_init_45 ((wset_ne _ _ (wset_none n5).1.symm).trans (wset_eq _ _ _)) (Nat.le_of_ble_eq_true rfl) rfl (by decide) rfl (by decide) (by omega) (by show 0 + 120 + 2047 + 2047 + 28658 + 4094 + 2 ≤ ms; omega) (fun q6 n6 => ?_)
  refine bX6_init_52 ((wset_ne _ _ (wset_none n6).1.symm).trans (wset_eq _ _ _)) (Nat.le_of_ble_eq_true rfl) rfl (by decide) rfl (by decide) (by omega) (by show 0 + 120 + 2047 + 2047 + 28658 + 4094 + 2 + 16 ≤ ms; omega) (fun q7 n7 => ?_)
  refine bX6_init_60 ((wset_ne _ _ (wset_none n7).1.symm).trans (wset_eq _ _ _)) (Nat.le_of_ble_eq_true rfl) rfl (by decide) rfl (by decide) (by omega) (by show 0 + 120 + 2047 + 2047 + 28658 + 4094 + 2 + 16 + 16 ≤ ms; omega) (fun q8 n8 => ?_)
  refine bX6_init_68 ((wset_ne _ _ (wset_none n8).1.symm).trans (wset_eq _ _ _)) (Nat.le_of_ble_eq_true rfl) rfl (by decide) rfl (by decide) (by omega) (by show 0 + 120 + 2047 + 2047 + 28658 + 4094 + 2 + 16 + 16 + 16 ≤ ms; omega) (fun q9 n9 => ?_)
  refine bX6_init_76 ((wset_ne _ _ (wset_none n9).1.symm).trans (wset_eq _ _ _)) (Nat.le_of_ble_eq_true rfl) rfl (by decide) rfl (by decide) (by omega) (by show 0 + 120 + 2047 + 2047 + 28658 + 4094 + 2 + 16 + 16 + 16 + 16 ≤ ms; omega) (fun q10 n10 => ?_)
  simp only [wn_iff] at n2 n3 n4 n5 n6 n7 n8 n9 n10
  obtain ⟨h2m, h2_1, v2⟩ := n2
  obtain ⟨h3m, h3_2, -, h3_1, v3⟩ := n3
  obtain ⟨h4m, h4_3, -, h4_2, -, h4_1, v4⟩ := n4
  obtain ⟨h5m, h5_4, -, h5_3, -, h5_2, -, h5_1, v5⟩ := n5
  obtain ⟨h6m, h6_5, -, h6_4, -, h6_3, -, h6_2, -, h6_1, v6⟩ := n6
  obtain ⟨h7m, h7_6, -, h7_5, -, h7_4, -, h7_3, -, h7_2, -, h7_1, v7⟩ := n7
  obtain ⟨h8m, h8_7, -, h8_6, -, h8_5, -, h8_4, -, h8_3, -, h8_2, -, h8_1, v8⟩ := n8
  obtain ⟨h9m, h9_8, -, h9_7, -, h9_6, -, h9_5, -, h9_4, -, h9_3, -, h9_2, -, h9_1, v9⟩ := n9
  obtain ⟨h10m, h10_9, -, h10_8, -, h10_7, -, h10_6, -, h10_5, -, h10_4, -, h10_3, -, h10_2, -, h10_1, v10⟩ := n10
  refine bX6_init_84 ((wset_ne _ _ (fun e => h10m e.symm)).trans (wset_eq _ _ _)) (Nat.le_of_ble_eq_true rfl) rfl (wset_eq _ _ _) rfl (c_begin (g := fun _ => 0) ?_ (fun g2 hg2 => bX6_init_94 ?_ (Nat.le_trans (Nat.le_of_ble_eq_true rfl) hc) (Nat.le_trans (Nat.le_of_ble_eq_true rfl) hs))) (Nat.le_trans (Nat.le_of_ble_eq_true rfl) hc) (Nat.le_trans (Nat.le_of_ble_eq_true rfl) hs) (fun _ h => h)
  · simp only [wset, h2m, Ne.symm h3_2, Ne.symm h4_2, Ne.symm h5_2, Ne.symm h6_2, Ne.symm h7_2, Ne.symm h8_2, Ne.symm h9_2, Ne.symm h10_2, if_false, if_true]
    rfl
  · refine hq (ad11 m q1 q2 q3 q4 q5 q6 q7 q8 q9 q10) _ ?_ rfl ?_ ⟨0, 0, ?_⟩
    · have nd : ([m, q1, q2, q3, q4, q5, q6, q7, q8, q9, q10] : List Nat).Nodup := by simp [m1, h2m, h2_1, h3m, h3_2, h3_1, h4m, h4_3, h4_2, h4_1, h5m, h5_4, h5_3, h5_2, h5_1, h6m, h6_5, h6_4, h6_3, h6_2, h6_1, h7m, h7_6, h7_5, h7_4, h7_3, h7_2, h7_1, h8m, h8_7, h8_6, h8_5, h8_4, h8_3, h8_2, h8_1, h9m, h9_8, h9_7, h9_6, h9_5, h9_4, h9_3, h9_2, h9_1, h10m, h10_9, h10_8, h10_7, h10_6, h10_5, h10_4, h10_3, h10_2, h10_1, Ne.symm m1, Ne.symm h2m, Ne.symm h2_1, Ne.symm h3m, Ne.symm h3_2, Ne.symm h3_1, Ne.symm h4m, Ne.symm h4_3, Ne.symm h4_2, Ne.symm h4_1, Ne.symm h5m, Ne.symm h5_4, Ne.symm h5_3, Ne.symm h5_2, Ne.symm h5_1, Ne.symm h6m, Ne.symm h6_5, Ne.symm h6_4, Ne.symm h6_3, Ne.symm h6_2, Ne.symm h6_1, Ne.symm h7m, Ne.symm h7_6, Ne.symm h7_5, Ne.symm h7_4, Ne.symm h7_3, Ne.symm h7_2, Ne.symm h7_1, Ne.symm h8m, Ne.symm h8_7, Ne.symm h8_6, Ne.symm h8_5, Ne.symm h8_4, Ne.symm h8_3, Ne.symm h8_2, Ne.symm h8_1, Ne.symm h9m, Ne.symm h9_8, Ne.symm h9_7, Ne.symm h9_6, Ne.symm h9_5, Ne.symm h9_4, Ne.symm h9_3, Ne.symm h9_2, Ne.symm h9_1, Ne.symm h10m, Ne.symm h10_9, Ne.symm h10_8, Ne.symm h10_7, Ne.symm h10_6, Ne.symm h10_5, Ne.symm h10_4, Ne.symm h10_3, Ne.symm h10_2, Ne.symm h10_1]
      have eA : ∀ i (h : i < 11), ad11 m q1 q2 q3 q4 q5 q6 q7 q8 q9 q10 i = ([m, q1, q2, q3, q4, q5, q6, q7, q8, q9, q10] : List Nat)[i]'h := fun i h => match i, h with
        | 0, _ => rfl
        | 1, _ => rfl
        | 2, _ => rfl
        | 3, _ => rfl
        | 4, _ => rfl
        | 5, _ => rfl
        | 6, _ => rfl
        | 7, _ => rfl
        | 8, _ => rfl
        | 9, _ => rfl
        | 10, _ => rfl
        | k + 11, h => absurd h (by omega)
      intro i j hi hj e
      rw [eA i hi, eA j hj] at e
      exact (List.getElem_inj nd).mp e
    · intro i h0 h11
      match i, h0, h11 with
      | 1, _, _ => exact n1
      | 2, _, _ => exact v2
      | 3, _, _ => exact v3
      | 4, _, _ => exact v4
      | 5, _, _ => exact v5
      | 6, _, _ => exact v6
      | 7, _, _ => exact v7
      | 8, _, _ => exact v8
      | 9, _, _ => exact v9
      | 10, _, _ => exact v10
      | k + 11, _, h => omega
    · refine ⟨fun a ha => ?_, ?_, ⟨fun _ => 0, ?_, fun i hi => absurd hi (Nat.not_lt_zero _)⟩, ⟨g2, ?_, hg2⟩, ⟨fun _ => 0, ?_, trivial⟩, ⟨fun _ => 0, ?_, fun i hi => absurd hi (Nat.not_lt_zero _)⟩, ⟨fun _ => 0, ?_, fun i _ c hc9 => by cases hc9⟩, ⟨fun _ => 0, ?_, fun i _ => rfl⟩, ⟨fun _ => 0, ?_⟩, ⟨fun _ => 0, ?_⟩, ⟨fun _ => 0, ?_⟩, ⟨fun _ => 0, ?_⟩, Nat.zero_le _, Nat.zero_le _⟩
      · have am : ¬ a = m := ha 0 (by decide)
        have a1 : ¬ a = q1 := ha 1 (by decide)
        have a2 : ¬ a = q2 := ha 2 (by decide)
        have a3 : ¬ a = q3 := ha 3 (by decide)
        have a4 : ¬ a = q4 := ha 4 (by decide)
        have a5 : ¬ a = q5 := ha 5 (by decide)
        have a6 : ¬ a = q6 := ha 6 (by decide)
        have a7 : ¬ a = q7 := ha 7 (by decide)
        have a8 : ¬ a = q8 := ha 8 (by decide)
        have a9 : ¬ a = q9 := ha 9 (by decide)
        have a10 : ¬ a = q10 := ha 10 (by decide)
        simp only [wset, am, a1, a2, a3, a4, a5, a6, a7, a8, a9, a10, if_false]
      · show wset _ _ _ m = _
        simp only [wset, m1, h2m, h2_1, h3m, h3_2, h3_1, h4m, h4_3, h4_2, h4_1, h5m, h5_4, h5_3, h5_2, h5_1, h6m, h6_5, h6_4, h6_3, h6_2, h6_1, h7m, h7_6, h7_5, h7_4, h7_3, h7_2, h7_1, h8m, h8_7, h8_6, h8_5, h8_4, h8_3, h8_2, h8_1, h9m, h9_8, h9_7, h9_6, h9_5, h9_4, h9_3, h9_2, h9_1, h10m, h10_9, h10_8, h10_7, h10_6, h10_5, h10_4, h10_3, h10_2, h10_1, Ne.symm m1, Ne.symm h2m, Ne.symm h2_1, Ne.symm h3m, Ne.symm h3_2, Ne.symm h3_1, Ne.symm h4m, Ne.symm h4_3, Ne.symm h4_2, Ne.symm h4_1, Ne.symm h5m, Ne.symm h5_4, Ne.symm h5_3, Ne.symm h5_2, Ne.symm h5_1, Ne.symm h6m, Ne.symm h6_5, Ne.symm h6_4, Ne.symm h6_3, Ne.symm h6_2, Ne.symm h6_1, Ne.symm h7m, Ne.symm h7_6, Ne.symm h7_5, Ne.symm h7_4, Ne.symm h7_3, Ne.symm h7_2, Ne.symm h7_1, Ne.symm h8m, Ne.symm h8_7, Ne.symm h8_6, Ne.symm h8_5, Ne.symm h8_4, Ne.symm h8_3, Ne.symm h8_2, Ne.symm h8_1, Ne.symm h9m, Ne.symm h9_8, Ne.symm h9_7, Ne.symm h9_6, Ne.symm h9_5, Ne.symm h9_4, Ne.symm h9_3, Ne.symm h9_2, Ne.symm h9_1, Ne.symm h10m, Ne.symm h10_9, Ne.symm h10_8, Ne.symm h10_7, Ne.symm h10_6, Ne.symm h10_5, Ne.symm h10_4, Ne.symm h10_3, Ne.symm h10_2, Ne.symm h10_1, if_false, if_true]
        first | rfl | done
      · show wset _ _ _ q1 = _
        simp only [wset, m1, h2m, h2_1, h3m, h3_2, h3_1, h4m, h4_3, h4_2, h4_1, h5m, h5_4, h5_3, h5_2, h5_1, h6m, h6_5, h6_4, h6_3, h6_2, h6_1, h7m, h7_6, h7_5, h7_4, h7_3, h7_2, h7_1, h8m, h8_7, h8_6, h8_5, h8_4, h8_3, h8_2, h8_1, h9m, h9_8, h9_7, h9_6, h9_5, h9_4, h9_3, h9_2, h9_1, h10m, h10_9, h10_8, h10_7, h10_6, h10_5, h10_4, h10_3, h10_2, h10_1, Ne.symm m1, Ne.symm h2m, Ne.symm h2_1, Ne.symm h3m, Ne.symm h3_2, Ne.symm h3_1, Ne.symm h4m, Ne.symm h4_3, Ne.symm h4_2, Ne.symm h4_1, Ne.symm h5m, Ne.symm h5_4, Ne.symm h5_3, Ne.symm h5_2, Ne.symm h5_1, Ne.symm h6m, Ne.symm h6_5, Ne.symm h6_4, Ne.symm h6_3, Ne.symm h6_2, Ne.symm h6_1, Ne.symm h7m, Ne.symm h7_6, Ne.symm h7_5, Ne.symm h7_4, Ne.symm h7_3, Ne.symm h7_2, Ne.symm h7_1, Ne.symm h8m, Ne.symm h8_7, Ne.symm h8_6, Ne.symm h8_5, Ne.symm h8_4, Ne.symm h8_3, Ne.symm h8_2, Ne.symm h8_1, Ne.symm h9m, Ne.symm h9_8, Ne.symm h9_7, Ne.symm h9_6, Ne.symm h9_5, Ne.symm h9_4, Ne.symm h9_3, Ne.symm h9_2, Ne.symm h9_1, Ne.symm h10m, Ne.symm h10_9, Ne.symm h10_8, Ne.symm h10_7, Ne.symm h10_6, Ne.symm h10_5, Ne.symm h10_4, Ne.symm h10_3, Ne.symm h10_2, Ne.symm h10_1, if_false, if_true]
        first | rfl | done
      · show wset _ _ _ q2 = _
        simp only [wset, m1, h2m, h2_1, h3m, h3_2, h3_1, h4m, h4_3, h4_2, h4_1, h5m, h5_4, h5_3, h5_2, h5_1, h6m, h6_5, h6_4, h6_3, h6_2, h6_1, h7m, h7_6, h7_5, h7_4, h7_3, h7_2, h7_1, h8m, h8_7, h8_6, h8_5, h8_4, h8_3, h8_2, h8_1, h9m, h9_8, h9_7, h9_6, h9_5, h9_4, h9_3, h9_2, h9_1, h10m, h10_9, h10_8, h10_7, h10_6, h10_5, h10_4, h10_3, h10_2, h10_1, Ne.symm m1, Ne.symm h2m, Ne.symm h2_1, Ne.symm h3m, Ne.symm h3_2, Ne.symm h3_1, Ne.symm h4m, Ne.symm h4_3, Ne.symm h4_2, Ne.symm h4_1, Ne.symm h5m, Ne.symm h5_4, Ne.symm h5_3, Ne.symm h5_2, Ne.symm h5_1, Ne.symm h6m, Ne.symm h6_5, Ne.symm h6_4, Ne.symm h6_3, Ne.symm h6_2, Ne.symm h6_1, Ne.symm h7m, Ne.symm h7_6, Ne.symm h7_5, Ne.symm h7_4, Ne.symm h7_3, Ne.symm h7_2, Ne.symm h7_1, Ne.symm h8m, Ne.symm h8_7, Ne.symm h8_6, Ne.symm h8_5, Ne.symm h8_4, Ne.symm h8_3, Ne.symm h8_2, Ne.symm h8_1, Ne.symm h9m, Ne.symm h9_8, Ne.symm h9_7, Ne.symm h9_6, Ne.symm h9_5, Ne.symm h9_4, Ne.symm h9_3, Ne.symm h9_2, Ne.symm h9_1, Ne.symm h10m, Ne.symm h10_9, Ne.symm h10_8, Ne.symm h10_7, Ne.symm h10_6, Ne.symm h10_5, Ne.symm h10_4, Ne.symm h10_3, Ne.symm h10_2, Ne.symm h10_1, if_false, if_true]
        first | rfl | done
      · show wset _ _ _ q3 = _
        simp only [wset, m1, h2m, h2_1, h3m, h3_2, h3_1, h4m, h4_3, h4_2, h4_1, h5m, h5_4, h5_3, h5_2, h5_1, h6m, h6_5, h6_4, h6_3, h6_2, h6_1, h7m, h7_6, h7_5, h7_4, h7_3, h7_2, h7_1, h8m, h8_7, h8_6, h8_5, h8_4, h8_3, h8_2, h8_1, h9m, h9_8, h9_7, h9_6, h9_5, h9_4, h9_3, h9_2, h9_1, h10m, h10_9, h10_8, h10_7, h10_6, h10_5, h10_4, h10_3, h10_2, h10_1, Ne.symm m1, Ne.symm h2m, Ne.symm h2_1, Ne.symm h3m, Ne.symm h3_2, Ne.symm h3_1, Ne.symm h4m, Ne.symm h4_3, Ne.symm h4_2, Ne.symm h4_1, Ne.symm h5m, Ne.symm h5_4, Ne.symm h5_3, Ne.symm h5_2, Ne.symm h5_1, Ne.symm h6m, Ne.symm h6_5, Ne.symm h6_4, Ne.symm h6_3, Ne.symm h6_2, Ne.symm h6_1, Ne.symm h7m, Ne.symm h7_6, Ne.symm h7_5, Ne.symm h7_4, Ne.symm h7_3, Ne.symm h7_2, Ne.symm h7_1, Ne.symm h8m, Ne.symm h8_7, Ne.symm h8_6, Ne.symm h8_5, Ne.symm h8_4, Ne.symm h8_3, Ne.symm h8_2, Ne.symm h8_1, Ne.symm h9m, Ne.symm h9_8, Ne.symm h9_7, Ne.symm h9_6, Ne.symm h9_5, Ne.symm h9_4, Ne.symm h9_3, Ne.symm h9_2, Ne.symm h9_1, Ne.symm h10m, Ne.symm h10_9, Ne.symm h10_8, Ne.symm h10_7, Ne.symm h10_6, Ne.symm h10_5, Ne.symm h10_4, Ne.symm h10_3, Ne.symm h10_2, Ne.symm h10_1, if_false, if_true]
        first | rfl | done
      · show wset _ _ _ q4 = _
        simp only [wset, m1, h2m, h2_1, h3m, h3_2, h3_1, h4m, h4_3, h4_2, h4_1, h5m, h5_4, h5_3, h5_2, h5_1, h6m, h6_5, h6_4, h6_3, h6_2, h6_1, h7m, h7_6, h7_5, h7_4, h7_3, h7_2, h7_1, h8m, h8_7, h8_6, h8_5, h8_4, h8_3, h8_2, h8_1, h9m, h9_8, h9_7, h9_6, h9_5, h9_4, h9_3, h9_2, h9_1, h10m, h10_9, h10_8, h10_7, h10_6, h10_5, h10_4, h10_3, h10_2, h10_1, Ne.symm m1, Ne.symm h2m, Ne.symm h2_1, Ne.symm h3m, Ne.symm h3_2, Ne.symm h3_1, Ne.symm h4m, Ne.symm h4_3, Ne.symm h4_2, Ne.symm h4_1, Ne.symm h5m, Ne.symm h5_4, Ne.symm h5_3, Ne.symm h5_2, Ne.symm h5_1, Ne.symm h6m, Ne.symm h6_5, Ne.symm h6_4, Ne.symm h6_3, Ne.symm h6_2, Ne.symm h6_1, Ne.symm h7m, Ne.symm h7_6, Ne.symm h7_5, Ne.symm h7_4, Ne.symm h7_3, Ne.symm h7_2, Ne.symm h7_1, Ne.symm h8m, Ne.symm h8_7, Ne.symm h8_6, Ne.symm h8_5, Ne.symm h8_4, Ne.symm h8_3, Ne.symm h8_2, Ne.symm h8_1, Ne.symm h9m, Ne.symm h9_8, Ne.symm h9_7, Ne.symm h9_6, Ne.symm h9_5, Ne.symm h9_4, Ne.symm h9_3, Ne.symm h9_2, Ne.symm h9_1, Ne.symm h10m, Ne.symm h10_9, Ne.symm h10_8, Ne.symm h10_7, Ne.symm h10_6, Ne.symm h10_5, Ne.symm h10_4, Ne.symm h10_3, Ne.symm h10_2, Ne.symm h10_1, if_false, if_true]
        first | rfl | done
      · show wset _ _ _ q5 = _
        simp only [wset, m1, h2m, h2_1, h3m, h3_2, h3_1, h4m, h4_3, h4_2, h4_1, h5m, h5_4, h5_3, h5_2, h5_1, h6m, h6_5, h6_4, h6_3, h6_2, h6_1, h7m, h7_6, h7_5, h7_4, h7_3, h7_2, h7_1, h8m, h8_7, h8_6, h8_5, h8_4, h8_3, h8_2, h8_1, h9m, h9_8, h9_7, h9_6, h9_5, h9_4, h9_3, h9_2, h9_1, h10m, h10_9, h10_8, h10_7, h10_6, h10_5, h10_4, h10_3, h10_2, h10_1, Ne.symm m1, Ne.symm h2m, Ne.symm h2_1, Ne.symm h3m, Ne.symm h3_2, Ne.symm h3_1, Ne.symm h4m, Ne.symm h4_3, Ne.symm h4_2, Ne.symm h4_1, Ne.symm h5m, Ne.symm h5_4, Ne.symm h5_3, Ne.symm h5_2, Ne.symm h5_1, Ne.symm h6m, Ne.symm h6_5, Ne.symm h6_4, Ne.symm h6_3, Ne.symm h6_2, Ne.symm h6_1, Ne.symm h7m, Ne.symm h7_6, Ne.symm h7_5, Ne.symm h7_4, Ne.symm h7_3, Ne.symm h7_2, Ne.symm h7_1, Ne.symm h8m, Ne.symm h8_7, Ne.symm h8_6, Ne.symm h8_5, Ne.symm h8_4, Ne.symm h8_3, Ne.symm h8_2, Ne.symm h8_1, Ne.symm h9m, Ne.symm h9_8, Ne.symm h9_7, Ne.symm h9_6, Ne.symm h9_5, Ne.symm h9_4, Ne.symm h9_3, Ne.symm h9_2, Ne.symm h9_1, Ne.symm h10m, Ne.symm h10_9, Ne.symm h10_8, Ne.symm h10_7, Ne.symm h10_6, Ne.symm h10_5, Ne.symm h10_4, Ne.symm h10_3, Ne.symm h10_2, Ne.symm h10_1, if_false, if_true]
        first | rfl | done
      · show wset _ _ _ q6 = _
        simp only [wset, m1, h2m, h2_1, h3m, h3_2, h3_1, h4m, h4_3, h4_2, h4_1, h5m, h5_4, h5_3, h5_2, h5_1, h6m, h6_5, h6_4, h6_3, h6_2, h6_1, h7m, h7_6, h7_5, h7_4, h7_3, h7_2, h7_1, h8m, h8_7, h8_6, h8_5, h8_4, h8_3, h8_2, h8_1, h9m, h9_8, h9_7, h9_6, h9_5, h9_4, h9_3, h9_2, h9_1, h10m, h10_9, h10_8, h10_7, h10_6, h10_5, h10_4, h10_3, h10_2, h10_1, Ne.symm m1, Ne.symm h2m, Ne.symm h2_1, Ne.symm h3m, Ne.symm h3_2, Ne.symm h3_1, Ne.symm h4m, Ne.symm h4_3, Ne.symm h4_2, Ne.symm h4_1, Ne.symm h5m, Ne.symm h5_4, Ne.symm h5_3, Ne.symm h5_2, Ne.symm h5_1, Ne.symm h6m, Ne.symm h6_5, Ne.symm h6_4, Ne.symm h6_3, Ne.symm h6_2, Ne.symm h6_1, Ne.symm h7m, Ne.symm h7_6, Ne.symm h7_5, Ne.symm h7_4, Ne.symm h7_3, Ne.symm h7_2, Ne.symm h7_1, Ne.symm h8m, Ne.symm h8_7, Ne.symm h8_6, Ne.symm h8_5, Ne.symm h8_4, Ne.symm h8_3, Ne.symm h8_2, Ne.symm h8_1, Ne.symm h9m, Ne.symm h9_8, Ne.symm h9_7, Ne.symm h9_6, Ne.symm h9_5, Ne.symm h9_4, Ne.symm h9_3, Ne.symm h9_2, Ne.symm h9_1, Ne.symm h10m, Ne.symm h10_9, Ne.symm h10_8, Ne.symm h10_7, Ne.symm h10_6, Ne.symm h10_5, Ne.symm h10_4, Ne.symm h10_3, Ne.symm h10_2, Ne.symm h10_1, if_false, if_true]
        first | rfl | done
      · show wset _ _ _ q7 = _
        simp only [wset, m1, h2m, h2_1, h3m, h3_2, h3_1, h4m, h4_3, h4_2, h4_1, h5m, h5_4, h5_3, h5_2, h5_1, h6m, h6_5, h6_4, h6_3, h6_2, h6_1, h7m, h7_6, h7_5, h7_4, h7_3, h7_2, h7_1, h8m, h8_7, h8_6, h8_5, h8_4, h8_3, h8_2, h8_1, h9m, h9_8, h9_7, h9_6, h9_5, h9_4, h9_3, h9_2, h9_1, h10m, h10_9, h10_8, h10_7, h10_6, h10_5, h10_4, h10_3, h10_2, h10_1, Ne.symm m1, Ne.symm h2m, Ne.symm h2_1, Ne.symm h3m, Ne.symm h3_2, Ne.symm h3_1, Ne.symm h4m, Ne.symm h4_3, Ne.symm h4_2, Ne.symm h4_1, Ne.symm h5m, Ne.symm h5_4, Ne.symm h5_3, Ne.symm h5_2, Ne.symm h5_1, Ne.symm h6m, Ne.symm h6_5, Ne.symm h6_4, Ne.symm h6_3, Ne.symm h6_2, Ne.symm h6_1, Ne.symm h7m, Ne.symm h7_6, Ne.symm h7_5, Ne.symm h7_4, Ne.symm h7_3, Ne.symm h7_2, Ne.symm h7_1, Ne.symm h8m, Ne.symm h8_7, Ne.symm h8_6, Ne.symm h8_5, Ne.symm h8_4, Ne.symm h8_3, Ne.symm h8_2, Ne.symm h8_1, Ne.symm h9m, Ne.symm h9_8, Ne.symm h9_7, Ne.symm h9_6, Ne.symm h9_5, Ne.symm h9_4, Ne.symm h9_3, Ne.symm h9_2, Ne.symm h9_1, Ne.symm h10m, Ne.symm h10_9, Ne.symm h10_8, Ne.symm h10_7, Ne.symm h10_6, Ne.symm h10_5, Ne.symm h10_4, Ne.symm h10_3, Ne.symm h10_2, Ne.symm h10_1, if_false, if_true]
        first | rfl | done
      · show wset _ _ _ q8 = _
        simp only [wset, m1, h2m, h2_1, h3m, h3_2, h3_1, h4m, h4_3, h4_2, h4_1, h5m, h5_4, h5_3, h5_2, h5_1, h6m, h6_5, h6_4, h6_3, h6_2, h6_1, h7m, h7_6, h7_5, h7_4, h7_3, h7_2, h7_1, h8m, h8_7, h8_6, h8_5, h8_4, h8_3, h8_2, h8_1, h9m, h9_8, h9_7, h9_6, h9_5, h9_4, h9_3, h9_2, h9_1, h10m, h10_9, h10_8, h10_7, h10_6, h10_5, h10_4, h10_3, h10_2, h10_1, Ne.symm m1, Ne.symm h2m, Ne.symm h2_1, Ne.symm h3m, Ne.symm h3_2, Ne.symm h3_1, Ne.symm h4m, Ne.symm h4_3, Ne.symm h4_2, Ne.symm h4_1, Ne.symm h5m, Ne.symm h5_4, Ne.symm h5_3, Ne.symm h5_2, Ne.symm h5_1, Ne.symm h6m, Ne.symm h6_5, Ne.symm h6_4, Ne.symm h6_3, Ne.symm h6_2, Ne.symm h6_1, Ne.symm h7m, Ne.symm h7_6, Ne.symm h7_5, Ne.symm h7_4, Ne.symm h7_3, Ne.symm h7_2, Ne.symm h7_1, Ne.symm h8m, Ne.symm h8_7, Ne.symm h8_6, Ne.symm h8_5, Ne.symm h8_4, Ne.symm h8_3, Ne.symm h8_2, Ne.symm h8_1, Ne.symm h9m, Ne.symm h9_8, Ne.symm h9_7, Ne.symm h9_6, Ne.symm h9_5, Ne.symm h9_4, Ne.symm h9_3, Ne.symm h9_2, Ne.symm h9_1, Ne.symm h10m, Ne.symm h10_9, Ne.symm h10_8, Ne.symm h10_7, Ne.symm h10_6, Ne.symm h10_5, Ne.symm h10_4, Ne.symm h10_3, Ne.symm h10_2, Ne.symm h10_1, if_false, if_true]
        first | rfl | done
      · show wset _ _ _ q9 = _
        simp only [wset, m1, h2m, h2_1, h3m, h3_2, h3_1, h4m, h4_3, h4_2, h4_1, h5m, h5_4, h5_3, h5_2, h5_1, h6m, h6_5, h6_4, h6_3, h6_2, h6_1, h7m, h7_6, h7_5, h7_4, h7_3, h7_2, h7_1, h8m, h8_7, h8_6, h8_5, h8_4, h8_3, h8_2, h8_1, h9m, h9_8, h9_7, h9_6, h9_5, h9_4, h9_3, h9_2, h9_1, h10m, h10_9, h10_8, h10_7, h10_6, h10_5, h10_4, h10_3, h10_2, h10_1, Ne.symm m1, Ne.symm h2m, Ne.symm h2_1, Ne.symm h3m, Ne.symm h3_2, Ne.symm h3_1, Ne.symm h4m, Ne.symm h4_3, Ne.symm h4_2, Ne.symm h4_1, Ne.symm h5m, Ne.symm h5_4, Ne.symm h5_3, Ne.symm h5_2, Ne.symm h5_1, Ne.symm h6m, Ne.symm h6_5, Ne.symm h6_4, Ne.symm h6_3, Ne.symm h6_2, Ne.symm h6_1, Ne.symm h7m, Ne.symm h7_6, Ne.symm h7_5, Ne.symm h7_4, Ne.symm h7_3, Ne.symm h7_2, Ne.symm h7_1, Ne.symm h8m, Ne.symm h8_7, Ne.symm h8_6, Ne.symm h8_5, Ne.symm h8_4, Ne.symm h8_3, Ne.symm h8_2, Ne.symm h8_1, Ne.symm h9m, Ne.symm h9_8, Ne.symm h9_7, Ne.symm h9_6, Ne.symm h9_5, Ne.symm h9_4, Ne.symm h9_3, Ne.symm h9_2, Ne.symm h9_1, Ne.symm h10m, Ne.symm h10_9, Ne.symm h10_8, Ne.symm h10_7, Ne.symm h10_6, Ne.symm h10_5, Ne.symm h10_4, Ne.symm h10_3, Ne.symm h10_2, Ne.symm h10_1, if_false, if_true]
        first | rfl | done
      · show wset _ _ _ q10 = _
        simp only [wset, m1, h2m, h2_1, h3m, h3_2, h3_1, h4m, h4_3, h4_2, h4_1, h5m, h5_4, h5_3, h5_2, h5_1, h6m, h6_5, h6_4, h6_3, h6_2, h6_1, h7m, h7_6, h7_5, h7_4, h7_3, h7_2, h7_1, h8m, h8_7, h8_6, h8_5, h8_4, h8_3, h8_2, h8_1, h9m, h9_8, h9_7, h9_6, h9_5, h9_4, h9_3, h9_2, h9_1, h10m, h10_9, h10_8, h10_7, h10_6, h10_5, h10_4, h10_3, h10_2, h10_1, Ne.symm m1, Ne.symm h2m, Ne.symm h2_1, Ne.symm h3m, Ne.symm h3_2, Ne.symm h3_1, Ne.symm h4m, Ne.symm h4_3, Ne.symm h4_2, Ne.symm h4_1, Ne.symm h5m, Ne.symm h5_4, Ne.symm h5_3, Ne.symm h5_2, Ne.symm h5_1, Ne.symm h6m, Ne.symm h6_5, Ne.symm h6_4, Ne.symm h6_3, Ne.symm h6_2, Ne.symm h6_1, Ne.symm h7m, Ne.symm h7_6, Ne.symm h7_5, Ne.symm h7_4, Ne.symm h7_3, Ne.symm h7_2, Ne.symm h7_1, Ne.symm h8m, Ne.symm h8_7, Ne.symm h8_6, Ne.symm h8_5, Ne.symm h8_4, Ne.symm h8_3, Ne.symm h8_2, Ne.symm h8_1, Ne.symm h9m, Ne.symm h9_8, Ne.symm h9_7, Ne.symm h9_6, Ne.symm h9_5, Ne.symm h9_4, Ne.symm h9_3, Ne.symm h9_2, Ne.symm h9_1, Ne.symm h10m, Ne.symm h10_9, Ne.symm h10_8, Ne.symm h10_7, Ne.symm h10_6, Ne.symm h10_5, Ne.symm h10_4, Ne.symm h10_3, Ne.symm h10_2, Ne.symm h10_1, if_false, if_true]
        first | rfl | done
end CT
