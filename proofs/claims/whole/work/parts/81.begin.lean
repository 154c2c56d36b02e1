/-! THE LAW'S BEGINNING -/
section BG
variable {G : GG} {l : Launch} {w : Wd} {b L : Nat} {xs : Nat → Int32} {Z : Zt}
theorem si_00 : SI 1080 y00 := ⟨Inv.new.mono (by omega), fun i hi => absurd hi (Nat.not_lt_zero _), fun k hk c hc => (by cases hc), Nat.zero_le _⟩
theorem law_start (hL : L ≤ 3072) (fin : ∀ w2 kc ks, kc ≤ 601024 → ks ≤ 7293034 → LX G l w b L xs Z w2 1941 [] [] kc ks) : LX G l w b L xs Z w 0 [(0, .ref b)] [] 0 0 := by
  refine bL_law_0 (by decide) (by decide) (fun q1 n1 => ?_)
  refine bL_law_3 (mcq := 474) (msq := 3731) (c_init5 (fr := w) (Q := fun w2 => StW w q1 y00 w2) (fun p x hx => wn (fr_ne hx n1) hx) n1 (wset_eq _ _ _) (Nat.le_refl _) (Nat.le_refl _) (fun w2 h2 => h2)) (by decide) (by decide) (fun w2 h2 => ?_)
  refine bL_law_7 (by decide) (by decide) (fun q2 n2 => ?_)
  refine bL_law_11 (mcq := 10) (msq := 37032) (c_init6 (Q := fun w4 => ∃ A, Inj A ∧ A 0 = q2 ∧ (∀ i, 0 < i → i < 11 → wset w2 q2 (.inl (5, [.int 0, .null, .int 0, .null, .null, .null, .int 0, .null, .null, .null, .null, .null, .null, .int 0, .int 0])) (A i) = none) ∧ MW (wset w2 q2 (.inl (5, [.int 0, .null, .int 0, .null, .null, .null, .int 0, .null, .null, .null, .null, .null, .null, .int 0, .int 0]))) A 0 y00 w4) (wset_eq _ _ _) (Nat.le_refl _) (Nat.le_refl _) (fun A w4 a1 a2 a3 a4 => ⟨A, a1, a2, a3, a4⟩)) (by decide) (by decide) (fun w4 h4 => ?_)
  obtain ⟨A, hi, e0, hA, hm⟩ := h4
  refine bL_law_15 (by decide) rfl (by decide) (by decide) (by decide) (fun q3 n3 => ?_)
  have ho : ∀ a, (∀ i, i < 11 → a ≠ A i) → w4 a = wset w2 q2 (.inl (5, [.int 0, .null, .int 0, .null, .null, .null, .int 0, .null, .null, .null, .null, .null, .null, .int 0, .int 0])) a := by
    obtain ⟨sp, ou, f, -⟩ := hm
    exact f
  have nA : ∀ i, i < 11 → A i ≠ q3 := fun i hi9 z => by
    obtain ⟨e, he⟩ := hm.ex hi9
    rw [z, n3] at he; cases he
  have out : ∀ q e, w2 q = some e → (∀ i, i < 11 → q ≠ A i) ∧ q ≠ q3 ∧ w4 q = some e := fun q e hq => by
    have q2n : q ≠ q2 := fun z => by rw [z, n2] at hq; cases hq
    have h3 : wset w2 q2 (.inl (5, [.int 0, .null, .int 0, .null, .null, .null, .int 0, .null, .null, .null, .null, .null, .null, .int 0, .int 0])) q = some e := wn q2n hq
    have h1 : ∀ i, i < 11 → q ≠ A i := fun i hi9 z => by
      by_cases z0 : i = 0
      · rw [z0, e0] at z; exact q2n z
      · have := hA i (by omega) hi9
        rw [← z, h3] at this; cases this
    have h4 : w4 q = some e := (ho q h1).trans h3
    exact ⟨h1, fun z => (by rw [z, n3] at h4; cases h4), h4⟩
  have hw : CW A q3 q1 y00 y00 0 (fun _ => 0) (wset w4 q3 (lrow (fun _ => 0))) := by
    refine ⟨nA, wset_eq _ _ _, hm.move (fun a _ => rfl) (fun i hi9 => wset_ne _ _ (nA i hi9)), h2.move (fun q e hq => own_sub hq) (fun q e _ hq => ?_) (fun q e _ hq => ?_)⟩
    · obtain ⟨a1, a2, a3⟩ := out q e hq
      exact own_n a2 a1
    · obtain ⟨a1, a2, a3⟩ := out q e hq
      exact wn a2 a3
  subst e0
  exact bL_law_19 (law_loop hi hL 487 40786 (by decide) (by decide) fin 512 0 (by omega) (by decide) y00 0 _ _ si_00 hw)
end BG
theorem kk_start {s : State} {args : Array Value} (hts : ∀ w ∈ lw_tbl, w.before args s = true) : ∃ G : GG, KK G s := by
  have ht : ∀ w ∈ Tg, w.before args s = true := fun w hw => hts w (List.mem_filter.mp hw).1
  have m : ∀ {i : Nat} {w : Cond}, tables_1[i]? = some w → w.before args s = true := fun h => hts _ (List.mem_append_right _ (List.mem_of_getElem? h))
  obtain ⟨c0, i0, k0⟩ := u_known (C := RX0) (T := TX0) (N := 13) (n := 13) ht iwX0 (m (i := 56) (by decide +kernel))
  obtain ⟨c1, i1, k1⟩ := u_known (C := RX2) (T := TX2) (N := 4) (n := 4) ht iwX2 (m (i := 101) (by decide +kernel))
  obtain ⟨c2, i2, k2⟩ := u_known (C := RX3) (T := TX3) (N := 6) (n := 6) ht iwX3 (m (i := 63) (by decide +kernel))
  obtain ⟨c3, i3, k3⟩ := u_known (C := RX4) (T := TX4) (N := 6) (n := 6) ht iwX4 (m (i := 27) (by decide +kernel))
  obtain ⟨c4, i4, k4⟩ := u_known (C := RX5) (T := TX5) (N := 7) (n := 7) ht iwX5 (m (i := 19) (by decide +kernel))
  obtain ⟨c5, i5, k5⟩ := u_known (C := RX6) (T := TX6) (N := 15) (n := 15) ht iwX6 (m (i := 834) (by decide +kernel))
  have h54 : (Cond.arrayClass .int).before args s = true := m (i := 54) (by decide +kernel)
  have h207 : (Cond.arrayClass .boolean).before args s = true := m (i := 207) (by decide +kernel)
  have h1184 : (Cond.arrayClass .long).before args s = true := m (i := 1185) (by decide +kernel)
  have h184 : (Cond.arrayOver (.object "StenoRooms$Calendar")).before args s = true := m (i := 184) (by decide +kernel)
  have h62 : (Cond.arrayOver (.object "StenoRooms$Session")).before args s = true := m (i := 62) (by decide +kernel)
  obtain ⟨a0, q0, p0, f0, g0, j0⟩ := Cond.arrayClass_spec h54
  obtain ⟨a1, q1, p1, f1, g1, j1⟩ := Cond.arrayClass_spec h207
  obtain ⟨a2, q2, p2, f2, g2, j2⟩ := Cond.arrayClass_spec h1184
  obtain ⟨p3, a3, q3, f3, -, g3, j3, n3⟩ := Cond.arrayOver_spec h184
  obtain ⟨p4, a4, q4, f4, -, g4, j4, n4⟩ := Cond.arrayOver_spec h62
  refine ⟨((fun k => if k = 0 then c0 else if k = 1 then c1 else if k = 2 then c2 else if k = 3 then c3 else if k = 4 then c4 else c5, fun k => if k = 0 then i0 else if k = 1 then i1 else if k = 2 then i2 else if k = 3 then i3 else if k = 4 then i4 else i5), fun k => if k = 0 then a0 else if k = 1 then a1 else if k = 2 then a2 else if k = 3 then a3 else a4), fun k q hq => ?_, fun k q hq => ?_⟩
  · match k, hq with
    | 0, hq => cases hq; exact k0
    | 1, hq => cases hq; exact k1
    | 2, hq => cases hq; exact k2
    | 3, hq => cases hq; exact k3
    | 4, hq => cases hq; exact k4
    | 5, hq => cases hq; exact k5
    | k + 6, hq => simp at hq
  · match k, hq with
    | 0, hq => cases hq; exact ⟨fun n z => ⟨fun k h => (by cases h), q0, g0, p0, j0⟩, f0⟩
    | 1, hq => cases hq; exact ⟨fun n z => ⟨fun k h => (by cases h), q1, g1, p1, j1⟩, f1⟩
    | 2, hq => cases hq; exact ⟨fun n z => ⟨fun k h => (by cases h), q2, g2, p2, j2⟩, f2⟩
    | 3, hq => cases hq; exact ⟨fun n z => ⟨fun k h => (by cases h), q3, g3, p3, j3⟩, q3, p3, g3, j3, f3, n3⟩
    | 4, hq => cases hq; exact ⟨fun n z => ⟨fun k h => (by cases h), q4, g4, p4, j4⟩, q4, p4, g4, j4, f4, n4⟩
    | k + 5, hq => simp [xTys] at hq
theorem js_start {s : State} {args : Array Value} {A : Nat → Prop} (hts : ∀ w ∈ lw_tbl, w.before args s = true) (hgv : (Jvm.Cond.and given_1 narrow_1).before args s = true) (hA : ∀ a : Nat, a < s.heap.size → ¬ A a) : JS s A := by
  have m : ∀ {i : Nat} {w : Cond}, tables_1[i]? = some w → w.before args s = true := fun h => hts _ (List.mem_append_right _ (List.mem_of_getElem? h))
  have hfl := flat_of_before _ hgv
  have hin : (Cond.instantiable "StenoRooms" 7).before args s = true := m (i := 19) (by decide +kernel)
  obtain ⟨cC, kC, hfc, -⟩ := Cond.instantiable_spec hin
  have ini : (Cond.initialized "java/lang/Throwable").before args s = true := m (i := 7) (by decide +kernel)
  have la1 : (Cond.laysStatic "java/lang/Throwable" "UNASSIGNED_STACK" "[Ljava/lang/StackTraceElement;").before args s = true := m (i := 351) (by decide +kernel)
  have la2 : (Cond.laysStatic "java/lang/Throwable" "SUPPRESSED_SENTINEL" "Ljava/util/List;").before args s = true := m (i := 353) (by decide +kernel)
  refine ⟨fun w hw => ng_any (List.mem_filter.mp hw).2 (hts w (List.mem_filter.mp hw).1), vx_Zqof la1 ini (hfl _ (by decide +kernel)) hA, vx_Zqof la2 ini (hfl _ (by decide +kernel)) hA, fun q hq => ?_, fun q hq => ?_⟩
  · have h1 : (Cond.stringRef "StenoRooms" q.1 q.2).before args s = true := hts _ ((by decide +kernel : ∀ q ∈ strs, Cond.stringRef "StenoRooms" q.1 q.2 ∈ lw_tbl) q hq)
    obtain ⟨_, _, _, a, -, -, -, -, -, ev⟩ := Cond.stringRef_spec hfc h1
    exact ⟨a, vk_R.of h1 ev⟩
  · exact va_Nc.of (hfl _ ((by decide +kernel : ∀ q ∈ ncs, Cond.not (.castable q.1 q.2) ∈ flatC (Jvm.Cond.and given_1 narrow_1)) q hq))
