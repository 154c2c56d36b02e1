/-! A SESSION THAT LASTS LONGER: what is kept -/
theorem latP_iff {r d f : Int32} {x : Ss} : latP r d f x = true ↔ sf x 0 = r ∧ sf x 1 = d ∧ f < sf x 2 := by
  unfold latP; simp only [Bool.and_eq_true, decide_eq_true_eq]
theorem latP_lo {s x : Ss} (hx : okR x) (hs : okR s) (h : ky x ≤ ky s) : latP (sf s 0) (sf s 1) (sf s 2) x = false := by
  rw [Bool.eq_false_iff]
  intro q
  obtain ⟨q1, q2, q3⟩ := latP_iff.mp q
  obtain ⟨x1, x2, x3, x4, x5, x6, x7⟩ := hx
  obtain ⟨s1, s2, s3, s4, s5, s6, s7⟩ := hs
  rw [i32_lt] at q3
  rw [i32_eq] at q1 q2
  unfold ky at h
  omega
theorem filter_no {p : Ss → Bool} {l : List Ss} (h : ∀ x, x ∈ l → p x = false) : l.filter p = [] := by
  rw [List.filter_eq_nil_iff]; exact fun x hx => by rw [h x hx]; exact Bool.false_ne_true
theorem filter_all {p : Ss → Bool} {l : List Ss} (h : ∀ x, x ∈ l → p x = true) : l.filter p = l := List.filter_eq_self.mpr h
section EXT
variable {T : Nat} {c : Cal} {k : Nat} {n : Int32}
theorem ext_lat (h : Inv T c) (hk : k < (cSs c).length) : lat (cSs (extA c k n)) (sf (sg (cSs c) k) 0) (sf (sg (cSs c) k) 1) (sf (sg (cSs c) k) 2) = ((cSs c).drop (k + 1)).filter (latP (sf (sg (cSs c) k) 0) (sf (sg (cSs c) k) 1) (sf (sg (cSs c) k) 2)) := by
  obtain ⟨h1, h2⟩ := kys_at h hk
  unfold lat
  rw [ext_ss hk, List.filter_append, filter_no (fun x hx => latP_lo (h1 x hx).1 (h.s (sg_mem hk)) (Int.le_of_lt (h1 x hx).2.1)), List.filter_cons, if_neg]
  · rfl
  · intro q
    have := (latP_iff.mp q).2.2
    rw [i32_lt] at this
    exact Int.lt_irrefl _ this
theorem ext_rst (h : Inv T c) (hk : k < (cSs c).length) : rst (cSs (extA c k n)) (sf (sg (cSs c) k) 0) (sf (sg (cSs c) k) 1) (sf (sg (cSs c) k) 2) = (cSs c).take k ++ sfset (sg (cSs c) k) 3 (extL (sg (cSs c) k) n) :: ((cSs c).drop (k + 1)).filter (fun x => !latP (sf (sg (cSs c) k) 0) (sf (sg (cSs c) k) 1) (sf (sg (cSs c) k) 2) x) := by
  obtain ⟨h1, h2⟩ := kys_at h hk
  unfold rst
  rw [ext_ss hk, List.filter_append, filter_all (fun x hx => by rw [latP_lo (h1 x hx).1 (h.s (sg_mem hk)) (Int.le_of_lt (h1 x hx).2.1)]; rfl), List.filter_cons, if_pos]
  have : latP (sf (sg (cSs c) k) 0) (sf (sg (cSs c) k) 1) (sf (sg (cSs c) k) 2) (sfset (sg (cSs c) k) 3 (extL (sg (cSs c) k) n)) = false := by
    rw [Bool.eq_false_iff]
    intro q
    have := (latP_iff.mp q).2.2
    rw [i32_lt] at this
    exact Int.lt_irrefl _ this
  rw [this]; rfl
/-- the sessions that stay, with the longer one -/
theorem base_inv (h : Inv T c) (hk : k < (cSs c).length) (h1 : 1 ≤ n.toInt) (h2 : n.toInt ≤ 16) : Inv T (wSs c ((cSs c).take k ++ sfset (sg (cSs c) k) 3 (extL (sg (cSs c) k) n) :: ((cSs c).drop (k + 1)).filter (fun x => !latP (sf (sg (cSs c) k) 0) (sf (sg (cSs c) k) 1) (sf (sg (cSs c) k) 2) x))) ∧ ∀ x, x ∈ (cSs c).take k ++ sfset (sg (cSs c) k) 3 (extL (sg (cSs c) k) n) :: ((cSs c).drop (k + 1)).filter (fun x => !latP (sf (sg (cSs c) k) 0) (sf (sg (cSs c) k) 1) (sf (sg (cSs c) k) 2) x) → sf x 0 = sf (sg (cSs c) k) 0 → sf x 1 = sf (sg (cSs c) k) 1 → (sf x 2).toInt + (sf x 3).toInt ≤ (sf (sg (cSs c) k) 2).toInt + (extL (sg (cSs c) k) n).toInt := by
  obtain ⟨f1, f2⟩ := kys_at h hk
  have hs := h.s (sg_mem hk)
  have hsm := h.1 _ (sg_mem hk)
  have hL := extL_int hs h1 h2
  have hkk := h.kk
  have hdj := h.dj
  have hmem := h.1
  have hlen := h.b1
  unfold Kys at hkk
  unfold Dsj at hdj
  rw [sg_split hk] at hkk hdj hmem hlen
  generalize sg (cSs c) k = s at *
  generalize extL s n = L at *
  generalize hP : (cSs c).take k = P at *
  generalize hS : (cSs c).drop (k + 1) = S at *
  have sub : (P ++ s :: S.filter (fun x => !latP (sf s 0) (sf s 1) (sf s 2) x)).Sublist (P ++ s :: S) := (List.Sublist.refl P).append ((List.filter_sublist).cons_cons s)
  have kk2 := hkk.sublist sub
  have dj2 := hdj.sublist sub
  have fP : ∀ x, x ∈ P → sf x 0 = sf s 0 → sf x 1 = sf s 1 → (sf x 2).toInt + (sf x 3).toInt ≤ (sf s 2).toInt := fun x hx e0 e1 => by
    obtain ⟨⟨x1, x2, x3, x4, x5, x6, x7⟩, hk2, hd⟩ := f1 x hx
    obtain ⟨s1, s2, s3, s4, s5, s6, s7⟩ := hs
    unfold dsj at hd
    rcases hd with hd | hd | hd | hd
    · exact absurd e0 hd
    · exact absurd e1 hd
    · exact hd
    · rw [i32_eq] at e0 e1
      unfold ky at hk2
      omega
  have fS : ∀ x, x ∈ S.filter (fun x => !latP (sf s 0) (sf s 1) (sf s 2) x) → sf x 0 = sf s 0 → sf x 1 = sf s 1 → False := fun x hx e0 e1 => by
    obtain ⟨hx1, hx2⟩ := List.mem_filter.mp hx
    have hn : ¬ latP (sf s 0) (sf s 1) (sf s 2) x = true := by
      intro q; rw [q] at hx2; exact Bool.false_ne_true hx2
    apply hn
    refine latP_iff.mpr ⟨e0, e1, ?_⟩
    obtain ⟨-, hk2, -⟩ := f2 x hx1
    rw [i32_eq] at e0 e1
    rw [i32_lt]
    unfold ky at hk2
    omega
  refine ⟨⟨fun x hx => ?_, ?_, ?_, ⟨h.t0, h.tT⟩, h.st, ⟨h.b0, ?_, h.b2⟩, h.py⟩, fun x hx e0 e1 => ?_⟩
  · change x ∈ P ++ sfset s 3 L :: _ at hx
    rcases List.mem_append.mp hx with q | q
    · exact hmem x (List.mem_append_left _ q)
    · rcases List.mem_cons.mp q with q | q
      · subst q
        refine ⟨?_, hsm.2.1, hsm.2.2⟩
        obtain ⟨s1, s2, s3, s4, s5, s6, s7⟩ := hs
        exact ⟨s1, s2, s3, s4, s5, hL.2.1, hL.2.2.1⟩
      · exact hmem x (List.mem_append_right _ (List.mem_cons_of_mem _ (List.mem_filter.mp q).1))
  · show List.Pairwise _ (P ++ sfset s 3 L :: _)
    rw [List.pairwise_append] at kk2 ⊢
    refine ⟨kk2.1, List.pairwise_cons.mpr ⟨(List.pairwise_cons.mp kk2.2.1).1, (List.pairwise_cons.mp kk2.2.1).2⟩, fun x hx y hy => ?_⟩
    rcases List.mem_cons.mp hy with q | q
    · subst q; exact kk2.2.2 x hx s List.mem_cons_self
    · exact kk2.2.2 x hx y (List.mem_cons_of_mem _ q)
  · show List.Pairwise _ (P ++ sfset s 3 L :: _)
    rw [List.pairwise_append] at dj2 ⊢
    refine ⟨dj2.1, List.pairwise_cons.mpr ⟨fun x hx => ?_, (List.pairwise_cons.mp dj2.2.1).2⟩, fun x hx y hy => ?_⟩
    · by_cases e0 : sf x 0 = sf s 0
      · by_cases e1 : sf x 1 = sf s 1
        · exact (fS x hx e0 e1).elim
        · exact Or.inr (Or.inl (fun q => e1 q.symm))
      · exact Or.inl (fun q => e0 q.symm)
    · rcases List.mem_cons.mp hy with q | q
      · subst q
        by_cases e0 : sf x 0 = sf s 0
        · by_cases e1 : sf x 1 = sf s 1
          · exact Or.inr (Or.inr (Or.inl (fP x hx e0 e1)))
          · exact Or.inr (Or.inl e1)
        · exact Or.inl e0
      · exact dj2.2.2 x hx y (List.mem_cons_of_mem _ q)
  · show (P ++ sfset s 3 L :: _).length ≤ 16
    have := sub.length_le
    rw [List.length_append, List.length_cons] at this ⊢
    omega
  · rcases List.mem_append.mp hx with q | q
    · have := fP x q e0 e1
      omega
    · rcases List.mem_cons.mp q with q | q
      · subst q; exact Int.le_refl _
      · exact (fS x q e0 e1).elim
/-- those that give way go to their new places -/
theorem mv_inv {room day : Int32} : ∀ (M : List Ss) (c : Cal) (b : Int32), Inv T c → (∀ x, x ∈ M → okR x ∧ sf x 0 = room ∧ sf x 1 = day ∧ (cSc c 3).toInt ≤ day.toInt ∧ okH (cPs c).length x) → (cSs c).length + M.length ≤ 16 → 0 ≤ b.toInt → b.toInt ≤ 16 →
    (∀ x, x ∈ cSs c → sf x 0 = room → sf x 1 = day → (sf x 2).toInt + (sf x 3).toInt ≤ b.toInt) → Inv T (mvAll c room day b M)
  | [], c, b, h, _, _, _, _, _ => h
  | t :: M, c, b, h, hM, hl, b0, b16, hb => by
    obtain ⟨ht, e0, e1, ht3, hh⟩ := hM t List.mem_cons_self
    obtain ⟨t1, t2, t3, t4, t5, t6, t7⟩ := ht
    rw [List.length_cons] at hl
    have hf : (mvFrom t b).toInt = if (sf t 2).toInt < b.toInt then b.toInt else (sf t 2).toInt := by
      unfold mvFrom
      by_cases q : sf t 2 < b
      · rw [if_pos q, if_pos (by rw [i32_lt] at q; exact q)]
      · rw [if_neg q, if_neg (by rw [i32_lt] at q; exact q)]
    have hf1 : b.toInt ≤ (mvFrom t b).toInt := by rw [hf]; split <;> omega
    have hf2 : (mvFrom t b).toInt ≤ 16 := by rw [hf]; split <;> omega
    have hd : (16 - mvFrom t b).toInt = 16 - (mvFrom t b).toInt := i32_dif (by decide) (by decide) (by omega) (by omega)
    have hs : (mvSpan t b).toInt ≤ 16 - (mvFrom t b).toInt := by
      unfold mvSpan
      by_cases q : sf t 3 < 16 - mvFrom t b
      · rw [if_pos q]; rw [i32_lt, hd] at q; omega
      · rw [if_neg q, hd]; omega
    have hs0 : 0 ≤ (mvSpan t b).toInt := by
      unfold mvSpan
      by_cases q : sf t 3 < 16 - mvFrom t b
      · rw [if_pos q]; omega
      · rw [if_neg q, hd]; omega
    unfold mvAll
    by_cases hp : 0 < mvSpan t b
    · rw [if_pos hp]
      rw [i32_lt, show (0 : Int32).toInt = 0 from rfl] at hp
      have hsum : (mvFrom t b + mvSpan t b).toInt = (mvFrom t b).toInt + (mvSpan t b).toInt := i32_sum (by omega) (by omega) (by omega) (by omega)
      have hok : okR (mvNew t room day b) := by
        refine ⟨?_, ?_, ?_, ?_, by show 0 ≤ (mvFrom t b).toInt; omega, by show 1 ≤ (mvSpan t b).toInt; omega, by show (mvFrom t b).toInt + (mvSpan t b).toInt ≤ 16; omega⟩
        · show 0 ≤ room.toInt; rw [← e0]; exact t1
        · show room.toInt ≤ 4; rw [← e0]; exact t2
        · show 0 ≤ day.toInt; rw [← e1]; exact t3
        · show day.toInt ≤ 999; rw [← e1]; exact t4
      have hdj : ∀ x, x ∈ cSs c → dsj (mvNew t room day b) x := fun x hx => by
        by_cases q0 : sf x 0 = room
        · by_cases q1 : sf x 1 = day
          · refine Or.inr (Or.inr (Or.inr ?_))
            show _ ≤ (mvFrom t b).toInt
            have := hb x hx q0 q1
            omega
          · exact Or.inr (Or.inl (fun q => q1 q.symm))
        · exact Or.inl (fun q => q0 q.symm)
      have hho : okH (cPs c).length (mvNew t room day b) := by
        show -1 ≤ (if sf t 2 < b then (-1 : Int32) else sf t 5).toInt ∧ (if sf t 2 < b then (-1 : Int32) else sf t 5).toInt < _
        split
        · rw [show (-1 : Int32).toInt = -1 from by decide]; omega
        · exact hh
      have h2 := h.ins hok ht3 hho (by omega) hdj
      refine mv_inv M _ _ h2 (fun x hx => hM x (List.mem_cons_of_mem _ hx)) (by rw [insS_len]; omega) (by omega) (by omega) (fun x hx q0 q1 => ?_)
      have hx2 : x = mvNew t room day b ∨ x ∈ cSs c := (List.mem_insertIdx (insTo_le _ _ _ _ _)).mp hx
      rw [hsum]
      rcases hx2 with rfl | hx2
      · exact Int.le_refl _
      · have := hb x hx2 q0 q1
        omega
    · rw [if_neg hp]
      exact mv_inv M c b h (fun x hx => hM x (List.mem_cons_of_mem _ hx)) (by omega) b0 b16 hb
theorem freTo_inv (room day who s9 : Int32) (h : Inv T c) : ∀ i, Inv T (freTo c room day who s9 i)
  | 0 => h
  | i + 1 => by
    unfold freTo
    split
    · exact (freTo_inv room day who s9 h i).hold i (Or.inl rfl)
    · exact freTo_inv room day who s9 h i
theorem Inv.ext (h : Inv T c) (hk : k < (cSs c).length) (h1 : 1 ≤ n.toInt) (h2 : n.toInt ≤ 16) : Inv T (extC c k n) := by
  unfold extC
  refine freTo_inv _ _ _ _ ?_ _
  unfold extB
  rw [ext_rst h hk, ext_lat h hk]
  obtain ⟨b1, b2⟩ := base_inv h hk h1 h2
  have hs := h.s (sg_mem hk)
  have hL := extL_int hs h1 h2
  have hsum : (sf (sg (cSs c) k) 2 + extL (sg (cSs c) k) n).toInt = (sf (sg (cSs c) k) 2).toInt + (extL (sg (cSs c) k) n).toInt := by
    obtain ⟨s1, s2, s3, s4, s5, s6, s7⟩ := hs
    exact i32_sum (by omega) (by omega) (by omega) (by omega)
  have hw : wSs (extA c k n) = wSs c := rfl
  rw [hw]
  refine mv_inv _ _ _ b1 (fun x hx => ?_) ?_ ?_ ?_ (fun x hx q0 q1 => by rw [hsum]; exact b2 x hx q0 q1)
  · obtain ⟨hx1, hx2⟩ := List.mem_filter.mp hx
    obtain ⟨q0, q1, -⟩ := latP_iff.mp hx2
    have hxm : x ∈ cSs c := (List.drop_sublist _ _).subset hx1
    refine ⟨h.s hxm, q0, q1, ?_, h.hd hxm⟩
    exact h.td (sg_mem hk)
  · have e1 := rl_len (cSs (extA c k n)) (sf (sg (cSs c) k) 0) (sf (sg (cSs c) k) 1) (sf (sg (cSs c) k) 2)
    rw [ext_rst h hk, ext_lat h hk] at e1
    have e2 : (cSs (extA c k n)).length = (cSs c).length := setS_len _ _ _ _
    have := h.b1
    show ((cSs c).take k ++ _).length + _ ≤ 16
    omega
  · rw [hsum]; obtain ⟨s1, s2, s3, s4, s5, s6, s7⟩ := hs; omega
  · rw [hsum]; omega
theorem extPos (h : Inv T c) (hk : k < (cSs c).length) (h1 : 1 ≤ n.toInt) (h2 : n.toInt ≤ 16) : 0 < extL (sg (cSs c) k) n := by
  have hL := extL_int (h.s (sg_mem hk)) h1 h2
  rw [i32_lt, show (0 : Int32).toInt = 0 from rfl]
  omega
end EXT
