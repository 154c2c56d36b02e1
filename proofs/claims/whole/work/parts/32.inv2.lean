/-! WHAT EVERY CALENDAR KEEPS: days -/
theorem setC_eq (c : Cal) (i : Nat) (v : Int32) : cSc (setC c i v) i = v := by
  show upd (cSc c) i v i = v
  exact upd_eq _ _ _
theorem setC_nj (c : Cal) {i j : Nat} (v : Int32) (h : ¬ j = i) : cSc (setC c i v) j = cSc c j := by
  show upd (cSc c) i v j = _
  exact upd_ne _ _ h
theorem pyS_add (l : List Pn) (p : Nat) (v : Int32) (hp : p < l.length) : pyS (l.set p (tfset (pg l p) 2 (tf (pg l p) 2 + v))) = pyS l + v := by
  induction l generalizing p with
  | nil => exact absurd hp (Nat.not_lt_zero _)
  | cons a r ih =>
    cases p with
    | zero =>
      show tf a 2 + v + pyS r = tf a 2 + pyS r + v
      rw [Int32.add_assoc, Int32.add_comm v, Int32.add_assoc]
    | succ p =>
      have hp : p < r.length := by simpa using hp
      show tf a 2 + pyS (r.set p (tfset (pg r p) 2 (tf (pg r p) 2 + v))) = tf a 2 + pyS r + v
      rw [ih p hp, Int32.add_assoc]
theorem Inv.core {T : Nat} {c c2 : Cal} (h : Inv T c) (e1 : cSs c2 = cSs c) (e2 : cPs c2 = cPs c) (e3 : ∀ j, j = 3 ∨ j = 5 ∨ 9 ≤ j → cSc c2 j = cSc c j) (e4 : (cTs c2).length ≤ 640) : Inv T c2 := by
  unfold Inv okC
  rw [e1, e2, e3 3 (by decide), e3 5 (by decide), e3 9 (by decide), e3 10 (by decide), e3 11 (by decide), e3 12 (by decide)]
  exact ⟨h.1, h.kk, h.dj, ⟨h.t0, h.tT⟩, h.st, ⟨h.b0, h.b1, e4⟩, h.py⟩
theorem Inv.payT {T : Nat} {c : Cal} (h : Inv T c) (t : Int32) : ∀ n, n ≤ (cPs c).length → Inv T (payTo c t n)
  | 0, _ => h
  | n + 1, hn => by
    have ih := h.payT t n (by omega)
    have hl := payTo_len c t n
    have e : (cPs (payTo c t (n + 1))).length = (cPs (payTo c t n)).length := by rw [payTo_len, payTo_len]
    have sc : ∀ j, ¬ j = 5 → cSc (payTo c t (n + 1)) j = cSc (payTo c t n) j := fun j hj => by rw [payTo_sc c t hj, payTo_sc c t hj]
    refine ⟨fun s hs => ?_, ih.kk, ih.dj, ?_, ?_, ⟨by rw [e]; exact ih.b0, ih.b1, ih.b2⟩, ?_⟩
    · rw [e, sc 3 (by decide)]; exact ih.1 s hs
    · rw [sc 3 (by decide)]; exact ⟨ih.t0, ih.tT⟩
    · unfold okC; rw [sc 9 (by decide), sc 10 (by decide), sc 11 (by decide), sc 12 (by decide)]; exact ih.st
    · have e5 : cSc (payTo c t (n + 1)) 5 = cSc (payTo c t n) 5 + payOf (cnt (bz (cSs c) (nI n) t (-1))) := setC_eq _ _ _
      show _ = pyS ((cPs (payTo c t n)).set n _)
      rw [e5, pyS_add _ _ _ (by omega), ← ih.py]
theorem addT_l {c : Cal} (p q : Int32) (h : (cTs c).length ≤ 640) : (cTs (addT c p q)).length ≤ 640 := by
  unfold addT
  split
  · show (cTs c ++ [_]).length ≤ 640
    rw [List.length_append]; show _ + 1 ≤ _; omega
  · exact h
theorem hldTo_l {c : Cal} (h : (cTs c).length ≤ 640) : ∀ n, (cTs (hldTo c n)).length ≤ 640
  | 0 => h
  | n + 1 => by
    unfold hldTo
    split
    · exact hldTo_l h n
    · exact addT_l _ _ (hldTo_l h n)
theorem tyOne_l (c : Cal) (i : Nat) (n : Int32) : (cTs (tyOne c i n)).length ≤ (cTs c).length := by
  unfold tyOne
  split
  · show (((cTs c).set i _).eraseIdx i).length ≤ _
    have := List.length_eraseIdx_le ((cTs c).set i (tfset (tg (cTs c) i) 1 (tf (tg (cTs c) i) 1 - n))) i
    rw [List.length_set] at this
    exact this
  · show ((cTs c).set i _).length ≤ _
    rw [List.length_set]; exact Nat.le_refl _
theorem tyTo_l (p : Int32) : ∀ (f : Nat) (c : Cal) (left : Int32), (cTs (tyTo f c p left)).length ≤ (cTs c).length
  | 0, c, left => Nat.le_refl _
  | f + 1, c, left => by
    unfold tyTo
    split
    · split
      · exact Nat.le_refl _
      · exact Nat.le_trans (tyTo_l p f _ _) (tyOne_l _ _ _)
    · exact Nat.le_refl _
theorem typAl_l (c : Cal) (t : Int32) : ∀ n, (cTs (typAl c t n)).length ≤ (cTs c).length
  | 0 => Nat.le_refl _
  | n + 1 => by
    unfold typAl
    split
    · exact typAl_l c t n
    · exact Nat.le_trans (tyTo_l _ _ _ _) (typAl_l c t n)
theorem finTo_ss (c : Cal) (t : Int32) : ∀ n, cSs (finTo c t n) = cSs c
  | 0 => rfl
  | n + 1 => finTo_ss c t n
theorem finTo_ps (c : Cal) (t : Int32) : ∀ n, cPs (finTo c t n) = cPs c
  | 0 => rfl
  | n + 1 => finTo_ps c t n
theorem Inv.dA {T : Nat} {c : Cal} (h : Inv T c) : Inv T (dayA c) := by
  have h1 := h.payT (cSc c 3) _ (Nat.le_refl _)
  unfold dayA
  generalize payTo c (cSc c 3) (cPs c).length = c1 at h1
  refine h1.core ((typAl_ss _ _ _).trans (hldTo_ss _ _)) ((typAl_ps _ _ _).trans (hldTo_ps _ _)) (fun j hj => ?_) (Nat.le_trans (typAl_l _ _ _) (hldTo_l h1.b2 _))
  rw [typAl_sc _ _ (by omega) (by omega), hldTo_sc _ (by omega)]
theorem dA_ss (c : Cal) : cSs (dayA c) = cSs c := by unfold dayA; rw [typAl_ss, hldTo_ss, payTo_ss]
theorem dA_3 (c : Cal) : cSc (dayA c) 3 = cSc c 3 := by unfold dayA; rw [typAl_sc _ _ (by decide) (by decide), hldTo_sc _ (by decide), payTo_sc _ _ (by decide)]
theorem ky_day {x y : Ss} (hx : okR x) (hy : okR y) (h : ky x ≤ ky y) : (sf x 1).toInt ≤ (sf y 1).toInt := by
  obtain ⟨x1, x2, x3, x4, x5, x6, x7⟩ := hx
  obtain ⟨y1, y2, y3, y4, y5, y6, y7⟩ := hy
  unfold ky at h
  omega
/-- none of those that stay is of the day -/
theorem drop_day {T : Nat} {c : Cal} (h : Inv T c) {x : Ss} (hx : x ∈ (cSs c).drop (ldg (cSs c) (cSc c 3))) : (cSc c 3).toInt + 1 ≤ (sf x 1).toInt := by
  obtain ⟨i, hi, rfl⟩ := List.getElem_of_mem hx
  rw [List.length_drop] at hi
  rw [List.getElem_drop]
  have hm : ldg (cSs c) (cSc c 3) < (cSs c).length := by omega
  have ho := ldg_out (cSs c) (cSc c 3) hm
  rw [i32_eq] at ho
  have h1 := h.td (sg_mem hm)
  have h2 : (sf (sg (cSs c) (ldg (cSs c) (cSc c 3))) 1).toInt ≤ (sf (sg (cSs c) (ldg (cSs c) (cSc c 3) + i)) 1).toInt := by
    refine ky_day (h.s (sg_mem hm)) (h.s (sg_mem (by omega))) ?_
    cases i with
    | zero => exact Int.le_refl _
    | succ i => exact Int.le_of_lt (h.kk.at (by omega) (by omega))
  rw [← sg_get (by omega)]
  omega
theorem i32_succ {a : Int32} {T : Nat} (h0 : 0 ≤ a.toInt) (h1 : a.toInt ≤ T) (hT : T + 1 < 2 ^ 31) : (a + 1).toInt = a.toInt + 1 := by
  rw [Int32.toInt_add, show (1 : Int32).toInt = 1 from rfl]
  exact Int.bmod_eq_of_le (by omega) (by omega)
theorem Inv.dC {T : Nat} {c : Cal} (h : Inv T c) (hT : T + 1 < 2 ^ 31) : Inv (T + 1) (dayC c) := by
  have h1 := h.dA
  have e1 : cSs (dayC c) = (cSs c).drop (ldg (cSs c) (cSc c 3)) := by
    show cSs (finTo (dayB c) (cSc c 3) _) = _
    rw [finTo_ss]
    show (cSs (dayA c)).drop _ = _
    rw [dA_ss]
  have e2 : cPs (dayC c) = cPs (dayA c) := by
    show cPs (finTo (dayB c) (cSc c 3) _) = _
    rw [finTo_ps]; rfl
  have e3 : cTs (dayC c) = cTs (dayA c) := by
    show cTs (finTo (dayB c) (cSc c 3) _) = _
    rw [finTo_ts]; rfl
  have e4 : ∀ j, ¬ j = 3 → ¬ j = 6 → cSc (dayC c) j = cSc (dayA c) j := fun j h3 h6 => by
    show cSc (setC (finTo (dayB c) (cSc c 3) _) 3 _) j = _
    rw [setC_nj _ _ h3, finTo_sc _ _ h6]; rfl
  have e5 : cSc (dayC c) 3 = cSc c 3 + 1 := setC_eq _ _ _
  have e6 := i32_succ h.t0 h.tT hT
  have sub : (cSs (dayC c)).Sublist (cSs c) := by rw [e1]; exact List.drop_sublist _ _
  refine ⟨fun s hs => ?_, h.kk.sublist sub, h.dj.sublist sub, ?_, ?_, ⟨by rw [e2]; exact h1.b0, Nat.le_trans sub.length_le h.b1, by rw [e3]; exact h1.b2⟩, ?_⟩
  · have hs2 : s ∈ cSs (dayA c) := by rw [dA_ss]; exact sub.subset hs
    refine ⟨h1.s hs2, ?_, by rw [e2]; exact h1.hd hs2⟩
    rw [e5, e6]
    rw [e1] at hs
    exact drop_day h hs
  · rw [e5, e6]
    have := h.t0; have := h.tT
    omega
  · unfold okC
    rw [e4 9 (by decide) (by decide), e4 10 (by decide) (by decide), e4 11 (by decide) (by decide), e4 12 (by decide) (by decide)]
    exact h1.st
  · rw [e4 5 (by decide) (by decide), e2]; exact h1.py
theorem Inv.run {T : Nat} {c : Cal} (h : Inv T c) : ∀ n, T + n < 2 ^ 31 → Inv (T + n) (runTo c n)
  | 0, _ => h
  | n + 1, hn => (h.run n (by omega)).dC hn
-- what is counted is not negative
theorem finTo_6 {c : Cal} (t : Int32) {f : Nat} (hf : cSc c 12 = nI f) (h9 : f ≤ 99) : ∀ i, ∃ m, m ≤ i * 99 ∧ cSc (finTo c t i) 6 = cSc c 6 + nI m
  | 0 => ⟨0, by omega, by show cSc c 6 = cSc c 6 + 0; rw [Int32.add_zero]⟩
  | i + 1 => by
    obtain ⟨m, hm, e⟩ := finTo_6 t hf h9 i
    have e2 : cSc (finTo c t (i + 1)) 6 = cSc (finTo c t i) 6 + (if tf (tg (cTs c) i) 2 ≤ t then cSc c 12 else 0) := setC_eq _ _ _
    rw [e2, e]
    split
    · exact ⟨m + f, by omega, by rw [hf, Int32.add_assoc, nI_add]⟩
    · exact ⟨m, by omega, by rw [Int32.add_zero]⟩
theorem runTo_sc (c : Cal) {j : Nat} (h3 : ¬ j = 3) (h4 : ¬ j = 4) (h5 : ¬ j = 5) (h6 : ¬ j = 6) (h7 : ¬ j = 7) (h8 : ¬ j = 8) : ∀ n, cSc (runTo c n) j = cSc c j
  | 0 => rfl
  | n + 1 => by
    show cSc (dayC (runTo c n)) j = _
    rw [← runTo_sc c h3 h4 h5 h6 h7 h8 n]
    generalize runTo c n = d
    show cSc (setC (finTo (dayB d) (cSc d 3) _) 3 _) j = _
    rw [setC_nj _ _ h3, finTo_sc _ _ h6]
    show cSc (dayA d) j = _
    unfold dayA
    rw [typAl_sc _ _ h7 h8, hldTo_sc _ h4, payTo_sc _ _ h5]
theorem nI_toN {x : Int32} (h : 0 ≤ x.toInt) : x = nI x.toInt.toNat := by
  have := i32_rng x
  rw [i32_eq, nI_toInt (by omega)]; omega
theorem runTo_6 {T : Nat} {c : Cal} (h : Inv T c) : ∀ n, T + n < 2 ^ 31 → ∃ m, m ≤ n * 63360 ∧ cSc (runTo c n) 6 = cSc c 6 + nI m
  | 0, _ => ⟨0, by omega, by show cSc c 6 = cSc c 6 + 0; rw [Int32.add_zero]⟩
  | n + 1, hn => by
    obtain ⟨m, hm, e⟩ := runTo_6 h n (by omega)
    have hi := h.run n (by omega)
    have e12 := runTo_sc c (j := 12) (by decide) (by decide) (by decide) (by decide) (by decide) (by decide) n
    show ∃ m, _ ∧ cSc (dayC (runTo c n)) 6 = _
    generalize runTo c n = d at hi e e12
    have hA := hi.dA
    have h12 := hA.st.2.2.2.2.2.2
    obtain ⟨m2, h2, e2⟩ := finTo_6 (c := dayB d) (cSc d 3) (f := (cSc (dayA d) 12).toInt.toNat) (nI_toN h12.1) (by omega) (cTs (dayB d)).length
    have e3 : cSc (dayC d) 6 = cSc (finTo (dayB d) (cSc d 3) (cTs (dayB d)).length) 6 := setC_nj _ _ (by decide)
    have e4 : cSc (dayB d) 6 = cSc d 6 := by
      show cSc (dayA d) 6 = _
      unfold dayA
      rw [typAl_sc _ _ (by decide) (by decide), hldTo_sc _ (by decide), payTo_sc _ _ (by decide)]
    have hl : (cTs (dayB d)).length ≤ 640 := hA.b2
    refine ⟨m + m2, ?_, ?_⟩
    · have := Nat.mul_le_mul_right 99 hl
      omega
    · rw [e3, e2, e4, e, Int32.add_assoc, nI_add]
theorem runFine {T : Nat} {c : Cal} (h : Inv T c) {n : Nat} (hn : n ≤ 60) (hT : T + 60 < 2 ^ 31) : 0 ≤ (cSc (runTo c n) 6 - cSc c 6).toInt := by
  obtain ⟨m, hm, e⟩ := runTo_6 h n (by omega)
  rw [e, Int32.add_comm, Int32.add_sub_cancel, nI_toInt (by omega)]
  omega
theorem gvTo_2 (c : Cal) : ∀ k, ∃ m, m ≤ k ∧ (gvTo c k).2 = nI m
  | 0 => ⟨0, Nat.le_refl _, rfl⟩
  | k + 1 => by
    obtain ⟨m, hm, e⟩ := gvTo_2 c k
    unfold gvTo
    split
    · show ∃ m, _ ∧ (gvTo c k).2 + _ = _
      rw [e]
      split
      · exact ⟨m, by omega, Int32.add_zero _⟩
      · exact ⟨m + 1, by omega, by rw [← nI_add]; rfl⟩
    · exact ⟨m, by omega, e⟩
theorem lvTo_2 (c : Cal) (p t : Int32) : ∀ k, ∃ m, m ≤ k ∧ (lvTo c p t k).2 = nI m
  | 0 => ⟨0, Nat.le_refl _, rfl⟩
  | k + 1 => by
    obtain ⟨m, hm, e⟩ := lvTo_2 c p t k
    unfold lvTo
    split
    · show ∃ m, _ ∧ (lvTo c p t k).2 + _ = _
      rw [e]
      exact ⟨m + 1, by omega, by rw [← nI_add]; rfl⟩
    · exact ⟨m, by omega, e⟩
/-! A SESSION THAT LASTS LONGER -/
theorem i32_sum {a b : Int32} (h0 : -100 ≤ a.toInt) (h1 : a.toInt ≤ 100) (h2 : -100 ≤ b.toInt) (h3 : b.toInt ≤ 100) : (a + b).toInt = a.toInt + b.toInt := by
  rw [Int32.toInt_add]; exact Int.bmod_eq_of_le (by omega) (by omega)
theorem i32_dif {a b : Int32} (h0 : -100 ≤ a.toInt) (h1 : a.toInt ≤ 100) (h2 : -100 ≤ b.toInt) (h3 : b.toInt ≤ 100) : (a - b).toInt = a.toInt - b.toInt := by
  rw [Int32.toInt_sub]; exact Int.bmod_eq_of_le (by omega) (by omega)
theorem extL_int {s : Ss} (h : okR s) {n : Int32} (h1 : 1 ≤ n.toInt) (h2 : n.toInt ≤ 16) : (sf s 3).toInt ≤ (extL s n).toInt ∧ 1 ≤ (extL s n).toInt ∧ (sf s 2).toInt + (extL s n).toInt ≤ 16 ∧ (extL s n).toInt ≤ (sf s 3).toInt + n.toInt ∧ ((extL s n).toInt = (sf s 3).toInt + n.toInt ∨ (extL s n).toInt = 16 - (sf s 2).toInt) := by
  obtain ⟨s1, s2, s3, s4, s5, s6, s7⟩ := h
  have e1 : (sf s 3 + n).toInt = (sf s 3).toInt + n.toInt := i32_sum (by omega) (by omega) (by omega) (by omega)
  have e2 : (16 - sf s 2).toInt = 16 - (sf s 2).toInt := i32_dif (by decide) (by decide) (by omega) (by omega)
  unfold extL
  split
  · rename_i q; rw [i32_lt, e1, e2] at q; rw [e1]; omega
  · rename_i q; rw [i32_lt, e1, e2] at q; rw [e2]; omega
theorem ext_ss {c : Cal} {k : Nat} (hk : k < (cSs c).length) (n : Int32) : cSs (extA c k n) = (cSs c).take k ++ sfset (sg (cSs c) k) 3 (extL (sg (cSs c) k) n) :: (cSs c).drop (k + 1) := by
  show (cSs c).set k _ = _
  have e : ∀ (P S : List Ss) (a b : Ss), (P ++ a :: S).set P.length b = P ++ b :: S := fun P S a b => by
    induction P with
    | nil => rfl
    | cons x r ih => show x :: (r ++ a :: S).set r.length b = _; rw [ih]; rfl
  have hl : ((cSs c).take k).length = k := by rw [List.length_take]; omega
  have := e ((cSs c).take k) ((cSs c).drop (k + 1)) (sg (cSs c) k) (sfset (sg (cSs c) k) 3 (extL (sg (cSs c) k) n))
  rw [← sg_split hk, hl] at this
  exact this
theorem kys_at {c : Cal} {T k : Nat} (h : Inv T c) (hk : k < (cSs c).length) : (∀ x, x ∈ (cSs c).take k → okR x ∧ ky x < ky (sg (cSs c) k) ∧ dsj x (sg (cSs c) k)) ∧ ∀ x, x ∈ (cSs c).drop (k + 1) → okR x ∧ ky (sg (cSs c) k) < ky x ∧ dsj (sg (cSs c) k) x := by
  have h1 := h.kk
  have h2 := h.dj
  have h3 : ∀ x, x ∈ cSs c → okR x := fun x hx => h.s hx
  unfold Kys at h1
  unfold Dsj at h2
  rw [sg_split hk, List.pairwise_append] at h1 h2
  rw [sg_split hk] at h3
  exact ⟨fun x hx => ⟨h3 x (List.mem_append_left _ hx), h1.2.2 x hx _ List.mem_cons_self, h2.2.2 x hx _ List.mem_cons_self⟩,
    fun x hx => ⟨h3 x (List.mem_append_right _ (List.mem_cons_of_mem _ hx)), (List.pairwise_cons.mp h1.2.1).1 x hx, (List.pairwise_cons.mp h2.2.1).1 x hx⟩⟩
