/-! A SESSION LASTS LONGER, AS THE CLASS DOES IT -/
def drvN (x : Ss) (b : Int32) : Ss := if sf x 2 < b then (sf x 0, sf x 1, b, min32 (sf x 3) (16 - b), sf x 4, -1) else x
def drv (r d : Int32) : Int32 → List Ss → List Ss
  | _, [] => []
  | b, x :: M => if sf x 0 = r ∧ sf x 1 = d then drvN x b :: drv r d (sf (drvN x b) 2 + sf (drvN x b) 3) M else x :: drv r d b M
def mvL (r d : Int32) : Int32 → List Ss → List Ss
  | _, [] => []
  | b, x :: M => if 0 < mvSpan x b then mvNew x r d b :: mvL r d (mvFrom x b + mvSpan x b) M else mvL r d b M
def ne0 (x : Ss) : Bool := !decide (sf x 3 = 0)
def isP (r d : Int32) (x : Ss) : Bool := decide (sf x 0 = r) && decide (sf x 1 = d)
theorem isP_iff {r d : Int32} {x : Ss} : isP r d x = true ↔ sf x 0 = r ∧ sf x 1 = d := by unfold isP; simp only [Bool.and_eq_true, decide_eq_true_eq]
theorem ne0_ok {x : Ss} (h : okR x) : ne0 x = true := by
  unfold ne0
  have : ¬ sf x 3 = 0 := fun z => by
    have h6 := h.2.2.2.2.2.1
    rw [z, show (0 : Int32).toInt = 0 from rfl] at h6
    omega
  rw [decide_eq_false this]; rfl
theorem insS_perm (c : Cal) (s : Ss) : (cSs (insS c s)).Perm (s :: cSs c) := List.perm_insertIdx _ _ (insTo_le _ _ _ _ _)
theorem mvAll_perm (r d : Int32) : ∀ (M : List Ss) (c : Cal) (b : Int32), (cSs (mvAll c r d b M)).Perm (cSs c ++ mvL r d b M)
  | [], c, b => by show (cSs c).Perm (cSs c ++ []); rw [List.append_nil]
  | x :: M, c, b => by
    rw [mvAll, mvL]
    by_cases h : 0 < mvSpan x b
    · rw [if_pos h, if_pos h]
      refine (mvAll_perm r d M _ _).trans ?_
      exact ((insS_perm c _).append_right _).trans List.perm_middle.symm
    · rw [if_neg h, if_neg h]
      exact mvAll_perm r d M c b
theorem mvAll_rest (r d : Int32) : ∀ (M : List Ss) (c : Cal) (b : Int32), mvAll c r d b M = wSs c (cSs (mvAll c r d b M))
  | [], c, b => rfl
  | x :: M, c, b => by
    rw [mvAll]
    split
    · rw [mvAll_rest r d M]
      rfl
    · exact mvAll_rest r d M c b
theorem freTo_rest (c : Cal) (r d who s9 : Int32) : ∀ i, freTo c r d who s9 i = wSs c (cSs (freTo c r d who s9 i))
  | 0 => rfl
  | i + 1 => by
    rw [freTo]
    split
    · have := freTo_rest c r d who s9 i
      generalize freTo c r d who s9 i = x at this
      rw [this]; rfl
    · exact freTo_rest c r d who s9 i
theorem extC_rest (c : Cal) (k : Nat) (n : Int32) : extC c k n = wSs c (cSs (extC c k n)) := by
  unfold extC
  rw [freTo_rest]
  unfold extB
  rw [mvAll_rest]
  rfl
/-- where a session goes that gives way, and what is left of it -/
theorem mv_facts {x : Ss} {b : Int32} (h : okR x) (b0 : 0 ≤ b.toInt) (b16 : b.toInt ≤ 16) : drvN x b = mvNew x (sf x 0) (sf x 1) b ∧ 0 ≤ (mvSpan x b).toInt ∧ b.toInt ≤ (mvFrom x b).toInt ∧ (mvFrom x b + mvSpan x b).toInt = (mvFrom x b).toInt + (mvSpan x b).toInt ∧ (mvFrom x b).toInt + (mvSpan x b).toInt ≤ 16 ∧ (mvSpan x b = 0 → mvFrom x b = b) := by
  obtain ⟨x1, x2, x3, x4, x5, x6, x7⟩ := h
  have hsp : mvSpan x b = min32 (sf x 3) (16 - mvFrom x b) := rfl
  by_cases q : sf x 2 < b
  · have hf : mvFrom x b = b := if_pos q
    have hd : (16 - b).toInt = 16 - b.toInt := i32_dif (by decide) (by decide) (by omega) (by omega)
    have hs : 0 ≤ (mvSpan x b).toInt ∧ (mvSpan x b).toInt ≤ 16 - b.toInt := by
      rw [hsp, hf]
      unfold min32
      split
      · rename_i z; rw [i32_lt, hd] at z; omega
      · rw [hd]; omega
    refine ⟨?_, hs.1, by rw [hf]; omega, ?_, by rw [hf]; omega, fun _ => hf⟩
    · unfold drvN mvNew
      rw [if_pos q, if_pos q, hsp, hf]
    · rw [hf]; exact i32_sum (by omega) (by omega) (by omega) (by omega)
  · have hf : mvFrom x b = sf x 2 := if_neg q
    have hd : (16 - sf x 2).toInt = 16 - (sf x 2).toInt := i32_dif (by decide) (by decide) (by omega) (by omega)
    have hs : mvSpan x b = sf x 3 := by
      rw [hsp, hf]
      unfold min32
      split
      · rfl
      · rename_i z; rw [i32_lt, hd] at z; rw [i32_eq, hd]; omega
    rw [i32_lt] at q
    refine ⟨?_, by rw [hs]; omega, by rw [hf]; omega, ?_, by rw [hf, hs]; omega, fun z => ?_⟩
    · unfold drvN mvNew
      rw [if_neg (by rw [i32_lt]; exact q), if_neg (by rw [i32_lt]; exact q), hf, hs]
      rfl
    · rw [hf, hs]; exact i32_sum (by omega) (by omega) (by omega) (by omega)
    · rw [hs] at z
      rw [z, show (0 : Int32).toInt = 0 from rfl] at x6
      omega
theorem drv_perm (r d : Int32) : ∀ (M : List Ss) (b : Int32), (∀ x, x ∈ M → okR x) → 0 ≤ b.toInt → b.toInt ≤ 16 → ((drv r d b M).filter ne0).Perm (M.filter (fun x => !isP r d x) ++ mvL r d b (M.filter (isP r d)))
  | [], b, _, _, _ => List.Perm.refl _
  | x :: M, b, hM, b0, b16 => by
    have hx := hM x List.mem_cons_self
    have hM2 : ∀ y, y ∈ M → okR y := fun y hy => hM y (List.mem_cons_of_mem _ hy)
    rw [drv]
    by_cases hp : sf x 0 = r ∧ sf x 1 = d
    · have ip : isP r d x = true := isP_iff.mpr hp
      obtain ⟨f1, f2, f3, f4, f5, f6⟩ := mv_facts hx b0 b16
      rw [if_pos hp, List.filter_cons_of_neg (l := M) (a := x) (p := fun x => !isP r d x) (by rw [ip]; decide), List.filter_cons_of_pos (l := M) (a := x) (p := isP r d) ip, f1, hp.1, hp.2]
      have e2 : sf (mvNew x r d b) 2 = mvFrom x b := rfl
      have e3 : sf (mvNew x r d b) 3 = mvSpan x b := rfl
      rw [e2, e3, mvL, List.filter_cons]
      have hn : ne0 (mvNew x r d b) = !decide (mvSpan x b = 0) := rfl
      by_cases q : mvSpan x b = 0
      · have q2 : ¬ 0 < mvSpan x b := by rw [q]; decide
        rw [hn, decide_eq_true q, if_neg (by decide), if_neg q2, q, f6 q, Int32.add_zero]
        exact drv_perm r d M b hM2 b0 b16
      · have q2 : 0 < mvSpan x b := by
          rw [i32_lt, show (0 : Int32).toInt = 0 from rfl]
          rw [i32_eq, show (0 : Int32).toInt = 0 from rfl] at q
          omega
        rw [hn, decide_eq_false q, if_pos (by decide), if_pos q2]
        refine ((drv_perm r d M _ hM2 (by omega) (by omega)).cons _).trans ?_
        exact List.perm_middle.symm
    · have ip : isP r d x = false := by rw [Bool.eq_false_iff]; exact fun z => hp (isP_iff.mp z)
      rw [if_neg hp, List.filter_cons_of_pos (l := M) (a := x) (p := fun x => !isP r d x) (by rw [ip]; decide), List.filter_cons_of_neg (l := M) (a := x) (p := isP r d) (by rw [ip]; decide), List.filter_cons_of_pos (ne0_ok hx)]
      exact (drv_perm r d M b hM2 b0 b16).cons _
/-- what stands behind in a room starts behind the border -/
theorem drv_in (r d : Int32) : ∀ (M : List Ss) (b : Int32), (∀ x, x ∈ M → okR x) → 0 ≤ b.toInt → b.toInt ≤ 16 → ∀ y, y ∈ drv r d b M → okO y ∧ okB y ∧ (sf y 0 = r → sf y 1 = d → b.toInt ≤ (sf y 2).toInt)
  | [], b, _, _, _, y, hy => by cases hy
  | x :: M, b, hM, b0, b16, y, hy => by
    have hx := hM x List.mem_cons_self
    have hM2 : ∀ y, y ∈ M → okR y := fun y hy => hM y (List.mem_cons_of_mem _ hy)
    rw [drv] at hy
    by_cases hp : sf x 0 = r ∧ sf x 1 = d
    · obtain ⟨f1, f2, f3, f4, f5, f6⟩ := mv_facts hx b0 b16
      rw [if_pos hp, f1, hp.1, hp.2] at hy
      have e2 : sf (mvNew x r d b) 2 = mvFrom x b := rfl
      have e3 : sf (mvNew x r d b) 3 = mvSpan x b := rfl
      rw [e2, e3] at hy
      rcases List.mem_cons.mp hy with rfl | hy
      · obtain ⟨x1, x2, x3, x4, x5, x6, x7⟩ := hx
        rw [hp.1] at x1 x2
        rw [hp.2] at x3 x4
        exact ⟨⟨x1, x2, x3, x4, by rw [e2]; omega, by rw [e2]; omega⟩, ⟨by rw [e2]; omega, by rw [e3]; omega, by rw [e2, e3]; omega⟩, fun _ _ => by rw [e2]; exact f3⟩
      · obtain ⟨g1, g2, g3⟩ := drv_in r d M _ hM2 (by omega) (by omega) y hy
        exact ⟨g1, g2, fun a1 a2 => by have := g3 a1 a2; omega⟩
    · rw [if_neg hp] at hy
      rcases List.mem_cons.mp hy with rfl | hy
      · exact ⟨hx.o, hx.b, fun a1 a2 => absurd ⟨a1, a2⟩ hp⟩
      · exact drv_in r d M b hM2 b0 b16 y hy
theorem drv_len (r d : Int32) : ∀ (M : List Ss) (b : Int32), (drv r d b M).length = M.length
  | [], b => rfl
  | x :: M, b => by
    rw [drv]
    split
    · rw [List.length_cons, List.length_cons, drv_len]
    · rw [List.length_cons, List.length_cons, drv_len]
theorem sg_app3 (P R : List Ss) (s : Ss) (j : Nat) : sg (P ++ s :: R) (P.length + 1 + j) = sg R j := by
  induction P with
  | nil =>
    show sg (s :: R) (0 + 1 + j) = _
    rw [Nat.zero_add, Nat.add_comm]; rfl
  | cons a r ih =>
    show sg (a :: (r ++ s :: R)) (r.length + 1 + 1 + j) = _
    rw [show r.length + 1 + 1 + j = (r.length + 1 + j) + 1 by omega]
    exact ih
/-- all sessions behind the first step -/
def ss1 (c : Cal) (k : Nat) (n : Int32) : List Ss := (cSs c).take k ++ sfset (sg (cSs c) k) 3 (extL (sg (cSs c) k) n) :: drv (sf (sg (cSs c) k) 0) (sf (sg (cSs c) k) 1) (sf (sg (cSs c) k) 2 + extL (sg (cSs c) k) n) ((cSs c).drop (k + 1))
section XM
variable {T : Nat} {c : Cal} {k : Nat} {n : Int32}
theorem ext_b (h : Inv T c) (hk : k < (cSs c).length) (h1 : 1 ≤ n.toInt) (h2 : n.toInt ≤ 16) : (sf (sg (cSs c) k) 2 + extL (sg (cSs c) k) n).toInt = (sf (sg (cSs c) k) 2).toInt + (extL (sg (cSs c) k) n).toInt ∧ 0 ≤ (sf (sg (cSs c) k) 2).toInt ∧ 1 ≤ (extL (sg (cSs c) k) n).toInt ∧ (sf (sg (cSs c) k) 2).toInt + (extL (sg (cSs c) k) n).toInt ≤ 16 := by
  have hs := h.s (sg_mem hk)
  have hL := extL_int hs h1 h2
  obtain ⟨s1, s2, s3, s4, s5, s6, s7⟩ := hs
  exact ⟨i32_sum (by omega) (by omega) (by omega) (by omega), s5, hL.2.1, hL.2.2.1⟩
theorem ext_s (h : Inv T c) (hk : k < (cSs c).length) (h1 : 1 ≤ n.toInt) (h2 : n.toInt ≤ 16) : okR (sfset (sg (cSs c) k) 3 (extL (sg (cSs c) k) n)) := by
  obtain ⟨b1, b2, b3, b4⟩ := ext_b h hk h1 h2
  obtain ⟨s1, s2, s3, s4, s5, s6, s7⟩ := h.s (sg_mem hk)
  exact ⟨s1, s2, s3, s4, s5, b3, b4⟩
theorem ss1_perm (h : Inv T c) (hk : k < (cSs c).length) (h1 : 1 ≤ n.toInt) (h2 : n.toInt ≤ 16) : ((ss1 c k n).filter ne0).Perm (cSs (extB c k n)) := by
  obtain ⟨f1, f2⟩ := kys_at h hk
  obtain ⟨b1, b2, b3, b4⟩ := ext_b h hk h1 h2
  have hs := h.s (sg_mem hk)
  unfold extB
  rw [ext_rst h hk, ext_lat h hk]
  refine List.Perm.trans ?_ (mvAll_perm _ _ _ _ _).symm
  show ((ss1 c k n).filter ne0).Perm (((cSs c).take k ++ sfset (sg (cSs c) k) 3 (extL (sg (cSs c) k) n) :: ((cSs c).drop (k + 1)).filter (fun x => !latP (sf (sg (cSs c) k) 0) (sf (sg (cSs c) k) 1) (sf (sg (cSs c) k) 2) x)) ++ mvL _ _ _ (((cSs c).drop (k + 1)).filter (latP _ _ _)))
  have elat : ∀ x, x ∈ (cSs c).drop (k + 1) → latP (sf (sg (cSs c) k) 0) (sf (sg (cSs c) k) 1) (sf (sg (cSs c) k) 2) x = isP (sf (sg (cSs c) k) 0) (sf (sg (cSs c) k) 1) x := fun x hx => by
    obtain ⟨hx1, hx2, -⟩ := f2 x hx
    rw [Bool.eq_iff_iff, latP_iff, isP_iff]
    refine ⟨fun z => ⟨z.1, z.2.1⟩, fun z => ⟨z.1, z.2, ?_⟩⟩
    obtain ⟨z1, z2⟩ := z
    rw [i32_eq] at z1 z2
    rw [i32_lt]
    unfold ky at hx2
    omega
  have e1 : ((cSs c).drop (k + 1)).filter (latP (sf (sg (cSs c) k) 0) (sf (sg (cSs c) k) 1) (sf (sg (cSs c) k) 2)) = ((cSs c).drop (k + 1)).filter (isP (sf (sg (cSs c) k) 0) (sf (sg (cSs c) k) 1)) := List.filter_congr elat
  have e2 : ((cSs c).drop (k + 1)).filter (fun x => !latP (sf (sg (cSs c) k) 0) (sf (sg (cSs c) k) 1) (sf (sg (cSs c) k) 2) x) = ((cSs c).drop (k + 1)).filter (fun x => !isP (sf (sg (cSs c) k) 0) (sf (sg (cSs c) k) 1) x) := List.filter_congr (fun x hx => by rw [elat x hx])
  rw [e1, e2]
  unfold ss1
  rw [List.filter_append, filter_all (fun x hx => ne0_ok (f1 x hx).1), List.filter_cons, ne0_ok (ext_s h hk h1 h2), if_pos rfl, List.append_assoc, List.cons_append]
  exact ((drv_perm _ _ _ _ (fun x hx => (f2 x hx).1) (by omega) (by omega)).cons _).append_left _
theorem ss1_len (hk : k < (cSs c).length) : (ss1 c k n).length = (cSs c).length := by
  unfold ss1
  rw [List.length_append, List.length_cons, drv_len, List.length_take, List.length_drop]
  omega
theorem ss1_k (hk : k < (cSs c).length) : sg (ss1 c k n) k = sfset (sg (cSs c) k) 3 (extL (sg (cSs c) k) n) := by
  unfold ss1
  have hl : ((cSs c).take k).length = k := by rw [List.length_take]; omega
  have := sg_mid ((cSs c).take k) (drv (sf (sg (cSs c) k) 0) (sf (sg (cSs c) k) 1) (sf (sg (cSs c) k) 2 + extL (sg (cSs c) k) n) ((cSs c).drop (k + 1))) (sfset (sg (cSs c) k) 3 (extL (sg (cSs c) k) n))
  rw [hl] at this
  exact this
end XM
-- bits that share nothing
theorem and_far {a q m : Nat} (h : a < 2 ^ m) : a &&& (q * 2 ^ m) = 0 := by
  apply Nat.eq_of_testBit_eq
  intro i
  rw [Nat.testBit_and, Nat.zero_testBit]
  by_cases z : i < m
  · rw [Nat.testBit_mul_two_pow, decide_eq_false (by omega), Bool.false_and, Bool.and_false]
  · rw [Nat.testBit_lt_two_pow (Nat.lt_of_lt_of_le h (Nat.pow_le_pow_right (by decide) (by omega))), Bool.false_and]
theorem spn_val {s : Ss} {f n : Nat} (h : f + n ≤ 16) (e1 : sf s 2 = nI f) (e2 : sf s 3 = nI n) : spn s = nI (2 ^ (f + n) - 2 ^ f) := by
  unfold spn
  rw [e1, e2, (bts_all f (by omega) n (by omega) h).2.1]
theorem spn_far {s t : Ss} (hs : okB s) (ht : okB t) (h : (sf s 2).toInt + (sf s 3).toInt ≤ (sf t 2).toInt) : spn s &&& spn t = 0 ∧ spn t &&& spn s = 0 := by
  obtain ⟨f, n, h1, e1, e2⟩ := hs.nat
  obtain ⟨f2, n2, h3, e3, e4⟩ := ht.nat
  rw [e1, e2, e3, nI_toInt (by omega), nI_toInt (by omega), nI_toInt (by omega)] at h
  rw [spn_val h1 e1 e2, spn_val h3 e3 e4, nIand, nIand]
  have ea : 2 ^ (f2 + n2) - 2 ^ f2 = (2 ^ n2 - 1) * 2 ^ f2 := by
    rw [Nat.sub_mul, Nat.one_mul, Nat.pow_add, Nat.mul_comm]
  have hb : 2 ^ (f + n) - 2 ^ f < 2 ^ f2 := by
    have h1 : 2 ^ (f + n) ≤ 2 ^ f2 := Nat.pow_le_pow_right (by decide) (by omega)
    have h2 : 0 < 2 ^ f := Nat.pow_pos (by decide)
    have h3 : 0 < 2 ^ f2 := Nat.pow_pos (by decide)
    omega
  rw [ea]
  have := and_far (q := 2 ^ n2 - 1) hb
  exact ⟨by rw [this]; rfl, by rw [Nat.and_comm, this]; rfl⟩
-- who is freed
def frM (r d who s9 : Int32) (x : Ss) : Ss := if ¬ who = -1 ∧ ¬ sf x 0 = r ∧ sf x 1 = d ∧ sf x 5 = who ∧ ¬ (spn x &&& s9) = 0 then sfset x 5 (-1) else x
theorem freTo_sg (c : Cal) (r d who s9 : Int32) : ∀ i, i ≤ (cSs c).length → ∀ j, sg (cSs (freTo c r d who s9 i)) j = if j < i then frM r d who s9 (sg (cSs c) j) else sg (cSs c) j
  | 0, _, j => by rw [if_neg (Nat.not_lt_zero _)]; rfl
  | i + 1, hi, j => by
    have ih := freTo_sg c r d who s9 i (by omega)
    have hl := freTo_len c r d who s9 i
    have ei : sg (cSs (freTo c r d who s9 i)) i = sg (cSs c) i := by rw [ih, if_neg (Nat.lt_irrefl _)]
    rw [freTo, ei]
    split
    · rename_i z
      rw [setS_sg (by omega)]
      by_cases q : j = i
      · subst q
        rw [if_pos rfl, if_pos (by omega), ei]
        exact (if_pos z).symm
      · rw [if_neg q, ih]
        by_cases q2 : j < i
        · rw [if_pos q2, if_pos (by omega)]
        · rw [if_neg q2, if_neg (by omega)]
    · rename_i z
      rw [ih]
      by_cases q : j = i
      · subst q
        rw [if_neg (Nat.lt_irrefl _), if_pos (by omega)]
        exact (if_neg z).symm
      · by_cases q2 : j < i
        · rw [if_pos q2, if_pos (by omega)]
        · rw [if_neg q2, if_neg (by omega)]
theorem sg_map (f : Ss → Ss) {l : List Ss} {j : Nat} (h : j < l.length) : sg (l.map f) j = f (sg l j) := by
  rw [sg_get (by rw [List.length_map]; exact h), List.getElem_map, sg_get h]
theorem freTo_map (c : Cal) (r d who s9 : Int32) : cSs (freTo c r d who s9 (cSs c).length) = (cSs c).map (frM r d who s9) := by
  refine sg_ext (by rw [freTo_len, List.length_map]) (fun i hi => ?_)
  rw [freTo_len] at hi
  rw [freTo_sg _ _ _ _ _ _ (Nat.le_refl _), if_pos hi, sg_map _ hi]
def frC (s : Ss) (x : Ss) : Ss := if sf x 5 = sf s 5 ∧ sf x 1 = sf s 1 ∧ ¬ (bts x &&& bts s) = 0 then sfset x 5 (-1) else x
theorem frC_eq {s x : Ss} (hs : okB s) (hx : okB x) (hf : sf x 0 = sf s 0 → sf x 1 = sf s 1 → spn x &&& spn s = 0) : frC s x = frM (sf s 0) (sf s 1) (sf s 5) (spn s) x := by
  by_cases hw : sf s 5 = -1
  · rw [show frM (sf s 0) (sf s 1) (sf s 5) (spn s) x = x from if_neg (fun z => z.1 hw)]
    unfold frC
    split
    · rename_i z
      have e : (-1 : Int32) = sf x 5 := (z.1.trans hw).symm
      rw [e]; rfl
    · rfl
  · unfold frC frM
    rw [bts_eq hs, bts_eq hx]
    by_cases h1 : sf x 1 = sf s 1
    · by_cases h0 : sf x 0 = sf s 0
      · rw [if_neg (fun z => z.2.2 (hf h0 h1)), if_neg (fun z => z.2.1 h0)]
      · by_cases h5 : sf x 5 = sf s 5 ∧ ¬ (spn x &&& spn s) = 0
        · rw [if_pos ⟨h5.1, h1, h5.2⟩, if_pos ⟨hw, h0, h1, h5⟩]
        · rw [if_neg (fun z => h5 ⟨z.1, z.2.2⟩), if_neg (fun z => h5 z.2.2.2)]
    · rw [if_neg (fun z => h1 z.2.1), if_neg (fun z => h1 z.2.2.1)]
def frT (ss : List Ss) (k : Nat) (s : Ss) : Nat → List Ss
  | 0 => ss
  | i + 1 => if ¬ i = k ∧ (sf (sg (frT ss k s i) i) 5 = sf s 5 ∧ sf (sg (frT ss k s i) i) 1 = sf s 1 ∧ ¬ (bts (sg (frT ss k s i) i) &&& bts s) = 0) then (frT ss k s i).set i (sfset (sg (frT ss k s i) i) 5 (-1)) else frT ss k s i
theorem frT_len (ss : List Ss) (k : Nat) (s : Ss) : ∀ i, (frT ss k s i).length = ss.length
  | 0 => rfl
  | i + 1 => by
    rw [frT]
    split
    · rw [List.length_set]; exact frT_len ss k s i
    · exact frT_len ss k s i
theorem frT_sg (ss : List Ss) (k : Nat) (s : Ss) : ∀ i, i ≤ ss.length → ∀ j, sg (frT ss k s i) j = if j < i ∧ ¬ j = k then frC s (sg ss j) else sg ss j
  | 0, _, j => by rw [if_neg (fun z => Nat.not_lt_zero _ z.1)]; rfl
  | i + 1, hi, j => by
    have ih := frT_sg ss k s i (by omega)
    have hl := frT_len ss k s i
    have ei : sg (frT ss k s i) i = sg ss i := by rw [ih, if_neg (fun z => Nat.lt_irrefl _ z.1)]
    rw [frT, ei]
    split
    · rename_i z
      rw [sg_set _ _ _ _ (by omega)]
      by_cases q : j = i
      · subst q
        rw [if_pos rfl, if_pos ⟨by omega, z.1⟩]
        exact (if_pos z.2).symm
      · rw [if_neg q, ih]
        by_cases q2 : j < i ∧ ¬ j = k
        · rw [if_pos q2, if_pos ⟨by omega, q2.2⟩]
        · rw [if_neg q2, if_neg (fun y => q2 ⟨by omega, y.2⟩)]
    · rename_i z
      rw [ih]
      by_cases q : j = i
      · subst q
        rw [if_neg (fun y => Nat.lt_irrefl _ y.1)]
        by_cases q3 : j = k
        · rw [if_neg (fun y => y.2 q3)]
        · rw [if_pos ⟨by omega, q3⟩]
          exact (if_neg (fun y => z ⟨q3, y⟩)).symm
      · by_cases q2 : j < i ∧ ¬ j = k
        · rw [if_pos q2, if_pos ⟨by omega, q2.2⟩]
        · rw [if_neg q2, if_neg (fun y => q2 ⟨by omega, y.2⟩)]
section XN
variable {T : Nat} {c : Cal} {k : Nat} {n : Int32}
/-- behind the second step: those are freed whom the other side frees -/
theorem ss2_eq (h : Inv T c) (hk : k < (cSs c).length) (h1 : 1 ≤ n.toInt) (h2 : n.toInt ≤ 16) : frT (ss1 c k n) k (sfset (sg (cSs c) k) 3 (extL (sg (cSs c) k) n)) (ss1 c k n).length = (ss1 c k n).map (frM (sf (sg (cSs c) k) 0) (sf (sg (cSs c) k) 1) (sf (sg (cSs c) k) 5) (spn (sfset (sg (cSs c) k) 3 (extL (sg (cSs c) k) n)))) := by
  obtain ⟨f1, f2⟩ := kys_at h hk
  obtain ⟨b1, b2, b3, b4⟩ := ext_b h hk h1 h2
  have hs := h.s (sg_mem hk)
  have hs2 := ext_s h hk h1 h2
  refine sg_ext (by rw [frT_len, List.length_map]) (fun i hi => ?_)
  rw [frT_len] at hi
  rw [frT_sg _ _ _ _ (Nat.le_refl _), sg_map _ hi]
  by_cases q : i = k
  · subst q
    rw [if_neg (fun z => z.2 rfl), ss1_k hk]
    unfold frM
    exact (if_neg (fun z => z.2.1 rfl)).symm
  · rw [if_pos ⟨hi, q⟩]
    rw [ss1_len hk] at hi
    have hl : ((cSs c).take k).length = k := by rw [List.length_take]; omega
    by_cases q2 : i < k
    · have e : sg (ss1 c k n) i = sg ((cSs c).take k) i := by unfold ss1; exact sg_app2 _ _ (by omega)
      have hm : sg ((cSs c).take k) i ∈ (cSs c).take k := sg_mem (by omega)
      rw [e]
      generalize sg ((cSs c).take k) i = x at hm
      obtain ⟨x1, x2, x3⟩ := f1 x hm
      refine frC_eq hs2.b x1.b (fun z0 z1 => ?_)
      refine (spn_far x1.b hs2.b ?_).1
      have z0 : sf x 0 = sf (sg (cSs c) k) 0 := z0
      have z1 : sf x 1 = sf (sg (cSs c) k) 1 := z1
      show _ ≤ (sf (sg (cSs c) k) 2).toInt
      unfold dsj at x3
      rcases x3 with x3 | x3 | x3 | x3
      · exact absurd z0 x3
      · exact absurd z1 x3
      · exact x3
      · obtain ⟨a1, a2, a3, a4, a5, a6, a7⟩ := hs
        rw [i32_eq] at z0 z1
        unfold ky at x2
        omega
    · have e : sg (ss1 c k n) i ∈ drv (sf (sg (cSs c) k) 0) (sf (sg (cSs c) k) 1) (sf (sg (cSs c) k) 2 + extL (sg (cSs c) k) n) ((cSs c).drop (k + 1)) := by
        have hlen := drv_len (sf (sg (cSs c) k) 0) (sf (sg (cSs c) k) 1) ((cSs c).drop (k + 1)) (sf (sg (cSs c) k) 2 + extL (sg (cSs c) k) n)
        rw [List.length_drop] at hlen
        have e9 := sg_app3 ((cSs c).take k) (drv (sf (sg (cSs c) k) 0) (sf (sg (cSs c) k) 1) (sf (sg (cSs c) k) 2 + extL (sg (cSs c) k) n) ((cSs c).drop (k + 1))) (sfset (sg (cSs c) k) 3 (extL (sg (cSs c) k) n)) (i - k - 1)
        rw [hl, show k + 1 + (i - k - 1) = i by omega] at e9
        have e9 : sg (ss1 c k n) i = _ := e9
        rw [e9]
        exact sg_mem (by omega)
      obtain ⟨g1, g2, g3⟩ := drv_in _ _ _ _ (fun x hx => (f2 x hx).1) (by omega) (by omega) _ e
      refine frC_eq hs2.b g2 (fun z0 z1 => ?_)
      refine (spn_far hs2.b g2 ?_).2
      have := g3 z0 z1
      rw [b1] at this
      exact this
def ss3 (c : Cal) (k : Nat) (n : Int32) : List Ss := ((ss1 c k n).map (frM (sf (sg (cSs c) k) 0) (sf (sg (cSs c) k) 1) (sf (sg (cSs c) k) 5) (spn (sfset (sg (cSs c) k) 3 (extL (sg (cSs c) k) n))))).filter ne0
theorem ss3_perm (h : Inv T c) (hk : k < (cSs c).length) (h1 : 1 ≤ n.toInt) (h2 : n.toInt ≤ 16) : (ss3 c k n).Perm (cSs (extC c k n)) := by
  unfold ss3 extC
  rw [freTo_map, List.filter_map]
  have e : ((ss1 c k n).filter (ne0 ∘ frM (sf (sg (cSs c) k) 0) (sf (sg (cSs c) k) 1) (sf (sg (cSs c) k) 5) (spn (sfset (sg (cSs c) k) 3 (extL (sg (cSs c) k) n))))) = (ss1 c k n).filter ne0 := by
    refine List.filter_congr (fun x _ => ?_)
    show ne0 (frM _ _ _ _ x) = ne0 x
    unfold frM
    split <;> rfl
  rw [e]
  exact (ss1_perm h hk h1 h2).map _
end XN
-- in order
def srtTo (ss : List Ss) : Nat → List Ss
  | 0 => ss
  | i + 1 => mvd (srtTo ss i) i
theorem srtTo_len (ss : List Ss) : ∀ i, i ≤ ss.length → (srtTo ss i).length = ss.length
  | 0, _ => rfl
  | i + 1, hi => by
    have ih := srtTo_len ss i (by omega)
    rw [srtTo, mvd_len (by omega)]; exact ih
theorem perm_erase (l : List Ss) : ∀ k, k < l.length → (sg l k :: l.eraseIdx k).Perm l := by
  induction l with
  | nil => intro k h; exact absurd h (Nat.not_lt_zero _)
  | cons a r ih =>
    intro k hk
    cases k with
    | zero => exact List.Perm.refl _
    | succ k =>
      have hk : k < r.length := by simpa using hk
      show (sg r k :: a :: r.eraseIdx k).Perm (a :: r)
      exact (List.Perm.swap _ _ _).trans ((ih k hk).cons _)
theorem mvd_perm {l : List Ss} {k : Nat} (hk : k < l.length) : (mvd l k).Perm l := by
  unfold mvd
  have h1 : (l.eraseIdx k).length = l.length - 1 := List.length_eraseIdx_of_lt hk
  have h3 : mvp l k ≤ k := mvpTo_le l (odr (sg l k)) k
  exact (List.perm_insertIdx _ _ (by omega)).trans (perm_erase l k hk)
theorem srtTo_perm (ss : List Ss) : ∀ i, i ≤ ss.length → (srtTo ss i).Perm ss
  | 0, _ => List.Perm.refl _
  | i + 1, hi => by
    rw [srtTo]
    exact (mvd_perm (by rw [srtTo_len _ _ (by omega)]; omega)).trans (srtTo_perm ss i (by omega))
theorem mvpTo_spec (l : List Ss) (o : Int32) : ∀ p, (∀ j, mvpTo l o p ≤ j → j < p → ¬ odr (sg l j) ≤ o) ∧ (mvpTo l o p = 0 ∨ odr (sg l (mvpTo l o p - 1)) ≤ o)
  | 0 => ⟨fun j _ h => absurd h (Nat.not_lt_zero _), Or.inl rfl⟩
  | p + 1 => by
    have ih := mvpTo_spec l o p
    rw [mvpTo]
    split
    · rename_i z
      exact ⟨fun j h1 h2 => by omega, Or.inr z⟩
    · rename_i z
      refine ⟨fun j h1 h2 => ?_, ih.2⟩
      by_cases q : j = p
      · subst q; exact z
      · exact ih.1 j h1 (by omega)
theorem srtTo_le (ss : List Ss) : ∀ i, i ≤ ss.length → ∀ a b, a < b → b < i → (odr (sg (srtTo ss i) a)).toInt ≤ (odr (sg (srtTo ss i) b)).toInt
  | 0, _, a, b, _, h => absurd h (Nat.not_lt_zero _)
  | i + 1, hi, a, b, hab, hb => by
    have ih := srtTo_le ss i (by omega)
    have hl := srtTo_len ss i (by omega)
    rw [srtTo, mvd_sg (by omega), mvd_sg (by omega)]
    obtain ⟨m1, m2⟩ := mvpTo_spec (srtTo ss i) (odr (sg (srtTo ss i) i)) i
    have hp : mvp (srtTo ss i) i ≤ i := mvpTo_le _ _ _
    have m1 : ∀ j, mvp (srtTo ss i) i ≤ j → j < i → ¬ odr (sg (srtTo ss i) j) ≤ odr (sg (srtTo ss i) i) := m1
    have m2 : mvp (srtTo ss i) i = 0 ∨ odr (sg (srtTo ss i) (mvp (srtTo ss i) i - 1)) ≤ odr (sg (srtTo ss i) i) := m2
    generalize srtTo ss i = l at *
    generalize mvp l i = p at *
    have low : ∀ j, j < p → (odr (sg l j)).toInt ≤ (odr (sg l i)).toInt := fun j hj => by
      rcases m2 with m2 | m2
      · omega
      · rw [i32_le] at m2
        by_cases q : j = p - 1
        · rw [q]; exact m2
        · have := ih j (p - 1) (by omega) (by omega)
          omega
    have high : ∀ j, p ≤ j → j < i → (odr (sg l i)).toInt ≤ (odr (sg l j)).toInt := fun j h1 h2 => by
      have := m1 j h1 h2
      rw [i32_le] at this
      omega
    unfold sgm
    by_cases a1 : a < p
    · rw [if_pos a1]
      by_cases b1 : b < p
      · rw [if_pos b1]; exact ih a b hab (by omega)
      · rw [if_neg b1]
        by_cases b2 : b = p
        · rw [if_pos b2]; exact low a a1
        · rw [if_neg b2, if_pos (by omega)]
          exact ih a (b - 1) (by omega) (by omega)
    · rw [if_neg a1, if_neg (by omega : ¬ b < p), if_neg (by omega : ¬ b = p), if_pos (by omega : b ≤ i)]
      by_cases a2 : a = p
      · rw [if_pos a2]; exact high (b - 1) (by omega) (by omega)
      · rw [if_neg a2, if_pos (by omega)]
        exact ih (a - 1) (b - 1) (by omega) (by omega)
/-- in order, and the same sessions: the same row -/
theorem srt_eq {ss tt : List Ss} (hp : ss.Perm tt) (ht : Kys tt) (ho : ∀ x, x ∈ tt → okO x) : srtTo ss ss.length = tt := by
  have hP := (srtTo_perm ss ss.length (Nat.le_refl _)).trans hp
  have hl := srtTo_len ss ss.length (Nat.le_refl _)
  have hm : ∀ x, x ∈ srtTo ss ss.length → x ∈ tt := fun x hx => hP.mem_iff.mp hx
  refine List.Perm.eq_of_pairwise (le := fun a b => ky a ≤ ky b) (fun a b ha hb h1 h2 => ?_) ?_ (ht.imp (fun h => Int.le_of_lt h)) hP
  · obtain ⟨i, hi, rfl⟩ := List.getElem_of_mem (hm a ha)
    obtain ⟨j, hj, rfl⟩ := List.getElem_of_mem hb
    rcases Nat.lt_trichotomy i j with q | q | q
    · have := List.pairwise_iff_getElem.mp ht i j hi hj q
      omega
    · subst q; rfl
    · have := List.pairwise_iff_getElem.mp ht j i hj hi q
      omega
  · rw [List.pairwise_iff_getElem]
    intro a b ha hb hab
    have := srtTo_le ss ss.length (Nat.le_refl _) a b hab (by omega)
    rw [sg_get ha, sg_get hb, odr_ky (ho _ (hm _ (List.getElem_mem ha))), odr_ky (ho _ (hm _ (List.getElem_mem hb)))] at this
    exact this
theorem ext_srt {T : Nat} {c : Cal} {k : Nat} {n : Int32} (h : Inv T c) (hk : k < (cSs c).length) (h1 : 1 ≤ n.toInt) (h2 : n.toInt ≤ 16) : srtTo (ss3 c k n) (ss3 c k n).length = cSs (extC c k n) := by
  have hI := h.ext hk h1 h2
  exact srt_eq (ss3_perm h hk h1 h2) hI.kk (fun x hx => (hI.s hx).o)
