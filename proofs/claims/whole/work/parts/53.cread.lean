/-! THE CLASS'S CALENDAR, READ -/
def bts (s : Ss) : Int32 := ((1 <<< (sf s 3 &&& 31)) - 1) <<< (sf s 2 &&& 31)
theorem bts_all : ∀ f, f < 17 → ∀ n, n < 17 → f + n ≤ 16 → ((((1 : Int32) <<< (nI n &&& 31)) - 1) <<< (nI f &&& 31)) = nI (2 ^ (f + n) - 2 ^ f) ∧ ((1 : Int32) <<< ((nI f + nI n) &&& 31)) - ((1 : Int32) <<< (nI f &&& 31)) = nI (2 ^ (f + n) - 2 ^ f) ∧ 2 ^ (f + n) - 2 ^ f < 65536 := by decide +kernel
def okB (s : Ss) : Prop := 0 ≤ (sf s 2).toInt ∧ 0 ≤ (sf s 3).toInt ∧ (sf s 2).toInt + (sf s 3).toInt ≤ 16
theorem okR.b {s : Ss} (h : okR s) : okB s := by
  obtain ⟨s1, s2, s3, s4, s5, s6, s7⟩ := h
  exact ⟨s5, by omega, s7⟩
theorem okB.nat {s : Ss} (h : okB s) : ∃ f n : Nat, f + n ≤ 16 ∧ sf s 2 = nI f ∧ sf s 3 = nI n := by
  obtain ⟨h1, h2, h3⟩ := h
  exact ⟨(sf s 2).toInt.toNat, (sf s 3).toInt.toNat, by omega, nI_toN h1, nI_toN h2⟩
theorem bts_eq {s : Ss} (h : okB s) : bts s = spn s := by
  obtain ⟨f, n, h1, e1, e2⟩ := h.nat
  unfold bts spn
  rw [e1, e2, (bts_all f (by omega) n (by omega) h1).1, (bts_all f (by omega) n (by omega) h1).2.1]
theorem spn_nat {s : Ss} (h : okB s) : ∃ m, m < 65536 ∧ spn s = nI m := by
  obtain ⟨f, n, h1, e1, e2⟩ := h.nat
  exact ⟨_, (bts_all f (by omega) n (by omega) h1).2.2, by unfold spn; rw [e1, e2, (bts_all f (by omega) n (by omega) h1).2.1]⟩
theorem bzTo_nat {ss : List Ss} (h : ∀ s, s ∈ ss → okR s) (p d wo : Int32) : ∀ n, n ≤ ss.length → ∃ m, m < 65536 ∧ bzTo ss p d wo n = nI m
  | 0, _ => ⟨0, by decide, rfl⟩
  | n + 1, hn => by
    obtain ⟨m, hm, e⟩ := bzTo_nat h p d wo n (by omega)
    obtain ⟨k, hk, e2⟩ := spn_nat (h _ (sg_mem (by omega : n < ss.length))).b
    unfold bzTo
    split
    · exact ⟨m ||| k, Nat.or_lt_two_pow (n := 16) hm hk, by rw [e, e2, nIor]⟩
    · exact ⟨m, hm, e⟩
theorem bz_nat {ss : List Ss} (h : ∀ s, s ∈ ss → okR s) (p d wo : Int32) : ∃ m, m < 65536 ∧ bz ss p d wo = nI m := bzTo_nat h p d wo _ (Nat.le_refl _)
theorem cnt_nat {n : Nat} (h : n < 65536) : ∃ m, m ≤ 16 ∧ cnt (nI n) = nI m := ⟨cnN n 16, cnN_le n 16, cnt_nI h 16 (Nat.le_refl _)⟩
theorem inN_0 {p : Int32} {n : Nat} (h : p < 0) : inN p n = false := by
  unfold inN
  rw [i32_lt, show (0 : Int32).toInt = 0 from rfl] at h
  rw [decide_eq_false (p := 0 ≤ p.toInt) (by omega)]; rfl
theorem inN_1 {p : Int32} {n : Nat} (hn : n < 2 ^ 31) (h : ¬ p < 0) : inN p n = decide (p < nI n) := by
  unfold inN
  rw [i32_lt, show (0 : Int32).toInt = 0 from rfl] at h
  rw [decide_eq_true (p := 0 ≤ p.toInt) (by omega), Bool.true_and]
  exact decide_eq_decide.mpr (by rw [i32_lt, nI_toInt (by omega)])
section RD
variable {G : GG} {l : Launch} {w : Wd} {A : Nat → Nat} {c : Cal} {L : Nat}
theorem c_bits {a : Nat} {s : Ss} {Q : Int32 → Wd → Prop} (h : w a = some (.inl (2, sesF s))) (hq : Q (bts s) w) : CX3_bits G l [.ref a] w Q := sX3_bits (bX3_bits_0 h rfl rfl hq)
theorem c_order {a : Nat} {s : Ss} {Q : Int32 → Wd → Prop} (h : w a = some (.inl (2, sesF s))) (hq : Q ((sf s 1 * 17 + sf s 2) * 5 + sf s 0) w) : CX3_order G l [.ref a] w Q := sX3_order (bX3_order_0 h rfl rfl rfl hq)
def bF (b : Bool) (n : Int32) : Int32 := if b = true then 0 else n
theorem c_staffFault {p : Int32} {Q : Int32 → Wd → Prop} (h : CalIn w A c L) (hq : Q (bF (inN p (cPs c).length) 1) w) : CX0_staffFault G l [.ref (A 0), .int p] w Q := by
  have b := h.b0
  refine sX0_staffFault (bX0_staffFault_0 (fun z => bX0_staffFault_12 (bX0_staffFault_17 ?_)) (fun z => ?_))
  · rw [inN_0 z] at hq; exact hq
  · rw [inN_1 (by omega) z] at hq
    refine bX0_staffFault_4 h.o rfl (fun z2 => bX0_staffFault_16 (bX0_staffFault_17 ?_)) (fun z2 => bX0_staffFault_12 (bX0_staffFault_17 ?_))
    · rw [decide_eq_true z2] at hq; exact hq
    · rw [decide_eq_false z2] at hq; exact hq
theorem c_numberFault {p : Int32} {Q : Int32 → Wd → Prop} (h : CalIn w A c L) (hq : Q (bF (inN p (cSs c).length) 1) w) : CX0_numberFault G l [.ref (A 0), .int p] w Q := by
  have b := h.b1
  refine sX0_numberFault (bX0_numberFault_0 (fun z => bX0_numberFault_12 (bX0_numberFault_17 ?_)) (fun z => ?_))
  · rw [inN_0 z] at hq; exact hq
  · rw [inN_1 (by omega) z] at hq
    refine bX0_numberFault_4 h.o rfl (fun z2 => bX0_numberFault_16 (bX0_numberFault_17 ?_)) (fun z2 => bX0_numberFault_12 (bX0_numberFault_17 ?_))
    · rw [decide_eq_true z2] at hq; exact hq
    · rw [decide_eq_false z2] at hq; exact hq
theorem rng_lo {x lo : Int32} {a b : Int} (ha : lo.toInt = a) (h : x < lo) : rngI x a b = false := by
  rw [Bool.eq_false_iff]; intro z
  rw [rngI_iff] at z
  rw [i32_lt, ha] at h
  omega
theorem rng_hi {x hi : Int32} {a b : Int} (hb : hi.toInt = b) (h : hi < x) : rngI x a b = false := by
  rw [Bool.eq_false_iff]; intro z
  rw [rngI_iff] at z
  rw [i32_lt, hb] at h
  omega
theorem rng_hi2 {x hi : Int32} {a b : Int} (hb : hi.toInt = b + 1) (h : hi ≤ x) : rngI x a b = false := by
  rw [Bool.eq_false_iff]; intro z
  rw [rngI_iff] at z
  rw [i32_le, hb] at h
  omega
theorem rng_ok {x lo hi : Int32} {a b : Int} (ha : lo.toInt = a) (hb : hi.toInt = b) (h1 : ¬ x < lo) (h2 : x ≤ hi) : rngI x a b = true := by
  rw [rngI_iff]
  rw [i32_lt, ha] at h1
  rw [i32_le, hb] at h2
  omega
theorem nle_lt {a b : Int32} (h : ¬ a ≤ b) : b < a := by rw [i32_lt]; rw [i32_le] at h; omega
theorem nlt_le {a b : Int32} (h : ¬ a < b) : b ≤ a := by rw [i32_le]; rw [i32_lt] at h; omega
def hireF (c : Cal) (x : Int32) : Int32 := if rngI x 1 20 = true then (if (cPs c).length < 6 then 0 else 3) else 2
theorem c_hireFault {x : Int32} {Q : Int32 → Wd → Prop} (h : CalIn w A c L) (hq : Q (hireF c x) w) : CX0_hireFault G l [.ref (A 0), .int x] w Q := by
  have b := h.b0
  unfold hireF at hq
  refine sX0_hireFault (bX0_hireFault_0 (fun z => bX0_hireFault_11 ?_) (fun z => bX0_hireFault_5 (fun z2 => ?_) (fun z2 => bX0_hireFault_11 ?_)))
  · rw [rng_lo (a := 1) rfl z] at hq; exact hq
  · rw [rng_ok (a := 1) (b := 20) rfl rfl z z2, if_pos rfl] at hq
    refine bX0_hireFault_13 h.o rfl (fun z3 => bX0_hireFault_26 (bX0_hireFault_27 ?_)) (fun z3 => bX0_hireFault_22 (bX0_hireFault_27 ?_))
    · rw [if_pos ((nI_ltI (a := (cPs c).length) (b := 6) (by omega) (by decide)).mp z3)] at hq; exact hq
    · rw [if_neg (fun y => z3 (nI_lt y (by decide)))] at hq; exact hq
  · rw [rng_hi (b := 20) rfl (nle_lt z2)] at hq; exact hq
def rgF (x : Int32) (a b : Int) : Int32 := if rngI x a b = true then 0 else 2
theorem c_extendFault {k n : Int32} {Q : Int32 → Wd → Prop} (h : CalIn w A c L) (hq : Q (if inN k (cSs c).length = true then rgF n 1 16 else 1) w) : CX0_extendFault G l [.ref (A 0), .int k, .int n] w Q := by
  refine sX0_extendFault (bX0_extendFault_0 h.o (c_numberFault (Q := fun r w2 => r = bF (inN k (cSs c).length) 1 ∧ w = w2) h ⟨rfl, rfl⟩) (fun r w2 hr => ?_))
  obtain ⟨rfl, rfl⟩ := hr
  by_cases q : inN k (cSs c).length = true
  · rw [if_pos q] at hq
    unfold rgF at hq
    rw [q]
    refine bX0_extendFault_5 (fun _ => bX0_extendFault_10 (fun z => bX0_extendFault_21 (bX0_extendFault_26 ?_)) (fun z => bX0_extendFault_15 (fun z2 => bX0_extendFault_25 (bX0_extendFault_26 ?_)) (fun z2 => bX0_extendFault_21 (bX0_extendFault_26 ?_)))) (fun z => absurd rfl z)
    · rw [rng_lo (a := 1) rfl z] at hq; exact hq
    · rw [rng_ok (a := 1) (b := 16) rfl rfl z z2] at hq; exact hq
    · rw [rng_hi (b := 16) rfl (nle_lt z2)] at hq; exact hq
  · rw [if_neg q] at hq
    rw [Bool.eq_false_iff.mpr q]
    exact bX0_extendFault_5 (fun z => absurd z (by decide)) (fun _ => bX0_extendFault_8 hq)
theorem c_leaveFault {k n : Int32} {Q : Int32 → Wd → Prop} (h : CalIn w A c L) (hq : Q (if inN k (cPs c).length = true then rgF n 0 30 else 1) w) : CX0_leaveFault G l [.ref (A 0), .int k, .int n] w Q := by
  refine sX0_leaveFault (bX0_leaveFault_0 h.o (c_staffFault (Q := fun r w2 => r = bF (inN k (cPs c).length) 1 ∧ w = w2) h ⟨rfl, rfl⟩) (fun r w2 hr => ?_))
  obtain ⟨rfl, rfl⟩ := hr
  by_cases q : inN k (cPs c).length = true
  · rw [if_pos q] at hq
    unfold rgF at hq
    rw [q]
    refine bX0_leaveFault_5 (fun _ => bX0_leaveFault_10 (fun z => bX0_leaveFault_20 (bX0_leaveFault_25 ?_)) (fun z => bX0_leaveFault_14 (fun z2 => bX0_leaveFault_24 (bX0_leaveFault_25 ?_)) (fun z2 => bX0_leaveFault_20 (bX0_leaveFault_25 ?_)))) (fun z => absurd rfl z)
    · rw [rng_lo (a := 0) rfl z] at hq; exact hq
    · rw [rng_ok (a := 0) (b := 30) rfl rfl z z2] at hq; exact hq
    · rw [rng_hi (b := 30) rfl (nle_lt z2)] at hq; exact hq
  · rw [if_neg q] at hq
    rw [Bool.eq_false_iff.mpr q]
    exact bX0_leaveFault_5 (fun z => absurd z (by decide)) (fun _ => bX0_leaveFault_8 hq)
theorem c_runFault {a : Nat} {n : Int32} {Q : Int32 → Wd → Prop} (hq : Q (rgF n 1 30) w) : CX0_runFault G l [.ref a, .int n] w Q := by
  unfold rgF at hq
  refine sX0_runFault (bX0_runFault_0 (fun z => bX0_runFault_11 (bX0_runFault_16 ?_)) (fun z => bX0_runFault_5 (fun z2 => bX0_runFault_15 (bX0_runFault_16 ?_)) (fun z2 => bX0_runFault_11 (bX0_runFault_16 ?_))))
  · rw [rng_lo (a := 1) rfl z] at hq; exact hq
  · rw [rng_ok (a := 1) (b := 30) rfl rfl z z2] at hq; exact hq
  · rw [rng_hi (b := 30) rfl (nle_lt z2)] at hq; exact hq
theorem isTm_d {c : Cal} {d f n : Int32} (h : rngI d (cSc c 3).toInt 999 = false) : isTm c d f n = false := by unfold isTm; rw [h]; rfl
theorem isTm_f {c : Cal} {d f n : Int32} (h : rngI f 0 15 = false) : isTm c d f n = false := by unfold isTm; rw [h, Bool.false_and, Bool.and_false]
theorem isTm_n {c : Cal} {d f n : Int32} (h : rngI n 1 (16 - f.toInt) = false) : isTm c d f n = false := by unfold isTm; rw [h, Bool.and_false, Bool.and_false]
theorem c_isPlace {d f n : Int32} {Q : Int32 → Wd → Prop} (h : CalIn w A c L) (hq : Q (bI (isTm c d f n)) w) : CX0_isPlace G l [.ref (A 0), .int d, .int f, .int n] w Q := by
  have no : isTm c d f n = false → KX0_isPlace G l w (ZI G 0 0 w Q) w 42 [] [] := fun z => by
    rw [z] at hq
    exact bX0_isPlace_42 (bX0_isPlace_43 hq rfl)
  refine sX0_isPlace (bX0_isPlace_0 h.o rfl (fun z => no (isTm_d (rng_lo rfl z))) (fun z1 => bX0_isPlace_8 (fun z => no (isTm_d (rng_hi rfl z))) (fun z2 => bX0_isPlace_15 (fun z => no (isTm_f (rng_lo rfl z))) (fun z3 => bX0_isPlace_19 (fun z => no (isTm_f (rng_hi2 rfl z))) (fun z4 => bX0_isPlace_25 (fun z => no (isTm_n (rng_lo rfl z))) (fun z5 => ?_))))))
  rw [i32_lt] at z1 z2 z3 z5
  rw [i32_le] at z4
  rw [show (999 : Int32).toInt = 999 from rfl] at z2
  rw [show (0 : Int32).toInt = 0 from rfl] at z3
  rw [show (16 : Int32).toInt = 16 from rfl] at z4
  rw [show (1 : Int32).toInt = 1 from rfl] at z5
  have e : (16 - f).toInt = 16 - f.toInt := i32_dif (by decide) (by decide) (by omega) (by omega)
  refine bX0_isPlace_30 (fun z => no (isTm_n (rng_hi e z))) (fun z6 => bX0_isPlace_38 (bX0_isPlace_43 ?_ rfl))
  rw [i32_lt, e] at z6
  have : isTm c d f n = true := by
    unfold isTm
    simp only [Bool.and_eq_true, rngI_iff]
    omega
  rw [this] at hq; exact hq
theorem isFr_no {ss : List Ss} {r d f n : Int32} {k : Nat} (hk : k < ss.length) (h : tkn (sg ss k) r d f n = true) : isFr ss r d f n = false := by
  unfold isFr
  rw [Bool.eq_false_iff]
  intro z
  have := List.all_eq_true.mp z (sg ss k) (sg_mem hk)
  rw [h] at this; cases this
theorem isFr_yes {ss : List Ss} {r d f n : Int32} (h : ∀ k, k < ss.length → tkn (sg ss k) r d f n = false) : isFr ss r d f n = true := by
  unfold isFr
  refine List.all_eq_true.mpr (fun s hs => ?_)
  obtain ⟨i, hi, rfl⟩ := List.getElem_of_mem hs
  rw [← sg_get hi, h i hi]; rfl
theorem c_isTaken {r d f n : Int32} {Q : Int32 → Wd → Prop} (h : CalIn w A c L) (hq : Q (bI (!isFr (cSs c) r d f n)) w) : CX0_isTaken G l [.ref (A 0), .int r, .int d, .int f, .int n] w Q := by
  have b := h.b1
  obtain ⟨g, eg, hg⟩ := h.sa
  refine sX0_isTaken (bX0_isTaken_0 ?_)
  have key : ∀ m i, i + m = (cSs c).length → (∀ k, k < i → tkn (sg (cSs c) k) r d f n = false) → KX0_isTaken G l w (ZI G 0 0 w Q) w 3 [(0, .ref (A 0)), (1, .int r), (2, .int d), (3, .int f), (4, .int n), (5, .int (nI i))] [] := by
    intro m
    induction m with
    | zero =>
      intro i hi hn
      refine bX0_isTaken_3 h.o rfl (fun _ => bX0_isTaken_74 ?_) (fun z => absurd (nI_le (by omega) (by omega)) z)
      rw [isFr_yes (fun k hk => hn k (by omega))] at hq; exact hq
    | succ m ih =>
      intro i hi hn
      have hil : i < (cSs c).length := by omega
      have go : tkn (sg (cSs c) i) r d f n = false → KX0_isTaken G l w (ZI G 0 0 w Q) w 68 [(0, .ref (A 0)), (1, .int r), (2, .int d), (3, .int f), (4, .int n), (5, .int (nI i))] [] := fun z => by
        refine bX0_isTaken_68 ?_
        rw [nI_1]
        exact ih (i + 1) (by omega) (fun k hk => by
          by_cases q : k = i
          · subst q; exact z
          · exact hn k (by omega))
      have e4 : g (nI i).toNatClampNeg = some (A (10 + i)) := by rw [nI_clamp (by omega)]; exact hg i (by omega)
      refine bX0_isTaken_3 h.o rfl (fun z => absurd z (nI_ge hil (by omega))) (fun _ => ?_)
      unfold tkn at go
      refine bX0_isTaken_12 h.o rfl eg (ix_of rfl (by omega) (by omega)) e4 (h.se hil) rfl (fun z => go (by rw [decide_eq_false z]; rfl)) (fun z1 => ?_)
      refine bX0_isTaken_30 (h.se hil) rfl (fun z => go (by rw [decide_eq_false z, Bool.false_and, Bool.and_false])) (fun z2 => ?_)
      refine bX0_isTaken_39 (h.se hil) rfl (fun z => go (by rw [dlt z, Bool.and_false, Bool.and_false, Bool.and_false])) (fun z3 => ?_)
      refine bX0_isTaken_51 (h.se hil) rfl rfl (fun z => go (by rw [dlt z, Bool.false_and, Bool.and_false, Bool.and_false])) (fun z4 => bX0_isTaken_66 ?_)
      have : tkn (sg (cSs c) i) r d f n = true := by unfold tkn; rw [decide_eq_true z1, decide_eq_true z2, dlt' z3, dlt' z4]; rfl
      rw [isFr_no hil this] at hq; exact hq
  exact key (cSs c).length 0 (by omega) (fun k hk => absurd hk (Nat.not_lt_zero _))
theorem c_busyBits {p d wo : Int32} {Q : Int32 → Wd → Prop} (h : CalIn w A c L) (hs : ∀ s, s ∈ cSs c → okR s) (hq : Q (bz (cSs c) p d wo) w) : CX0_busyBits G l [.ref (A 0), .int p, .int d, .int wo] w Q := by
  have b := h.b1
  obtain ⟨g, eg, hg⟩ := h.sa
  refine sX0_busyBits (bX0_busyBits_0 ?_)
  refine upto (P := fun i => KX0_busyBits G l w (ZI G 0 0 w Q) w 6 [(0, .ref (A 0)), (1, .int p), (2, .int d), (3, .int wo), (4, .int (bzTo (cSs c) p d wo i)), (5, .int (nI i))] []) (N := (cSs c).length) ?_ (fun i hi ih => ?_) 0 (Nat.zero_le _)
  · exact bX0_busyBits_6 h.o rfl (fun _ => bX0_busyBits_64 hq) (fun z => absurd (nI_le (Nat.le_refl _) (by omega)) z)
  · have e4 : g (nI i).toNatClampNeg = some (A (10 + i)) := by rw [nI_clamp (by omega)]; exact hg i (by omega)
    have go : ¬ (¬ nI i = wo ∧ sf (sg (cSs c) i) 5 = p ∧ sf (sg (cSs c) i) 1 = d) → KX0_busyBits G l w (ZI G 0 0 w Q) w 58 [(0, .ref (A 0)), (1, .int p), (2, .int d), (3, .int wo), (4, .int (bzTo (cSs c) p d wo i)), (5, .int (nI i))] [] := fun z => by
      rw [show bzTo (cSs c) p d wo (i + 1) = bzTo (cSs c) p d wo i from if_neg z] at ih
      refine bX0_busyBits_58 ?_
      rw [nI_1]; exact ih
    refine bX0_busyBits_6 h.o rfl (fun z => absurd z (nI_ge hi (by omega))) (fun _ => ?_)
    refine bX0_busyBits_15 h.o rfl eg (ix_of rfl (by omega) (by omega)) e4 (fun z => go (fun y => y.1 z)) (fun z1 => ?_)
    refine bX0_busyBits_30 (h.se hi) rfl (fun z => go (fun y => z y.2.1)) (fun z2 => ?_)
    refine bX0_busyBits_39 (h.se hi) rfl (fun z => go (fun y => z y.2.2)) (fun z3 => ?_)
    refine bX0_busyBits_48 (h.se hi) (c_bits (Q := fun r w2 => r = bts (sg (cSs c) i) ∧ w = w2) (h.se hi) ⟨rfl, rfl⟩) (fun r w2 hr => ?_)
    obtain ⟨rfl, rfl⟩ := hr
    refine bX0_busyBits_55 (bX0_busyBits_58 ?_)
    rw [bts_eq (hs _ (sg_mem hi)).b, nI_1]
    rw [show bzTo (cSs c) p d wo (i + 1) = bzTo (cSs c) p d wo i ||| spn (sg (cSs c) i) from if_pos ⟨z1, z2, z3⟩] at ih
    exact ih
theorem c_slotsOn {p d : Int32} {Q : Int32 → Wd → Prop} (h : CalIn w A c L) (hs : ∀ s, s ∈ cSs c → okR s) (hq : Q (cnt (bz (cSs c) p d (-1))) w) : CX0_slotsOn G l [.ref (A 0), .int p, .int d] w Q := by
  refine sX0_slotsOn (bX0_slotsOn_0 h.o (c_busyBits (Q := fun r w2 => r = bz (cSs c) p d (-1) ∧ w = w2) h hs ⟨rfl, rfl⟩) (fun r w2 hr => ?_))
  obtain ⟨rfl, rfl⟩ := hr
  obtain ⟨m, hm, e⟩ := bz_nat hs p d (-1)
  exact bX0_slotsOn_7 (c_bitCount (n := m) (Q := fun r w2 => r = cnt (bz (cSs c) p d (-1)) ∧ w = w2) e hm ⟨rfl, rfl⟩) (fun r w2 hr => bX0_slotsOn_10 (by rw [hr.1, ← hr.2]; exact hq))
theorem c_longestRow {x : Int32} {Q : Int32 → Wd → Prop} (hq : Q (lng x) w) : CX0_longestRow G l [.int x] w Q := by
  refine sX0_longestRow (bX0_longestRow_0 ?_)
  refine upto (P := fun i => KX0_longestRow G l w (ZI G 0 0 w Q) w 6 [(0, .int x), (1, .int (lngTo x i).1), (2, .int (lngTo x i).2), (3, .int (nI i))] []) (N := 16) ?_ (fun i hi ih => ?_) 0 (Nat.zero_le _)
  · exact bX0_longestRow_6 (fun h => bX0_longestRow_41 hq) (fun h => absurd (show (16 : Int32) ≤ nI 16 by decide) h)
  · refine bX0_longestRow_6 (fun h => absurd h (nI_ge (b := 16) hi (by omega))) (fun h => ?_)
    refine bX0_longestRow_12 (fun h => bX0_longestRow_27 (bX0_longestRow_28 ?_)) (fun h => bX0_longestRow_21 (bX0_longestRow_28 ?_))
    · rw [show lngTo x (i + 1) = (if (lngTo x i).1 < 0 then 0 else (lngTo x i).1, 0) from if_neg h] at ih
      rw [nI_1]; exact ih
    · rw [show lngTo x (i + 1) = (if (lngTo x i).1 < (lngTo x i).2 + 1 then (lngTo x i).2 + 1 else (lngTo x i).1, (lngTo x i).2 + 1) from if_pos h] at ih
      rw [nI_1]; exact ih
theorem c_reasonAgainst {k p : Nat} {Q : Int32 → Wd → Prop} (h : CalIn w A c L) (hs : ∀ s, s ∈ cSs c → okR s) (hk : k < (cSs c).length) (hp : p < (cPs c).length) (hq : Q (rsn c k p) w) : CX0_reasonAgainst G l [.ref (A 0), .int (nI k), .int (nI p)] w Q := by
  have b := h.b1
  have b0 := h.b0
  obtain ⟨g, eg, hg⟩ := h.sa
  obtain ⟨g2, eg2, hg2⟩ := h.r2
  obtain ⟨g4, eg4, hg4⟩ := h.st
  unfold rsn at hq
  have e4 : g (nI k).toNatClampNeg = some (A (10 + k)) := by rw [nI_clamp (by omega)]; exact hg k (by omega)
  have ep : g2 (nI p).toNatClampNeg = tf (pg (cPs c) p) 1 := by rw [nI_clamp (by omega)]; exact hg2 p hp
  have sb := bts_eq (hs _ (sg_mem hk)).b
  refine sX0_reasonAgainst (bX0_reasonAgainst_0 h.o rfl eg (ix_of rfl (by omega) (by omega)) e4 (h.se hk) rfl rfl eg2 (ix_of rfl (by omega) (by omega)) (fun z => ?_) (fun z => bX0_reasonAgainst_20 ?_))
  · rw [ep] at z
    rw [if_neg (by rw [i32_lt]; rw [i32_le] at z; omega)] at hq
    refine bX0_reasonAgainst_22 (h.se hk) rfl h.o (c_busyBits (Q := fun r w2 => r = bz (cSs c) (nI p) (sf (sg (cSs c) k) 1) (nI k) ∧ w = w2) h hs ⟨rfl, rfl⟩) (fun r w2 hr => ?_)
    obtain ⟨rfl, rfl⟩ := hr
    refine bX0_reasonAgainst_32 (h.se hk) (c_bits (Q := fun r w2 => r = spn (sg (cSs c) k) ∧ w = w2) (h.se hk) ⟨sb, rfl⟩) (fun r w2 hr => ?_)
    obtain ⟨rfl, rfl⟩ := hr
    refine bX0_reasonAgainst_40 (fun z2 => ?_) (fun z2 => bX0_reasonAgainst_44 (by rw [if_pos z2] at hq; exact hq))
    rw [if_neg (fun y => y z2)] at hq
    refine bX0_reasonAgainst_46 (h.se hk) (c_bits (Q := fun r w2 => r = spn (sg (cSs c) k) ∧ w = w2) (h.se hk) ⟨sb, rfl⟩) (fun r w2 hr => ?_)
    obtain ⟨rfl, rfl⟩ := hr
    refine bX0_reasonAgainst_52 (c_longestRow (Q := fun r w2 => r = lng (bz (cSs c) (nI p) (sf (sg (cSs c) k) 1) (nI k) ||| spn (sg (cSs c) k)) ∧ w = w2) ⟨rfl, rfl⟩) (fun r w2 hr => ?_)
    obtain ⟨rfl, rfl⟩ := hr
    have s9 : g4 ((0 : Int32).toNatClampNeg) = cSc c 9 := hg4 0 (by decide)
    have s10 : g4 ((1 : Int32).toNatClampNeg) = cSc c 10 := hg4 1 (by decide)
    refine bX0_reasonAgainst_60 h.o rfl eg4 (vlit rfl) (fun z3 => ?_) (fun z3 => bX0_reasonAgainst_69 ?_)
    · rw [s9] at z3
      rw [if_neg (by rw [i32_lt]; rw [i32_le] at z3; omega)] at hq
      obtain ⟨m, hm, e⟩ := bz_nat hs (nI p) (sf (sg (cSs c) k) 1) (nI k)
      obtain ⟨m2, hm2, e2⟩ := spn_nat (hs _ (sg_mem hk)).b
      refine bX0_reasonAgainst_71 (c_bitCount (n := m ||| m2) (Q := fun r w2 => r = cnt (bz (cSs c) (nI p) (sf (sg (cSs c) k) 1) (nI k) ||| spn (sg (cSs c) k)) ∧ w = w2) (by rw [e, e2, nIor]) (Nat.or_lt_two_pow (n := 16) hm hm2) ⟨rfl, rfl⟩) (fun r w2 hr => ?_)
      obtain ⟨rfl, rfl⟩ := hr
      refine bX0_reasonAgainst_76 h.o rfl eg4 (vlit rfl) (fun z4 => bX0_reasonAgainst_89 (bX0_reasonAgainst_90 ?_)) (fun z4 => bX0_reasonAgainst_85 (bX0_reasonAgainst_90 ?_))
      · rw [s10] at z4
        rw [if_neg (by rw [i32_lt]; rw [i32_le] at z4; omega)] at hq; exact hq
      · rw [s10] at z4
        rw [if_pos (nle_lt z4)] at hq; exact hq
    · rw [s9] at z3
      rw [if_pos (nle_lt z3)] at hq; exact hq
  · rw [ep] at z
    rw [if_pos (nle_lt z)] at hq; exact hq
end RD
