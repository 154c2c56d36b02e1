/-! java.util.Arrays.copyOf, Integer.bitCount -/
theorem tw_276 : (Jvm.Cond.methodLink "java/util/Arrays" (304 : Nat) ({ cls := "java/lang/Math", name := "min", desc := "(II)I" } : Jvm.MethodName)) ∈ Tg := tg_in (List.mem_append_right _ (List.mem_of_getElem? (i := 276) (by decide +kernel))) rfl
theorem tw_277 : (Jvm.Cond.methodLink "java/util/Arrays" (150 : Nat) ({ cls := "java/lang/System", name := "arraycopy", desc := "(Ljava/lang/Object;ILjava/lang/Object;II)V" } : Jvm.MethodName)) ∈ Tg := tg_in (List.mem_append_right _ (List.mem_of_getElem? (i := 277) (by decide +kernel))) rfl
theorem bJ7_copyOf_59c91_0 {G : GG} {l : Launch} {w0 w : Wd} {mc ms kc ks : Nat} {a0 : Nat} {x1 : Int32} {n1 : Nat} {g1 : Nat → Int32} {Z : Zt} (h1 : w a0 = some (.inr (0, n1, .inl g1))) (kt : (¬ x1 = (Int32.ofNat n1)) → X G l (RM 1 40 mc ms) yJ7_copyOf_59c91 cJ7_copyOf_59c91 3 (some (.array .int)) w0 tb0 Z w 14 [(0, .ref a0), (1, .int x1)] [] kc ks) (kf : (x1 = (Int32.ofNat n1)) → X G l (RM 1 40 mc ms) yJ7_copyOf_59c91 cJ7_copyOf_59c91 3 (some (.array .int)) w0 tb0 Z w 6 [(0, .ref a0)] [] kc ks) : X G l (RM 1 40 mc ms) yJ7_copyOf_59c91 cJ7_copyOf_59c91 3 (some (.array .int)) w0 tb0 Z w 0 [(0, .ref a0), (1, .int x1)] [] kc ks := (x_iload_n dJ7_copyOf_59c91_0 rfl rfl (x_aload_n dJ7_copyOf_59c91_1 rfl rfl (x_alen (ty := .int) (n := 0) dJ7_copyOf_59c91_2 h1 (by decide) rfl (x_icmp_ne dJ7_copyOf_59c91_3 (by decide) kt (fun h9 => X.lsub (lsub_c rfl lsub_nil) (kf h9))))))
theorem bJ7_copyOf_59c91_14 {G : GG} {l : Launch} {w0 w : Wd} {mc ms kc ks : Nat} {a0 : Nat} {x1 : Int32} {m1 : Nat} {Z : Zt} (z1 : ¬ (x1 : Int32) < 0) (c1 : (x1 : Int32).toNatClampNeg = m1) (b1 : m1 * 8 ≤ 536870912) (hk1 : kc + 1 ≤ mc) (hk2 : ks + m1 ≤ ms) (k : ∀ q1 : Nat, w q1 = none → X G l (RM 1 40 mc ms) yJ7_copyOf_59c91 cJ7_copyOf_59c91 3 (some (.array .int)) w0 tb0 Z (wset w q1 (.inr (0, m1, (ntag 0).2.2.2))) 17 [(0, .ref a0), (1, .int x1)] [.ref q1] (kc + 1) (ks + m1)) : X G l (RM 1 40 mc ms) yJ7_copyOf_59c91 cJ7_copyOf_59c91 3 (some (.array .int)) w0 tb0 Z w 14 [(0, .ref a0), (1, .int x1)] [] kc ks := (x_iload_n dJ7_copyOf_59c91_14 rfl rfl (x_newa (t := 0) (by decide) dJ7_copyOf_59c91_15 tw_54 z1 c1 b1 ⟨hk1, hk2⟩ (fun q9 h9 => X.lsub (lsub_c rfl (lsub_c rfl lsub_nil)) (k q9 h9))))
theorem bJ7_copyOf_59c91_17 {G : GG} {l : Launch} {w0 w : Wd} {mc ms kc ks : Nat} {a0 : Nat} {x1 : Int32} {r0 : Nat} {n1 : Nat} {g1 : Nat → Int32} {n2 : Nat} {g2 : Nat → Int32} {Q : Option Value → Wd → Prop} (h1 : w a0 = some (.inr (0, n1, .inl g1))) (hcm : kc ≤ mc) (hsm : ks ≤ ms) (h2 : w r0 = some (.inr (0, n2, .inl g2))) (qa3 : ¬ (0 : Int32) < 0) (qb3 : ¬ (0 : Int32) < 0) (qc3 : ¬ ((if x1 < (Int32.ofNat n1) then x1 else (Int32.ofNat n1)) : Int32) < 0) (qd3 : (0 : Int32).toNatClampNeg + ((if x1 < (Int32.ofNat n1) then x1 else (Int32.ofNat n1)) : Int32).toNatClampNeg ≤ n1) (qe3 : (0 : Int32).toNatClampNeg + ((if x1 < (Int32.ofNat n1) then x1 else (Int32.ofNat n1)) : Int32).toNatClampNeg ≤ n2) (hq : Q (some (.ref r0)) (wset w r0 (.inr (0, n2, .inl (va_cpy g1 g2 (0 : Int32).toNatClampNeg (0 : Int32).toNatClampNeg ((if x1 < (Int32.ofNat n1) then x1 else (Int32.ofNat n1)) : Int32).toNatClampNeg))))) (hc : kc ≤ mc) (hs : ks ≤ ms) : X G l (RM 1 40 mc ms) yJ7_copyOf_59c91 cJ7_copyOf_59c91 3 (some (.array .int)) w0 tb0 (Z1 G mc ms w0 Q) w 17 [(0, .ref a0), (1, .int x1)] [.ref r0] kc ks := (x_astore_n (lv2 := [(0, .ref a0), (1, .int x1), (2, .ref r0)]) dJ7_copyOf_59c91_17 rfl (by decide) (lok_old rfl rfl (lok_old rfl rfl (lok_new lok_nil))) (x_aload_n dJ7_copyOf_59c91_18 rfl rfl (x_iconst (v := 0) dJ7_copyOf_59c91_19 (by decide) (x_aload_n dJ7_copyOf_59c91_20 rfl rfl (x_iconst (v := 0) dJ7_copyOf_59c91_21 (by decide) (x_aload_n dJ7_copyOf_59c91_22 rfl rfl (x_alen (ty := .int) (n := 0) dJ7_copyOf_59c91_23 h1 (by decide) rfl (x_iload_n dJ7_copyOf_59c91_24 rfl rfl (x_mmin dJ7_copyOf_59c91_25 tw_276 tw_261 tw_13 tw_262 ⟨Nat.le_of_ble_eq_true rfl, Nat.le_of_ble_eq_true rfl⟩ (Nat.le_of_ble_eq_true rfl) ⟨hcm, hsm⟩ (x_copyi dJ7_copyOf_59c91_28 tw_277 tw_279 tw_278 tw_16 h1 h2 qa3 qb3 qc3 qd3 qe3 ⟨Nat.le_of_ble_eq_true rfl, Nat.le_of_ble_eq_true rfl⟩ (Nat.le_of_ble_eq_true rfl) (x_aload_n dJ7_copyOf_59c91_31 rfl rfl (x_areturn dJ7_copyOf_59c91_32 rfl hc hs hq))))))))))))
section J7
variable {G : GG} {l : Launch} {w : Wd}
theorem c_copyOf {a n n1 : Nat} {x : Int32} {g : Nat → Int32} {Q : Option Value → Wd → Prop} (h : w a = some (irow n1 g)) (hx : x = nI n) (hn : n1 < n) (hN : n ≤ 640) (hq : ∀ q, w q = none → Q (some (.ref q)) (wset w q (irow n (va_cpy g (fun _ => 0) 0 0 n1)))) : Ct G l yJ7_copyOf_59c91 cJ7_copyOf_59c91 3 (some (.array .int)) 1 40 1 n [.ref a, .int x] w Q := by
  subst hx
  have e : Int32.ofNat n1 = nI n1 := rfl
  have hmin : (if nI n < Int32.ofNat n1 then nI n else Int32.ofNat n1) = nI n1 := by
    rw [e, if_neg (nI_nlt (by omega) (by omega))]
  refine Ct.ofX (by decide +kernel) (Nat.le_of_ble_eq_true rfl) rfl ?_
  refine bJ7_copyOf_59c91_0 h (fun _ => ?_) (fun q => absurd q (by rw [e, nI_eq (by omega) (by omega)]; omega))
  refine bJ7_copyOf_59c91_14 (nI_pos (by omega)) (nI_clamp (by omega)) (by omega) (by omega) (by omega) (fun q hq0 => ?_)
  have hne : a ≠ q := fun z => by rw [z, hq0] at h; cases h
  refine bJ7_copyOf_59c91_17 ((wset_ne _ _ hne).trans h) (by omega) (by omega) (wset_eq _ _ _) (by decide) (by decide) (by rw [hmin]; exact nI_pos (by omega)) (by rw [hmin, nI_clamp (by omega)]; show 0 + n1 ≤ n1; omega) (by rw [hmin, nI_clamp (by omega)]; show 0 + n1 ≤ n; omega) ?_ (by omega) (by omega)
  rw [hmin, nI_clamp (by omega), wset_wset]
  exact hq q hq0
end J7
-- Integer.bitCount
theorem nIand (a b : Nat) : nI a &&& nI b = nI (a &&& b) := by
  apply Int32.toBitVec_inj.1
  show BitVec.ofNat 32 a &&& BitVec.ofNat 32 b = BitVec.ofNat 32 (a &&& b)
  apply BitVec.eq_of_getLsbD_eq
  intro i hi
  simp [hi]
theorem nIor (a b : Nat) : nI a ||| nI b = nI (a ||| b) := by
  apply Int32.toBitVec_inj.1
  show BitVec.ofNat 32 a ||| BitVec.ofNat 32 b = BitVec.ofNat 32 (a ||| b)
  apply BitVec.eq_of_getLsbD_eq
  intro i hi
  simp [hi]
theorem nIsub {a b : Nat} (h : b ≤ a) : nI a - nI b = nI (a - b) := by
  have : nI a = nI (a - b) + nI b := by rw [nI_add]; congr 1; omega
  rw [this, Int32.add_sub_cancel]
theorem and_le' (a b : Nat) : a &&& b ≤ a := Nat.and_le_left
theorem and_le2 (a b : Nat) : a &&& b ≤ b := Nat.and_le_right
theorem cnt_nI {n : Nat} (h : n < 65536) : ∀ k, k ≤ 16 → cntTo (nI n) k = nI (cnN n k)
  | 0, _ => rfl
  | k + 1, hk => by
    show cntTo (nI n) k + bitN (nI n) k = nI (cnN n k + n / 2 ^ k % 2)
    rw [cnt_nI h k (by omega), ← nI_add]
    congr 1
    unfold bitN
    have hs : ∀ k, k < 16 → ((nI k &&& 31).toBitVec.smod 32).toNat = k := by decide +kernel
    rw [pk_shrN (by omega) (nI k &&& 31) k (hs k (by omega)), pk_andN (by have := Nat.div_le_self n (2 ^ k); omega) 1 (by decide +kernel)]
theorem cnN_le (n : Nat) : ∀ k, cnN n k ≤ k
  | 0 => Nat.le_refl _
  | k + 1 => by
    show cnN n k + n / 2 ^ k % 2 ≤ k + 1
    have := cnN_le n k
    omega
theorem bcA_le (n : Nat) : bcA n ≤ n := Nat.sub_le _ _
theorem bcC_le (n : Nat) : bcC n ≤ 252645135 := Nat.and_le_right
theorem bcB_le (n : Nat) : bcB n ≤ 2 * 858993459 := by
  unfold bcB
  have h1 : n &&& 858993459 ≤ 858993459 := Nat.and_le_right
  have h2 : n / 4 &&& 858993459 ≤ 858993459 := Nat.and_le_right
  omega
section JB
variable {G : GG} {l : Launch} {w : Wd}
theorem c_bitCount {n : Nat} {x : Int32} {Q : Int32 → Wd → Prop} (hx : x = nI n) (h : n < 65536) (hq : Q (cnt x) w) : CJ6_bitCount_0f7a4 G l [.int x] w Q := by
  subst hx
  have hA := bcA_le n
  have hB := bcB_le (bcA n)
  have hB2 : bcB (bcA n) ≤ 2 * 65536 := by
    unfold bcB
    have h1 : bcA n &&& 858993459 ≤ bcA n := Nat.and_le_left
    have h2 : bcA n / 4 &&& 858993459 ≤ bcA n / 4 := Nat.and_le_left
    omega
  have hC := bcC_le (bcB (bcA n))
  have hD : bcD (bcC (bcB (bcA n))) ≤ 2 * 252645135 := by unfold bcD; omega
  have hE : bcE (bcD (bcC (bcB (bcA n)))) ≤ 4 * 252645135 := by unfold bcE; omega
  refine sJ6_bitCount_0f7a4 (bJ6_bitCount_0f7a4_0 ?_)
  have u1 : ((nI n).toUInt32 >>> ((1 : Int32).toUInt32 &&& Int32.toUInt32 31)).toInt32 = nI (n / 2) := pk_ushrN (by omega) 1 1 (by decide +kernel)
  rw [u1, show (1431655765 : Int32) = nI 1431655765 from rfl, nIand, nIsub (by have h1 : n / 2 &&& 1431655765 ≤ n / 2 := Nat.and_le_left; omega)]
  show KJ6_bitCount_0f7a4 G l w _ w 10 [(0, .int (nI (bcA n)))] []
  refine bJ6_bitCount_0f7a4_10 ?_
  have u2 : ((nI (bcA n)).toUInt32 >>> ((2 : Int32).toUInt32 &&& Int32.toUInt32 31)).toInt32 = nI (bcA n / 4) := pk_ushrN (by omega) 2 2 (by decide +kernel)
  rw [u2, show (858993459 : Int32) = nI 858993459 from rfl, nIand, nIand, nI_add]
  show KJ6_bitCount_0f7a4 G l w _ w 24 [(0, .int (nI (bcB (bcA n))))] []
  refine bJ6_bitCount_0f7a4_24 ?_
  have u3 : ((nI (bcB (bcA n))).toUInt32 >>> ((4 : Int32).toUInt32 &&& Int32.toUInt32 31)).toInt32 = nI (bcB (bcA n) / 16) := pk_ushrN (by omega) 4 4 (by decide +kernel)
  rw [u3, show (252645135 : Int32) = nI 252645135 from rfl, nI_add, nIand]
  show KJ6_bitCount_0f7a4 G l w _ w 34 [(0, .int (nI (bcC (bcB (bcA n)))))] []
  refine bJ6_bitCount_0f7a4_34 ?_
  have u4 : ((nI (bcC (bcB (bcA n)))).toUInt32 >>> ((8 : Int32).toUInt32 &&& Int32.toUInt32 31)).toInt32 = nI (bcC (bcB (bcA n)) / 256) := pk_ushrN (by omega) 8 8 (by decide +kernel)
  rw [u4, nI_add]
  show KJ6_bitCount_0f7a4 G l w _ w 41 [(0, .int (nI (bcD (bcC (bcB (bcA n))))))] []
  refine bJ6_bitCount_0f7a4_41 ?_
  have u5 : ((nI (bcD (bcC (bcB (bcA n))))).toUInt32 >>> ((16 : Int32).toUInt32 &&& Int32.toUInt32 31)).toInt32 = nI (bcD (bcC (bcB (bcA n))) / 65536) := pk_ushrN (by omega) 16 16 (by decide +kernel)
  rw [u5, nI_add]
  show KJ6_bitCount_0f7a4 G l w _ w 48 [(0, .int (nI (bcE (bcD (bcC (bcB (bcA n)))))))] []
  refine bJ6_bitCount_0f7a4_48 ?_
  rw [show (63 : Int32) = nI 63 from rfl, nIand]
  show Q (nI (bcN n)) w
  rw [bc_eq h]
  have e : cnt (nI n) = nI (cnN n 16) := cnt_nI h 16 (Nat.le_refl _)
  rw [← e]
  exact hq
end JB
