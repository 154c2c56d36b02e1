/-! THE CLASS: a session lasts longer -/
/-- the sessions' numbers stay as they are -/
def SP (w w2 : Wd) : Prop := ∀ q e, w q = some (.inl (2, e)) → w2 q = some (.inl (2, e))
theorem SP.rf (w : Wd) : SP w w := fun _ _ h => h
theorem SP.tr {a b d : Wd} (h : SP a b) (h2 : SP b d) : SP a d := fun q e hq => h2 q e (h q e hq)
theorem set_mid (P S : List Ss) (a b : Ss) : (P ++ a :: S).set P.length b = P ++ b :: S := by
  induction P with
  | nil => rfl
  | cons x r ih => show x :: (r ++ a :: S).set r.length b = _; rw [ih]; rfl
section CX
variable {G : GG} {l : Launch} {fr w : Wd} {A : Nat → Nat} {c : Cal} {L : Nat}
theorem CalW.sp5 (h : CalW fr A c L w) {w2 : Wd} (hk : ∀ q, q ≠ A 0 → q ≠ A 5 → w2 q = w q) : SP w w2 := fun q e hq => by
  obtain ⟨g, eg, -⟩ := h.i.sa
  rw [hk q (fun z => ?_) (fun z => ?_)]
  · exact hq
  · rw [z, h.i.o] at hq
    injection hq with hq; injection hq with hq; injection hq with hq _; cases hq
  · rw [z, eg] at hq
    injection hq with hq; cases hq
theorem c_driveOutLater {k : Nat} {Q : Wd → Prop} (h : CalW fr A c L w) (hk : k < (cSs c).length) (hq : ∀ w2, CalW fr A (wSs c ((cSs c).take k ++ sg (cSs c) k :: drv (sf (sg (cSs c) k) 0) (sf (sg (cSs c) k) 1) (sf (sg (cSs c) k) 2 + sf (sg (cSs c) k) 3) ((cSs c).drop (k + 1)))) L w2 → Q w2) : CX0_driveOutLater G l [.ref (A 0), .int (nI k)] w Q := by
  have b1 := h.i.b1
  obtain ⟨g, eg, hg⟩ := h.i.sa
  refine sX0_driveOutLater (bX0_driveOutLater_0 h.i.o rfl eg (ix_of rfl (by omega) (by decide)) (by rw [nI_clamp (by omega)]; exact hg k (by omega)) ?_)
  have key : ∀ (M P : List Ss) (b : Int32) (j : Nat) (w1 : Wd), CalW fr A (wSs c (P ++ M)) L w1 → j < P.length → sf (sg P j) 0 = sf (sg (cSs c) k) 0 → sf (sg P j) 1 = sf (sg (cSs c) k) 1 → sf (sg P j) 2 + sf (sg P j) 3 = b → (∀ w2, CalW fr A (wSs c (P ++ drv (sf (sg (cSs c) k) 0) (sf (sg (cSs c) k) 1) b M)) L w2 → Q w2) → KX0_driveOutLater G l w (ZV G 0 0 w Q) w1 11 [(0, .ref (A 0)), (2, .ref (A (10 + j))), (3, .int (nI P.length))] [] := by
    intro M
    induction M with
    | nil =>
      intro P b j w1 hw hj e0 e1 eb hq
      have hl : (cSs (wSs c (P ++ []))).length = P.length := by show (P ++ []).length = _; rw [List.append_nil]
      have hb := hw.i.b1
      rw [hl] at hb
      refine bX0_driveOutLater_11 hw.i.o rfl (fun _ => bX0_driveOutLater_112 (hq w1 hw)) (fun z => absurd (by rw [hl]; exact nI_le (Nat.le_refl _) (by omega)) z)
    | cons x M ih =>
      intro P b j w1 hw hj e0 e1 eb hq
      have hl : (cSs (wSs c (P ++ x :: M))).length = P.length + (M.length + 1) := by show (P ++ x :: M).length = _; rw [List.length_append, List.length_cons]
      have hb := hw.i.b1
      rw [hl] at hb
      have sx : sg (cSs (wSs c (P ++ x :: M))) P.length = x := sg_mid P M x
      have sj : sg (cSs (wSs c (P ++ x :: M))) j = sg P j := sg_app2 P _ hj
      have hx := hw.i.se (k := P.length) (by rw [hl]; omega)
      rw [sx] at hx
      have hjw := hw.i.se (k := j) (by rw [hl]; omega)
      rw [sj] at hjw
      obtain ⟨g, eg, hg⟩ := hw.i.sa
      have e4 : g (nI P.length).toNatClampNeg = some (A (10 + P.length)) := by rw [nI_clamp (by omega)]; exact hg _ (by omega)
      have ap : ∀ y : Ss, P ++ y :: M = (P ++ [y]) ++ M := fun y => by rw [List.append_assoc]; rfl
      have al : ∀ y : Ss, (P ++ [y]).length = P.length + 1 := fun y => by rw [List.length_append]; rfl
      have skip : ¬ (sf x 0 = sf (sg (cSs c) k) 0 ∧ sf x 1 = sf (sg (cSs c) k) 1) → KX0_driveOutLater G l w (ZV G 0 0 w Q) w1 106 [(0, .ref (A 0)), (2, .ref (A (10 + j))), (3, .int (nI P.length))] [] := fun z => by
        refine bX0_driveOutLater_106 ?_
        rw [nI_1, ← al x]
        rw [drv, if_neg z] at hq
        refine ih (P ++ [x]) b j w1 (by rw [← ap]; exact hw) (by rw [al]; omega) (by rw [sg_app2 _ _ hj]; exact e0) (by rw [sg_app2 _ _ hj]; exact e1) (by rw [sg_app2 _ _ hj]; exact eb) (fun w2 hw2 => hq w2 ?_)
        rw [List.append_assoc] at hw2; exact hw2
      have step : sf x 0 = sf (sg (cSs c) k) 0 ∧ sf x 1 = sf (sg (cSs c) k) 1 → ∀ w2, CalW fr A (wSs c (P ++ drvN x b :: M)) L w2 → KX0_driveOutLater G l w (ZV G 0 0 w Q) w2 103 [(0, .ref (A 0)), (3, .int (nI P.length)), (4, .ref (A (10 + P.length)))] [] := fun z w2 hw2 => by
        refine bX0_driveOutLater_103 (bX0_driveOutLater_106 ?_)
        rw [nI_1, ← al (drvN x b)]
        rw [drv, if_pos z] at hq
        have em : sg (P ++ [drvN x b]) P.length = drvN x b := sg_app1 _ _
        have ez : sf (drvN x b) 0 = sf x 0 ∧ sf (drvN x b) 1 = sf x 1 := by unfold drvN; split <;> exact ⟨rfl, rfl⟩
        refine ih (P ++ [drvN x b]) (sf (drvN x b) 2 + sf (drvN x b) 3) P.length w2 (by rw [← ap]; exact hw2) (by rw [al]; omega) (by rw [em, ez.1]; exact z.1) (by rw [em, ez.2]; exact z.2) (by rw [em]) (fun w3 hw3 => hq w3 ?_)
        rw [List.append_assoc] at hw3; exact hw3
      refine bX0_driveOutLater_11 hw.i.o rfl (fun z => absurd z (by rw [hl]; exact nI_ge (by omega) (by omega))) (fun _ => ?_)
      refine bX0_driveOutLater_19 hw.i.o rfl eg (ix_of rfl (by omega) (by decide)) e4 hx rfl hjw rfl (fun z => skip (fun y => z (by rw [e0]; exact y.1))) (fun z0 => ?_)
      rw [e0] at z0
      refine bX0_driveOutLater_39 hx rfl hjw rfl (fun z => skip (fun y => z (by rw [e1]; exact y.2))) (fun z1 => ?_)
      rw [e1] at z1
      refine bX0_driveOutLater_51 hjw rfl rfl hx rfl (fun z => step ⟨z0, z1⟩ w1 ?_) (fun z => ?_)
      · rw [eb] at z
        have e : drvN x b = x := if_neg (by rw [i32_lt]; rw [i32_le] at z; omega)
        rw [e]; exact hw
      · rw [eb] at z
        rw [eb]
        have k1 := hw.sess (k := P.length) (by omega) (sf x 0, sf x 1, b, min32 (sf x 3) (16 - b), sf x 4, -1)
        have ed : drvN x b = (sf x 0, sf x 1, b, min32 (sf x 3) (16 - b), sf x 4, -1) := if_pos (nle_lt z)
        have k1 : CalW fr A (wSs c ((P ++ x :: M).set P.length (sf x 0, sf x 1, b, min32 (sf x 3) (16 - b), sf x 4, -1))) L _ := k1
        rw [set_mid, ← ed] at k1
        refine bX0_driveOutLater_72 hx (ses_l (by decide)) rfl rfl (lt_n (n := 6) (by decide)) rfl (lt_n (n := 6) (by decide)) (f5 := sesF (drvN x b)) ?_ ?_
        · rw [min_sw, ed]; rfl
        · rw [wset_wset, wset_wset]
          exact step ⟨z0, z1⟩ _ k1
  have hsp := sg_split hk
  have hl : ((cSs c).take k).length = k := by rw [List.length_take]; omega
  have e1 : (cSs c).take k ++ sg (cSs c) k :: (cSs c).drop (k + 1) = ((cSs c).take k ++ [sg (cSs c) k]) ++ (cSs c).drop (k + 1) := by rw [List.append_assoc]; rfl
  have e2 : ((cSs c).take k ++ [sg (cSs c) k]).length = k + 1 := by rw [List.length_append, hl]; rfl
  have e3 : sg ((cSs c).take k ++ [sg (cSs c) k]) k = sg (cSs c) k := by
    have := sg_app1 ((cSs c).take k) (sg (cSs c) k)
    rw [hl] at this; exact this
  have := key ((cSs c).drop (k + 1)) ((cSs c).take k ++ [sg (cSs c) k]) (sf (sg (cSs c) k) 2 + sf (sg (cSs c) k) 3) k w (by
    rw [← e1, ← hsp]; exact h) (by omega) (by rw [e3]) (by rw [e3]) (by rw [e3]) (fun w2 hw2 => hq w2 (by rw [List.append_assoc] at hw2; exact hw2))
  rw [e2] at this
  rw [nI_1]; exact this
theorem c_freeFromOverlap {k : Nat} {Q : Wd → Prop} (h : CalW fr A c L w) (hk : k < (cSs c).length) (hq : ∀ w2, CalW fr A (wSs c (frT (cSs c) k (sg (cSs c) k) (cSs c).length)) L w2 → Q w2) : CX0_freeFromOverlap G l [.ref (A 0), .int (nI k)] w Q := by
  have b1 := h.i.b1
  obtain ⟨g, eg, hg⟩ := h.i.sa
  refine sX0_freeFromOverlap (bX0_freeFromOverlap_0 h.i.o rfl eg (ix_of rfl (by omega) (by decide)) (by rw [nI_clamp (by omega)]; exact hg k (by omega)) ?_)
  have key : ∀ i, i ≤ (cSs c).length → ∀ w1, CalW fr A (wSs c (frT (cSs c) k (sg (cSs c) k) i)) L w1 → KX0_freeFromOverlap G l w (ZV G 0 0 w Q) w1 9 [(0, .ref (A 0)), (1, .int (nI k)), (2, .ref (A (10 + k))), (3, .int (nI i))] [] := by
    refine upto (P := fun i => ∀ w1, CalW fr A (wSs c (frT (cSs c) k (sg (cSs c) k) i)) L w1 → KX0_freeFromOverlap G l w (ZV G 0 0 w Q) w1 9 [(0, .ref (A 0)), (1, .int (nI k)), (2, .ref (A (10 + k))), (3, .int (nI i))] []) (N := (cSs c).length) (fun w1 hw => ?_) (fun i hi ih w1 hw => ?_)
    · have hl : (cSs (wSs c (frT (cSs c) k (sg (cSs c) k) (cSs c).length))).length = (cSs c).length := frT_len _ _ _ _
      exact bX0_freeFromOverlap_9 hw.i.o rfl (fun _ => bX0_freeFromOverlap_79 (hq w1 hw)) (fun z => absurd (by rw [hl]; exact nI_le (Nat.le_refl _) (by omega)) z)
    · have hl : (cSs (wSs c (frT (cSs c) k (sg (cSs c) k) i))).length = (cSs c).length := frT_len _ _ _ _
      have sk : sg (frT (cSs c) k (sg (cSs c) k) i) k = sg (cSs c) k := by rw [frT_sg _ _ _ _ (by omega), if_neg (fun z => z.2 rfl)]
      have hkw := hw.i.se (k := k) (by rw [hl]; exact hk)
      have hkw : w1 (A (10 + k)) = some (.inl (2, sesF (sg (frT (cSs c) k (sg (cSs c) k) i) k))) := hkw
      rw [sk] at hkw
      have hiw := hw.i.se (k := i) (by rw [hl]; exact hi)
      have hiw : w1 (A (10 + i)) = some (.inl (2, sesF (sg (frT (cSs c) k (sg (cSs c) k) i) i))) := hiw
      obtain ⟨g, eg, hg⟩ := hw.i.sa
      have e4 : g (nI i).toNatClampNeg = some (A (10 + i)) := by rw [nI_clamp (by omega)]; exact hg _ (by omega)
      have no : ¬ (¬ i = k ∧ (sf (sg (frT (cSs c) k (sg (cSs c) k) i) i) 5 = sf (sg (cSs c) k) 5 ∧ sf (sg (frT (cSs c) k (sg (cSs c) k) i) i) 1 = sf (sg (cSs c) k) 1 ∧ ¬ (bts (sg (frT (cSs c) k (sg (cSs c) k) i) i) &&& bts (sg (cSs c) k)) = 0)) → KX0_freeFromOverlap G l w (ZV G 0 0 w Q) w1 73 [(0, .ref (A 0)), (1, .int (nI k)), (2, .ref (A (10 + k))), (3, .int (nI i))] [] := fun z => by
        rw [show frT (cSs c) k (sg (cSs c) k) (i + 1) = frT (cSs c) k (sg (cSs c) k) i from if_neg z] at ih
        refine bX0_freeFromOverlap_73 ?_
        rw [nI_1]; exact ih w1 hw
      refine bX0_freeFromOverlap_9 hw.i.o rfl (fun z => absurd z (by rw [hl]; exact nI_ge hi (by omega))) (fun _ => ?_)
      refine bX0_freeFromOverlap_17 hw.i.o rfl eg (ix_of rfl (by omega) (by decide)) e4 (fun z => no (fun y => y.1 ((nI_eq (by omega) (by omega)).mp z))) (fun z1 => ?_)
      have z1 : ¬ i = k := fun z => z1 (by rw [z])
      refine bX0_freeFromOverlap_30 hiw rfl hkw rfl (fun z => no (fun y => z y.2.1)) (fun z2 => ?_)
      refine bX0_freeFromOverlap_42 hiw rfl hkw rfl (fun z => no (fun y => z y.2.2.1)) (fun z3 => ?_)
      refine bX0_freeFromOverlap_54 hiw (c_bits (Q := fun r w2 => bts (sg (frT (cSs c) k (sg (cSs c) k) i) i) = r ∧ w1 = w2) hiw ⟨rfl, rfl⟩) (fun r w2 hr => ?_)
      obtain ⟨rfl, rfl⟩ := hr
      refine bX0_freeFromOverlap_59 hkw (c_bits (Q := fun r w2 => bts (sg (cSs c) k) = r ∧ w1 = w2) hkw ⟨rfl, rfl⟩) (fun r w2 hr => ?_)
      obtain ⟨rfl, rfl⟩ := hr
      refine bX0_freeFromOverlap_63 (fun z => no (fun y => y.2.2.2 z)) (fun z4 => ?_)
      have k1 := hw.sess (k := i) (by omega) (sfset (sg (frT (cSs c) k (sg (cSs c) k) i) i) 5 (-1))
      rw [show frT (cSs c) k (sg (cSs c) k) (i + 1) = (frT (cSs c) k (sg (cSs c) k) i).set i (sfset (sg (frT (cSs c) k (sg (cSs c) k) i) i) 5 (-1)) from if_pos ⟨z1, z2, z3, z4⟩] at ih
      refine bX0_freeFromOverlap_67 hiw (ses_l (by decide)) rfl (bX0_freeFromOverlap_73 ?_)
      rw [nI_1]; exact ih _ k1
  exact key 0 (Nat.zero_le _) w h
def rmE (ss : List Ss) (j : Nat) : List Ss := ss.take j ++ (ss.drop j).filter ne0
theorem rmE_sg {ss : List Ss} {j : Nat} (hj : j < ss.length) : j < (rmE ss (j + 1)).length ∧ sg (rmE ss (j + 1)) j = sg ss j := by
  have hl : (ss.take (j + 1)).length = j + 1 := by rw [List.length_take]; omega
  refine ⟨by unfold rmE; rw [List.length_append]; omega, ?_⟩
  unfold rmE
  rw [sg_app2 _ _ (by omega), sg_get (by omega), List.getElem_take, sg_get hj]
theorem rmE_st {ss : List Ss} {j : Nat} (hj : j < ss.length) : rmE ss j = if ne0 (sg ss j) = true then rmE ss (j + 1) else (rmE ss (j + 1)).eraseIdx j := by
  unfold rmE
  have e : ss.drop j = sg ss j :: ss.drop (j + 1) := by rw [sg_get hj]; exact List.drop_eq_getElem_cons hj
  have e2 : ss.take (j + 1) = ss.take j ++ [sg ss j] := by rw [sg_get hj]; exact List.take_succ_eq_append_getElem hj
  have hl : (ss.take j).length = j := by rw [List.length_take]; omega
  rw [e, e2]
  by_cases q : ne0 (sg ss j) = true
  · rw [if_pos q, List.filter_cons_of_pos q, List.append_assoc]; rfl
  · rw [if_neg q, List.filter_cons_of_neg q, List.append_assoc, List.eraseIdx_append_of_length_le (by omega), hl, Nat.sub_self]; rfl
theorem c_removeEmpty {Q : Wd → Prop} (h : CalW fr A c L w) (hq : ∀ A' w2, A' 0 = A 0 → CalW fr A' (wSs c ((cSs c).filter ne0)) L w2 → SP w w2 → Q w2) : CX0_removeEmpty G l [.ref (A 0)] w Q := by
  have b := h.i.b1
  refine sX0_removeEmpty (bX0_removeEmpty_0 h.i.o rfl ?_)
  have key : ∀ j, j ≤ (cSs c).length → ∀ (A1 : Nat → Nat) (w1 : Wd), A1 0 = A 0 → CalW fr A1 (wSs c (rmE (cSs c) j)) L w1 → SP w w1 → KX0_removeEmpty G l w (ZV G 0 0 w Q) w1 7 [(0, .ref (A 0)), (1, .int (nI j - 1))] [] := by
    intro j
    induction j with
    | zero =>
      intro _ A1 w1 hA hw hs
      exact bX0_removeEmpty_7 (fun _ => bX0_removeEmpty_34 (hq A1 w1 hA hw hs)) (fun z => absurd (by decide) z)
    | succ j ih =>
      intro hj A1 w1 hA hw hs
      obtain ⟨hjl, hjs⟩ := rmE_sg (show j < (cSs c).length by omega)
      have hjl : j < (cSs (wSs c (rmE (cSs c) (j + 1)))).length := hjl
      obtain ⟨g, eg, hg⟩ := hw.i.sa
      have e4 : g (nI j).toNatClampNeg = some (A1 (10 + j)) := by rw [nI_clamp (by omega)]; exact hg j (by omega)
      have hse := hw.i.se hjl
      have hse : w1 (A1 (10 + j)) = some (.inl (2, sesF (sg (rmE (cSs c) (j + 1)) j))) := hse
      rw [hjs] at hse
      have st := rmE_st (show j < (cSs c).length by omega)
      rw [nI_pred]
      have em : nI j + (-1) = nI j - 1 := by rw [Int32.sub_eq_add_neg]
      refine bX0_removeEmpty_7 (fun z => absurd z (nI_pos (by omega))) (fun _ => ?_)
      rw [← hA]
      rw [← hA] at ih
      refine bX0_removeEmpty_11 hw.i.o rfl eg (ix_of rfl (by omega) (by decide)) e4 hse rfl (fun z => bX0_removeEmpty_28 ?_) (fun z => ?_)
      · rw [em]
        rw [if_pos (by unfold ne0; rw [decide_eq_false z]; rfl)] at st
        rw [← st] at hw
        exact ih (by omega) A1 w1 rfl hw hs
      · rw [if_neg (by unfold ne0; rw [decide_eq_true z]; decide)] at st
        refine bX0_removeEmpty_23 hw.i.o (c_removeSession (k := j) (Q := fun w2 => ∃ A2, A2 0 = A1 0 ∧ CalW fr A2 (wSs c (rmE (cSs c) j)) L w2 ∧ SP w1 w2) hw hjl (fun A2 w2 e0 k kk => ⟨A2, e0, by
          have e : delS (wSs c (rmE (cSs c) (j + 1))) j = wSs c (rmE (cSs c) j) := by
            show wSs c ((rmE (cSs c) (j + 1)).eraseIdx j) = _
            rw [st]
          rw [e] at k; exact k, hw.sp5 kk⟩)) (fun w2 hw2 => bX0_removeEmpty_28 ?_)
        obtain ⟨A2, e0, k, s2⟩ := hw2
        rw [em]
        exact ih (by omega) A2 w2 e0 k (hs.tr s2)
  have e0 : rmE (cSs c) (cSs c).length = cSs c := by
    unfold rmE
    rw [List.take_length, List.drop_length]
    show cSs c ++ [] = _
    rw [List.append_nil]
  exact key (cSs c).length (Nat.le_refl _) A w rfl (by rw [e0]; exact h) (SP.rf w)
theorem c_lengthen {T k : Nat} {n : Int32} {Q : Int32 → Wd → Prop} (h : CalW fr A c L w) (hI : Inv T c) (hk : k < (cSs c).length) (h1 : 1 ≤ n.toInt) (h2 : n.toInt ≤ 16) (hq : ∀ A' w2, A' 0 = A 0 → CalW fr A' (extC c k n) L w2 → Q (extL (sg (cSs c) k) n) w2) : CX0_lengthen G l [.ref (A 0), .int (nI k), .int n] w Q := by
  have b := h.i.b1
  obtain ⟨g, eg, hg⟩ := h.i.sa
  have e4 : g (nI k).toNatClampNeg = some (A (10 + k)) := by rw [nI_clamp (by omega)]; exact hg k (by omega)
  have k1 := h.sess (k := k) (by omega) (sfset (sg (cSs c) k) 3 (extL (sg (cSs c) k) n))
  have hL : extL (sg (cSs c) k) n = min32 (sf (sg (cSs c) k) 3 + n) (16 - sf (sg (cSs c) k) 2) := rfl
  generalize hS : sfset (sg (cSs c) k) 3 (extL (sg (cSs c) k) n) = S at k1
  have hl1 : ((cSs c).set k S).length = (cSs c).length := List.length_set
  have hk1 : k < (cSs (wSs c ((cSs c).set k S))).length := by show k < ((cSs c).set k S).length; rw [hl1]; exact hk
  have s1k : sg ((cSs c).set k S) k = S := by rw [sg_set _ _ _ _ hk, if_pos rfl]
  have e1 : ((cSs c).set k S).take k ++ S :: drv (sf S 0) (sf S 1) (sf S 2 + sf S 3) (((cSs c).set k S).drop (k + 1)) = ss1 c k n := by
    have : (cSs c).set k S = (cSs c).take k ++ S :: (cSs c).drop (k + 1) := by
      have e := set_mid ((cSs c).take k) ((cSs c).drop (k + 1)) (sg (cSs c) k) S
      rw [← sg_split hk] at e
      rw [List.length_take, show min k (cSs c).length = k by omega] at e
      exact e
    have hl : ((cSs c).take k).length = k := by rw [List.length_take]; omega
    have et : ((cSs c).set k S).take k = (cSs c).take k := by rw [List.take_set_of_le (Nat.le_refl _)]
    have ed : ((cSs c).set k S).drop (k + 1) = (cSs c).drop (k + 1) := by rw [List.drop_set_of_lt (by omega)]
    rw [et, ed, ← hS]
    rfl
  refine sX0_lengthen (bX0_lengthen_0 h.i.o rfl eg (ix_of rfl (by omega) (by decide)) e4 (h.i.se hk) rfl rfl (ses_l (by decide)) (f8 := sesF S) (by rw [min_sw, ← hL, ← hS]; rfl) k1.i.o (c_driveOutLater (k := k) (Q := fun w2 => CalW fr A (wSs c (ss1 c k n)) L w2) k1 hk1 (fun w2 hw2 => ?_)) (fun w2 hw2 => ?_))
  · have hw2 : CalW fr A (wSs c (((cSs c).set k S).take k ++ sg ((cSs c).set k S) k :: drv (sf (sg ((cSs c).set k S) k) 0) (sf (sg ((cSs c).set k S) k) 1) (sf (sg ((cSs c).set k S) k) 2 + sf (sg ((cSs c).set k S) k) 3) (((cSs c).set k S).drop (k + 1)))) L w2 := hw2
    rw [s1k, e1] at hw2
    exact hw2
  · have hss1 : (ss1 c k n).length = (cSs c).length := ss1_len hk
    have hk2 : k < (cSs (wSs c (ss1 c k n))).length := by show k < (ss1 c k n).length; omega
    have sk2 : sg (cSs (wSs c (ss1 c k n))) k = S := by rw [← hS]; exact ss1_k hk
    refine bX0_lengthen_32 hw2.i.o (c_freeFromOverlap (k := k) (Q := fun w3 => CalW fr A (wSs c (frT (ss1 c k n) k S (ss1 c k n).length)) L w3) hw2 hk2 (fun w3 hw3 => by rw [sk2] at hw3; exact hw3)) (fun w3 hw3 => ?_)
    have hfl : (frT (ss1 c k n) k S (ss1 c k n).length).length = (cSs c).length := by rw [frT_len, hss1]
    have hks : w3 (A (10 + k)) = some (.inl (2, sesF S)) := by
      have := hw3.i.se (k := k) (by show k < (frT (ss1 c k n) k S (ss1 c k n).length).length; omega)
      have e : sg (frT (ss1 c k n) k S (ss1 c k n).length) k = S := by
        rw [frT_sg _ _ _ _ (Nat.le_refl _), if_neg (fun z => z.2 rfl)]; exact sk2
      have this : w3 (A (10 + k)) = some (.inl (2, sesF (sg (frT (ss1 c k n) k S (ss1 c k n).length) k))) := this
      rw [e] at this; exact this
    have es3 : (frT (ss1 c k n) k S (ss1 c k n).length).filter ne0 = ss3 c k n := by
      rw [← hS, ss2_eq hI hk h1 h2]; rfl
    refine bX0_lengthen_37 hw3.i.o (c_removeEmpty (Q := fun w4 => ∃ A4, A4 0 = A 0 ∧ CalW fr A4 (wSs c (ss3 c k n)) L w4 ∧ w4 (A (10 + k)) = some (.inl (2, sesF S))) hw3 (fun A4 w4 e0 k4 s4 => ⟨A4, e0, by
      have k4 : CalW fr A4 (wSs c ((frT (ss1 c k n) k S (ss1 c k n).length).filter ne0)) L w4 := k4
      rw [es3] at k4; exact k4, s4 _ _ hks⟩)) (fun w4 hw4 => bX0_lengthen_41 ?_)
    obtain ⟨A4, e04, hw4, hs4⟩ := hw4
    have b3 := hw4.i.b1
    have b3 : (ss3 c k n).length ≤ 16 := b3
    have esrt := ext_srt hI hk h1 h2
    have key : ∀ i, i ≤ (ss3 c k n).length → ∀ (A5 : Nat → Nat) (w5 : Wd), A5 0 = A 0 → CalW fr A5 (wSs c (srtTo (ss3 c k n) i)) L w5 → w5 (A (10 + k)) = some (.inl (2, sesF S)) → KX0_lengthen G l w (ZI G 0 0 w Q) w5 44 [(0, .ref (A 0)), (3, .ref (A (10 + k))), (4, .int (nI i))] [] := by
      refine upto (P := fun i => ∀ (A5 : Nat → Nat) (w5 : Wd), A5 0 = A 0 → CalW fr A5 (wSs c (srtTo (ss3 c k n) i)) L w5 → w5 (A (10 + k)) = some (.inl (2, sesF S)) → KX0_lengthen G l w (ZI G 0 0 w Q) w5 44 [(0, .ref (A 0)), (3, .ref (A (10 + k))), (4, .int (nI i))] []) (N := (ss3 c k n).length) (fun A5 w5 e5 hw5 hs5 => ?_) (fun i hi ih A5 w5 e5 hw5 hs5 => ?_)
      · have hl : (cSs (wSs c (srtTo (ss3 c k n) (ss3 c k n).length))).length = (ss3 c k n).length := srtTo_len _ _ (Nat.le_refl _)
        rw [← e5]
        refine bX0_lengthen_44 hw5.i.o rfl (fun _ => bX0_lengthen_66 hs5 rfl ?_) (fun z => absurd (by rw [hl]; exact nI_le (Nat.le_refl _) (by omega)) z)
        rw [esrt, ← extC_rest] at hw5
        have := hq A5 w5 e5 hw5
        rw [← hS]; exact this
      · have hl : (cSs (wSs c (srtTo (ss3 c k n) i))).length = (ss3 c k n).length := srtTo_len _ _ (by omega)
        rw [← e5]
        rw [← e5] at ih
        refine bX0_lengthen_44 hw5.i.o rfl (fun z => absurd z (by rw [hl]; exact nI_ge hi (by omega))) (fun _ => ?_)
        refine bX0_lengthen_53 hw5.i.o (c_moveForward (k := i) (Q := fun _ w6 => ∃ A6, A6 0 = A5 0 ∧ CalW fr A6 (wSs c (srtTo (ss3 c k n) (i + 1))) L w6 ∧ SP w5 w6) hw5 (by rw [hl]; exact hi) (fun A6 w6 e6 k6 kk => ⟨A6, e6, k6, hw5.sp5 kk⟩)) (fun r w6 hw6 => bX0_lengthen_59 ?_)
        obtain ⟨A6, e6, k6, s6⟩ := hw6
        rw [nI_1]
        exact ih A6 w6 e6 k6 (s6 _ _ hs5)
    rw [← e04] at key ⊢
    exact key 0 (Nat.zero_le _) A4 w4 rfl hw4 hs4
end CX
