/-! THE MODEL: typing, pay, hiring -/
theorem urgTo_lt (ts : List Tr) (p : Int32) : ∀ n i, urgTo ts p n = some i → i < n
  | 0, i, h => by cases h
  | n + 1, i, h => by
    unfold urgTo at h
    split at h
    · split at h
      · cases h; exact Nat.lt_succ_self _
      · cases h
    · rename_i b hb
      split at h
      · cases h; exact Nat.lt_succ_self _
      · cases h; exact Nat.lt_succ_of_lt (urgTo_lt ts p n _ hb)
theorem oI_some {i : Nat} : oI (some i) = nI i := rfl
theorem nI_m1 {n : Nat} (h : n < 2 ^ 31) : ¬ nI n = -1 := fun e => by
  have := congrArg Int32.toInt e
  rw [nI_toInt h] at this
  have h2 : (-1 : Int32).toInt = -1 := by decide
  rw [h2] at this
  omega
section M5
variable {G : GG} {l : Launch} {w : Wd} {r : Nat} {g : Nat → Int32} {c : Cal}
theorem c_urgent {x1 : Int32} {Q : Int32 → Wd → Prop} (hr : w r = some (irow 2047 g)) (hc : MRep g c) (hq : Q (oI (urg (cTs c) x1)) w) : CX6_urgent G l [.ref r, .int x1] w Q := by
  have hb := hc.b2
  refine sX6_urgent (bX6_urgent_0 ?_)
  refine upto (P := fun i => KX6_urgent G l w (ZI G 0 0 w Q) w 4 [(0, .ref r), (1, .int x1), (2, .int (oI (urgTo (cTs c) x1 i))), (3, .int (nI i))] []) (N := (cTs c).length) ?_ (fun i hi ih => ?_) 0 (Nat.zero_le _)
  · exact bX6_urgent_4 hr (vlit rfl) (fun h => bX6_urgent_75 hq) (fun h => absurd (by rw [hc.n2]; exact nI_le (Nat.le_refl _) (by omega)) h)
  · have e0 : 127 + 3 * nI i = nI (127 + 3 * i) := by rw [show (127 : Int32) = nI 127 from rfl, show (3 : Int32) = nI 3 from rfl, nI_mul, nI_add]
    have e2 : ∀ j : Nat, 127 + 3 * nI j + 2 = nI (127 + 3 * j + 2) := fun j => by rw [show (127 : Int32) = nI 127 from rfl, show (3 : Int32) = nI 3 from rfl, show (2 : Int32) = nI 2 from rfl, nI_mul, nI_add, nI_add]
    have hT := hc.T hi
    have hT0 : g ((127 + 3 * nI i).toNatClampNeg) = tf (tg (cTs c) i) 0 := by rw [e0, nI_clamp (by omega), ← hT]; rfl
    have hT2 : ∀ j, j < (cTs c).length → g ((127 + 3 * nI j + 2).toNatClampNeg) = tf (tg (cTs c) j) 2 := fun j hj => by rw [e2, nI_clamp (by omega), ← hc.T hj]; rfl
    have no : urgTo (cTs c) x1 (i + 1) = urgTo (cTs c) x1 i → KX6_urgent G l w (ZI G 0 0 w Q) w 67 [(0, .ref r), (1, .int x1), (2, .int (oI (urgTo (cTs c) x1 i))), (3, .int (nI i))] [] := fun hn => by
      refine bX6_urgent_67 (bX6_urgent_68 ?_)
      rw [nI_1, ← hn]
      exact ih
    have yes : urgTo (cTs c) x1 (i + 1) = some i → KX6_urgent G l w (ZI G 0 0 w Q) w 63 [(0, .ref r), (1, .int x1), (3, .int (nI i))] [] := fun hn => by
      refine bX6_urgent_63 (bX6_urgent_68 ?_)
      rw [nI_1, ← oI_some, ← hn]
      exact ih
    refine bX6_urgent_4 hr (vlit rfl) (fun h => absurd h (by rw [hc.n2]; exact nI_ge hi (by omega))) (fun h => ?_)
    refine bX6_urgent_11 hr (ix_of e0 (by omega) (by omega)) (fun h => bX6_urgent_27 (bX6_urgent_28 (fun _ => no ?_) (fun h2 => absurd rfl h2))) (fun h => bX6_urgent_23 (bX6_urgent_28 (fun h2 => absurd h2 (by decide)) (fun _ => ?_)))
    · rw [hT0] at h
      show (match urgTo (cTs c) x1 i with | none => _ | some b => _) = _
      split
      · rename_i hb9; rw [if_neg h, hb9]
      · rename_i b hb9; rw [if_neg (fun q => h q.1), hb9]
    · rw [hT0] at h
      cases hu : urgTo (cTs c) x1 i with
      | none =>
        rw [hu] at no
        refine bX6_urgent_35 (fun _ => yes ?_) (fun h2 => absurd rfl h2)
        show (match urgTo (cTs c) x1 i with | none => _ | some b => _) = _
        rw [hu]
        exact if_pos h
      | some b =>
        rw [hu] at no
        have hbl := urgTo_lt _ _ _ _ hu
        refine bX6_urgent_35 (fun h2 => absurd h2 (nI_m1 (by omega))) (fun h2 => ?_)
        refine bX6_urgent_40 hr (ix_of (e2 i) (by omega) (by omega)) (ix_of (e2 b) (by omega) (by omega)) (fun h3 => no ?_) (fun h3 => yes ?_)
        · show (match urgTo (cTs c) x1 i with | none => _ | some b => _) = _
          rw [hu]
          rw [show oI (some b) = nI b from rfl, hT2 i hi, hT2 b (by omega), i32_le] at h3
          exact if_neg (fun q => by have := q.2; rw [i32_lt] at this; omega)
        · show (match urgTo (cTs c) x1 i with | none => _ | some b => _) = _
          rw [hu]
          rw [show oI (some b) = nI b from rfl, hT2 i hi, hT2 b (by omega), i32_le] at h3
          exact if_pos ⟨h, by rw [i32_lt]; omega⟩
theorem tyOne_len (c : Cal) (i : Nat) (n : Int32) (hi : i < (cTs c).length) : (cTs (tyOne c i n)).length = if tf (tg (cTs c) i) 1 - n = 0 then (cTs c).length - 1 else (cTs c).length := by
  unfold tyOne
  split
  · show (((cTs c).set i _).eraseIdx i).length = _
    rw [List.length_eraseIdx, List.length_set, if_pos hi]
  · show ((cTs c).set i _).length = _
    rw [List.length_set]
theorem tyTo_0 (f : Nat) (c : Cal) (p left : Int32) (h : ¬ 0 < left) : tyTo f c p left = c := by
  cases f with
  | zero => rfl
  | succ f => unfold tyTo; rw [if_neg h]
theorem tyTo_n (f : Nat) (c : Cal) (p left : Int32) (h : urg (cTs c) p = none) : tyTo f c p left = c := by
  cases f with
  | zero => rfl
  | succ f => unfold tyTo; rw [h]; split <;> rfl
theorem c_type {x1 x2 : Int32} {Q : Wd → Prop} (hr : w r = some (irow 2047 g)) (hc : MRep g c) (hq : ∀ g2, MRep g2 (typ c x1 x2) → Q (wset w r (irow 2047 g2))) : CX6_type G l [.ref r, .int x1, .int x2] w Q := by
  refine sX6_type (bX6_type_0 (c_urgent hr hc ?_) (fun _ _ h => h))
  refine bX6_type_7 ?_
  unfold typ at hq
  have key : ∀ f (c : Cal) (g : Nat → Int32) (left : Int32), MRep g c → (cTs c).length ≤ f → (∀ g2, MRep g2 (tyTo f c x1 left) → Q (wset w r (irow 2047 g2))) → KX6_type G l w (ZV G 0 0 w Q) (wset w r (irow 2047 g)) 9 [(0, .ref r), (1, .int x1), (3, .int left), (4, .int (oI (urg (cTs c) x1)))] [] := by
    intro f
    induction f with
    | zero =>
      intro c g left hc hf hq
      have hn : urg (cTs c) x1 = none := by
        unfold urg
        rw [show (cTs c).length = 0 by omega]
        rfl
      refine bX6_type_9 (fun h => bX6_type_102 (hq g hc)) (fun h => ?_)
      rw [hn]
      exact bX6_type_13 (fun _ => bX6_type_102 (hq g hc)) (fun h => absurd rfl h)
    | succ f ih =>
      intro c g left hc hf hq
      have hb := hc.b2
      refine bX6_type_9 (fun h => bX6_type_102 (hq g (by rw [tyTo_0 _ _ _ _ (by rw [i32_lt]; rw [i32_le] at h; omega)]; exact hc))) (fun h => ?_)
      cases hu : urg (cTs c) x1 with
      | none => exact bX6_type_13 (fun _ => bX6_type_102 (hq g (by rw [tyTo_n _ _ _ _ hu]; exact hc))) (fun h => absurd rfl h)
      | some i =>
        have hi : i < (cTs c).length := urgTo_lt _ _ _ _ hu
        have hl0 : 0 < left := by rw [i32_lt]; rw [i32_le] at h; omega
        rw [show tyTo (f + 1) c x1 left = tyTo f (tyOne c i (min32 left (tf (tg (cTs c) i) 1))) x1 (left - min32 left (tf (tg (cTs c) i) 1)) by
          show (if 0 < left then _ else _) = _
          rw [if_pos hl0, hu]] at hq
        refine bX6_type_13 (fun h => absurd h (nI_m1 (by omega))) (fun _ => ?_)
        have e1 : 127 + 3 * oI (some i) + 1 = nI (127 + 3 * i + 1) := by rw [oI_some, show (127 : Int32) = nI 127 from rfl, show (3 : Int32) = nI 3 from rfl, nI_mul, nI_add, nI_1]
        have hcl : (nI (127 + 3 * i + 1)).toNatClampNeg = 127 + 3 * i + 1 := nI_clamp (by omega)
        have hgA : g (127 + 3 * i + 1) = tf (tg (cTs c) i) 1 := by rw [← hc.T hi]; rfl
        have hin : vp_in (nI (127 + 3 * i + 1)) 2047 := vp_in_nI (by omega) (by omega)
        have e8 : (8 : Int32).toNatClampNeg = 8 := rfl
        have e7 : (7 : Int32).toNatClampNeg = 7 := rfl
        have go : ∀ n : Int32, n = min32 left (tf (tg (cTs c) i) 1) → KX6_type G l w (ZV G 0 0 w Q) (wset w r (irow 2047 g)) 46 [(0, .ref r), (1, .int x1), (3, .int left), (4, .int (nI i)), (5, .int (nI (127 + 3 * i + 1)))] [.int n] := fun n hn => by
          rw [← hn] at hq
          have hc1 := (hc.setT (j := 1) (tf (tg (cTs c) i) 1 - n) hi (by decide)).setC (i := 8) (cSc c 8 + n) (by decide) (by decide)
          refine bX6_type_46 wr_r hin hin wr_r (vlit rfl) (vlit rfl) wr_r hin (fun h => ?_) (fun h => ?_)
          · simp only [wset_wset]
            rw [hcl, e8, upd_ne _ _ (show (8 : Nat) ≠ 127 + 3 * i + 1 by omega), hgA, hc.sc 8 (by decide) (by decide)]
            rw [hcl, e8, upd_ne _ _ (by omega), upd_eq, hgA] at h
            have hone : tyOne c i n = setC (setT c i 1 (tf (tg (cTs c) i) 1 - n)) 8 (cSc c 8 + n) := by unfold tyOne; rw [if_neg h]
            have hnl : n = left := by
              rw [hn]
              unfold min32
              by_cases q : left < tf (tg (cTs c) i) 1
              · rw [if_pos q]
              · exfalso
                apply h
                rw [hn]
                unfold min32
                rw [if_neg q]
                exact Int32.sub_self _
            have h0 : left - n = 0 := by rw [hnl]; exact Int32.sub_self _
            rw [h0]
            rw [h0, tyTo_0 _ _ _ _ (by decide), hone] at hq
            refine bX6_type_92 (c_urgent wr_r hc1 ?_) (fun _ _ h => h)
            exact bX6_type_97 (bX6_type_9 (fun h => bX6_type_102 (hq _ hc1)) (fun h => absurd (by decide) h))
          · simp only [wset_wset]
            rw [hcl, e8, upd_ne _ _ (show (8 : Nat) ≠ 127 + 3 * i + 1 by omega), hgA, hc.sc 8 (by decide) (by decide)]
            rw [hcl, e8, upd_ne _ _ (by omega), upd_eq, hgA] at h
            have hone : tyOne c i n = setC (delT (setC (setT c i 1 (tf (tg (cTs c) i) 1 - n)) 8 (cSc c 8 + n)) i) 7 (cSc c 7 + 1) := by unfold tyOne; rw [if_pos h]
            have hlen := tyOne_len c i n hi
            rw [if_pos h] at hlen
            have hi1 : i < (cTs (setC (setT c i 1 (tf (tg (cTs c) i) 1 - n)) 8 (cSc c 8 + n))).length := by
              show i < ((cTs c).set i _).length
              rw [List.length_set]; exact hi
            refine bX6_type_78 (c_takeScript wr_r hc1 rfl hi1 (fun g2 hg2 => ?_)) (fun _ h => h)
            rw [wset_wset]
            refine bX6_type_84 wr_r (vlit rfl) (vlit rfl) ?_
            rw [wset_wset, e7, hg2.sc 7 (by decide) (by decide)]
            have hg3 := hg2.setC (i := 7) (cSc c 7 + 1) (by decide) (by decide)
            rw [← hone] at hg3
            exact bX6_type_92 (c_urgent wr_r hg3 (bX6_type_97 (ih _ _ (left - n) hg3 (by omega) hq))) (fun _ _ h => h)
        refine bX6_type_19 wr_r (ix_of e1 (by omega) (by omega)) (fun h => ?_) (fun h => ?_)
        · rw [e1, hcl, hgA] at h
          rw [e1]
          refine bX6_type_42 wr_r hin ?_
          rw [hcl, hgA]
          refine go _ ?_
          unfold min32
          rw [if_neg (by rw [i32_lt]; rw [i32_le] at h; omega)]
        · rw [e1, hcl, hgA] at h
          rw [e1]
          refine bX6_type_38 (go _ ?_)
          unfold min32
          rw [if_pos (by rw [i32_lt]; rw [i32_le] at h; omega)]
  have := key (cTs c).length c g x2 hc (Nat.le_refl _) hq
  rw [wset_self w r _ hr] at this
  exact this
theorem c_payFor {p : Nat} {x1 x2 : Int32} {Q : Wd → Prop} (hr : w r = some (irow 2047 g)) (hc : MRep g c) (h1 : x1 = nI p) (hp : p < (cPs c).length) (hq : ∀ g2, MRep g2 (payP c p x2) → Q (wset w r (irow 2047 g2))) : CX6_payFor G l [.ref r, .int x1, .int x2] w Q := by
  subst h1
  have hb := hc.b0
  have e1 : 13 + 3 * nI p + 2 = nI (13 + 3 * p + 2) := by rw [show (13 : Int32) = nI 13 from rfl, show (3 : Int32) = nI 3 from rfl, show (2 : Int32) = nI 2 from rfl, nI_mul, nI_add, nI_add]
  have go : ∀ v, v = payOf x2 → KX6_payFor G l w (ZV G 0 0 w Q) w 21 [(0, .ref r), (1, .int (nI p))] [.int v] := fun v hv => by
    have hgA : g (13 + 3 * p + 2) = tf (pg (cPs c) p) 2 := by rw [← hc.P hp]; rfl
    refine bX6_payFor_21 hr (ix_of e1 (by omega) (by omega)) (ix_of e1 (by omega) (by omega)) wr_r (vlit rfl) (vlit rfl) ?_
    simp only [wset_wset]
    rw [cl_of e1 (by omega), show (5 : Int32).toNatClampNeg = 5 from rfl, upd_ne _ _ (show (5 : Nat) ≠ 13 + 3 * p + 2 by omega), hgA, hc.sc 5 (by decide) (by decide), hv]
    exact hq _ ((hc.setP (j := 2) _ hp (by decide)).setC (i := 5) _ (by decide) (by decide))
  unfold payOf at go
  refine sX6_payFor (bX6_payFor_0 (fun h => bX6_payFor_18 (go _ ?_)) (fun h => bX6_payFor_6 (go _ ?_)))
  · rw [if_neg (by rw [i32_lt]; rw [i32_le] at h; omega)]
  · rw [if_pos (by rw [i32_lt]; rw [i32_le] at h; omega)]
theorem c_canHire {Q : Int32 → Wd → Prop} (hr : w r = some (irow 2047 g)) (hc : MRep g c) (hq : Q (bI (decide ((cPs c).length < 6))) w) : CX6_canHire G l [.ref r] w Q := by
  have hb := hc.b0
  refine sX6_canHire (bX6_canHire_0 hr (vlit rfl) (fun h => bX6_canHire_12 (bX6_canHire_13 ?_ rfl)) (fun h => bX6_canHire_8 (bX6_canHire_13 ?_ rfl)))
  · rw [hc.n0] at h
    rw [decide_eq_false (fun q => nI_ge (b := 6) q (by omega) h)] at hq
    exact hq
  · rw [hc.n0] at h
    rw [decide_eq_true (by
      rcases Nat.lt_or_ge (cPs c).length 6 with q | q
      · exact q
      · exact absurd (nI_le q (by omega)) h)] at hq
    exact hq
theorem MRep.hire {g : Nat → Int32} {c : Cal} (h : MRep g c) (v : Int32) (hl : (cPs c).length < 6) : MRep (upd (upd (upd (upd g (13 + 3 * (cPs c).length) v) (13 + 3 * (cPs c).length + 1) 0) (13 + 3 * (cPs c).length + 2) 0) 0 (nI (cPs c).length + 1)) (hireC c v) := by
  obtain ⟨h0, h1, h2, h3, h4, h5, h6, b0, b1, b2⟩ := h
  have lo : ∀ a, a < 13 ∨ 31 ≤ a → a ≠ 0 → upd (upd (upd (upd g (13 + 3 * (cPs c).length) v) (13 + 3 * (cPs c).length + 1) 0) (13 + 3 * (cPs c).length + 2) 0) 0 (nI (cPs c).length + 1) a = g a := fun a ha h2 => by
    rw [upd_ne _ _ h2, upd_ne _ _ (by omega), upd_ne _ _ (by omega), upd_ne _ _ (by omega)]
  have hlen : (cPs (hireC c v)).length = (cPs c).length + 1 := by simp [cPs, hireC]
  refine ⟨by rw [upd_eq, hlen, nI_1], by rw [lo _ (by omega) (by omega)]; exact h1, by rw [lo _ (by omega) (by omega)]; exact h2, fun j j1 j2 => by rw [lo _ (by omega) (by omega)]; exact h3 j j1 j2, fun j hj => ?_, fun j hj => ?_, fun j hj => ?_, by rw [hlen]; omega, b1, b2⟩
  · rw [hlen] at hj
    show _ = pg (cPs c ++ [(v, 0, 0)]) j
    by_cases e : j = (cPs c).length
    · subst e
      have : pg (cPs c ++ [(v, 0, 0)]) (cPs c).length = (v, 0, 0) := by simp [pg]
      rw [this]
      unfold gP
      rw [upd_ne _ _ (by omega), upd_ne _ _ (by omega), upd_ne _ _ (by omega), upd_eq, upd_ne _ _ (by omega), upd_ne _ _ (by omega), upd_eq, upd_ne _ _ (by omega), upd_eq]
    · have : pg (cPs c ++ [(v, 0, 0)]) j = pg (cPs c) j := by
        unfold pg
        rw [List.getD_eq_getElem?_getD, List.getElem?_append_left (by omega), List.getD_eq_getElem?_getD]
      rw [this, ← h4 j (by omega)]
      unfold gP
      rw [upd_ne _ _ (by omega), upd_ne _ _ (by omega), upd_ne _ _ (by omega), upd_ne _ _ (by omega), upd_ne _ _ (by omega), upd_ne _ _ (by omega), upd_ne _ _ (by omega), upd_ne _ _ (by omega), upd_ne _ _ (by omega), upd_ne _ _ (by omega), upd_ne _ _ (by omega), upd_ne _ _ (by omega)]
  · have hj' : j < (cSs c).length := hj
    refine Eq.trans ?_ (h5 j hj')
    unfold gS
    rw [lo _ (by omega) (by omega), lo _ (by omega) (by omega), lo _ (by omega) (by omega), lo _ (by omega) (by omega), lo _ (by omega) (by omega), lo _ (by omega) (by omega)]
  · have hj' : j < (cTs c).length := hj
    refine Eq.trans ?_ (h6 j hj')
    unfold gT
    rw [lo _ (by omega) (by omega), lo _ (by omega) (by omega), lo _ (by omega) (by omega)]
theorem c_hireOn {x1 : Int32} {Q : Int32 → Wd → Prop} (hr : w r = some (irow 2047 g)) (hc : MRep g c) (hl : (cPs c).length < 6) (hq : ∀ g2, MRep g2 (hireC c x1) → Q (nI (cPs c).length) (wset w r (irow 2047 g2))) : CX6_hireOn G l [.ref r, .int x1] w Q := by
  have hb := hc.b0
  have e1 : 13 + 3 * nI (cPs c).length = nI (13 + 3 * (cPs c).length) := by rw [show (13 : Int32) = nI 13 from rfl, show (3 : Int32) = nI 3 from rfl, nI_mul, nI_add]
  have e2 : 13 + 3 * nI (cPs c).length + 1 = nI (13 + 3 * (cPs c).length + 1) := by rw [e1, nI_1]
  have e3 : 13 + 3 * nI (cPs c).length + 2 = nI (13 + 3 * (cPs c).length + 2) := by rw [e1, show (2 : Int32) = nI 2 from rfl, nI_add]
  refine sX6_hireOn (bX6_hireOn_0 hr (vlit rfl) (by rw [hc.n0]; exact ix_of e1 (by omega) (by omega)) wr_r (by rw [hc.n0]; exact ix_of e2 (by omega) (by omega)) wr_r (by rw [hc.n0]; exact ix_of e3 (by omega) (by omega)) wr_r (vlit rfl) (vlit rfl) ?_)
  simp only [wset_wset]
  rw [hc.n0, cl_of e1 (by omega), cl_of e2 (by omega), cl_of e3 (by omega), show (0 : Int32).toNatClampNeg = 0 from rfl]
  rw [upd_ne _ _ (show (0 : Nat) ≠ 13 + 3 * (cPs c).length + 2 by omega), upd_ne _ _ (show (0 : Nat) ≠ 13 + 3 * (cPs c).length + 1 by omega), upd_ne _ _ (show (0 : Nat) ≠ 13 + 3 * (cPs c).length by omega), hc.1]
  exact hq _ (hc.hire x1 hl)
end M5
