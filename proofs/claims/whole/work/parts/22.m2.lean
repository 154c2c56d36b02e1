/-! THE MODEL: writes; who is given what -/
theorem upd_eq (f : Nat → Int32) (k : Nat) (x : Int32) : upd f k x k = x := pk_us
theorem upd_ne (f : Nat → Int32) {k j : Nat} (x : Int32) (h : j ≠ k) : upd f k x j = f j := pk_un h
theorem gS_ne {g : Nat → Int32} {a k : Nat} {v : Int32} (h : a < 31 + 6 * k ∨ 31 + 6 * k + 6 ≤ a) : gS (upd g a v) k = gS g k := by
  unfold gS
  rw [upd_ne _ _ (by omega), upd_ne _ _ (by omega), upd_ne _ _ (by omega), upd_ne _ _ (by omega), upd_ne _ _ (by omega), upd_ne _ _ (by omega)]
theorem gT_ne {g : Nat → Int32} {a k : Nat} {v : Int32} (h : a < 127 + 3 * k ∨ 127 + 3 * k + 3 ≤ a) : gT (upd g a v) k = gT g k := by
  unfold gT
  rw [upd_ne _ _ (by omega), upd_ne _ _ (by omega), upd_ne _ _ (by omega)]
theorem gP_ne {g : Nat → Int32} {a k : Nat} {v : Int32} (h : a < 13 + 3 * k ∨ 13 + 3 * k + 3 ≤ a) : gP (upd g a v) k = gP g k := by
  unfold gP
  rw [upd_ne _ _ (by omega), upd_ne _ _ (by omega), upd_ne _ _ (by omega)]
theorem gS_eq {g : Nat → Int32} {k j : Nat} {v : Int32} (hj : j < 6) : gS (upd g (31 + 6 * k + j) v) k = sfset (gS g k) j v := by
  match j, hj with
  | 0, _ => unfold gS sfset; simp [upd]
  | 1, _ => unfold gS sfset; simp [upd]
  | 2, _ => unfold gS sfset; simp [upd]
  | 3, _ => unfold gS sfset; simp [upd]
  | 4, _ => unfold gS sfset; simp [upd]
  | 5, _ => unfold gS sfset; simp [upd]
theorem gT_eq {g : Nat → Int32} {k j : Nat} {v : Int32} (hj : j < 3) : gT (upd g (127 + 3 * k + j) v) k = tfset (gT g k) j v := by
  match j, hj with
  | 0, _ => unfold gT tfset; simp [upd]
  | 1, _ => unfold gT tfset; simp [upd]
  | 2, _ => unfold gT tfset; simp [upd]
theorem gP_eq {g : Nat → Int32} {k j : Nat} {v : Int32} (hj : j < 3) : gP (upd g (13 + 3 * k + j) v) k = tfset (gP g k) j v := by
  match j, hj with
  | 0, _ => unfold gP tfset; simp [upd]
  | 1, _ => unfold gP tfset; simp [upd]
  | 2, _ => unfold gP tfset; simp [upd]
theorem sg_set (ss : List Ss) (k i : Nat) (s : Ss) (hk : k < ss.length) : sg (ss.set k s) i = if i = k then s else sg ss i := by
  unfold sg
  rw [List.getD_eq_getElem?_getD, List.getElem?_set, List.getD_eq_getElem?_getD]
  by_cases h : k = i
  · subst h; simp [hk]
  · rw [if_neg h, if_neg (fun e => h e.symm)]
theorem tg_set (ss : List Tr) (k i : Nat) (s : Tr) (hk : k < ss.length) : tg (ss.set k s) i = if i = k then s else tg ss i := by
  unfold tg
  rw [List.getD_eq_getElem?_getD, List.getElem?_set, List.getD_eq_getElem?_getD]
  by_cases h : k = i
  · subst h; simp [hk]
  · rw [if_neg h, if_neg (fun e => h e.symm)]
theorem pg_set (ss : List Pn) (k i : Nat) (s : Pn) (hk : k < ss.length) : pg (ss.set k s) i = if i = k then s else pg ss i := tg_set ss k i s hk
theorem MRep.setS {g : Nat → Int32} {c : Cal} (h : MRep g c) {k j : Nat} (v : Int32) (hk : k < (cSs c).length) (hj : j < 6) : MRep (upd g (31 + 6 * k + j) v) (setS c k j v) := by
  obtain ⟨h0, h1, h2, h3, h4, h5, h6, b0, b1, b2⟩ := h
  refine ⟨by rw [upd_ne _ _ (by omega)]; exact h0, by rw [upd_ne _ _ (by omega), h1]; simp [_root_.Jvm.Pilot.CStenoRoomsLaw_law_r5597_b11a13.setS, cSs], by rw [upd_ne _ _ (by omega)]; exact h2, fun i i1 i2 => by rw [upd_ne _ _ (by omega)]; exact h3 i i1 i2, fun i hi => ?_, fun i hi => ?_, fun i hi => ?_, b0, by simpa [_root_.Jvm.Pilot.CStenoRoomsLaw_law_r5597_b11a13.setS, cSs] using b1, b2⟩
  · have hi' : i < (cPs c).length := hi
    rw [gP_ne (by omega)]; exact h4 i hi'
  · have hi' : i < (cSs c).length := by simpa [_root_.Jvm.Pilot.CStenoRoomsLaw_law_r5597_b11a13.setS, cSs] using hi
    show _ = sg ((cSs c).set k _) i
    rw [sg_set _ _ _ _ hk]
    by_cases e : i = k
    · subst e
      rw [if_pos rfl, gS_eq hj, h5 i hi']
    · rw [if_neg e, gS_ne (by omega), h5 i hi']
  · have hi' : i < (cTs c).length := hi
    rw [gT_ne (by omega)]; exact h6 i hi'
theorem MRep.setT {g : Nat → Int32} {c : Cal} (h : MRep g c) {k j : Nat} (v : Int32) (hk : k < (cTs c).length) (hj : j < 3) : MRep (upd g (127 + 3 * k + j) v) (setT c k j v) := by
  obtain ⟨h0, h1, h2, h3, h4, h5, h6, b0, b1, b2⟩ := h
  refine ⟨by rw [upd_ne _ _ (by omega)]; exact h0, by rw [upd_ne _ _ (by omega)]; exact h1, by rw [upd_ne _ _ (by omega), h2]; simp [_root_.Jvm.Pilot.CStenoRoomsLaw_law_r5597_b11a13.setT, cTs], fun i i1 i2 => by rw [upd_ne _ _ (by omega)]; exact h3 i i1 i2, fun i hi => ?_, fun i hi => ?_, fun i hi => ?_, b0, b1, by simpa [_root_.Jvm.Pilot.CStenoRoomsLaw_law_r5597_b11a13.setT, cTs] using b2⟩
  · have hi' : i < (cPs c).length := hi
    rw [gP_ne (by omega)]; exact h4 i hi'
  · have hi' : i < (cSs c).length := hi
    rw [gS_ne (by omega)]; exact h5 i hi'
  · have hi' : i < (cTs c).length := by simpa [_root_.Jvm.Pilot.CStenoRoomsLaw_law_r5597_b11a13.setT, cTs] using hi
    show _ = tg ((cTs c).set k _) i
    rw [tg_set _ _ _ _ hk]
    by_cases e : i = k
    · subst e
      rw [if_pos rfl, gT_eq hj, h6 i hi']
    · rw [if_neg e, gT_ne (by omega), h6 i hi']
theorem MRep.setP {g : Nat → Int32} {c : Cal} (h : MRep g c) {k j : Nat} (v : Int32) (hk : k < (cPs c).length) (hj : j < 3) : MRep (upd g (13 + 3 * k + j) v) (setP c k j v) := by
  obtain ⟨h0, h1, h2, h3, h4, h5, h6, b0, b1, b2⟩ := h
  refine ⟨by rw [upd_ne _ _ (by omega), h0]; simp [_root_.Jvm.Pilot.CStenoRoomsLaw_law_r5597_b11a13.setP, cPs], by rw [upd_ne _ _ (by omega)]; exact h1, by rw [upd_ne _ _ (by omega)]; exact h2, fun i i1 i2 => by rw [upd_ne _ _ (by omega)]; exact h3 i i1 i2, fun i hi => ?_, fun i hi => ?_, fun i hi => ?_, by simpa [_root_.Jvm.Pilot.CStenoRoomsLaw_law_r5597_b11a13.setP, cPs] using b0, b1, b2⟩
  · have hi' : i < (cPs c).length := by simpa [_root_.Jvm.Pilot.CStenoRoomsLaw_law_r5597_b11a13.setP, cPs] using hi
    show _ = pg ((cPs c).set k _) i
    rw [pg_set _ _ _ _ hk]
    by_cases e : i = k
    · subst e
      rw [if_pos rfl, gP_eq hj, h4 i hi']
    · rw [if_neg e, gP_ne (by omega), h4 i hi']
  · have hi' : i < (cSs c).length := hi
    rw [gS_ne (by omega)]; exact h5 i hi'
  · have hi' : i < (cTs c).length := hi
    rw [gT_ne (by omega)]; exact h6 i hi'
theorem MRep.setC {g : Nat → Int32} {c : Cal} (h : MRep g c) {i : Nat} (v : Int32) (h3 : 3 ≤ i) (h13 : i < 13) : MRep (upd g i v) (setC c i v) := by
  obtain ⟨h0, h1, h2, hs, h4, h5, h6, b0, b1, b2⟩ := h
  refine ⟨by rw [upd_ne _ _ (by omega)]; exact h0, by rw [upd_ne _ _ (by omega)]; exact h1, by rw [upd_ne _ _ (by omega)]; exact h2, fun j j1 j2 => ?_, fun i hi => by rw [gP_ne (by omega)]; exact h4 i hi, fun i hi => by rw [gS_ne (by omega)]; exact h5 i hi, fun i hi => by rw [gT_ne (by omega)]; exact h6 i hi, b0, b1, b2⟩
  show _ = upd (cSc c) i v j
  by_cases e : j = i
  · subst e; rw [upd_eq, upd_eq]
  · rw [upd_ne _ _ e, upd_ne _ _ e]; exact hs j j1 j2
theorem setS_len (c : Cal) (k j : Nat) (v : Int32) : (cSs (setS c k j v)).length = (cSs c).length := by simp [setS, cSs]
section M2
variable {G : GG} {l : Launch} {w : Wd} {r : Nat} {g : Nat → Int32} {c : Cal}
theorem c_isFree {x1 x2 x3 x4 : Int32} {Q : Int32 → Wd → Prop} (hr : w r = some (irow 2047 g)) (hc : MRep g c) (hq : Q (bI (isFr (cSs c) x1 x2 x3 x4)) w) : CX6_isFree G l [.ref r, .int x1, .int x2, .int x3, .int x4] w Q := by
  have hb := hc.b1
  refine sX6_isFree (bX6_isFree_0 ?_)
  have key : ∀ i, i ≤ (cSs c).length → (∀ j, j < i → tkn (sg (cSs c) j) x1 x2 x3 x4 = false) → KX6_isFree G l w (ZI G 0 0 w Q) w 3 [(0, .ref r), (1, .int x1), (2, .int x2), (3, .int x3), (4, .int x4), (5, .int (nI i))] [] := by
    refine upto (P := fun i => (∀ j, j < i → tkn (sg (cSs c) j) x1 x2 x3 x4 = false) → KX6_isFree G l w (ZI G 0 0 w Q) w 3 [(0, .ref r), (1, .int x1), (2, .int x2), (3, .int x3), (4, .int x4), (5, .int (nI i))] []) (N := (cSs c).length) (fun hj => ?_) (fun i hi ih hj => ?_)
    · have e : isFr (cSs c) x1 x2 x3 x4 = true := by
        unfold isFr
        rw [List.all_eq_true]
        intro s hs
        obtain ⟨j, hj1, rfl⟩ := List.getElem_of_mem hs
        have := hj j hj1
        rw [show sg (cSs c) j = (cSs c)[j] by simp [sg, List.getD_eq_getElem?_getD, hj1]] at this
        rw [this]; rfl
      rw [e] at hq
      exact bX6_isFree_3 hr (vlit rfl) (fun h => bX6_isFree_65 hq) (fun h => absurd (by rw [hc.n1]; exact nI_le (Nat.le_refl _) (by omega)) h)
    · refine bX6_isFree_3 hr (vlit rfl) (fun h => absurd h (by rw [hc.n1]; exact nI_ge hi (by omega))) (fun h => ?_)
      have nx : tkn (sg (cSs c) i) x1 x2 x3 x4 = false → KX6_isFree G l w (ZI G 0 0 w Q) w 59 [(0, .ref r), (1, .int x1), (2, .int x2), (3, .int x3), (4, .int x4), (5, .int (nI i))] [] := fun ht => by
        refine bX6_isFree_59 ?_
        rw [nI_1]
        exact ih (fun j hj2 => by
          by_cases e : j = i
          · subst e; exact ht
          · exact hj j (by omega))
      unfold tkn at nx
      refine bX6_isFree_11 (c_of (j := 0) hr rfl rfl (by omega) (by decide) ?_) (fun _ _ h => h)
      rw [hc.S hi]
      refine bX6_isFree_18 (fun h => nx (by rw [decide_eq_false h]; rfl)) (fun h1 => ?_)
      refine bX6_isFree_22 (c_of (j := 1) hr rfl rfl (by omega) (by decide) ?_) (fun _ _ h => h)
      rw [hc.S hi]
      refine bX6_isFree_29 (fun h => nx (by rw [decide_eq_false h]; simp)) (fun h2 => ?_)
      refine bX6_isFree_33 (c_end hr rfl (by omega) ?_) (fun _ _ h => h)
      rw [hc.S hi]
      refine bX6_isFree_40 (fun h => nx (by rw [dlt h]; simp)) (fun h3 => ?_)
      refine bX6_isFree_43 (c_of (j := 2) hr rfl rfl (by omega) (by decide) ?_) (fun _ _ h => h)
      rw [hc.S hi]
      refine bX6_isFree_50 (fun h => nx (by rw [dlt h]; simp)) (fun h4 => ?_)
      refine bX6_isFree_57 ?_
      have e : isFr (cSs c) x1 x2 x3 x4 = false := by
        unfold isFr
        rw [List.all_eq_false]
        refine ⟨sg (cSs c) i, by simp [sg, List.getD_eq_getElem?_getD, hi], ?_⟩
        unfold tkn
        rw [decide_eq_true h1, decide_eq_true h2, dlt' h3, dlt' h4]
        simp
      rw [e] at hq
      exact hq
  exact key 0 (Nat.zero_le _) (fun j h => absurd h (Nat.not_lt_zero _))
theorem c_isTime {x1 x2 x3 : Int32} {Q : Int32 → Wd → Prop} (hr : w r = some (irow 2047 g)) (hc : MRep g c) (hq : Q (bI (isTm c x1 x2 x3)) w) : CX6_isTime G l [.ref r, .int x1, .int x2, .int x3] w Q := by
  unfold isTm at hq
  refine sX6_isTime (bX6_isTime_0 hr (vlit rfl) (c_in ?_) (fun _ _ h => h))
  rw [show g ((3 : Int32).toNatClampNeg) = cSc c 3 from hc.sc 3 (by decide) (by decide), in_R (a := (cSc c 3).toInt) (b := 999) (by rw [Int32.toInt_toInt64]) rfl]
  refine bX6_isTime_12 (fun h => ?_) (fun h => ?_)
  · rw [bI_0] at h; rw [h] at hq
    exact bX6_isTime_45 (bX6_isTime_46 hq rfl)
  · rw [bI_n0] at h; rw [h] at hq
    refine bX6_isTime_15 (c_in ?_) (fun _ _ h => h)
    rw [in_R (a := 0) (b := 15) rfl rfl]
    refine bX6_isTime_24 (fun h => ?_) (fun h => ?_)
    · rw [bI_0] at h; rw [h] at hq
      exact bX6_isTime_45 (bX6_isTime_46 hq rfl)
    · rw [bI_n0] at h; rw [h] at hq
      refine bX6_isTime_27 (c_in ?_) (fun _ _ h => h)
      have h9 : ((16 - x2 : Int32).toInt64).toInt = 16 - x2.toInt := by
        unfold rngI at h
        simp only [Bool.and_eq_true, decide_eq_true_eq] at h
        rw [Int32.toInt_toInt64, Int32.toInt_sub]
        show Int.bmod (16 - x2.toInt) _ = _
        rw [Int.bmod_eq_of_le (by omega) (by omega)]
      rw [in_R (a := 1) (b := 16 - x2.toInt) rfl h9]
      refine bX6_isTime_38 (fun h => ?_) (fun h => ?_)
      · rw [bI_0] at h; rw [h] at hq
        exact bX6_isTime_45 (bX6_isTime_46 hq rfl)
      · rw [bI_n0] at h; rw [h] at hq
        exact bX6_isTime_41 (bX6_isTime_46 hq rfl)
theorem c_isNew {x1 x2 x3 x4 x5 : Int32} {Q : Int32 → Wd → Prop} (hr : w r = some (irow 2047 g)) (hc : MRep g c) (hq : Q (bI (isNw c x1 x2 x3 x4 x5)) w) : CX6_isNew G l [.ref r, .int x1, .int x2, .int x3, .int x4, .int x5] w Q := by
  have hb := hc.b1
  unfold isNw at hq
  refine sX6_isNew (bX6_isNew_0 (c_isRoom ?_) (fun _ _ h => h))
  refine bX6_isNew_4 (fun h => ?_) (fun h => ?_)
  · rw [bI_0] at h; rw [h] at hq; exact bX6_isNew_55 (bX6_isNew_56 hq rfl)
  rw [bI_n0] at h; rw [h, Bool.true_and] at hq
  refine bX6_isNew_7 (c_isTime hr hc ?_) (fun _ _ h => h)
  refine bX6_isNew_15 (fun h => ?_) (fun h => ?_)
  · rw [bI_0] at h; rw [h] at hq; exact bX6_isNew_55 (bX6_isNew_56 hq rfl)
  rw [bI_n0] at h; rw [h, Bool.true_and] at hq
  refine bX6_isNew_18 (c_in ?_) (fun _ _ h => h)
  rw [in_R (a := 1) (b := 9) rfl rfl]
  refine bX6_isNew_28 (fun h => ?_) (fun h => ?_)
  · rw [bI_0] at h; rw [h] at hq; exact bX6_isNew_55 (bX6_isNew_56 hq rfl)
  rw [bI_n0] at h; rw [h, Bool.true_and] at hq
  refine bX6_isNew_31 hr (vlit rfl) (fun h => ?_) (fun h => ?_)
  · rw [hc.n1] at h
    rw [decide_eq_false (by intro q; exact nI_ge q (by omega) h)] at hq; exact bX6_isNew_55 (bX6_isNew_56 hq rfl)
  rw [hc.n1] at h
  rw [decide_eq_true (by
    rcases Nat.lt_or_ge (cSs c).length 16 with q | q
    · exact q
    · exact absurd (nI_le q (by omega)) h), Bool.true_and] at hq
  refine bX6_isNew_39 (c_isFree hr hc ?_) (fun _ _ h => h)
  refine bX6_isNew_48 (fun h => ?_) (fun h => ?_)
  · rw [bI_0] at h; rw [h] at hq; exact bX6_isNew_55 (bX6_isNew_56 hq rfl)
  · rw [bI_n0] at h; rw [h] at hq; exact bX6_isNew_51 (bX6_isNew_56 hq rfl)
theorem c_onDesk {x1 x2 : Int32} {Q : Int32 → Wd → Prop} (hr : w r = some (irow 2047 g)) (hc : MRep g c) (hq : Q (dsk (cTs c) x1 x2) w) : CX6_onDesk G l [.ref r, .int x1, .int x2] w Q := by
  have hb := hc.b2
  refine sX6_onDesk (bX6_onDesk_0 ?_)
  refine upto (P := fun i => KX6_onDesk G l w (ZI G 0 0 w Q) w 5 [(0, .ref r), (1, .int x1), (2, .int x2), (3, .int (dskTo (cTs c) x1 x2 i)), (4, .int (nI i))] []) (N := (cTs c).length) ?_ (fun i hi ih => ?_) 0 (Nat.zero_le _)
  · exact bX6_onDesk_5 hr (vlit rfl) (fun h => bX6_onDesk_62 hq) (fun h => absurd (by rw [hc.n2]; exact nI_le (Nat.le_refl _) (by omega)) h)
  · have e5 : 127 + 3 * nI i = nI (127 + 3 * i) := by
      rw [show (127 : Int32) = nI 127 from rfl, show (3 : Int32) = nI 3 from rfl, nI_mul, nI_add]
    have hT := hc.T hi
    refine bX6_onDesk_5 hr (vlit rfl) (fun h => absurd h (by rw [hc.n2]; exact nI_ge hi (by omega))) (fun h => ?_)
    have fin : ∀ v : Int32, v = (if ¬ x1 = -1 ∧ ¬ tf (tg (cTs c) i) 0 = x1 then 0 else if x2 = 0 then 1 else tf (tg (cTs c) i) 1) → KX6_onDesk G l w (ZI G 0 0 w Q) w 54 [(0, .ref r), (1, .int x1), (2, .int x2), (4, .int (nI i))] [.int v, .int (dskTo (cTs c) x1 x2 i)] := fun v hv => by
      refine bX6_onDesk_54 ?_
      rw [nI_1, hv]
      exact ih
    have mid : ¬ (¬ x1 = -1 ∧ ¬ tf (tg (cTs c) i) 0 = x1) → KX6_onDesk G l w (ZI G 0 0 w Q) w 40 [(0, .ref r), (1, .int x1), (2, .int x2), (4, .int (nI i)), (5, .int (127 + 3 * nI i))] [.int (dskTo (cTs c) x1 x2 i)] := fun hn => by
      refine bX6_onDesk_40 (fun h => bX6_onDesk_53 (fin 1 ?_)) (fun h => bX6_onDesk_44 hr (by rw [e5, nI_1]; exact vp_in_nI (by omega) (by omega)) (fin _ ?_))
      · rw [if_neg hn, if_pos h]
      · rw [if_neg hn, if_neg h, ← hT, e5, nI_1, nI_clamp (by omega)]
        rfl
    refine bX6_onDesk_13 (fun h => mid (fun q => q.1 h)) (fun h => ?_)
    refine bX6_onDesk_28 hr (by rw [e5]; exact vp_in_nI (by omega) (by omega)) (fun h2 => mid (fun q => q.2 ?_)) (fun h2 => bX6_onDesk_36 (fin 0 ?_))
    · rw [← hT, ← h2, e5, nI_clamp (by omega)]; rfl
    · rw [e5, nI_clamp (by omega)] at h2
      rw [if_pos ⟨h, by rw [← hT]; exact h2⟩]
end M2
