/-! THE CLASS'S DAYS -/
theorem dB_self (A : Nat → Nat) : dB A (dA A) = A := by
  funext i
  unfold dB
  by_cases q : 6 ≤ i ∧ i < 10
  · rw [if_pos q]; show A (6 + (i - 6)) = A i; congr 1; omega
  · rw [if_neg q]
theorem addT_put (c : Cal) (p q : Int32) : wTs c (putT (cTs c) (p, q, cSc c 3 + cSc c 11)) = addT c p q := by
  unfold putT addT
  by_cases h : (cTs c).length < 640
  · rw [if_pos h, if_pos h]; rfl
  · rw [if_neg h, if_neg h]; rfl
theorem min_sw (a b : Int32) : (if b < a then b else a) = min32 a b := by
  unfold min32
  by_cases h : b < a
  · rw [if_pos h, if_neg (by rw [i32_lt] at h ⊢; omega)]
  · rw [if_neg h]
    by_cases h2 : a < b
    · rw [if_pos h2]
    · rw [if_neg h2]
      rw [i32_lt] at h h2
      rw [i32_eq]; omega
theorem dyTo_sc (c : Cal) (t : Int32) {j : Nat} (h7 : j ≠ 7) (h8 : j ≠ 8) : ∀ p, cSc (dyTo c t p) j = cSc c j
  | 0 => rfl
  | p + 1 => by
    rw [dyTo]
    split
    · exact dyTo_sc c t h7 h8 p
    · unfold typ
      rw [tyTo_sc _ h7 h8]; exact dyTo_sc c t h7 h8 p
theorem dyTo_ss (c : Cal) (t : Int32) : ∀ p, cSs (dyTo c t p) = cSs c
  | 0 => rfl
  | p + 1 => by
    rw [dyTo]
    split
    · exact dyTo_ss c t p
    · unfold typ
      rw [tyTo_ss]; exact dyTo_ss c t p
theorem dyTo_len (c : Cal) (t : Int32) : ∀ p, (cPs (dyTo c t p)).length = (cPs c).length
  | 0 => rfl
  | p + 1 => by
    rw [dyTo]
    split
    · rw [setP_len]; exact dyTo_len c t p
    · unfold typ
      rw [tyTo_ps, setP_len]; exact dyTo_len c t p
def rmT (ss : List Ss) (m j : Nat) : List Ss := ss.take j ++ ss.drop (max m j)
theorem rmT_sg {ss : List Ss} {m j : Nat} (hj : j < ss.length) : j < (rmT ss m (j + 1)).length ∧ sg (rmT ss m (j + 1)) j = sg ss j := by
  have hl : (ss.take (j + 1)).length = j + 1 := by rw [List.length_take]; omega
  refine ⟨by unfold rmT; rw [List.length_append]; omega, ?_⟩
  unfold rmT
  rw [sg_app2 _ _ (by omega), sg_get (by omega), List.getElem_take, sg_get hj]
theorem rmT_del {ss : List Ss} {m j : Nat} (hj : j < ss.length) (hm : j < m) : (rmT ss m (j + 1)).eraseIdx j = rmT ss m j := by
  have hl : (ss.take (j + 1)).length = j + 1 := by rw [List.length_take]; omega
  unfold rmT
  rw [List.eraseIdx_append_of_lt_length (by omega), show max m (j + 1) = max m j by omega]
  congr 1
  rw [List.take_succ_eq_append_getElem hj, List.eraseIdx_append_of_length_le (by rw [List.length_take]; omega)]
  have : j - (ss.take j).length = 0 := by rw [List.length_take]; omega
  rw [this]
  show ss.take j ++ [] = _
  rw [List.append_nil]
theorem rmT_keep {ss : List Ss} {m j : Nat} (hm : m ≤ j) : rmT ss m (j + 1) = rmT ss m j := by
  unfold rmT
  rw [show max m (j + 1) = j + 1 by omega, show max m j = j by omega, List.take_append_drop, List.take_append_drop]
section DY
variable {G : GG} {l : Launch} {fr w : Wd} {A : Nat → Nat} {c : Cal} {L : Nat} {mc ms : Nat}
theorem CalW.eqv (h : CalW fr A c L w) {c2 : Cal} (he : Eq5 c c2) : CalW fr A c2 L w := by
  obtain ⟨f, n, inj, e0, ⟨g1, e1, c1⟩, ⟨g2, e2, k2⟩, ⟨g3, e3, c3⟩, ⟨g4, e4, c4⟩, ⟨g5, e5, c5⟩, hd, hs, b⟩ := h
  obtain ⟨x, r⟩ := c
  obtain ⟨y, r2⟩ := c2
  have h1 : r = r2 := he.1
  subst h1
  have hj : ∀ j, j ≠ 5 → x j = y j := he.2
  have ho : calF A (x, r) = calF A (y, r) := by
    show [Value.int (x 3), _, _, _, _, _, _, _, _, Value.int (x 4), Value.int (x 6), Value.int (x 7), Value.int (x 8)] = _
    rw [hj 3 (by decide), hj 4 (by decide), hj 6 (by decide), hj 7 (by decide), hj 8 (by decide)]; rfl
  exact ⟨f, n, inj, by rw [← ho]; exact e0, ⟨g1, e1, c1⟩, ⟨g2, e2, k2⟩, ⟨g3, e3, c3⟩, ⟨g4, e4, fun i hi => (c4 i hi).trans (hj (9 + i) (by omega))⟩, ⟨g5, e5, c5⟩, hd, hs, b⟩
theorem CalW.lb (h : CalW fr A c L w) : 16 ≤ L ∧ L ≤ 640 ∧ (cTs c).length ≤ L := ⟨h.i.dk.2.2.2.2.2.1, h.i.dk.2.2.2.2.2.2, h.i.dk.2.2.2.2.1⟩
theorem CalW.setSc (h : CalW fr A c L w) (j : Nat) (v : Int32) (hj : j < 9) : CalW fr A (setC c j v) L (wset w (A 0) (.inl (0, calF A (setC c j v)))) := h.scal (upd (cSc c) j v) (fun i hi => upd_ne _ _ (by omega))
theorem c_holdSessions {Q : Wd → Prop} (h : CalW fr A c L w) (hc : pC L ≤ mc + pC (dayL c L)) (hs : pS L ≤ ms + pS (dayL c L)) (hq : ∀ A' w2, A' 0 = A 0 → CalW fr A' (hldA c (cSs c).length) (dayL c L) w2 → Q w2) : CX0_holdSessions G l mc ms [.ref (A 0)] w Q := by
  have b := h.i.b1
  obtain ⟨lb1, lb2, lb3⟩ := h.lb
  have hdk := h.dk
  refine sX0_holdSessions (bX0_holdSessions_0 h.i.o rfl hdk.i.1 rfl rfl (mcq := mc) (msq := ms) (c_makeRoomFor (n := (cTs c).length + (cSs c).length) (Q := fun w2 => ∃ A1, A1 0 = A 0 ∧ CalW fr A1 c (dayL c L) w2) hdk (nI_add _ _) (by omega) hc hs (fun D' w2 h1 h2 => ⟨dB A D', rfl, h.dkb h2 h1⟩)) (by omega) (by omega) (fun w1 hw1 => bX0_holdSessions_19 ?_))
  obtain ⟨A1, eA, hw⟩ := hw1
  have hb := dayL_b c lb1 lb2
  rw [← eA]
  rw [← eA] at hq
  clear hc hs h hdk
  generalize dayL c L = M at *
  have key : ∀ k, k ≤ (cSs c).length → ∀ (w1 : Wd), CalW fr A1 (hldA c k) M w1 → KX0_holdSessions G l mc ms w (ZV G mc ms w Q) w1 21 [(0, .ref (A1 0)), (1, .int (nI k))] [] (0 + mc) (0 + ms) := by
    refine upto (P := fun k => ∀ (w1 : Wd), CalW fr A1 (hldA c k) M w1 → KX0_holdSessions G l mc ms w (ZV G mc ms w Q) w1 21 [(0, .ref (A1 0)), (1, .int (nI k))] [] (0 + mc) (0 + ms)) (N := (cSs c).length) (fun w1 hw => ?_) (fun k hk ih w1 hw => ?_)
    · exact bX0_holdSessions_21 hw.i.o rfl (fun _ => bX0_holdSessions_105 (hq A1 w1 rfl hw) (by omega) (by omega)) (fun z => absurd (by rw [hldA_ss]; exact nI_le (Nat.le_refl _) (by omega)) z)
    · have hkl : k < (cSs (hldA c k)).length := by rw [hldA_ss]; exact hk
      obtain ⟨g, eg, hg⟩ := hw.i.sa
      have e4 : g (nI k).toNatClampNeg = some (A1 (10 + k)) := by rw [nI_clamp (by omega)]; exact hg k (by omega)
      have es : sg (cSs (hldA c k)) k = sg (cSs c) k := by rw [hldA_ss]
      have e3 : cSc (hldA c k) 3 = cSc c 3 := hldA_sc c (by decide) k
      have hse := hw.i.se hkl
      rw [es] at hse
      refine bX0_holdSessions_21 hw.i.o rfl (fun z => absurd z (by rw [hldA_ss]; exact nI_ge hk (by omega))) (fun _ => ?_)
      refine bX0_holdSessions_29 hw.i.o rfl eg (ix_of rfl (by omega) (by decide)) e4 hse rfl rfl (fun z => bX0_holdSessions_99 ?_) (fun z => ?_)
      · rw [e3] at z
        rw [show hldA c (k + 1) = hldA c k from if_neg z] at ih
        rw [nI_1]; exact ih w1 hw
      · rw [e3] at z
        refine bX0_holdSessions_47 hse rfl (fun y => ?_) (fun y => ?_)
        · have eh : hldA c (k + 1) = addT (hldA c k) (sf (sg (cSs c) k) 5) (sf (sg (cSs c) k) 3 * sf (sg (cSs c) k) 4) := by rw [hldA, if_pos z, if_neg y]
          rw [eh] at ih
          obtain ⟨g4, eg4, hg4⟩ := hw.i.st
          have s11 : g4 ((2 : Int32).toNatClampNeg) = cSc (hldA c k) 11 := hg4 2 (by decide)
          have hdk := hw.dk
          have htl := hldA_tl c k
          refine bX0_holdSessions_68 hw.i.o rfl hse rfl rfl rfl rfl rfl eg4 (vlit rfl) hdk.i.1 (c_put (Q := fun w2 => CalW fr A1 (addT (hldA c k) (sf (sg (cSs c) k) 5) (sf (sg (cSs c) k) 3 * sf (sg (cSs c) k) 4)) M w2) hdk (by omega) (fun w2 h2 => ?_)) (by omega) (by omega) (fun w2 k9 => bX0_holdSessions_99 ?_)
          · have k9 := hw.dkb h2 rfl
            rw [dB_self, s11, addT_put] at k9
            exact k9
          · rw [nI_1]
            exact ih w2 k9
        · have eh : hldA c (k + 1) = setC (hldA c k) 4 (cSc (hldA c k) 4 + 1) := by rw [hldA, if_pos z, if_pos y]
          rw [eh] at ih
          refine bX0_holdSessions_55 hw.i.o rfl (cal_l (by decide)) (f3 := calF A1 (setC (hldA c k) 4 (cSc (hldA c k) 4 + 1))) rfl (bX0_holdSessions_99 ?_)
          rw [nI_1]
          exact ih _ (hw.setSc 4 _ (by decide))
  exact key 0 (Nat.zero_le _) w1 hw
theorem c_typePages {p left : Int32} {Q : Wd → Prop} (h : CalW fr A c L w) (hq : ∀ w2, CalW fr A (typ c p left) L w2 → Q w2) : CX0_typePages G l [.ref (A 0), .int p, .int left] w Q := by
  refine sX0_typePages (bX0_typePages_0 h.i.o rfl h.i.dk.1 rfl ?_)
  unfold typ at hq
  have hn := h.lb.2.2
  have hn2 := h.lb.2.1
  generalize (cTs c).length = f at *
  have key : ∀ (f : Nat), f ≤ 640 → ∀ (c : Cal) (left : Int32) (w1 : Wd), CalW fr A c L w1 → (∀ w2, CalW fr A (tyTo f c p left) L w2 → Q w2) → KX0_typePages G l w (ZV G 0 0 w Q) w1 11 [(0, .ref (A 0)), (1, .int p), (3, .int left), (4, .int (nI f))] [] := by
    intro f
    induction f with
    | zero =>
      intro _ c left w1 hw hq
      exact bX0_typePages_11 (fun _ => bX0_typePages_122 (hq w1 hw)) (fun z => absurd (by decide) z)
    | succ f ih =>
      intro hf c left w1 hw hq
      refine bX0_typePages_11 (fun z => absurd z (nI_nle (by omega) (by omega))) (fun _ => ?_)
      refine bX0_typePages_16 (fun z => bX0_typePages_122 (hq w1 ?_)) (fun z => ?_)
      · rw [tyTo_0 _ _ _ _ (by rw [i32_lt]; rw [i32_le] at z; omega)]; exact hw
      · have hl0 : 0 < left := nle_lt z
        have hdk := hw.dk
        refine bX0_typePages_20 hw.i.o rfl hdk.i.1 (c_nextOf (Q := fun r w2 => oI (urg (cTs c) p) = r ∧ w1 = w2) hdk.i ⟨rfl, rfl⟩) (fun r w2 hr => ?_)
        obtain ⟨rfl, rfl⟩ := hr
        cases hu : urg (cTs c) p with
        | none =>
          refine bX0_typePages_28 (fun y => absurd rfl y) (fun _ => bX0_typePages_36 (hq w1 ?_))
          rw [tyTo_n _ _ _ _ hu]; exact hw
        | some i =>
          have hi : i < (cTs c).length := urgTo_lt _ _ _ _ hu
          have hlb := hw.lb
          refine bX0_typePages_28 (fun _ => ?_) (fun y => absurd y (nI_m1 (by omega)))
          show KX0_typePages G l w (ZV G 0 0 w Q) w1 37 [(0, .ref (A 0)), (1, .int p), (3, .int left), (4, .int (nI (f + 1))), (5, .int (nI i))] []
          rw [tyTo, if_pos hl0, hu] at hq
          have hq : ∀ w2, CalW fr A (tyTo f (tyOne c i (min32 left (tf (tg (cTs c) i) 1))) p (left - min32 left (tf (tg (cTs c) i) 1))) L w2 → Q w2 := hq
          obtain ⟨g5, e5, c5⟩ := hdk.i.2.2.1
          have ec : (nI i).toNatClampNeg = i := nI_clamp (by omega)
          have v5 : g5 i = tf (tg (cTs c) i) 1 := c5 i hi
          have ix : vp_in (nI i) L := ix_of rfl (by omega) (by omega)
          have k1 := hw.setSc 8 (cSc c 8 + min32 left (tf (tg (cTs c) i) 1)) (by decide)
          have hdk1 := k1.dk
          obtain ⟨g6, e6, c6⟩ := hdk1.i.2.2.1
          have v6 : g6 i = tf (tg (cTs c) i) 1 := c6 i hi
          have hcol := hdk1.col (m := 1) (j := i) (by decide) hi e6 (tf (tg (cTs c) i) 1 - min32 left (tf (tg (cTs c) i) 1))
          have k2 := k1.dkb hcol rfl
          rw [dB_self] at k2
          have k2 : CalW fr A (setC (setT c i 1 (tf (tg (cTs c) i) 1 - min32 left (tf (tg (cTs c) i) 1))) 8 (cSc c 8 + min32 left (tf (tg (cTs c) i) 1))) L _ := k2
          have hdk2 := k2.dk
          obtain ⟨g7, e7, c7⟩ := hdk2.i.2.2.1
          have v7 : g7 i = tf (tg (cTs c) i) 1 - min32 left (tf (tg (cTs c) i) 1) := by
            rw [c7 i (by show i < ((cTs c).set i _).length; rw [List.length_set]; exact hi)]
            show tf (tg ((cTs c).set i _) i) 1 = _
            rw [tg_set _ _ _ _ hi, if_pos rfl]; rfl
          have em : (if g5 (nI i).toNatClampNeg < left then g5 (nI i).toNatClampNeg else left) = min32 left (tf (tg (cTs c) i) 1) := by rw [ec, v5, min_sw]
          have eone : tyOne c i (min32 left (tf (tg (cTs c) i) 1)) = if tf (tg (cTs c) i) 1 - min32 left (tf (tg (cTs c) i) 1) = 0 then setC (delT (setC (setT c i 1 (tf (tg (cTs c) i) 1 - min32 left (tf (tg (cTs c) i) 1))) 8 (cSc c 8 + min32 left (tf (tg (cTs c) i) 1))) i) 7 (cSc c 7 + 1) else setC (setT c i 1 (tf (tg (cTs c) i) 1 - min32 left (tf (tg (cTs c) i) 1))) 8 (cSc c 8 + min32 left (tf (tg (cTs c) i) 1)) := rfl
          rw [eone] at hq
          have e11 : nI (f + 1) + (-1) = nI f := by
            have := nI_pred f
            rw [← this, Int32.sub_eq_add_neg]
          refine bX0_typePages_37 hw.i.o rfl hdk.i.1 rfl e5 ix rfl (cal_l (by decide)) (f8 := calF A (setC c 8 (cSc c 8 + min32 left (tf (tg (cTs c) i) 1)))) (by rw [em]; rfl) rfl hdk1.i.1 rfl e6 ix ix (by rw [em, ec, v6]; exact k2.i.o) rfl (by rw [em, ec, v6]; exact hdk2.i.1) rfl (by rw [em, ec, v6]; exact e7) ix (fun y => ?_) (fun y => ?_)
          · rw [ec, v7] at y
            rw [em, ec, v6]
            rw [if_neg y] at hq
            refine bX0_typePages_116 ?_
            rw [e11]
            exact ih (by omega) _ _ _ k2 hq
          · rw [ec, v7] at y
            rw [em, ec, v6]
            rw [if_pos y] at hq
            refine bX0_typePages_97 k2.i.o rfl hdk2.i.1 (c_takeAway (k := i) (Q := fun w2 => CalW fr A (delT (setC (setT c i 1 (tf (tg (cTs c) i) 1 - min32 left (tf (tg (cTs c) i) 1))) 8 (cSc c 8 + min32 left (tf (tg (cTs c) i) 1))) i) L w2) hdk2 rfl (by show i < ((cTs c).set i _).length; rw [List.length_set]; exact hi) (fun w2 hw2 => by have k3 := k2.dkb hw2 rfl; rw [dB_self] at k3; exact k3)) (fun w2 k3 => ?_)
            refine bX0_typePages_106 k3.i.o rfl (cal_l (by decide)) (f3 := calF A (setC (delT (setC (setT c i 1 (tf (tg (cTs c) i) 1 - min32 left (tf (tg (cTs c) i) 1))) 8 (cSc c 8 + min32 left (tf (tg (cTs c) i) 1))) i) 7 (cSc c 7 + 1))) rfl (bX0_typePages_116 ?_)
            rw [e11]
            exact ih (by omega) _ _ _ (k3.setSc 7 _ (by decide)) hq
  exact key f (by omega) c left w h hq
theorem c_removeTodays {m : Nat} {Q : Wd → Prop} (h : CalW fr A c L w) (h1 : ∀ k, k < (cSs c).length → (sf (sg (cSs c) k) 1 = cSc c 3 ↔ k < m)) (hm : m ≤ (cSs c).length) (hq : ∀ A' w2, A' 0 = A 0 → CalW fr A' (drpS c m) L w2 → Q w2) : CX0_removeTodays G l [.ref (A 0)] w Q := by
  have b := h.i.b1
  refine sX0_removeTodays (bX0_removeTodays_0 h.i.o rfl ?_)
  have key : ∀ j, j ≤ (cSs c).length → ∀ (A1 : Nat → Nat) (w1 : Wd), A1 0 = A 0 → CalW fr A1 (wSs c (rmT (cSs c) m j)) L w1 → KX0_removeTodays G l w (ZV G 0 0 w Q) w1 7 [(0, .ref (A 0)), (1, .int (nI j - 1))] [] := by
    intro j
    induction j with
    | zero =>
      intro _ A1 w1 hA hw
      refine bX0_removeTodays_7 (fun _ => bX0_removeTodays_38 (hq A1 w1 hA ?_)) (fun z => absurd (by decide) z)
      have : rmT (cSs c) m 0 = (cSs c).drop m := by unfold rmT; rw [Nat.max_zero, List.take_zero, List.nil_append]
      rw [this] at hw; exact hw
    | succ j ih =>
      intro hj A1 w1 hA hw
      obtain ⟨hjl, hjs⟩ := rmT_sg (m := m) (show j < (cSs c).length by omega)
      have hjl : j < (cSs (wSs c (rmT (cSs c) m (j + 1)))).length := hjl
      obtain ⟨g, eg, hg⟩ := hw.i.sa
      have e4 : g (nI j).toNatClampNeg = some (A1 (10 + j)) := by rw [nI_clamp (by omega)]; exact hg j (by omega)
      have hse := hw.i.se hjl
      have hse : w1 (A1 (10 + j)) = some (.inl (2, sesF (sg (rmT (cSs c) m (j + 1)) j))) := hse
      rw [hjs] at hse
      rw [nI_pred]
      have em : nI j + (-1) = nI j - 1 := by rw [Int32.sub_eq_add_neg]
      refine bX0_removeTodays_7 (fun z => absurd z (nI_pos (by omega))) (fun _ => ?_)
      rw [← hA]
      rw [← hA] at ih
      refine bX0_removeTodays_11 hw.i.o rfl eg (ix_of rfl (by omega) (by decide)) e4 hse rfl rfl (fun z => bX0_removeTodays_32 ?_) (fun z => ?_)
      · have hmj : m ≤ j := by
          have : ¬ j < m := fun y => z ((h1 j (by omega)).mpr y)
          omega
        rw [em]
        rw [rmT_keep hmj] at hw
        exact ih (by omega) A1 w1 rfl hw
      · have hmj : j < m := (h1 j (by omega)).mp z
        refine bX0_removeTodays_27 hw.i.o (c_removeSession (k := j) (Q := fun w2 => ∃ A2, A2 0 = A1 0 ∧ CalW fr A2 (wSs c (rmT (cSs c) m j)) L w2) hw hjl (fun A2 w2 e0 k _ => ⟨A2, e0, by
          have e : delS (wSs c (rmT (cSs c) m (j + 1))) j = wSs c (rmT (cSs c) m j) := by
            show wSs c ((rmT (cSs c) m (j + 1)).eraseIdx j) = _
            rw [rmT_del (by omega) hmj]
          rw [e] at k; exact k⟩)) (fun w2 hw2 => bX0_removeTodays_32 ?_)
        obtain ⟨A2, e0, k⟩ := hw2
        rw [em]
        exact ih (by omega) A2 w2 e0 k
  have e0 : rmT (cSs c) m (cSs c).length = cSs c := by
    unfold rmT
    rw [Nat.max_eq_right hm, List.take_append_drop]
  exact key (cSs c).length (Nat.le_refl _) A w rfl (by rw [e0]; exact h)
theorem c_letDayGoBy {T : Nat} {Q : Wd → Prop} (h : CalW fr A c L w) (hI : Inv T c) (hc : pC L ≤ mc + pC (dayL c L)) (hs : pS L ≤ ms + pS (dayL c L)) (hq : ∀ A' w2, A' 0 = A 0 → CalW fr A' (dayC c) (dayL c L) w2 → Q w2) : CX0_letDayGoBy G l mc ms [.ref (A 0)] w Q := by
  have b0 := h.i.b0
  refine sX0_letDayGoBy (bX0_letDayGoBy_0 h.i.o (mcq := mc) (msq := ms) (c_holdSessions (Q := fun w2 => ∃ A1, A1 0 = A 0 ∧ CalW fr A1 (hldA c (cSs c).length) (dayL c L) w2) h hc hs (fun A1 w2 e0 k => ⟨A1, e0, k⟩)) (by omega) (by omega) (fun w1 hw1 => bX0_letDayGoBy_4 ?_))
  obtain ⟨A1, e0, hw⟩ := hw1
  rw [← e0]
  rw [← e0] at hq
  clear hc hs h
  generalize dayL c L = M at *
  have hss : ∀ p, cSs (dyTo (hldA c (cSs c).length) (cSc c 3) p) = cSs c := fun p => by rw [dyTo_ss, hldA_ss]
  have hpl : ∀ p, (cPs (dyTo (hldA c (cSs c).length) (cSc c 3) p)).length = (cPs c).length := fun p => by rw [dyTo_len, hldA_ps]
  have hsc : ∀ p j, j ≠ 7 → j ≠ 8 → j ≠ 4 → cSc (dyTo (hldA c (cSs c).length) (cSc c 3) p) j = cSc c j := fun p j h7 h8 h4 => by rw [dyTo_sc _ _ h7 h8, hldA_sc _ h4]
  have hok : ∀ s, s ∈ cSs c → okR s := fun s hs => hI.s hs
  have key : ∀ p, p ≤ (cPs c).length → ∀ w1, CalW fr A1 (dyTo (hldA c (cSs c).length) (cSc c 3) p) M w1 → KX0_letDayGoBy G l mc ms w (ZV G mc ms w Q) w1 6 [(0, .ref (A1 0)), (1, .int (nI p))] [] (0 + mc) (0 + ms) := by
    refine upto (P := fun p => ∀ w1, CalW fr A1 (dyTo (hldA c (cSs c).length) (cSc c 3) p) M w1 → KX0_letDayGoBy G l mc ms w (ZV G mc ms w Q) w1 6 [(0, .ref (A1 0)), (1, .int (nI p))] [] (0 + mc) (0 + ms)) (N := (cPs c).length) (fun w1 hw => ?_) (fun p hp ih w1 hw => ?_)
    · refine bX0_letDayGoBy_6 hw.i.o rfl (fun _ => ?_) (fun z => absurd (by rw [hpl]; exact nI_le (Nat.le_refl _) (by omega)) z)
      have hsc := hsc (cPs c).length
      have hss := hss (cPs c).length
      have hfin : dyC c = setC (drpS (setC (dyTo (hldA c (cSs c).length) (cSc c 3) (cPs c).length) 6 (cSc (dyTo (hldA c (cSs c).length) (cSc c 3) (cPs c).length) 6 + cSc c 12 * nI (dueTo (cTs (dyTo (hldA c (cSs c).length) (cSc c 3) (cPs c).length)) (cSc c 3) (cTs (dyTo (hldA c (cSs c).length) (cSc c 3) (cPs c).length)).length))) (ldg (cSs c) (cSc c 3))) 3 (cSc c 3 + 1) := rfl
      have hE := dyC_eq hI
      generalize dyTo (hldA c (cSs c).length) (cSc c 3) (cPs c).length = d at *
      obtain ⟨g4, e4, c4⟩ := hw.i.st
      have s12 : g4 ((3 : Int32).toNatClampNeg) = cSc c 12 := (c4 3 (by decide)).trans (hsc 12 (by decide) (by decide) (by decide))
      have e3 : cSc d 3 = cSc c 3 := hsc 3 (by decide) (by decide) (by decide)
      refine bX0_letDayGoBy_72 hw.i.o rfl rfl e4 (vlit rfl) rfl rfl hw.i.dk.1 (c_dueUpTo (Q := fun r w2 => nI (dueTo (cTs d) (cSc d 3) (cTs d).length) = r ∧ w1 = w2) hw.i.dk ⟨rfl, rfl⟩) (by omega) (by omega) (fun r w2 hr => ?_)
      obtain ⟨rfl, rfl⟩ := hr
      rw [s12, e3]
      have k1 := hw.setSc 6 (cSc d 6 + cSc c 12 * nI (dueTo (cTs d) (cSc c 3) (cTs d).length)) (by decide)
      refine bX0_letDayGoBy_94 hw.i.o (cal_l (by decide)) (f2 := calF A1 (setC d 6 (cSc d 6 + cSc c 12 * nI (dueTo (cTs d) (cSc c 3) (cTs d).length)))) rfl (wset_eq _ _ _) (c_removeTodays (m := ldg (cSs c) (cSc c 3)) (Q := fun w2 => ∃ A2, A2 0 = A1 0 ∧ CalW fr A2 (drpS (setC d 6 (cSc d 6 + cSc c 12 * nI (dueTo (cTs d) (cSc c 3) (cTs d).length))) (ldg (cSs c) (cSc c 3))) M w2) k1 (fun k hk => ?_) ?_ (fun A2 w2 e0 k => ⟨A2, e0, k⟩)) (by omega) (by omega) (fun w2 hw2 => ?_)
      · have hk : k < (cSs d).length := hk
        rw [hss] at hk
        show sf (sg (cSs d) k) 1 = cSc d 3 ↔ _
        rw [hss, e3]
        refine ⟨fun z => ?_, fun z => ldg_in _ _ z⟩
        by_cases q : k < ldg (cSs c) (cSc c 3)
        · exact q
        · have hmem : sg (cSs c) k ∈ (cSs c).drop (ldg (cSs c) (cSc c 3)) := by
            rw [sg_get hk, show (cSs c)[k] = ((cSs c).drop (ldg (cSs c) (cSc c 3)))[k - ldg (cSs c) (cSc c 3)]'(by rw [List.length_drop]; omega) by rw [List.getElem_drop]; congr 1; omega]
            exact List.getElem_mem _
          have := drop_day hI hmem
          rw [z] at this
          omega
      · show _ ≤ (cSs d).length
        rw [hss]; exact ldg_le _ _
      · obtain ⟨A2, e2, k2⟩ := hw2
        rw [← e2]
        rw [← e2] at hq
        have k3 := k2.setSc 3 (cSc c 3 + 1) (by decide)
        refine bX0_letDayGoBy_103 k2.i.o rfl (cal_l (by decide)) (f3 := calF A2 (setC (drpS (setC d 6 (cSc d 6 + cSc c 12 * nI (dueTo (cTs d) (cSc c 3) (cTs d).length))) (ldg (cSs c) (cSc c 3))) 3 (cSc c 3 + 1))) ?_ (hq A2 _ rfl ?_) (by omega) (by omega)
        · rw [← e3]; rfl
        · rw [hfin] at hE
          exact k3.eqv hE
    · have hp6 : p < 6 := by omega
      have e3 : cSc (dyTo (hldA c (cSs c).length) (cSc c 3) p) 3 = cSc c 3 := hsc p 3 (by decide) (by decide) (by decide)
      have hss := hss p
      have hpl := hpl p
      have hdy : dyTo (hldA c (cSs c).length) (cSc c 3) (p + 1) = if cSc c 3 < tf (pg (cPs (dyTo (hldA c (cSs c).length) (cSc c 3) p)) p) 1 then setP (dyTo (hldA c (cSs c).length) (cSc c 3) p) p 2 (tf (pg (cPs (dyTo (hldA c (cSs c).length) (cSc c 3) p)) p) 2 + payOf (cnt (bz (cSs c) (nI p) (cSc c 3) (-1))))
          else typ (setP (dyTo (hldA c (cSs c).length) (cSc c 3) p) p 2 (tf (pg (cPs (dyTo (hldA c (cSs c).length) (cSc c 3) p)) p) 2 + payOf (cnt (bz (cSs c) (nI p) (cSc c 3) (-1))))) (nI p) ((16 - cnt (bz (cSs c) (nI p) (cSc c 3) (-1))) * tf (pg (cPs (dyTo (hldA c (cSs c).length) (cSc c 3) p)) p) 0) := by
        rw [dyTo, hldA_ss]
      rw [hdy] at ih
      clear hdy
      generalize dyTo (hldA c (cSs c).length) (cSc c 3) p = d at *
      refine bX0_letDayGoBy_6 hw.i.o rfl (fun z => absurd z (by rw [hpl]; exact nI_ge hp (by omega))) (fun _ => ?_)
      refine bX0_letDayGoBy_14 hw.i.o rfl (c_slotsOn (Q := fun r w2 => cnt (bz (cSs c) (nI p) (cSc c 3) (-1)) = r ∧ w1 = w2) hw.i (by rw [hss]; exact hok) ⟨by rw [hss, e3], rfl⟩) (by omega) (by omega) (fun r w2 hr => ?_)
      obtain ⟨rfl, rfl⟩ := hr
      obtain ⟨g1, e1, c1⟩ := hw.i.r3
      have ec : (nI p).toNatClampNeg = p := nI_clamp (by omega)
      have ix : vp_in (nI p) 6 := ix_of rfl hp6 (by decide)
      have vp : g1 p = tf (pg (cPs d) p) 2 := c1 p (by omega)
      obtain ⟨m, hm, em⟩ := bz_nat hok (nI p) (cSc c 3) (-1)
      obtain ⟨m2, hm2, em2⟩ := cnt_nat hm
      rw [← em] at em2
      refine bX0_letDayGoBy_23 hw.i.o rfl e1 ix (c_payFor0 (m := m2) (Q := fun r w2 => payOf (cnt (bz (cSs c) (nI p) (cSc c 3) (-1))) = r ∧ w1 = w2) em2 hm2 ⟨rfl, rfl⟩) (by omega) (by omega) (fun r w2 hr => ?_)
      obtain ⟨rfl, rfl⟩ := hr
      have k1 := hw.per (m := 2) (i := p) (by decide) hp6 e1 (tf (pg (cPs d) p) 2 + payOf (cnt (bz (cSs c) (nI p) (cSc c 3) (-1))))
      obtain ⟨gl, el, cl⟩ := k1.i.r2
      have vl : gl p = tf (pg (cPs d) p) 1 := by rw [cl p (by rw [setP_len]; omega), setP_pg, if_pos ⟨rfl, by omega⟩]; rfl
      have k1o : cSc (setP d p 2 (tf (pg (cPs d) p) 2 + payOf (cnt (bz (cSs c) (nI p) (cSc c 3) (-1))))) 3 = cSc c 3 := e3
      refine bX0_letDayGoBy_35 e1 ix (by rw [ec, vp]; exact k1.i.o) rfl rfl (by rw [ec, vp]; exact el) ix (fun z => bX0_letDayGoBy_66 ?_) (fun z => ?_)
      · rw [k1o, ec, vl] at z
        rw [if_pos z] at ih
        rw [ec, vp, nI_1]; exact ih _ k1
      · rw [k1o, ec, vl] at z
        rw [if_neg z] at ih
        rw [ec, vp]
        obtain ⟨gs, es, cs⟩ := k1.i.r1
        have vs : gs (nI p).toNatClampNeg = tf (pg (cPs d) p) 0 := by rw [ec, cs p (by rw [setP_len]; omega), setP_pg, if_pos ⟨rfl, by omega⟩]; rfl
        refine bX0_letDayGoBy_50 k1.i.o rfl es ix (c_typePages (Q := fun w2 => CalW fr A1 (typ (setP d p 2 (tf (pg (cPs d) p) 2 + payOf (cnt (bz (cSs c) (nI p) (cSc c 3) (-1))))) (nI p) ((16 - cnt (bz (cSs c) (nI p) (cSc c 3) (-1))) * tf (pg (cPs d) p) 0)) M w2) k1 (fun w2 k => by rw [vs] at k; exact k)) (by omega) (by omega) (fun w2 k => bX0_letDayGoBy_66 ?_)
        rw [nI_1]; exact ih _ k
  exact key 0 (Nat.zero_le _) _ hw
def runL (c : Cal) (L : Nat) : Nat → Nat
  | 0 => L
  | n + 1 => dayL (runTo c n) (runL c L n)
theorem runL_b (c : Cal) {L : Nat} (h : 16 ≤ L) (h2 : L ≤ 640) : ∀ n, 16 ≤ runL c L n ∧ runL c L n ≤ 640
  | 0 => ⟨h, h2⟩
  | n + 1 => by
    have ih := runL_b c h h2 n
    have := dayL_b (runTo c n) ih.1 ih.2
    show 16 ≤ dayL _ _ ∧ dayL _ _ ≤ 640
    omega
theorem runL_m (c : Cal) {L : Nat} (h : 16 ≤ L) (h2 : L ≤ 640) (k : Nat) : ∀ d, pC (runL c L (k + d)) ≤ pC (runL c L k) ∧ pS (runL c L (k + d)) ≤ pS (runL c L k)
  | 0 => ⟨Nat.le_refl _, Nat.le_refl _⟩
  | d + 1 => by
    have ih := runL_m c h h2 k d
    have hb := runL_b c h h2 (k + d)
    have := dayL_m (runTo c (k + d)) hb.1 hb.2
    show pC (dayL (runTo c (k + d)) (runL c L (k + d))) ≤ _ ∧ pS (dayL (runTo c (k + d)) (runL c L (k + d))) ≤ _
    omega
theorem c_finesOfDays {T n : Nat} {x : Int32} {Q : Int32 → Wd → Prop} (h : CalW fr A c L w) (hI : Inv T c) (hx : x = nI n) (hn : n < 2 ^ 31) (hT : T + n < 2 ^ 31) (hc : pC L ≤ mc + pC (runL c L n)) (hs : pS L ≤ ms + pS (runL c L n)) (hq : ∀ A' w2, A' 0 = A 0 → CalW fr A' (runTo c n) (runL c L n) w2 → Q (cSc (runTo c n) 6 - cSc c 6) w2) : CX0_finesOfDays G l mc ms [.ref (A 0), .int x] w Q := by
  subst hx
  obtain ⟨lb1, lb2, -⟩ := h.lb
  refine sX0_finesOfDays (bX0_finesOfDays_0 h.i.o rfl ?_)
  have key : ∀ k, k ≤ n → ∀ (Ak : Nat → Nat) (w1 : Wd) (kc ks : Nat), Ak 0 = A 0 → CalW fr Ak (runTo c k) (runL c L k) w1 → kc + pC (runL c L k) ≤ pC L → ks + pS (runL c L k) ≤ pS L → KX0_finesOfDays G l mc ms w (ZI G mc ms w Q) w1 7 [(0, .ref (A 0)), (1, .int (nI n)), (2, .int (cSc c 6)), (3, .int (nI k))] [] kc ks := by
    refine upto (P := fun k => ∀ (Ak : Nat → Nat) (w1 : Wd) (kc ks : Nat), Ak 0 = A 0 → CalW fr Ak (runTo c k) (runL c L k) w1 → kc + pC (runL c L k) ≤ pC L → ks + pS (runL c L k) ≤ pS L → KX0_finesOfDays G l mc ms w (ZI G mc ms w Q) w1 7 [(0, .ref (A 0)), (1, .int (nI n)), (2, .int (cSc c 6)), (3, .int (nI k))] [] kc ks) (N := n) (fun Ak w1 kc ks hA hw hkc hks => ?_) (fun k hk ih Ak w1 kc ks hA hw hkc hks => ?_)
    · rw [← hA]
      exact bX0_finesOfDays_7 (fun _ => bX0_finesOfDays_22 hw.i.o rfl (hq Ak w1 hA hw) (by omega) (by omega)) (fun z => absurd (nI_le (Nat.le_refl _) hn) z)
    · have hm := runL_m c lb1 lb2 (k + 1) (n - (k + 1))
      rw [show k + 1 + (n - (k + 1)) = n by omega] at hm
      have hm2 := runL_m c lb1 lb2 k 1
      rw [← hA]
      rw [← hA] at ih
      refine bX0_finesOfDays_7 (fun z => absurd z (nI_ge hk hn)) (fun _ => ?_)
      refine bX0_finesOfDays_12 hw.i.o (mcq := pC (runL c L k) - pC (runL c L (k + 1))) (msq := pS (runL c L k) - pS (runL c L (k + 1))) (c_letDayGoBy (T := T + k) (Q := fun w2 => ∃ A2, A2 0 = Ak 0 ∧ CalW fr A2 (runTo c (k + 1)) (runL c L (k + 1)) w2) hw (hI.run k (by omega)) ?_ ?_ (fun A2 w2 e0 k9 => ⟨A2, e0, k9⟩)) (by omega) (by omega) (fun w2 hw2 => bX0_finesOfDays_16 ?_)
      · show _ ≤ _ + pC (runL c L (k + 1)); omega
      · show _ ≤ _ + pS (runL c L (k + 1)); omega
      · obtain ⟨A2, e0, k9⟩ := hw2
        rw [nI_1]
        exact ih A2 w2 _ _ e0 k9 (by omega) (by omega)
  exact key 0 (Nat.zero_le _) A w 0 0 rfl h (by show 0 + pC L ≤ pC L; omega) (by show 0 + pS L ≤ pS L; omega)
end DY
