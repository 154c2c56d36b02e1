/-! THE MODEL: transcripts, people, a session's place -/
theorem MRep.delT {g : Nat → Int32} {c : Cal} (h : MRep g c) {i : Nat} (hi : i < (cTs c).length) : MRep (shf (upd g 2 (nI (cTs c).length - 1)) (127 + 3 * i) (127 + 3 * ((cTs c).length - 1)) 3) (delT c i) := by
  obtain ⟨h0, h1, h2, h3, h4, h5, h6, b0, b1, b2⟩ := h
  have hl : (cTs (Jvm.Pilot.CStenoRoomsLaw_law_r5597_b11a13.delT c i)).length = (cTs c).length - 1 := by
    show ((cTs c).eraseIdx i).length = _
    rw [List.length_eraseIdx, if_pos hi]
  have lo : ∀ a, a < 127 → shf (upd g 2 (nI (cTs c).length - 1)) (127 + 3 * i) (127 + 3 * ((cTs c).length - 1)) 3 a = upd g 2 (nI (cTs c).length - 1) a := fun a ha => by
    unfold shf; rw [if_neg (by omega)]
  refine ⟨by rw [lo _ (by omega), upd_ne _ _ (by omega)]; exact h0, by rw [lo _ (by omega), upd_ne _ _ (by omega)]; exact h1, by
    rw [lo _ (by omega), upd_eq, hl]
    obtain ⟨n, hn⟩ : ∃ n, (cTs c).length = n + 1 := ⟨(cTs c).length - 1, by omega⟩
    rw [hn, nI_pred]; rfl, fun j j1 j2 => by rw [lo _ (by omega), upd_ne _ _ (by omega)]; exact h3 j j1 j2, fun j hj => ?_, fun j hj => ?_, fun j hj => ?_, b0, b1, by rw [hl]; omega⟩
  · have hj' : j < (cPs c).length := hj
    refine Eq.trans ?_ (h4 j hj')
    unfold gP
    rw [lo _ (by omega), lo _ (by omega), lo _ (by omega), upd_ne _ _ (by omega), upd_ne _ _ (by omega), upd_ne _ _ (by omega)]
  · have hj' : j < (cSs c).length := hj
    refine Eq.trans ?_ (h5 j hj')
    unfold gS
    rw [lo _ (by omega), lo _ (by omega), lo _ (by omega), lo _ (by omega), lo _ (by omega), lo _ (by omega), upd_ne _ _ (by omega), upd_ne _ _ (by omega), upd_ne _ _ (by omega), upd_ne _ _ (by omega), upd_ne _ _ (by omega), upd_ne _ _ (by omega)]
  · rw [hl] at hj
    show _ = tg ((cTs c).eraseIdx i) j
    rw [tg_erase]
    by_cases e : j < i
    · rw [if_pos e, ← h6 j (by omega)]
      unfold gT shf
      rw [if_neg (by omega), if_neg (by omega), if_neg (by omega), upd_ne _ _ (by omega), upd_ne _ _ (by omega), upd_ne _ _ (by omega)]
    · rw [if_neg e, ← h6 (j + 1) (by omega)]
      unfold gT shf
      rw [if_pos (by omega), if_pos (by omega), if_pos (by omega), upd_ne _ _ (by omega), upd_ne _ _ (by omega), upd_ne _ _ (by omega)]
      rw [show 127 + 3 * (j + 1) = 127 + 3 * j + 3 by omega, show 127 + 3 * j + 1 + 3 = 127 + 3 * j + 3 + 1 by omega, show 127 + 3 * j + 2 + 3 = 127 + 3 * j + 3 + 2 by omega]
theorem MRep.delS {g : Nat → Int32} {c : Cal} (h : MRep g c) {i : Nat} (hi : i < (cSs c).length) : MRep (shf (upd g 1 (nI (cSs c).length - 1)) (31 + 6 * i) (31 + 6 * ((cSs c).length - 1)) 6) (delS c i) := by
  obtain ⟨h0, h1, h2, h3, h4, h5, h6, b0, b1, b2⟩ := h
  have hl : (cSs (Jvm.Pilot.CStenoRoomsLaw_law_r5597_b11a13.delS c i)).length = (cSs c).length - 1 := by
    show ((cSs c).eraseIdx i).length = _
    rw [List.length_eraseIdx, if_pos hi]
  have lo : ∀ a, a < 31 ∨ 127 ≤ a → shf (upd g 1 (nI (cSs c).length - 1)) (31 + 6 * i) (31 + 6 * ((cSs c).length - 1)) 6 a = upd g 1 (nI (cSs c).length - 1) a := fun a ha => by
    unfold shf; rw [if_neg (by omega)]
  refine ⟨by rw [lo _ (by omega), upd_ne _ _ (by omega)]; exact h0, by
    rw [lo _ (by omega), upd_eq, hl]
    obtain ⟨n, hn⟩ : ∃ n, (cSs c).length = n + 1 := ⟨(cSs c).length - 1, by omega⟩
    rw [hn, nI_pred]; rfl, by rw [lo _ (by omega), upd_ne _ _ (by omega)]; exact h2, fun j j1 j2 => by rw [lo _ (by omega), upd_ne _ _ (by omega)]; exact h3 j j1 j2, fun j hj => ?_, fun j hj => ?_, fun j hj => ?_, b0, by rw [hl]; omega, b2⟩
  · have hj' : j < (cPs c).length := hj
    refine Eq.trans ?_ (h4 j hj')
    unfold gP
    rw [lo _ (by omega), lo _ (by omega), lo _ (by omega), upd_ne _ _ (by omega), upd_ne _ _ (by omega), upd_ne _ _ (by omega)]
  · rw [hl] at hj
    show _ = sg ((cSs c).eraseIdx i) j
    rw [sg_erase]
    by_cases e : j < i
    · rw [if_pos e, ← h5 j (by omega)]
      unfold gS shf
      rw [if_neg (by omega), if_neg (by omega), if_neg (by omega), if_neg (by omega), if_neg (by omega), if_neg (by omega), upd_ne _ _ (by omega), upd_ne _ _ (by omega), upd_ne _ _ (by omega), upd_ne _ _ (by omega), upd_ne _ _ (by omega), upd_ne _ _ (by omega)]
    · rw [if_neg e, ← h5 (j + 1) (by omega)]
      unfold gS shf
      rw [if_pos (by omega), if_pos (by omega), if_pos (by omega), if_pos (by omega), if_pos (by omega), if_pos (by omega), upd_ne _ _ (by omega), upd_ne _ _ (by omega), upd_ne _ _ (by omega), upd_ne _ _ (by omega), upd_ne _ _ (by omega), upd_ne _ _ (by omega)]
      rw [show 31 + 6 * (j + 1) = 31 + 6 * j + 6 by omega, show 31 + 6 * j + 1 + 6 = 31 + 6 * j + 6 + 1 by omega, show 31 + 6 * j + 2 + 6 = 31 + 6 * j + 6 + 2 by omega, show 31 + 6 * j + 3 + 6 = 31 + 6 * j + 6 + 3 by omega, show 31 + 6 * j + 4 + 6 = 31 + 6 * j + 6 + 4 by omega, show 31 + 6 * j + 5 + 6 = 31 + 6 * j + 6 + 5 by omega]
  · have hj' : j < (cTs c).length := hj
    refine Eq.trans ?_ (h6 j hj')
    unfold gT
    rw [lo _ (by omega), lo _ (by omega), lo _ (by omega), upd_ne _ _ (by omega), upd_ne _ _ (by omega), upd_ne _ _ (by omega)]
section M4
variable {G : GG} {l : Launch} {w : Wd} {r : Nat} {g : Nat → Int32} {c : Cal}
theorem nI_sub1 {n : Nat} (h : 0 < n) : nI n - 1 = nI (n - 1) := by
  obtain ⟨k, rfl⟩ : ∃ k, n = k + 1 := ⟨n - 1, by omega⟩
  rw [nI_pred]; rfl
theorem c_takeScript {i : Nat} {x1 : Int32} {Q : Wd → Prop} (hr : w r = some (irow 2047 g)) (hc : MRep g c) (h1 : x1 = nI i) (hi : i < (cTs c).length) (hq : ∀ g2, MRep g2 (delT c i) → Q (wset w r (irow 2047 g2))) : CX6_takeScript G l [.ref r, .int x1] w Q := by
  subst h1
  have hb := hc.b2
  refine sX6_takeScript (bX6_takeScript_0 hr (vlit rfl) (vlit rfl) ?_)
  rw [hc.n2]
  rw [show (2 : Int32).toNatClampNeg = 2 from rfl]
  have e3 : 3 * nI i = nI (3 * i) := by rw [show (3 : Int32) = nI 3 from rfl, nI_mul]
  rw [e3]
  have key : ∀ t, t ≤ 3 * ((cTs c).length - 1) - 3 * i → KX6_takeScript G l w (ZV G 0 0 w Q) (wset w r (irow 2047 (shf (upd g 2 (nI (cTs c).length - 1)) (127 + 3 * i) (127 + 3 * i + t) 3))) 11 [(0, .ref r), (2, .int (nI (3 * i + t)))] [] := by
    refine upto (P := fun t => KX6_takeScript G l w (ZV G 0 0 w Q) (wset w r (irow 2047 (shf (upd g 2 (nI (cTs c).length - 1)) (127 + 3 * i) (127 + 3 * i + t) 3))) 11 [(0, .ref r), (2, .int (nI (3 * i + t)))] []) (N := 3 * ((cTs c).length - 1) - 3 * i) ?_ (fun t ht ih => ?_)
    · have e2 : shf (upd g 2 (nI (cTs c).length - 1)) (127 + 3 * i) (127 + 3 * i + (3 * ((cTs c).length - 1) - 3 * i)) 3 ((2 : Int32).toNatClampNeg) = nI ((cTs c).length - 1) := by
        rw [show (2 : Int32).toNatClampNeg = 2 from rfl]
        unfold shf
        rw [if_neg (by omega), upd_eq, nI_sub1 (by omega)]
      refine bX6_takeScript_11 wr_r (vlit rfl) (fun h => bX6_takeScript_40 (hq _ ?_)) (fun h => absurd ?_ h)
      · have := hc.delT hi
        rw [show 127 + 3 * i + (3 * ((cTs c).length - 1) - 3 * i) = 127 + 3 * ((cTs c).length - 1) by omega]
        exact this
      · rw [e2, show (3 : Int32) = nI 3 from rfl, nI_mul]
        exact nI_le (by omega) (by omega)
    · have e2 : shf (upd g 2 (nI (cTs c).length - 1)) (127 + 3 * i) (127 + 3 * i + t) 3 ((2 : Int32).toNatClampNeg) = nI ((cTs c).length - 1) := by
        rw [show (2 : Int32).toNatClampNeg = 2 from rfl]
        unfold shf
        rw [if_neg (by omega), upd_eq, nI_sub1 (by omega)]
      refine bX6_takeScript_11 wr_r (vlit rfl) (fun h => absurd h ?_) (fun h => ?_)
      · rw [e2, show (3 : Int32) = nI 3 from rfl, nI_mul]
        exact nI_ge (by omega) (by omega)
      · have q1 : 127 + nI (3 * i + t) = nI (127 + 3 * i + t) := by rw [show (127 : Int32) = nI 127 from rfl, nI_add]; congr 1; omega
        have q2 : 127 + nI (3 * i + t) + 3 = nI (127 + 3 * i + t + 3) := by rw [q1, show (3 : Int32) = nI 3 from rfl, nI_add]
        refine bX6_takeScript_20 wr_r (ix_of q2 (by omega) (by omega)) (ix_of q1 (by omega) (by omega)) ?_
        rw [wset_wset, cl_of q1 (by omega), cl_of q2 (by omega), shf_1 _ (by omega) (by omega), nI_1]
        exact ih
  have := key 0 (Nat.zero_le _)
  rw [Nat.add_zero, shf_0] at this
  exact this
theorem c_removeOn {i : Nat} {x1 : Int32} {Q : Int32 → Wd → Prop} (hr : w r = some (irow 2047 g)) (hc : MRep g c) (h1 : x1 = nI i) (hi : i < (cSs c).length) (hq : ∀ g2, MRep g2 (delS c i) → Q (nI ((cSs c).length - 1)) (wset w r (irow 2047 g2))) : CX6_removeOn G l [.ref r, .int x1] w Q := by
  subst h1
  have hb := hc.b1
  refine sX6_removeOn (bX6_removeOn_0 hr (vlit rfl) (vlit rfl) ?_)
  rw [hc.n1]
  rw [show (1 : Int32).toNatClampNeg = 1 from rfl]
  have e3 : 6 * nI i = nI (6 * i) := by rw [show (6 : Int32) = nI 6 from rfl, nI_mul]
  rw [e3]
  have key : ∀ t, t ≤ 6 * ((cSs c).length - 1) - 6 * i → KX6_removeOn G l w (ZI G 0 0 w Q) (wset w r (irow 2047 (shf (upd g 1 (nI (cSs c).length - 1)) (31 + 6 * i) (31 + 6 * i + t) 6))) 12 [(0, .ref r), (2, .int (nI (6 * i + t)))] [] := by
    refine upto (P := fun t => KX6_removeOn G l w (ZI G 0 0 w Q) (wset w r (irow 2047 (shf (upd g 1 (nI (cSs c).length - 1)) (31 + 6 * i) (31 + 6 * i + t) 6))) 12 [(0, .ref r), (2, .int (nI (6 * i + t)))] []) (N := 6 * ((cSs c).length - 1) - 6 * i) ?_ (fun t ht ih => ?_)
    · have e2 : shf (upd g 1 (nI (cSs c).length - 1)) (31 + 6 * i) (31 + 6 * i + (6 * ((cSs c).length - 1) - 6 * i)) 6 ((1 : Int32).toNatClampNeg) = nI ((cSs c).length - 1) := by
        rw [show (1 : Int32).toNatClampNeg = 1 from rfl]
        unfold shf
        rw [if_neg (by omega), upd_eq, nI_sub1 (by omega)]
      refine bX6_removeOn_12 wr_r (vlit rfl) (fun h => bX6_removeOn_43 wr_r (vlit rfl) ?_) (fun h => absurd ?_ h)
      · rw [e2]
        have := hc.delS hi
        rw [show 31 + 6 * i + (6 * ((cSs c).length - 1) - 6 * i) = 31 + 6 * ((cSs c).length - 1) by omega]
        exact hq _ this
      · rw [e2, show (6 : Int32) = nI 6 from rfl, nI_mul]
        exact nI_le (by omega) (by omega)
    · have e2 : shf (upd g 1 (nI (cSs c).length - 1)) (31 + 6 * i) (31 + 6 * i + t) 6 ((1 : Int32).toNatClampNeg) = nI ((cSs c).length - 1) := by
        rw [show (1 : Int32).toNatClampNeg = 1 from rfl]
        unfold shf
        rw [if_neg (by omega), upd_eq, nI_sub1 (by omega)]
      refine bX6_removeOn_12 wr_r (vlit rfl) (fun h => absurd h ?_) (fun h => ?_)
      · rw [e2, show (6 : Int32) = nI 6 from rfl, nI_mul]
        exact nI_ge (by omega) (by omega)
      · have q1 : 31 + nI (6 * i + t) = nI (31 + 6 * i + t) := by rw [show (31 : Int32) = nI 31 from rfl, nI_add]; congr 1; omega
        have q2 : 31 + nI (6 * i + t) + 6 = nI (31 + 6 * i + t + 6) := by rw [q1, show (6 : Int32) = nI 6 from rfl, nI_add]
        refine bX6_removeOn_22 wr_r (ix_of q2 (by omega) (by omega)) (ix_of q1 (by omega) (by omega)) ?_
        rw [wset_wset, cl_of q1 (by omega), cl_of q2 (by omega), shf_1 _ (by omega) (by omega), nI_1]
        exact ih
  have := key 0 (Nat.zero_le _)
  rw [Nat.add_zero, shf_0] at this
  exact this
theorem MRep.addT {g : Nat → Int32} {c : Cal} (h : MRep g c) (p q d : Int32) (hl : (cTs c).length < 640) : MRep (upd (upd (upd (upd g (127 + 3 * (cTs c).length) p) (127 + 3 * (cTs c).length + 1) q) (127 + 3 * (cTs c).length + 2) d) 2 (nI (cTs c).length + 1)) (c.1, c.2.1, c.2.2.1, cTs c ++ [(p, q, d)]) := by
  obtain ⟨h0, h1, h2, h3, h4, h5, h6, b0, b1, b2⟩ := h
  have lo : ∀ a, a < 127 → a ≠ 2 → upd (upd (upd (upd g (127 + 3 * (cTs c).length) p) (127 + 3 * (cTs c).length + 1) q) (127 + 3 * (cTs c).length + 2) d) 2 (nI (cTs c).length + 1) a = g a := fun a ha h2 => by
    rw [upd_ne _ _ h2, upd_ne _ _ (by omega), upd_ne _ _ (by omega), upd_ne _ _ (by omega)]
  have hlen : (cTs (c.1, c.2.1, c.2.2.1, cTs c ++ [(p, q, d)])).length = (cTs c).length + 1 := by simp [cTs]
  refine ⟨by rw [lo _ (by omega) (by omega)]; exact h0, by rw [lo _ (by omega) (by omega)]; exact h1, by rw [upd_eq, hlen, nI_1], fun j j1 j2 => by rw [lo _ (by omega) (by omega)]; exact h3 j j1 j2, fun j hj => ?_, fun j hj => ?_, fun j hj => ?_, b0, b1, by rw [hlen]; omega⟩
  · have hj' : j < (cPs c).length := hj
    refine Eq.trans ?_ (h4 j hj')
    unfold gP
    rw [lo _ (by omega) (by omega), lo _ (by omega) (by omega), lo _ (by omega) (by omega)]
  · have hj' : j < (cSs c).length := hj
    refine Eq.trans ?_ (h5 j hj')
    unfold gS
    rw [lo _ (by omega) (by omega), lo _ (by omega) (by omega), lo _ (by omega) (by omega), lo _ (by omega) (by omega), lo _ (by omega) (by omega), lo _ (by omega) (by omega)]
  · rw [hlen] at hj
    show _ = tg (cTs c ++ [(p, q, d)]) j
    by_cases e : j = (cTs c).length
    · subst e
      have : tg (cTs c ++ [(p, q, d)]) (cTs c).length = (p, q, d) := by simp [tg]
      rw [this]
      unfold gT
      simp [upd]
      exact ⟨fun q9 => absurd q9 (by omega), fun q9 => absurd q9 (by omega)⟩
    · have : tg (cTs c ++ [(p, q, d)]) j = tg (cTs c) j := by
        unfold tg
        rw [List.getD_eq_getElem?_getD, List.getElem?_append_left (by omega), List.getD_eq_getElem?_getD]
      rw [this, ← h6 j (by omega)]
      unfold gT
      rw [upd_ne _ _ (by omega), upd_ne _ _ (by omega), upd_ne _ _ (by omega), upd_ne _ _ (by omega), upd_ne _ _ (by omega), upd_ne _ _ (by omega), upd_ne _ _ (by omega), upd_ne _ _ (by omega), upd_ne _ _ (by omega), upd_ne _ _ (by omega), upd_ne _ _ (by omega), upd_ne _ _ (by omega)]
theorem c_putScript {x1 x2 : Int32} {Q : Wd → Prop} (hr : w r = some (irow 2047 g)) (hc : MRep g c) (hq : ∀ g2, MRep g2 (addT c x1 x2) → Q (wset w r (irow 2047 g2))) : CX6_putScript G l [.ref r, .int x1, .int x2] w Q := by
  have hb := hc.b2
  have e1 : 127 + 3 * nI (cTs c).length = nI (127 + 3 * (cTs c).length) := by rw [show (127 : Int32) = nI 127 from rfl, show (3 : Int32) = nI 3 from rfl, nI_mul, nI_add]
  have e2 : 127 + 3 * nI (cTs c).length + 1 = nI (127 + 3 * (cTs c).length + 1) := by rw [e1, nI_1]
  have e3 : 127 + 3 * nI (cTs c).length + 2 = nI (127 + 3 * (cTs c).length + 2) := by rw [e1, show (2 : Int32) = nI 2 from rfl, nI_add]
  refine sX6_putScript (bX6_putScript_0 hr (vlit rfl) (fun h => bX6_putScript_48 ?_) (fun h => ?_))
  · rw [hc.n2] at h
    have hn : ¬ (cTs c).length < 640 := fun q => nI_ge q (by omega) h
    have := hq g (by unfold addT; rw [if_neg hn]; exact hc)
    rw [wset_self w r _ hr] at this
    exact this
  · rw [hc.n2] at h
    have hn : (cTs c).length < 640 := by
      rcases Nat.lt_or_ge (cTs c).length 640 with q | q
      · exact q
      · exact absurd (nI_le q (by omega)) h
    refine bX6_putScript_9 hr (vlit rfl) (by rw [hc.n2]; exact ix_of e1 (by omega) (by omega)) wr_r (by rw [hc.n2]; exact ix_of e2 (by omega) (by omega)) wr_r (vlit rfl) (vlit rfl) (by rw [hc.n2]; exact ix_of e3 (by omega) (by omega)) wr_r (vlit rfl) (vlit rfl) (bX6_putScript_48 ?_)
    simp only [wset_wset]
    rw [hc.n2, cl_of e1 (by omega), cl_of e2 (by omega), cl_of e3 (by omega)]
    have := hc.addT x1 x2 (cSc c 3 + cSc c 11) hn
    refine hq _ ?_
    unfold addT
    rw [if_pos hn]
    rw [show (2 : Int32).toNatClampNeg = 2 from rfl, show (3 : Int32).toNatClampNeg = 3 from rfl, show (11 : Int32).toNatClampNeg = 11 from rfl]
    rw [upd_ne _ _ (by omega), upd_ne _ _ (by omega), upd_ne _ _ (by omega), upd_ne _ _ (by omega), upd_ne _ _ (by omega), upd_ne _ _ (by omega), upd_ne _ _ (by omega), hc.sc 3 (by decide) (by decide), hc.sc 11 (by decide) (by decide), hc.2.2.1]
    exact this
end M4
