/-! THE MODEL: a day goes by -/
theorem drpS_0 (c : Cal) : drpS c 0 = c := rfl
theorem drpS_1 (c : Cal) (m : Nat) : delS (drpS c m) 0 = drpS c (m + 1) := by
  have h : ((cSs c).drop m).eraseIdx 0 = (cSs c).drop (m + 1) := by
    rw [List.eraseIdx_zero, List.tail_drop]
  show (c.1, c.2.1, ((cSs c).drop m).eraseIdx 0, c.2.2.2) = _
  rw [h]
  rfl
theorem sg_drop (ss : List Ss) (m k : Nat) : sg (ss.drop m) k = sg ss (m + k) := by
  unfold sg
  simp only [List.getD_eq_getElem?_getD, List.getElem?_drop]
section M6
variable {G : GG} {l : Launch} {w : Wd} {r : Nat} {g : Nat → Int32} {c : Cal}
theorem c_dayOn {Q : Wd → Prop} (hr : w r = some (irow 2047 g)) (hc : MRep g c) (hq : ∀ g2, MRep g2 (dayC c) → Q (wset w r (irow 2047 g2))) : CX6_dayOn G l [.ref r] w Q := by
  have hb0 := hc.b0
  have hb1 := hc.b1
  refine sX6_dayOn (bX6_dayOn_0 hr (vlit rfl) ?_)
  rw [show g ((3 : Int32).toNatClampNeg) = cSc c 3 from hc.sc 3 (by decide) (by decide)]
  obtain ⟨t, ht⟩ : ∃ t, t = cSc c 3 := ⟨_, rfl⟩
  unfold dayC dayB dayA at hq
  rw [← ht] at hq ⊢
  -- the fines, the end
  have fin : ∀ (d : Cal), (∀ g2, MRep g2 (setC (finTo d t (cTs d).length) 3 (t + 1)) → Q (wset w r (irow 2047 g2))) → cSc d 3 = t → ∀ gd, MRep gd d → KX6_dayOn G l w (ZV G 0 0 w Q) (wset w r (irow 2047 gd)) 178 [(0, .ref r), (1, .int t)] [] := by
    intro d hq hd3 gd hgd
    have hb2 := hgd.b2
    refine bX6_dayOn_178 ?_
    have key : ∀ i, i ≤ (cTs d).length → ∀ g1, MRep g1 (finTo d t i) → KX6_dayOn G l w (ZV G 0 0 w Q) (wset w r (irow 2047 g1)) 180 [(0, .ref r), (1, .int t), (2, .int (nI i))] [] := by
      refine upto (P := fun i => ∀ g1, MRep g1 (finTo d t i) → KX6_dayOn G l w (ZV G 0 0 w Q) (wset w r (irow 2047 g1)) 180 [(0, .ref r), (1, .int t), (2, .int (nI i))] []) (N := (cTs d).length) (fun g1 hg => ?_) (fun i hi ih g1 hg => ?_)
      · have h3 : cSc (finTo d t (cTs d).length) 3 = t := by rw [finTo_sc _ _ (by decide), hd3]
        refine bX6_dayOn_180 wr_r (vlit rfl) (fun h => bX6_dayOn_222 wr_r (vlit rfl) (vlit rfl) ?_) (fun h => absurd (by rw [hg.n2, finTo_ts]; exact nI_le (Nat.le_refl _) (by omega)) h)
        rw [wset_wset, show (3 : Int32).toNatClampNeg = 3 from rfl, hg.sc 3 (by decide) (by decide), h3]
        exact hq _ (hg.setC (i := 3) (t + 1) (by decide) (by decide))
      · have e2 : 127 + 3 * nI i + 2 = nI (127 + 3 * i + 2) := by rw [show (127 : Int32) = nI 127 from rfl, show (3 : Int32) = nI 3 from rfl, show (2 : Int32) = nI 2 from rfl, nI_mul, nI_add, nI_add]
        have hi1 : i < (cTs (finTo d t i)).length := by rw [finTo_ts]; exact hi
        have hgA : g1 (127 + 3 * i + 2) = tf (tg (cTs d) i) 2 := by rw [← finTo_ts d t i, ← hg.T hi1]; rfl
        have e6 : g1 ((6 : Int32).toNatClampNeg) = cSc (finTo d t i) 6 := hg.sc 6 (by decide) (by decide)
        refine bX6_dayOn_180 wr_r (vlit rfl) (fun h => absurd h (by rw [hg.n2, finTo_ts]; exact nI_ge hi (by omega))) (fun h => ?_)
        have fin2 : ∀ v, v = (if tf (tg (cTs d) i) 2 ≤ t then cSc d 12 else 0) → KX6_dayOn G l w (ZV G 0 0 w Q) (wset w r (irow 2047 g1)) 214 [(0, .ref r), (1, .int t), (2, .int (nI i))] [.int v, .int (cSc (finTo d t i) 6), .int 6, .ref r] := fun v hv => by
          refine bX6_dayOn_214 wr_r (vlit rfl) ?_
          rw [wset_wset, nI_1, show (6 : Int32).toNatClampNeg = 6 from rfl]
          refine ih _ ?_
          show MRep _ (setC (finTo d t i) 6 (cSc (finTo d t i) 6 + (if tf (tg (cTs d) i) 2 ≤ t then cSc d 12 else 0)))
          rw [← hv]
          exact hg.setC (i := 6) _ (by decide) (by decide)
        refine bX6_dayOn_187 wr_r (vlit rfl) (ix_of e2 (by omega) (by omega)) (fun h => ?_) (fun h => ?_)
        · rw [cl_of e2 (by omega), hgA] at h
          rw [e6]
          exact bX6_dayOn_213 (fin2 0 (by rw [if_neg (by rw [i32_le]; rw [i32_lt] at h; omega)]))
        · rw [cl_of e2 (by omega), hgA] at h
          rw [e6]
          refine bX6_dayOn_206 wr_r (vlit rfl) ?_
          rw [show g1 ((12 : Int32).toNatClampNeg) = cSc (finTo d t i) 12 from hg.sc 12 (by decide) (by decide), finTo_sc _ _ (by decide)]
          exact fin2 _ (by rw [if_pos (by rw [i32_le]; rw [i32_lt] at h; omega)])
    exact key 0 (Nat.zero_le _) gd hgd
  -- what is over goes
  have rem : ∀ (d : Cal) (m : Nat), m = ldg (cSs d) t → (∀ g2, MRep g2 (setC (finTo (drpS d m) t (cTs (drpS d m)).length) 3 (t + 1)) → Q (wset w r (irow 2047 g2))) → cSc d 3 = t → ∀ gd, MRep gd d → KX6_dayOn G l w (ZV G 0 0 w Q) (wset w r (irow 2047 gd)) 153 [(0, .ref r), (1, .int t)] [] := by
    intro d m hm hq hd3 gd hgd
    have hle : m ≤ (cSs d).length := by rw [hm]; exact ldg_le _ _
    have hb1 := hgd.b1
    have key : ∀ i, i ≤ m → ∀ g1, MRep g1 (drpS d i) → KX6_dayOn G l w (ZV G 0 0 w Q) (wset w r (irow 2047 g1)) 153 [(0, .ref r), (1, .int t)] [] := by
      refine upto (P := fun i => ∀ g1, MRep g1 (drpS d i) → KX6_dayOn G l w (ZV G 0 0 w Q) (wset w r (irow 2047 g1)) 153 [(0, .ref r), (1, .int t)] []) (N := m) (fun g1 hg => ?_) (fun i hi ih g1 hg => ?_)
      · have hl : (cSs (drpS d m)).length = (cSs d).length - m := List.length_drop ..
        refine bX6_dayOn_153 wr_r (vlit rfl) (fun h => fin (drpS d m) hq hd3 g1 hg) (fun h => ?_)
        rw [hg.n1, hl] at h
        have h0 : 0 < (cSs d).length - m := by
          rcases Nat.eq_zero_or_pos ((cSs d).length - m) with q | q
          · rw [q] at h; exact absurd (by decide) h
          · exact q
        refine bX6_dayOn_159 (c_of (k := 0) (j := 1) wr_r rfl rfl (by decide) (by decide) ?_) (fun _ _ h => h)
        rw [hg.S (by rw [hl]; exact h0)]
        refine bX6_dayOn_165 (fun h => fin (drpS d m) hq hd3 g1 hg) (fun h => ?_)
        exfalso
        have : sg (cSs (drpS d m)) 0 = sg (cSs d) m := sg_drop _ _ _
        rw [this, hm] at h
        exact ldg_out _ _ (by omega) h
      · have hl : (cSs (drpS d i)).length = (cSs d).length - i := List.length_drop ..
        have h0 : 0 < (cSs (drpS d i)).length := by omega
        refine bX6_dayOn_153 wr_r (vlit rfl) (fun h => absurd h (by rw [hg.n1]; exact nI_nle h0 (by omega))) (fun h => ?_)
        refine bX6_dayOn_159 (c_of (k := 0) (j := 1) wr_r rfl rfl (by decide) (by decide) ?_) (fun _ _ h => h)
        rw [hg.S h0]
        have e : sg (cSs (drpS d i)) 0 = sg (cSs d) i := sg_drop _ _ _
        refine bX6_dayOn_165 (fun h => absurd (by rw [e]; exact ldg_in _ _ (by omega)) h) (fun h => ?_)
        refine bX6_dayOn_169 (c_removeOn (i := 0) wr_r hg rfl h0 (fun g2 hg2 => ?_)) (fun _ _ h => h)
        rw [wset_wset]
        rw [drpS_1] at hg2
        exact bX6_dayOn_174 (ih g2 hg2)
    exact key 0 (Nat.zero_le _) gd hgd
  -- typing
  have typ9 : ∀ (d : Cal), (∀ g2, MRep g2 (setC (finTo (drpS (typAl d t (cPs d).length) (ldg (cSs c) t)) t (cTs (drpS (typAl d t (cPs d).length) (ldg (cSs c) t))).length) 3 (t + 1)) → Q (wset w r (irow 2047 g2))) → cSs d = cSs c → (∀ n, cSc (typAl d t n) 3 = t) → ∀ gd, MRep gd d → KX6_dayOn G l w (ZV G 0 0 w Q) (wset w r (irow 2047 gd)) 102 [(0, .ref r), (1, .int t)] [] := by
    intro d hq hss hd3 gd hgd
    have hb0 := hgd.b0
    refine bX6_dayOn_102 ?_
    have key : ∀ i, i ≤ (cPs d).length → ∀ g1, MRep g1 (typAl d t i) → KX6_dayOn G l w (ZV G 0 0 w Q) (wset w r (irow 2047 g1)) 104 [(0, .ref r), (1, .int t), (2, .int (nI i))] [] := by
      refine upto (P := fun i => ∀ g1, MRep g1 (typAl d t i) → KX6_dayOn G l w (ZV G 0 0 w Q) (wset w r (irow 2047 g1)) 104 [(0, .ref r), (1, .int t), (2, .int (nI i))] []) (N := (cPs d).length) (fun g1 hg => ?_) (fun i hi ih g1 hg => ?_)
      · exact bX6_dayOn_104 wr_r (vlit rfl) (fun h => rem _ (ldg (cSs c) t) (by rw [typAl_ss, hss]) hq (hd3 _) g1 hg) (fun h => absurd (by rw [hg.n0, typAl_ps]; exact nI_le (Nat.le_refl _) (by omega)) h)
      · have hi1 : i < (cPs (typAl d t i)).length := by rw [typAl_ps]; exact hi
        refine bX6_dayOn_104 wr_r (vlit rfl) (fun h => absurd h (by rw [hg.n0, typAl_ps]; exact nI_ge hi (by omega))) (fun h => ?_)
        refine bX6_dayOn_111 (c_leaveOf wr_r rfl (by omega) ?_) (fun _ _ h => h)
        rw [hg.P hi1, typAl_ps]
        refine bX6_dayOn_117 (fun h => bX6_dayOn_147 ?_) (fun h => ?_)
        · rw [nI_1]
          rw [show typAl d t (i + 1) = typAl d t i from if_pos h] at ih
          exact ih g1 hg
        · rw [show typAl d t (i + 1) = typ (typAl d t i) (nI i) ((16 - cnt (bz (cSs d) (nI i) t (-1))) * tf (pg (cPs d) i) 0) from if_neg h] at ih
          refine bX6_dayOn_120 (c_slots wr_r hg ?_) (fun _ _ h => h)
          refine bX6_dayOn_131 (c_count ?_) (fun _ _ h => h)
          have e0 : 13 + 3 * nI i = nI (13 + 3 * i) := by rw [show (13 : Int32) = nI 13 from rfl, show (3 : Int32) = nI 3 from rfl, nI_mul, nI_add]
          have hgA : g1 ((13 + 3 * nI i).toNatClampNeg) = tf (pg (cPs d) i) 0 := by rw [cl_of e0 (by omega), ← typAl_ps d t i, ← hg.P hi1]; rfl
          refine bX6_dayOn_134 wr_r (ix_of e0 (by omega) (by omega)) (c_type wr_r hg (fun g2 hg2 => ?_)) (fun _ h => h)
          rw [wset_wset]
          rw [hgA, typAl_ss] at hg2
          refine bX6_dayOn_147 ?_
          rw [nI_1]
          exact ih g2 hg2
    exact key 0 (Nat.zero_le _) gd hgd
  -- the sessions of today
  have hld : ∀ gd, MRep gd (payTo c t (cPs c).length) → KX6_dayOn G l w (ZV G 0 0 w Q) (wset w r (irow 2047 gd)) 34 [(0, .ref r), (1, .int t)] [] := by
    intro gd hgd
    obtain ⟨d, hd⟩ : ∃ d, d = payTo c t (cPs c).length := ⟨_, rfl⟩
    have hss : cSs d = cSs c := by rw [hd, payTo_ss]
    have hps : (cPs d).length = (cPs c).length := by rw [hd, payTo_len]
    have hd3 : cSc d 3 = t := by rw [hd, payTo_sc _ _ (by decide), ht]
    rw [← hd] at hq hgd
    refine bX6_dayOn_34 ?_
    have nxt : ∀ g1, MRep g1 (hldTo d (ldg (cSs c) t)) → KX6_dayOn G l w (ZV G 0 0 w Q) (wset w r (irow 2047 g1)) 102 [(0, .ref r), (1, .int t)] [] := fun g1 hg => by
      refine typ9 (hldTo d (ldg (cSs c) t)) ?_ (by rw [hldTo_ss, hss]) (fun n => by rw [typAl_sc _ _ (by decide) (by decide), hldTo_sc _ (by decide), hd3]) g1 hg
      rw [hldTo_ps, hps]
      exact hq
    have key : ∀ i, i ≤ ldg (cSs c) t → ∀ g1, MRep g1 (hldTo d i) → KX6_dayOn G l w (ZV G 0 0 w Q) (wset w r (irow 2047 g1)) 36 [(0, .ref r), (1, .int t), (2, .int (nI i))] [] := by
      have hle := ldg_le (cSs c) t
      refine upto (P := fun i => ∀ g1, MRep g1 (hldTo d i) → KX6_dayOn G l w (ZV G 0 0 w Q) (wset w r (irow 2047 g1)) 36 [(0, .ref r), (1, .int t), (2, .int (nI i))] []) (N := ldg (cSs c) t) (fun g1 hg => ?_) (fun i hi ih g1 hg => ?_)
      · refine bX6_dayOn_36 wr_r (vlit rfl) (fun _ => nxt g1 hg) (fun h => ?_)
        rw [hg.n1, hldTo_ss, hss] at h
        have hlt : ldg (cSs c) t < (cSs c).length := by
          rcases Nat.lt_or_ge (ldg (cSs c) t) (cSs c).length with q | q
          · exact q
          · exact absurd (nI_le q (by omega)) h
        refine bX6_dayOn_43 (c_of (j := 1) wr_r rfl rfl (by omega) (by decide) ?_) (fun _ _ h => h)
        rw [hg.S (by rw [hldTo_ss, hss]; exact hlt), hldTo_ss, hss]
        exact bX6_dayOn_49 (fun _ => nxt g1 hg) (fun h => absurd h (ldg_out _ _ hlt))
      · have hi0 : i < (cSs c).length := by omega
        have hi1 : i < (cSs (hldTo d i)).length := by rw [hldTo_ss, hss]; exact hi0
        have hS : gS g1 i = sg (cSs c) i := by rw [hg.S hi1, hldTo_ss, hss]
        refine bX6_dayOn_36 wr_r (vlit rfl) (fun h => absurd h (by rw [hg.n1, hldTo_ss, hss]; exact nI_ge hi0 (by omega))) (fun h => ?_)
        refine bX6_dayOn_43 (c_of (j := 1) wr_r rfl rfl (by omega) (by decide) ?_) (fun _ _ h => h)
        rw [hS]
        refine bX6_dayOn_49 (fun h => absurd (ldg_in _ _ hi) h) (fun _ => ?_)
        refine bX6_dayOn_53 (c_of (j := 5) wr_r rfl rfl (by omega) (by decide) ?_) (fun _ _ h => h)
        rw [hS]
        have e : hldTo d (i + 1) = if sf (sg (cSs c) i) 5 = -1 then setC (hldTo d i) 4 (cSc (hldTo d i) 4 + 1) else addT (hldTo d i) (sf (sg (cSs c) i) 5) (sf (sg (cSs c) i) 3 * sf (sg (cSs c) i) 4) := by
          show (if sf (sg (cSs d) i) 5 = -1 then _ else addT _ (sf (sg (cSs d) i) 5) (sf (sg (cSs d) i) 3 * sf (sg (cSs d) i) 4)) = _
          rw [hss]
        rw [e] at ih
        refine bX6_dayOn_59 (fun h => ?_) (fun h => ?_)
        · rw [if_neg h] at ih
          refine bX6_dayOn_73 (c_of (j := 5) wr_r rfl rfl (by omega) (by decide) ?_) (fun _ _ h => h)
          refine bX6_dayOn_80 (c_of (j := 3) wr_r rfl rfl (by omega) (by decide) ?_) (fun _ _ h => h)
          refine bX6_dayOn_86 (c_of (j := 4) wr_r rfl rfl (by omega) (by decide) ?_) (fun _ _ h => h)
          rw [hS]
          refine bX6_dayOn_92 (c_putScript wr_r hg (fun g2 hg2 => ?_)) (fun _ h => h)
          rw [wset_wset]
          refine bX6_dayOn_96 ?_
          rw [nI_1]
          exact ih g2 hg2
        · rw [if_pos h] at ih
          refine bX6_dayOn_63 wr_r (vlit rfl) (vlit rfl) ?_
          rw [wset_wset, show (4 : Int32).toNatClampNeg = 4 from rfl, hg.sc 4 (by decide) (by decide)]
          refine bX6_dayOn_96 ?_
          rw [nI_1]
          exact ih _ (hg.setC (i := 4) _ (by decide) (by decide))
    exact key 0 (Nat.zero_le _) gd hgd
  -- pay
  have key : ∀ i, i ≤ (cPs c).length → ∀ g1, MRep g1 (payTo c t i) → KX6_dayOn G l w (ZV G 0 0 w Q) (wset w r (irow 2047 g1)) 6 [(0, .ref r), (1, .int t), (2, .int (nI i))] [] := by
    refine upto (P := fun i => ∀ g1, MRep g1 (payTo c t i) → KX6_dayOn G l w (ZV G 0 0 w Q) (wset w r (irow 2047 g1)) 6 [(0, .ref r), (1, .int t), (2, .int (nI i))] []) (N := (cPs c).length) (fun g1 hg => ?_) (fun i hi ih g1 hg => ?_)
    · exact bX6_dayOn_6 wr_r (vlit rfl) (fun h => hld g1 hg) (fun h => absurd (by rw [hg.n0, payTo_len]; exact nI_le (Nat.le_refl _) (by omega)) h)
    · refine bX6_dayOn_6 wr_r (vlit rfl) (fun h => absurd h (by rw [hg.n0, payTo_len]; exact nI_ge hi (by omega))) (fun h => ?_)
      refine bX6_dayOn_13 (c_slots wr_r hg ?_) (fun _ _ h => h)
      refine bX6_dayOn_22 (c_count ?_) (fun _ _ h => h)
      refine bX6_dayOn_25 (c_payFor wr_r hg rfl (by rw [payTo_len]; exact hi) (fun g2 hg2 => ?_)) (fun _ h => h)
      rw [wset_wset]
      rw [payTo_ss] at hg2
      refine bX6_dayOn_28 ?_
      rw [nI_1]
      exact ih g2 hg2
  have := key 0 (Nat.zero_le _) g hc
  rw [wset_self w r _ hr] at this
  exact this
theorem c_runOn {n : Nat} {x1 : Int32} {Q : Int32 → Wd → Prop} (hr : w r = some (irow 2047 g)) (hc : MRep g c) (h1 : x1 = nI n) (hn : n < 2 ^ 31) (hq : ∀ g2, MRep g2 (runTo c n) → Q (cSc (runTo c n) 6 - cSc c 6) (wset w r (irow 2047 g2))) : CX6_runOn G l [.ref r, .int x1] w Q := by
  subst h1
  refine sX6_runOn (bX6_runOn_0 hr (vlit rfl) ?_)
  rw [show g ((6 : Int32).toNatClampNeg) = cSc c 6 from hc.sc 6 (by decide) (by decide)]
  have key : ∀ i, i ≤ n → ∀ g1, MRep g1 (runTo c i) → KX6_runOn G l w (ZI G 0 0 w Q) (wset w r (irow 2047 g1)) 7 [(0, .ref r), (1, .int (nI n)), (2, .int (cSc c 6)), (3, .int (nI i))] [] := by
    refine upto (P := fun i => ∀ g1, MRep g1 (runTo c i) → KX6_runOn G l w (ZI G 0 0 w Q) (wset w r (irow 2047 g1)) 7 [(0, .ref r), (1, .int (nI n)), (2, .int (cSc c 6)), (3, .int (nI i))] []) (N := n) (fun g1 hg => ?_) (fun i hi ih g1 hg => ?_)
    · refine bX6_runOn_7 (fun h => bX6_runOn_22 wr_r (vlit rfl) ?_) (fun h => absurd (nI_le (Nat.le_refl _) hn) h)
      rw [show g1 ((6 : Int32).toNatClampNeg) = cSc (runTo c n) 6 from hg.sc 6 (by decide) (by decide)]
      exact hq g1 hg
    · refine bX6_runOn_7 (fun h => absurd h (nI_ge hi hn)) (fun h => ?_)
      refine bX6_runOn_12 (c_dayOn wr_r hg (fun g2 hg2 => ?_)) (fun _ h => h)
      rw [wset_wset]
      refine bX6_runOn_16 ?_
      rw [nI_1]
      exact ih g2 hg2
  have := key 0 (Nat.zero_le _) g hc
  rw [wset_self w r _ hr] at this
  exact this
end M6
