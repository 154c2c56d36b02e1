/-! A CALENDAR IS COPIED -/
theorem DeskIn.mono {w fr : Wd} {D : Nat → Nat} {ts : List Tr} {L : Nat} (h : DeskIn fr D ts L) (hm : ∀ i e, i < 4 → fr (D i) = some e → w (D i) = some e) : DeskIn w D ts L := by
  obtain ⟨e0, ⟨g1, e1, c1⟩, ⟨g2, e2, c2⟩, ⟨g3, e3, c3⟩, b⟩ := h
  exact ⟨hm 0 _ (by decide) e0, ⟨g1, hm 1 _ (by decide) e1, c1⟩, ⟨g2, hm 2 _ (by decide) e2, c2⟩, ⟨g3, hm 3 _ (by decide) e3, c3⟩, b⟩
theorem DeskIn.ex {w : Wd} {D : Nat → Nat} {ts : List Tr} {L i : Nat} (h : DeskIn w D ts L) (hi : i < 4) : ∃ e, w (D i) = some e := by
  obtain ⟨e0, ⟨g1, e1, c1⟩, ⟨g2, e2, c2⟩, ⟨g3, e3, c3⟩, b⟩ := h
  have hi4 : i = 0 ∨ i = 1 ∨ i = 2 ∨ i = 3 := by omega
  rcases hi4 with rfl | rfl | rfl | rfl
  · exact ⟨_, e0⟩
  · exact ⟨_, e1⟩
  · exact ⟨_, e2⟩
  · exact ⟨_, e3⟩
theorem CalIn.ex {w : Wd} {A : Nat → Nat} {c : Cal} {L i : Nat} (h : CalIn w A c L) (hi : i < 26) : ∃ e, w (A i) = some e := by
  by_cases q : i < 6
  · have hi6 : i = 0 ∨ i = 1 ∨ i = 2 ∨ i = 3 ∨ i = 4 ∨ i = 5 := by omega
    rcases hi6 with rfl | rfl | rfl | rfl | rfl | rfl
    · exact ⟨_, h.o⟩
    · obtain ⟨g, e, -⟩ := h.r1; exact ⟨_, e⟩
    · obtain ⟨g, e, -⟩ := h.r2; exact ⟨_, e⟩
    · obtain ⟨g, e, -⟩ := h.r3; exact ⟨_, e⟩
    · obtain ⟨g, e, -⟩ := h.st; exact ⟨_, e⟩
    · obtain ⟨g, e, -⟩ := h.sa; exact ⟨_, e⟩
  · by_cases q2 : i < 10
    · obtain ⟨e, he⟩ := h.dk.ex (i := i - 6) (by omega)
      exact ⟨e, by have : dA A (i - 6) = A i := by show A (6 + (i - 6)) = A i; congr 1; omega
                   rw [this] at he; exact he⟩
    · obtain ⟨s, e, -⟩ := h.sp (k := i - 10) (by omega)
      exact ⟨_, by rw [show 10 + (i - 10) = i by omega] at e; exact e⟩
theorem CalIn.mono {w fr : Wd} {A : Nat → Nat} {c : Cal} {L : Nat} (h : CalIn fr A c L) (hm : ∀ q e, fr q = some e → w q = some e) : CalIn w A c L := h.cgr (fun i hi => by
  obtain ⟨e, he⟩ := h.ex hi
  rw [he, hm _ _ he])
section CP
variable {G : GG} {l : Launch} {fr w : Wd} {A B : Nat → Nat} {c d : Cal} {L M : Nat} {mc ms : Nat}
/-- some list of stenographers that the rows hold -/
theorem CalW.staff (h : CalW fr A c L w) {n : Nat} (hn : n ≤ 6) : ∃ ps : List Pn, ps.length = n ∧ CalW fr A (c.1, ps, c.2.2) L (wset w (A 0) (.inl (0, calF A (c.1, ps, c.2.2)))) := by
  obtain ⟨g1, e1, -⟩ := h.i.r1
  obtain ⟨g2, e2, -⟩ := h.i.r2
  obtain ⟨g3, e3, -⟩ := h.i.r3
  have hl : ((List.range n).map (fun i => ((g1 i, g2 i, g3 i) : Pn))).length = n := by simp
  have hp : ∀ i, i < n → pg ((List.range n).map (fun i => ((g1 i, g2 i, g3 i) : Pn))) i = (g1 i, g2 i, g3 i) := fun i hi => by
    rw [pg_get (by omega)]; simp
  refine ⟨_, hl, h.stf _ (by omega) (fun g hg i hi => ?_) (fun g hg i hi => ?_) (fun g hg i hi => ?_)⟩
  · rw [hp i (by omega), irow_inj hg e1]; rfl
  · rw [hp i (by omega), irow_inj hg e2]; rfl
  · rw [hp i (by omega), irow_inj hg e3]; rfl
/-- some list of sessions that the objects hold -/
theorem CalW.count (h : CalW fr A c L w) {n : Nat} (hn : n ≤ 16) : ∃ ss : List Ss, ss.length = n ∧ CalW fr A (wSs c ss) L (wset w (A 0) (.inl (0, calF A (wSs c ss)))) := by
  have hS : ∃ S : Nat → Ss, ∀ k, k < 16 → w (A (10 + k)) = some (.inl (2, sesF (S k))) := ⟨fun k => if hk : k < 16 then (h.i.sp hk).choose else dS, fun k hk => by
    show w (A (10 + k)) = some (.inl (2, sesF (if hk : k < 16 then (h.i.sp hk).choose else dS)))
    rw [dif_pos hk]; exact (h.i.sp hk).choose_spec.1⟩
  obtain ⟨S, hS⟩ := hS
  have hl : ((List.range n).map S).length = n := by simp
  refine ⟨_, hl, h.cnt _ (by omega) (fun k hk => ?_)⟩
  rw [sg_get hk]
  rw [hl] at hk
  rw [hS k (by omega)]
  simp
theorem pg_ext {a b : List Pn} (hl : a.length = b.length) (h : ∀ i, i < a.length → pg a i = pg b i) : a = b := tg_ext hl h
theorem sg_ext {a b : List Ss} (hl : a.length = b.length) (h : ∀ i, i < a.length → sg a i = sg b i) : a = b := by
  apply List.ext_getElem hl
  intro i h1 h2
  have := h i h1
  rw [sg_get h1, sg_get h2] at this
  exact this
theorem setP_pg {c : Cal} (i m : Nat) (v : Int32) (j : Nat) : pg (cPs (setP c i m v)) j = if j = i ∧ i < (cPs c).length then tfset (pg (cPs c) i) m v else pg (cPs c) j := by
  show pg ((cPs c).set i _) j = _
  by_cases hi2 : i < (cPs c).length
  · rw [pg_set _ _ _ _ hi2]
    by_cases q : j = i
    · rw [if_pos q, if_pos ⟨q, hi2⟩]
    · rw [if_neg q, if_neg (fun z => q z.1)]
  · rw [List.set_eq_of_length_le (by omega), if_neg (fun z => hi2 z.2)]
theorem setP_len (c : Cal) (i m : Nat) (v : Int32) : (cPs (setP c i m v)).length = (cPs c).length := List.length_set
theorem setP3 {c : Cal} {i : Nat} {a b e : Int32} {j : Nat} : pg (cPs (setP (setP (setP c i 0 a) i 1 b) i 2 e)) j = if j = i ∧ i < (cPs c).length then (a, b, e) else pg (cPs c) j := by
  by_cases q : j = i ∧ i < (cPs c).length
  · rw [if_pos q, setP_pg, setP_len, setP_len, if_pos q, setP_pg, setP_len, if_pos ⟨rfl, q.2⟩, setP_pg, if_pos ⟨rfl, q.2⟩]
    rfl
  · rw [if_neg q, setP_pg, setP_len, setP_len, if_neg q, setP_pg, setP_len, if_neg q, setP_pg, if_neg q]
theorem c_copyFrom {Q : Wd → Prop} (h : CalW fr A c L w) (ho : CalIn fr B d M) (hc : pC L ≤ mc + pC (grw L (cTs d).length)) (hs : pS L ≤ ms + pS (grw L (cTs d).length)) (hq : ∀ A' w2, A' 0 = A 0 → CalW fr A' d (grw L (cTs d).length) w2 → Q w2) : CX0_copyFrom G l mc ms [.ref (A 0), .ref (B 0)] w Q := by
  have nb : ∀ {i j : Nat}, i < 26 → j < 26 → B i ≠ A j := fun hi hj => by obtain ⟨e, he⟩ := ho.ex hi; exact fr_ne he (h.n hj)
  have oo : ∀ {w1 : Wd}, (∀ q e, fr q = some e → w1 q = some e) → CalIn w1 B d M := fun hm => ho.mono hm
  -- today, staff
  have k1 := h.scal (upd (cSc c) 3 (cSc d 3)) (fun i hi => upd_ne _ _ (by omega))
  obtain ⟨ps, hpl, k2⟩ := k1.staff (n := (cPs d).length) ho.b0
  refine sX0_copyFrom (bX0_copyFrom_0 (h.f ho.o) rfl h.i.o (cal_l (by decide)) (f4 := calF A (upd (cSc c) 3 (cSc d 3), c.2)) rfl (wn (nb (by decide) (by decide)) (h.f ho.o)) rfl (lt_n (n := 13) (by decide)) (f7 := calF A (upd (cSc c) 3 (cSc d 3), ps, c.2.2)) ?_ ?_)
  · show _ = [_, Value.int (nI ps.length), _, _, _, _, _, _, _, _, _, _, _]
    rw [hpl]; rfl
  have s3 : cSc (upd (cSc c) 3 (cSc d 3), ps, c.2.2) 3 = cSc d 3 := by show upd (cSc c) 3 (cSc d 3) 3 = _; exact upd_eq _ _ _
  have hpl2 : (cPs (upd (cSc c) 3 (cSc d 3), ps, c.2.2)).length = (cPs d).length := hpl
  -- the end
  have fin : ∀ (A2 : Nat → Nat) (c1 : Cal) (w1 : Wd) (kc ks : Nat), kc ≤ mc → ks ≤ ms → A2 0 = A 0 → CalW fr A2 c1 (grw L (cTs d).length) w1 → cSc c1 3 = cSc d 3 → (∀ i, i < 4 → cSc c1 (9 + i) = cSc d (9 + i)) → c1.2 = d.2 → KX0_copyFrom G l mc ms w (ZV G mc ms w Q) w1 141 [(0, .ref (A 0)), (1, .ref (B 0))] [] kc ks := by
    intro A2 c1 w1 kc ks hkc hks hA2 hw e3 e9 e2
    have nb0 : B 0 ≠ A2 0 := by rw [hA2]; exact nb (by decide) (by decide)
    rw [← hA2] at hq ⊢
    have k := hw.scal d.1 (fun i hi => (e9 i hi).symm)
    have ed : (d.1, c1.2) = d := by rw [e2]
    rw [ed] at k
    obtain ⟨f1, p1, s1, t1⟩ := c1
    obtain ⟨f2, p2, s2, t2⟩ := d
    have e2 : (p1, s1, t1) = (p2, s2, t2) := e2
    injection e2 with ea eb
    injection eb with eb ec
    subst ea eb ec
    have e3 : f1 3 = f2 3 := e3
    have bo := hw.f ho.o
    refine bX0_copyFrom_141 bo rfl hw.i.o (lt_n (n := 13) (by decide)) rfl (wn nb0 bo) rfl (lt_n (n := 13) (by decide)) rfl (wn nb0 (wn nb0 bo)) rfl (lt_n (n := 13) (by decide)) rfl (wn nb0 (wn nb0 (wn nb0 bo))) rfl (lt_n (n := 13) (by decide)) (f13 := calF A2 (f2, p1, s1, t1)) ?_ ?_ hkc hks
    · show [Value.int (f1 3), _, _, _, _, _, _, _, _, _, _, _, _] = [Value.int (f2 3), _, _, _, _, _, _, _, _, _, _, _, _]
      rw [e3]; rfl
    · rw [wset_wset, wset_wset, wset_wset]
      exact hq A2 _ rfl k
  -- desks
  have dsk9 : ∀ (c1 : Cal) (w1 : Wd), CalW fr A c1 L w1 → cSc c1 3 = cSc d 3 → (∀ i, i < 4 → cSc c1 (9 + i) = cSc d (9 + i)) → cPs c1 = cPs d → cSs c1 = cSs d → KX0_copyFrom G l mc ms w (ZV G mc ms w Q) w1 130 [(0, .ref (A 0)), (1, .ref (B 0))] [] 0 0 := by
    intro c1 w1 hw e3 e9 ep es
    have hdk := hw.dk
    refine bX0_copyFrom_130 hw.i.o rfl (hw.f ho.o) rfl hdk.i.1 (mcq := mc) (msq := ms) (c_dcopy (E := dA B) (us := cTs d) (M := M) (Q := fun w2 => ∃ D', D' 0 = A 6 ∧ DeskW (cutD w1 (dA A)) D' (cTs d) (grw L (cTs d).length) w2) hdk ?_ hc hs (fun D' w2 h1 h2 => ⟨D', h1, h2⟩)) (by omega) (by omega) (fun w2 hw2 => ?_)
    · refine ho.dk.mono (fun i e hi he => ?_)
      rw [cutD_out (fun j hj => nb (by omega) (by omega))]
      exact hw.f he
    · obtain ⟨D', hD, hw2⟩ := hw2
      have k := hw.dkb hw2 hD
      refine fin (dB A D') _ _ _ _ (by omega) (by omega) rfl k e3 e9 ?_
      show (c1.2.1, c1.2.2.1, cTs d) = d.2
      have ep : c1.2.1 = d.2.1 := ep
      have es : c1.2.2.1 = d.2.2.1 := es
      rw [ep, es]; rfl
  -- sessions
  have ses9 : ∀ k, k ≤ (cSs d).length → ∀ (c1 : Cal) (w1 : Wd), CalW fr A c1 L w1 → cSc c1 3 = cSc d 3 → (∀ i, i < 4 → cSc c1 (9 + i) = cSc d (9 + i)) → cPs c1 = cPs d → (cSs c1).length = (cSs d).length → (∀ j, j < k → sg (cSs c1) j = sg (cSs d) j) → KX0_copyFrom G l mc ms w (ZV G mc ms w Q) w1 101 [(0, .ref (A 0)), (1, .ref (B 0)), (2, .int (nI k))] [] 0 0 := by
    have b1 := ho.b1
    refine upto (P := fun k => ∀ (c1 : Cal) (w1 : Wd), CalW fr A c1 L w1 → cSc c1 3 = cSc d 3 → (∀ i, i < 4 → cSc c1 (9 + i) = cSc d (9 + i)) → cPs c1 = cPs d → (cSs c1).length = (cSs d).length → (∀ j, j < k → sg (cSs c1) j = sg (cSs d) j) → KX0_copyFrom G l mc ms w (ZV G mc ms w Q) w1 101 [(0, .ref (A 0)), (1, .ref (B 0)), (2, .int (nI k))] [] 0 0) (N := (cSs d).length) (fun c1 w1 hw e3 e9 ep el es => ?_) (fun k hk ih c1 w1 hw e3 e9 ep el es => ?_)
    · refine bX0_copyFrom_101 hw.i.o rfl (fun _ => dsk9 c1 w1 hw e3 e9 ep (sg_ext el (fun i hi => es i (by omega)))) (fun z => absurd (by rw [el]; exact nI_le (Nat.le_refl _) (by omega)) z)
    · refine bX0_copyFrom_101 hw.i.o rfl (fun z => absurd z (by rw [el]; exact nI_ge hk (by omega))) (fun _ => ?_)
      have hoW := oo (fun q e hq => hw.f hq)
      obtain ⟨g, eg, hg⟩ := hw.i.sa
      obtain ⟨g2, eg2, hg2⟩ := hoW.sa
      have e4 : g (nI k).toNatClampNeg = some (A (10 + k)) := by rw [nI_clamp (by omega)]; exact hg k (by omega)
      have e8 : g2 (nI k).toNatClampNeg = some (B (10 + k)) := by rw [nI_clamp (by omega)]; exact hg2 k (by omega)
      have hs2 := hw.sess (k := k) (by omega) (sg (cSs d) k)
      refine bX0_copyFrom_109 hw.i.o rfl eg (ix_of rfl (by omega) (by decide)) e4 hoW.o rfl eg2 (ix_of rfl (by omega) (by decide)) e8 (hw.i.se (by omega)) (c_scopy (Q := fun w2 => wset w1 (A (10 + k)) (.inl (2, sesF (sg (cSs d) k))) = w2) (hw.i.se (by omega)) (hoW.se hk) (nb (by omega) (by omega)) rfl) (by omega) (by omega) (fun w2 hw2 => ?_)
      subst hw2
      refine bX0_copyFrom_124 ?_
      rw [nI_1]
      refine ih _ _ hs2 e3 e9 ep (by show ((cSs c1).set k _).length = _; rw [List.length_set]; exact el) (fun j hj => ?_)
      show sg ((cSs c1).set k _) j = _
      rw [sg_set _ _ _ _ (by omega)]
      by_cases q : j = k
      · subst q; rw [if_pos rfl]
      · rw [if_neg q]; exact es j (by omega)
  -- settings
  have stg9 : ∀ i, i ≤ 4 → ∀ (c1 : Cal) (w1 : Wd), CalW fr A c1 L w1 → cSc c1 3 = cSc d 3 → (∀ j, j < i → cSc c1 (9 + j) = cSc d (9 + j)) → cPs c1 = cPs d → KX0_copyFrom G l mc ms w (ZV G mc ms w Q) w1 68 [(0, .ref (A 0)), (1, .ref (B 0)), (2, .int (nI i))] [] 0 0 := by
    refine upto (P := fun i => ∀ (c1 : Cal) (w1 : Wd), CalW fr A c1 L w1 → cSc c1 3 = cSc d 3 → (∀ j, j < i → cSc c1 (9 + j) = cSc d (9 + j)) → cPs c1 = cPs d → KX0_copyFrom G l mc ms w (ZV G mc ms w Q) w1 68 [(0, .ref (A 0)), (1, .ref (B 0)), (2, .int (nI i))] [] 0 0) (N := 4) (fun c1 w1 hw e3 e9 ep => ?_) (fun i hi ih c1 w1 hw e3 e9 ep => ?_)
    · refine bX0_copyFrom_68 (fun _ => ?_) (fun z => absurd (by decide) z)
      obtain ⟨ss, hsl, k⟩ := hw.count (n := (cSs d).length) ho.b1
      refine bX0_copyFrom_91 (hw.f ho.o) rfl hw.i.o (lt_n (n := 13) (by decide)) (f4 := calF A (wSs c1 ss)) ?_ ?_
      · show _ = [_, _, _, _, _, _, Value.int (nI ss.length), _, _, _, _, _, _]
        rw [hsl]; rfl
      · exact ses9 0 (Nat.zero_le _) _ _ k e3 e9 ep hsl (fun j hj => absurd hj (Nat.not_lt_zero _))
    · refine bX0_copyFrom_68 (fun z => absurd z (nI_ge (b := 4) hi (by decide))) (fun _ => ?_)
      have hoW := oo (fun q e hq => hw.f hq)
      obtain ⟨g, eg, hg⟩ := hw.i.st
      obtain ⟨g2, eg2, hg2⟩ := hoW.st
      have ec : (nI i).toNatClampNeg = i := nI_clamp (by omega)
      have k := hw.stg hi eg (g2 i)
      refine bX0_copyFrom_73 hw.i.o rfl hoW.o rfl eg2 (ix_of rfl (by omega) (by decide)) eg (ix_of rfl (by omega) (by decide)) ?_
      rw [ec, nI_1]
      refine ih _ _ k (by show upd (cSc c1) (9 + i) _ 3 = _; rw [upd_ne _ _ (by omega)]; exact e3) (fun j hj => ?_) ep
      show upd (cSc c1) (9 + i) _ (9 + j) = _
      by_cases q : j = i
      · subst q; rw [upd_eq]; exact hg2 j hi
      · rw [upd_ne _ _ (by omega)]; exact e9 j (by omega)
  -- people
  have per9 : ∀ i, i ≤ 6 → ∀ (c1 : Cal) (w1 : Wd), CalW fr A c1 L w1 → cSc c1 3 = cSc d 3 → (cPs c1).length = (cPs d).length → (∀ j, j < i → j < (cPs d).length → pg (cPs c1) j = pg (cPs d) j) → KX0_copyFrom G l mc ms w (ZV G mc ms w Q) w1 18 [(0, .ref (A 0)), (1, .ref (B 0)), (2, .int (nI i))] [] 0 0 := by
    have b0 := ho.b0
    refine upto (P := fun i => ∀ (c1 : Cal) (w1 : Wd), CalW fr A c1 L w1 → cSc c1 3 = cSc d 3 → (cPs c1).length = (cPs d).length → (∀ j, j < i → j < (cPs d).length → pg (cPs c1) j = pg (cPs d) j) → KX0_copyFrom G l mc ms w (ZV G mc ms w Q) w1 18 [(0, .ref (A 0)), (1, .ref (B 0)), (2, .int (nI i))] [] 0 0) (N := 6) (fun c1 w1 hw e3 el ep => ?_) (fun i hi ih c1 w1 hw e3 el ep => ?_)
    · refine bX0_copyFrom_18 (fun _ => bX0_copyFrom_66 ?_) (fun z => absurd (by decide) z)
      exact stg9 0 (Nat.zero_le _) c1 w1 hw e3 (fun j hj => absurd hj (Nat.not_lt_zero _)) (pg_ext el (fun i hi => ep i (by omega) (by omega)))
    · refine bX0_copyFrom_18 (fun z => absurd z (nI_ge (b := 6) hi (by decide))) (fun _ => ?_)
      have ec : (nI i).toNatClampNeg = i := nI_clamp (by omega)
      have ix : vp_in (nI i) 6 := ix_of rfl hi (by decide)
      have hoW := oo (fun q e hq => hw.f hq)
      obtain ⟨o1, q1, d1⟩ := hoW.r1
      obtain ⟨o2, q2, d2⟩ := hoW.r2
      obtain ⟨o3, q3, d3⟩ := hoW.r3
      obtain ⟨g1, e1, c1'⟩ := hw.i.r1
      have k1 := hw.per (m := 0) (i := i) (by decide) hi e1 (o1 i)
      obtain ⟨g2, e2, c2⟩ := k1.i.r2
      have k2 := k1.per (m := 1) (i := i) (by decide) hi e2 (o2 i)
      obtain ⟨g3, e3', c3⟩ := k2.i.r3
      have k3 := k2.per (m := 2) (i := i) (by decide) hi e3' (o3 i)
      have n1 : ∀ {j : Nat} {e : PE} {w1 : Wd} {x : PE} (m : Nat), j < 26 → m < 26 → w1 (B j) = some x → wset w1 (A m) e (B j) = some x := fun m hj hm hx => wn (nb hj hm) hx
      refine bX0_copyFrom_24 hw.i.o rfl hoW.o rfl q1 ix e1 ix (by rw [ec]; exact k1.i.o) rfl (n1 1 (by decide) (by decide) hoW.o) rfl (n1 1 (by decide) (by decide) q2) ix (by rw [ec]; exact e2) ix (by rw [ec]; exact k2.i.o) rfl
        (n1 2 (by decide) (by decide) (n1 1 (by decide) (by decide) hoW.o)) rfl (n1 2 (by decide) (by decide) (n1 1 (by decide) (by decide) q3)) ix (by rw [ec]; exact e3') ix ?_
      rw [ec, nI_1]
      refine ih _ _ k3 e3 (by rw [setP_len, setP_len, setP_len]; exact el) (fun j hj hj2 => ?_)
      rw [setP3]
      by_cases q : j = i
      · subst q
        rw [if_pos ⟨rfl, by omega⟩, d1 j hj2, d2 j hj2, d3 j hj2]
        rfl
      · rw [if_neg (fun z => q z.1)]
        exact ep j (by omega) hj2
  rw [wset_wset]
  rw [wset_wset] at k2
  exact per9 0 (Nat.zero_le _) _ _ k2 s3 hpl2 (fun j hj => absurd hj (Nat.not_lt_zero _))
end CP
