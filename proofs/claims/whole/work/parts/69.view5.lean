/-! THE CLASS'S VIEWS -/
theorem bF_or {b : Bool} : bF b 1 = 0 ∨ bF b 1 = 1 ∨ bF b 1 = 2 ∨ bF b 1 = 3 := by
  cases b
  · exact Or.inr (Or.inl rfl)
  · exact Or.inl rfl
theorem bF_x {b : Bool} {E : String} (h : (bF b 1 = 1 ∧ E = SIO) ∨ (bF b 1 = 2 ∧ E = SAE) ∨ (bF b 1 = 3 ∧ E = SSE)) : b = false ∧ E = SIO := by
  cases b
  · rcases h with ⟨-, e⟩ | ⟨z, -⟩ | ⟨z, -⟩
    · exact ⟨rfl, e⟩
    · exact absurd z (by decide)
    · exact absurd z (by decide)
  · rcases h with ⟨z, -⟩ | ⟨z, -⟩ | ⟨z, -⟩ <;> exact absurd z (by decide)
theorem rng_out {x : Int32} {a b : Int} (h : ¬ rngI x a b = true) : x.toInt < a ∨ b < x.toInt := by
  rw [rngI_iff] at h
  omega
theorem plc_lt (ts : List Tr) (p : Int32) (m : Nat) : ∀ n b, plcTo ts p m n = some b → b < n
  | 0, b, h => by cases h
  | n + 1, b, h => by
    rw [plcTo] at h
    cases e : plcTo ts p m n with
    | some b2 =>
      rw [e] at h
      have := plc_lt ts p m n b2 e
      have h : some b2 = some b := h
      have := Option.some.inj h
      omega
    | none =>
      rw [e] at h
      have h : (if tf (tg ts n) 0 = p ∧ cntO ts p n = m then some n else none) = some b := h
      split at h
      · have := Option.some.inj h; omega
      · cases h
theorem plc_none (ts : List Tr) (p : Int32) (m : Nat) : ∀ n, cntO ts p n ≤ m → plcTo ts p m n = none
  | 0, _ => rfl
  | n + 1, h => by
    rw [cntO] at h
    rw [plcTo, plc_none ts p m n (by omega)]
    refine if_neg (fun z => ?_)
    rw [if_pos z.1, z.2] at h
    omega
theorem plc_up (ts : List Tr) (p : Int32) (m : Nat) {j b : Nat} (h : plcTo ts p m j = some b) : ∀ f, plcTo ts p m (j + f) = some b
  | 0 => h
  | f + 1 => by
    show plcTo ts p m (j + f + 1) = some b
    rw [plcTo, plc_up ts p m h f]
theorem plc_trF (ts : List Tr) (p : Int32) (m : Nat) : ∀ f j, cntO ts p j ≤ m → m < cntO ts p (j + f) → plcTo ts p m (j + f) = some (trF ts p f (m - cntO ts p j) j)
  | 0, j, h1, h2 => absurd h2 (Nat.not_lt.mpr h1)
  | f + 1, j, h1, h2 => by
    have e : j + (f + 1) = j + 1 + f := by omega
    rw [e] at h2 ⊢
    rw [trF]
    by_cases q : tf (tg ts j) 0 = p
    · rw [if_pos q]
      by_cases q2 : m - cntO ts p j = 0
      · rw [if_pos q2]
        refine plc_up ts p m ?_ f
        rw [plcTo, plc_none ts p m j h1]
        exact if_pos ⟨q, by omega⟩
      · rw [if_neg q2]
        have ec : cntO ts p (j + 1) = cntO ts p j + 1 := by rw [cntO, if_pos q]
        have := plc_trF ts p m f (j + 1) (by omega) h2
        rw [ec] at this
        rw [this, Nat.sub_add_eq]
    · rw [if_neg q]
      have ec : cntO ts p (j + 1) = cntO ts p j := by rw [cntO, if_neg q]; rfl
      have := plc_trF ts p m f (j + 1) (by omega) h2
      rw [ec] at this
      exact this
theorem plc_of {ts : List Tr} {p i : Int32} (hp : ¬ p = -1) (hl : ts.length ≤ 640) : (if rngI i 0 640 = true then plcTo ts p i.toNatClampNeg ts.length else none) = (if rngI i 0 (dsk ts p 0 - 1).toInt = true then some (trF ts p ts.length i.toNatClampNeg 0) else none) := by
  have hc := cntO_le ts p ts.length
  have e : dsk ts p 0 = nI (cntO ts p ts.length) := dsk_cnt ts hp ts.length
  have e2 : (dsk ts p 0 - 1).toInt = (cntO ts p ts.length : Int) - 1 := by
    rw [e]
    by_cases q : cntO ts p ts.length = 0
    · rw [q]; decide
    · rw [nI_sub1 (by omega), nI_toInt (by omega)]; omega
  rw [e2]
  by_cases q : rngI i 0 ((cntO ts p ts.length : Int) - 1) = true
  · rw [if_pos q]
    obtain ⟨h1, h2⟩ := rngI_iff.mp q
    have q2 : rngI i 0 640 = true := rngI_iff.mpr ⟨h1, by omega⟩
    have q3 : i.toNatClampNeg = i.toInt.toNat := rfl
    rw [if_pos q2]
    have := plc_trF ts p i.toNatClampNeg ts.length 0 (Nat.zero_le _) (by rw [Nat.zero_add]; omega)
    rw [Nat.zero_add] at this
    exact this
  · rw [if_neg q]
    by_cases q2 : rngI i 0 640 = true
    · rw [if_pos q2]
      have h1 := rngI_iff.mp q2
      have q3 : i.toNatClampNeg = i.toInt.toNat := rfl
      refine plc_none _ _ _ _ ?_
      rw [rngI_iff] at q
      omega
    · rw [if_neg q2]
section VW
variable {G : GG} {l : Launch} {fr w : Wd} {s : Nat} {y : Sy}
theorem a_about {x : Int32} {T : Nat} (h : StW fr s y w) (hI : Inv T (yC y)) : CX5_about G l 250 11400 [.ref s, .int x] w (RQ fr s (oAbout y x)) (RX fr s y (oAbout y x) SAE SAE SAE) := by
  obtain ⟨D, L, e0, ho, hw, hoc, hk⟩ := h.pres
  have hi := hw.i
  by_cases q : rngI x 0 10 = true
  · have eo : oAbout y x = (0, abt (yC y) x.toNatClampNeg, y) := by unfold oAbout; rw [if_pos q]
    rw [eo]
    obtain ⟨k1, k2, k3⟩ := rng_k (b := 10) q
    generalize x.toNatClampNeg = k at k1 k2 k3 ⊢
    have hs : k = 0 ∨ k = 1 ∨ k = 2 ∨ k = 3 ∨ k = 4 ∨ k = 5 ∨ k = 6 ∨ k = 7 ∨ k = 8 ∨ k = 9 ∨ k = 10 := by omega
    rcases hs with rfl | rfl | rfl | rfl | rfl | rfl | rfl | rfl | rfl | rfl | rfl
    · exact sX5_about (bX5_about_0_0 k3 (bX5_about_60 ho rfl hi.o rfl ⟨rfl, rfl, h⟩ (by decide) (by decide)))
    · exact sX5_about (bX5_about_0_1 k3 (bX5_about_68 ho rfl hi.o rfl ⟨rfl, rfl, h⟩ (by decide) (by decide)))
    · exact sX5_about (bX5_about_0_2 k3 (bX5_about_76 ho rfl hi.o rfl ⟨rfl, rfl, h⟩ (by decide) (by decide)))
    · exact sX5_about (bX5_about_0_3 k3 (bX5_about_84 ho rfl hi.o (c_sesOf (Q := fun r w2 => r = sesOf (cSs (yC y)) (-1) ∧ w = w2) hi ⟨rfl, rfl⟩) (by decide) (by decide) (fun r w2 hr => bX5_about_92 ⟨rfl, hr.1, by rw [← hr.2]; exact h⟩ (by decide) (by decide))))
    · exact sX5_about (bX5_about_0_4 k3 (bX5_about_93 ho rfl hi.o rfl hi.dk.1 rfl ⟨rfl, rfl, h⟩ (by decide) (by decide)))
    · exact sX5_about (bX5_about_0_5 k3 (bX5_about_104 ho rfl hi.o rfl hi.dk.1 (c_allPages (Q := fun r w2 => r = dsk (cTs (yC y)) (-1) 1 ∧ w = w2) hi.dk ⟨rfl, rfl⟩) (by decide) (by decide) (fun r w2 hr => bX5_about_114 ⟨rfl, hr.1, by rw [← hr.2]; exact h⟩ (by decide) (by decide))))
    · exact sX5_about (bX5_about_0_6 k3 (bX5_about_115 ho rfl hi.o rfl ⟨rfl, rfl, h⟩ (by decide) (by decide)))
    · exact sX5_about (bX5_about_0_7 k3 (bX5_about_123 ho rfl hi.o (c_allPay (Q := fun r w2 => r = cSc (yC y) 5 ∧ w = w2) hi ⟨hI.py.symm, rfl⟩) (by decide) (by decide) (fun r w2 hr => bX5_about_130 ⟨rfl, hr.1, by rw [← hr.2]; exact h⟩ (by decide) (by decide))))
    · exact sX5_about (bX5_about_0_8 k3 (bX5_about_131 ho rfl hi.o rfl ⟨rfl, rfl, h⟩ (by decide) (by decide)))
    · exact sX5_about (bX5_about_0_9 k3 (bX5_about_139 ho rfl hi.o rfl ⟨rfl, rfl, h⟩ (by decide) (by decide)))
    · exact sX5_about (bX5_about_0_10 k3 (bX5_about_147 ho rfl hi.o rfl ⟨rfl, rfl, h⟩ (by decide) (by decide)))
  · have eo : oAbout y x = (1, 0, y) := by unfold oAbout; rw [if_neg q]
    rw [eo]
    exact sX5_about (bX5_about_0_d (rng_out q) (bX5_about_155 (by decide) (by decide) ⟨h, Or.inl ⟨rfl, rfl⟩⟩))
theorem a_stenographer {p x : Int32} {T : Nat} (h : StW fr s y w) (hI : Inv T (yC y)) : CX5_stenographer G l 250 11400 [.ref s, .int p, .int x] w (RQ fr s (oSten y p x)) (RX fr s y (oSten y p x) SIO SAE SAE) := by
  obtain ⟨D, L, e0, ho, hw, hoc, hk⟩ := h.pres
  have hi := hw.i
  have hb := hi.b0
  refine sX5_stenographer (bX5_stenographer_0 ho rfl hi.o (c_staffFault (Q := fun r w2 => bF (inN p (cPs (yC y)).length) 1 = r ∧ w = w2) hi ⟨rfl, rfl⟩) (by decide) (by decide) (fun r w2 hr => ?_))
  obtain ⟨rfl, rfl⟩ := hr
  refine bX5_stenographer_8 (c_refuse bF_or) (by decide) (by decide) (fun w2 hw2 => ?_) (fun E w2 hE => ?_)
  · obtain ⟨h0, rfl⟩ := hw2
    have q1 := (bF_0 (by decide)).mp h0
    obtain ⟨p1, p2⟩ := inN_k q1 (by omega)
    by_cases q : rngI x 0 6 = true
    · have eo : oSten y p x = (0, stn (yC y) p.toNatClampNeg x.toNatClampNeg, y) := by unfold oSten; rw [if_pos q1, if_pos q]
      rw [eo]
      obtain ⟨k1, k2, k3⟩ := rng_k (b := 6) q
      generalize x.toNatClampNeg = k at k1 k2 k3 ⊢
      generalize p.toNatClampNeg = m at p1 p2 ⊢
      subst p2
      have pm := nI_m1 (n := m) (by omega)
      obtain ⟨g1, eg1, hg1⟩ := hi.r1
      obtain ⟨g2, eg2, hg2⟩ := hi.r2
      obtain ⟨g3, eg3, hg3⟩ := hi.r3
      have em : (nI m).toNatClampNeg = m := nI_clamp (by omega)
      have im : vp_in (nI m) 6 := ix_of rfl (by omega) (by decide)
      have hs : k = 0 ∨ k = 1 ∨ k = 2 ∨ k = 3 ∨ k = 4 ∨ k = 5 ∨ k = 6 := by omega
      rcases hs with rfl | rfl | rfl | rfl | rfl | rfl | rfl
      · exact bX5_stenographer_11_0 k3 (bX5_stenographer_56 ho rfl hi.o rfl eg1 im ⟨rfl, by rw [em]; exact hg1 m p1, h⟩ (by decide) (by decide))
      · exact bX5_stenographer_11_1 k3 (bX5_stenographer_66 ho rfl hi.o rfl eg2 im ⟨rfl, by rw [em]; exact hg2 m p1, h⟩ (by decide) (by decide))
      · exact bX5_stenographer_11_2 k3 (bX5_stenographer_76 ho rfl hi.o (c_sesOf (Q := fun r w2 => r = sesOf (cSs (yC y)) (nI m) ∧ w = w2) hi ⟨rfl, rfl⟩) (by decide) (by decide) (fun r w2 hr => bX5_stenographer_84 ⟨rfl, hr.1, by rw [← hr.2]; exact h⟩ (by decide) (by decide)))
      · exact bX5_stenographer_11_3 k3 (bX5_stenographer_85 ho rfl hi.o rfl hi.dk.1 (c_countOf (Q := fun r w2 => r = dsk (cTs (yC y)) (nI m) 0 ∧ w = w2) hi.dk pm ⟨rfl, rfl⟩) (by decide) (by decide) (fun r w2 hr => bX5_stenographer_96 ⟨rfl, hr.1, by rw [← hr.2]; exact h⟩ (by decide) (by decide)))
      · exact bX5_stenographer_11_4 k3 (bX5_stenographer_97 ho rfl hi.o rfl hi.dk.1 (c_pagesOf (Q := fun r w2 => r = dsk (cTs (yC y)) (nI m) 1 ∧ w = w2) hi.dk pm ⟨rfl, rfl⟩) (by decide) (by decide) (fun r w2 hr => bX5_stenographer_108 ⟨rfl, hr.1, by rw [← hr.2]; exact h⟩ (by decide) (by decide)))
      · exact bX5_stenographer_11_5 k3 (bX5_stenographer_109 ho rfl hi.o rfl (c_slotsOn (Q := fun r w2 => r = cnt (bz (cSs (yC y)) (nI m) (cSc (yC y) 3) (-1)) ∧ w = w2) hi (fun s hs => hI.s hs) ⟨rfl, rfl⟩) (by decide) (by decide) (fun r w2 hr => bX5_stenographer_124 ⟨rfl, hr.1, by rw [← hr.2]; exact h⟩ (by decide) (by decide)))
      · exact bX5_stenographer_11_6 k3 (bX5_stenographer_125 ho rfl hi.o rfl eg3 im ⟨rfl, by rw [em]; exact hg3 m p1, h⟩ (by decide) (by decide))
    · have eo : oSten y p x = (2, 0, y) := by unfold oSten; rw [if_pos q1, if_neg q]
      rw [eo]
      exact bX5_stenographer_11_d (rng_out q) (bX5_stenographer_135 (by decide) (by decide) ⟨h, Or.inr (Or.inl ⟨rfl, rfl⟩)⟩)
  · obtain ⟨rfl, hE⟩ := hE
    obtain ⟨e1, rfl⟩ := bF_x hE
    have eo : oSten y p x = (1, 0, y) := by unfold oSten; rw [if_neg (by rw [e1]; decide)]
    rw [eo]
    exact ⟨h, Or.inl ⟨rfl, rfl⟩⟩
theorem a_sessionOf {p x : Int32} (h : StW fr s y w) : CX5_sessionOf G l 250 11400 [.ref s, .int p, .int x] w (RQ fr s (oSesOf y p x)) (RX fr s y (oSesOf y p x) SIO SAE SAE) := by
  obtain ⟨D, L, e0, ho, hw, hoc, hk⟩ := h.pres
  have hi := hw.i
  have hb := hi.b1
  refine sX5_sessionOf (bX5_sessionOf_0 ho rfl hi.o (c_numberFault (Q := fun r w2 => bF (inN p (cSs (yC y)).length) 1 = r ∧ w = w2) hi ⟨rfl, rfl⟩) (by decide) (by decide) (fun r w2 hr => ?_))
  obtain ⟨rfl, rfl⟩ := hr
  refine bX5_sessionOf_8 (c_refuse bF_or) (by decide) (by decide) (fun w2 hw2 => ?_) (fun E w2 hE => ?_)
  · obtain ⟨h0, rfl⟩ := hw2
    have q1 := (bF_0 (by decide)).mp h0
    obtain ⟨p1, p2⟩ := inN_k q1 (by omega)
    obtain ⟨g, eg, hg⟩ := hi.sa
    have im : vp_in p 16 := ix_of p2 (by omega) (by decide)
    have hse := hi.se p1
    have hge := hg p.toNatClampNeg (by omega)
    by_cases q : rngI x 0 5 = true
    · have eo : oSesOf y p x = (0, sf (sg (cSs (yC y)) p.toNatClampNeg) x.toNatClampNeg, y) := by unfold oSesOf; rw [if_pos q1, if_pos q]
      rw [eo]
      obtain ⟨k1, k2, k3⟩ := rng_k (b := 5) q
      generalize x.toNatClampNeg = k at k1 k2 k3 ⊢
      have hs : k = 0 ∨ k = 1 ∨ k = 2 ∨ k = 3 ∨ k = 4 ∨ k = 5 := by omega
      rcases hs with rfl | rfl | rfl | rfl | rfl | rfl
      · exact bX5_sessionOf_11_0 ho rfl hi.o rfl eg im hge k3 (bX5_sessionOf_60 hse rfl ⟨rfl, rfl, h⟩ (by decide) (by decide))
      · exact bX5_sessionOf_11_1 ho rfl hi.o rfl eg im hge k3 (bX5_sessionOf_65 hse rfl ⟨rfl, rfl, h⟩ (by decide) (by decide))
      · exact bX5_sessionOf_11_2 ho rfl hi.o rfl eg im hge k3 (bX5_sessionOf_70 hse rfl ⟨rfl, rfl, h⟩ (by decide) (by decide))
      · exact bX5_sessionOf_11_3 ho rfl hi.o rfl eg im hge k3 (bX5_sessionOf_75 hse rfl ⟨rfl, rfl, h⟩ (by decide) (by decide))
      · exact bX5_sessionOf_11_4 ho rfl hi.o rfl eg im hge k3 (bX5_sessionOf_80 hse rfl ⟨rfl, rfl, h⟩ (by decide) (by decide))
      · exact bX5_sessionOf_11_5 ho rfl hi.o rfl eg im hge k3 (bX5_sessionOf_85 hse rfl ⟨rfl, rfl, h⟩ (by decide) (by decide))
    · have eo : oSesOf y p x = (2, 0, y) := by unfold oSesOf; rw [if_pos q1, if_neg q]
      rw [eo]
      exact bX5_sessionOf_11_d ho rfl hi.o rfl eg im hge (rng_out q) (bX5_sessionOf_90 (by decide) (by decide) ⟨h, Or.inr (Or.inl ⟨rfl, rfl⟩)⟩)
  · obtain ⟨rfl, hE⟩ := hE
    obtain ⟨e1, rfl⟩ := bF_x hE
    have eo : oSesOf y p x = (1, 0, y) := by unfold oSesOf; rw [if_neg (by rw [e1]; decide)]
    rw [eo]
    exact ⟨h, Or.inl ⟨rfl, rfl⟩⟩
theorem a_transcript {p i x : Int32} (h : StW fr s y w) : CX5_transcript G l 250 11400 [.ref s, .int p, .int i, .int x] w (RQ fr s (oTrn y p i x)) (RX fr s y (oTrn y p i x) SIO SAE SAE) := by
  obtain ⟨D, L, e0, ho, hw, hoc, hk⟩ := h.pres
  have hi := hw.i
  have hb := hi.b0
  have hlb := hw.lb
  refine sX5_transcript (bX5_transcript_0 ho rfl hi.o (c_staffFault (Q := fun r w2 => bF (inN p (cPs (yC y)).length) 1 = r ∧ w = w2) hi ⟨rfl, rfl⟩) (by decide) (by decide) (fun r w2 hr => ?_))
  obtain ⟨rfl, rfl⟩ := hr
  refine bX5_transcript_8 (c_refuse bF_or) (by decide) (by decide) (fun w2 hw2 => ?_) (fun E w2 hE => ?_)
  · obtain ⟨h0, rfl⟩ := hw2
    have q1 := (bF_0 (by decide)).mp h0
    obtain ⟨p1, p2⟩ := inN_k q1 (by omega)
    have pm : ¬ p = -1 := by rw [p2]; exact nI_m1 (by omega)
    have ep := plc_of (ts := cTs (yC y)) (i := i) pm (by omega)
    have hlt : ∀ b, (if rngI i 0 640 = true then plcTo (cTs (yC y)) p i.toNatClampNeg (cTs (yC y)).length else none) = some b → b < (cTs (yC y)).length := fun b hb => by
      split at hb
      · exact plc_lt _ _ _ _ b hb
      · cases hb
    refine bX5_transcript_11 ho rfl hi.o rfl hi.dk.1 (c_placeOf (Q := fun r w2 => r = oI (if rngI i 0 (dsk (cTs (yC y)) p 0 - 1).toInt = true then some (trF (cTs (yC y)) p (cTs (yC y)).length i.toNatClampNeg 0) else none) ∧ w = w2) hi.dk ⟨by rw [ep], rfl⟩) (by decide) (by decide) (fun r w2 hr => ?_)
    obtain ⟨hr, rfl⟩ := hr
    by_cases q2 : rngI i 0 (dsk (cTs (yC y)) p 0 - 1).toInt = true
    · rw [if_pos q2] at hr ep
      have hb2 := hlt _ ep
      generalize ej : trF (cTs (yC y)) p (cTs (yC y)).length i.toNatClampNeg 0 = j at hr hb2
      have hr : r = nI j := hr
      subst hr
      refine bX5_transcript_23 (fun _ => ?_) (fun z => absurd z (nI_m1 (by omega)))
      obtain ⟨d0, ⟨g1, d1, c1⟩, ⟨g2, d2, c2⟩, ⟨g3, d3, c3⟩, -, dl1, dl2⟩ := hi.dk
      have em : (nI j).toNatClampNeg = j := nI_clamp (by omega)
      by_cases q : rngI x 0 1 = true
      · have eo : oTrn y p i x = (0, tf (tg (cTs (yC y)) j) (1 + x.toNatClampNeg), y) := by unfold oTrn; rw [if_pos ⟨q1, q2⟩, if_pos q, ej]
        rw [eo]
        obtain ⟨k1, k2, k3⟩ := rng_k (b := 1) q
        generalize x.toNatClampNeg = k at k1 k2 k3 ⊢
        have hs : k = 0 ∨ k = 1 := by omega
        rcases hs with rfl | rfl
        · exact bX5_transcript_41_0 k3 (bX5_transcript_68 ho rfl hi.o rfl d0 rfl d2 (ix_of rfl (by omega) (by omega)) ⟨rfl, by rw [em]; exact c2 j hb2, h⟩ (by decide) (by decide))
        · exact bX5_transcript_41_1 k3 (bX5_transcript_82 ho rfl hi.o rfl d0 rfl d3 (ix_of rfl (by omega) (by omega)) ⟨rfl, by rw [em]; exact c3 j hb2, h⟩ (by decide) (by decide))
      · have eo : oTrn y p i x = (2, 0, y) := by unfold oTrn; rw [if_pos ⟨q1, q2⟩, if_neg q]
        rw [eo]
        have qo := rng_out q
        exact bX5_transcript_41_d (lks_d (fun z hz => by
          rcases List.mem_cons.mp hz with rfl | hz
          · intro e; have e : (0 : Int) = x.toInt := e; omega
          · rcases List.mem_cons.mp hz with rfl | hz
            · intro e; have e : (1 : Int) = x.toInt := e; omega
            · exact absurd hz (List.not_mem_nil))) (bX5_transcript_96 (by decide) (by decide) ⟨h, Or.inr (Or.inl ⟨rfl, rfl⟩)⟩)
    · rw [if_neg q2] at hr
      have hr : r = -1 := hr
      have eo : oTrn y p i x = (1, 0, y) := by unfold oTrn; rw [if_neg (fun z => q2 z.2)]
      rw [eo]
      exact bX5_transcript_23 (fun z => absurd hr z) (fun _ => bX5_transcript_31 (by decide) (by decide) ⟨h, Or.inl ⟨rfl, rfl⟩⟩)
  · obtain ⟨rfl, hE⟩ := hE
    obtain ⟨e1, rfl⟩ := bF_x hE
    have eo : oTrn y p i x = (1, 0, y) := by unfold oTrn; rw [if_neg (fun z => by rw [e1] at z; exact absurd z.1 (by decide))]
    rw [eo]
    exact ⟨h, Or.inl ⟨rfl, rfl⟩⟩
theorem a_whyNot {k p : Int32} {T : Nat} (h : StW fr s y w) (hI : Inv T (yC y)) : CX5_whyNot G l 250 11400 [.ref s, .int k, .int p] w (RQ fr s (oWhy y k p)) (RX fr s y (oWhy y k p) SIO SIO SIO) := by
  obtain ⟨D, L, e0, ho, hw, hoc, hk⟩ := h.pres
  have hi := hw.i
  have hb := hi.b0
  have hb1 := hi.b1
  have bad : ∀ E, ¬ (inN k (cSs (yC y)).length = true ∧ inN p (cPs (yC y)).length = true) → E = SIO → RX fr s y (oWhy y k p) SIO SIO SIO E w := fun E z e => by
    have eo : oWhy y k p = (1, 0, y) := by unfold oWhy; rw [if_neg z]
    rw [eo]; exact ⟨h, Or.inl ⟨rfl, e⟩⟩
  refine sX5_whyNot (bX5_whyNot_0 ho rfl hi.o (c_numberFault (Q := fun r w2 => bF (inN k (cSs (yC y)).length) 1 = r ∧ w = w2) hi ⟨rfl, rfl⟩) (by decide) (by decide) (fun r w2 hr => ?_))
  obtain ⟨rfl, rfl⟩ := hr
  refine bX5_whyNot_8 (c_refuse bF_or) (by decide) (by decide) (fun w2 hw2 => ?_) (fun E w2 hE => ?_)
  · obtain ⟨h0, rfl⟩ := hw2
    have q1 := (bF_0 (by decide)).mp h0
    obtain ⟨k1, k2⟩ := inN_k q1 (by omega)
    refine bX5_whyNot_11 ho rfl hi.o (c_staffFault (Q := fun r w2 => bF (inN p (cPs (yC y)).length) 1 = r ∧ w = w2) hi ⟨rfl, rfl⟩) (by decide) (by decide) (fun r w2 hr => ?_)
    obtain ⟨rfl, rfl⟩ := hr
    refine bX5_whyNot_19 (c_refuse bF_or) (by decide) (by decide) (fun w2 hw2 => ?_) (fun E w2 hE => ?_)
    · obtain ⟨h0, rfl⟩ := hw2
      have q2 := (bF_0 (by decide)).mp h0
      obtain ⟨p1, p2⟩ := inN_k q2 (by omega)
      have eo : oWhy y k p = (0, why (yC y) k.toNatClampNeg p.toNatClampNeg, y) := by unfold oWhy; rw [if_pos ⟨q1, q2⟩]
      rw [eo]
      generalize k.toNatClampNeg = m at k1 k2 ⊢
      generalize p.toNatClampNeg = j at p1 p2 ⊢
      subst k2 p2
      obtain ⟨g, eg, hg⟩ := hi.sa
      refine bX5_whyNot_22 ho rfl hi.o rfl eg (ix_of rfl (by omega) (by decide)) (by rw [nI_clamp (by omega)]; exact hg m (by omega)) (hi.se k1) rfl (fun z => ?_) (fun z => ?_)
      · exact bX5_whyNot_42 ho rfl hi.o (c_reasonAgainst (Q := fun r w2 => r = why (yC y) m j ∧ w = w2) hi (fun s hs => hI.s hs) k1 p1 ⟨(if_neg z).symm, rfl⟩) (by decide) (by decide) (fun r w2 hr => bX5_whyNot_51 ⟨rfl, hr.1, by rw [← hr.2]; exact h⟩ (by decide) (by decide))
      · exact bX5_whyNot_38 (bX5_whyNot_51 ⟨rfl, (if_pos z).symm, h⟩ (by decide) (by decide))
    · obtain ⟨rfl, hE⟩ := hE
      obtain ⟨e1, e2⟩ := bF_x hE
      exact bad E (fun z => by rw [e1] at z; exact absurd z.2 (by decide)) e2
  · obtain ⟨rfl, hE⟩ := hE
    obtain ⟨e1, e2⟩ := bF_x hE
    exact bad E (fun z => by rw [e1] at z; exact absurd z.1 (by decide)) e2
theorem a_whom {k : Int32} {T : Nat} (h : StW fr s y w) (hI : Inv T (yC y)) : CX5_whom G l 250 11400 [.ref s, .int k] w (RQ fr s (oWhom y k)) (RX fr s y (oWhom y k) SIO SIO SIO) := by
  obtain ⟨D, L, e0, ho, hw, hoc, hk⟩ := h.pres
  have hi := hw.i
  have hb1 := hi.b1
  refine sX5_whom (bX5_whom_0 ho rfl hi.o (c_numberFault (Q := fun r w2 => bF (inN k (cSs (yC y)).length) 1 = r ∧ w = w2) hi ⟨rfl, rfl⟩) (by decide) (by decide) (fun r w2 hr => ?_))
  obtain ⟨rfl, rfl⟩ := hr
  refine bX5_whom_8 (c_refuse bF_or) (by decide) (by decide) (fun w2 hw2 => ?_) (fun E w2 hE => ?_)
  · obtain ⟨h0, rfl⟩ := hw2
    have q1 := (bF_0 (by decide)).mp h0
    obtain ⟨k1, k2⟩ := inN_k q1 (by omega)
    have eo : oWhom y k = (0, bes (setS (yC y) k.toNatClampNeg 5 (-1)) k.toNatClampNeg, y) := by unfold oWhom; rw [if_pos q1]
    rw [eo]
    generalize k.toNatClampNeg = m at k1 k2 ⊢
    subst k2
    exact bX5_whom_11 ho rfl hi.o (c_bestFor (Q := fun r w2 => r = bes (setS (yC y) m 5 (-1)) m ∧ w = w2) hi (fun s hs => hI.s hs) k1 ⟨rfl, rfl⟩) (by decide) (by decide) (fun r w2 hr => bX5_whom_19 ⟨rfl, hr.1, by rw [← hr.2]; exact h⟩ (by decide) (by decide))
  · obtain ⟨rfl, hE⟩ := hE
    obtain ⟨e1, rfl⟩ := bF_x hE
    have eo : oWhom y k = (1, 0, y) := by unfold oWhom; rw [if_neg (by rw [e1]; decide)]
    rw [eo]
    exact ⟨h, Or.inl ⟨rfl, rfl⟩⟩
theorem a_freeRoom {d f n : Int32} (h : StW fr s y w) : CX5_freeRoom G l 250 11400 [.ref s, .int d, .int f, .int n] w (RQ fr s (oFre y d f n)) (RX fr s y (oFre y d f n) SAE SAE SAE) := by
  obtain ⟨D, L, e0, ho, hw, hoc, hk⟩ := h.pres
  have hi := hw.i
  refine sX5_freeRoom (bX5_freeRoom_0 ho rfl hi.o (c_isPlace (Q := fun r w2 => bI (isTm (yC y) d f n) = r ∧ w = w2) hi ⟨rfl, rfl⟩) (by decide) (by decide) (fun r w2 hr => ?_))
  obtain ⟨rfl, rfl⟩ := hr
  by_cases q : isTm (yC y) d f n = true
  · have eo : oFre y d f n = (0, freF (yC y) d f n 5 0, y) := by unfold oFre; rw [if_pos q]
    rw [eo]
    refine bX5_freeRoom_10 (fun _ => bX5_freeRoom_24 ?_) (fun z => absurd z (bI_n0.mpr q))
    have key : ∀ k i, i + k = 5 → KX5_freeRoom G l 250 11400 w (ZXI G 250 11400 w (RQ fr s (0, freF (yC y) d f n 5 0, y)) (RX fr s y (0, freF (yC y) d f n 5 0, y) SAE SAE SAE)) w 27 [(0, .ref s), (1, .int d), (2, .int f), (3, .int n), (4, .int (nI i))] [] 0 0 ∨ ¬ freF (yC y) d f n 5 0 = freF (yC y) d f n k i := by
      intro k
      induction k with
      | zero =>
        intro i hi5
        have : i = 5 := by omega
        subst this
        by_cases e : freF (yC y) d f n 5 0 = freF (yC y) d f n 0 5
        · exact Or.inl (bX5_freeRoom_27 (fun _ => bX5_freeRoom_57 ⟨rfl, e.symm, h⟩ (by decide) (by decide)) (fun z => absurd (by decide) z))
        · exact Or.inr e
      | succ k ih =>
        intro i hi5
        by_cases e : freF (yC y) d f n 5 0 = freF (yC y) d f n (k + 1) i
        · refine Or.inl (bX5_freeRoom_27 (fun z => absurd z (nI_ge (b := 5) (by omega) (by decide))) (fun _ => bX5_freeRoom_33 ho rfl hi.o (c_isTaken (Q := fun r w2 => bI (!isFr (cSs (yC y)) (nI i) d f n) = r ∧ w = w2) hi ⟨rfl, rfl⟩) (by decide) (by decide) (fun r w2 hr => ?_)))
          obtain ⟨rfl, rfl⟩ := hr
          by_cases q2 : isFr (cSs (yC y)) (nI i) d f n = true
          · refine bX5_freeRoom_45 (fun z => absurd (by rw [q2]; rfl) z) (fun _ => bX5_freeRoom_48 ⟨rfl, ?_, h⟩ (by decide) (by decide))
            show nI i = freF (yC y) d f n 5 0
            rw [e, freF, if_pos q2]
          · have q3 : isFr (cSs (yC y)) (nI i) d f n = false := Bool.eq_false_iff.mpr q2
            refine bX5_freeRoom_45 (fun _ => bX5_freeRoom_51 ?_) (fun z => absurd z (by rw [q3]; decide))
            rw [nI_1]
            rcases ih (i + 1) (by omega) with hg | hg
            · exact hg
            · exact absurd (by rw [e, freF, if_neg q2]) hg
        · exact Or.inr e
    rcases key 5 0 rfl with hg | hg
    · exact hg
    · exact absurd rfl hg
  · have eo : oFre y d f n = (1, 0, y) := by unfold oFre; rw [if_neg q]
    rw [eo]
    exact bX5_freeRoom_10 (fun z => absurd (bI_n0.mp z) q) (fun _ => bX5_freeRoom_13 (by decide) (by decide) ⟨h, Or.inl ⟨rfl, rfl⟩⟩)
end VW
