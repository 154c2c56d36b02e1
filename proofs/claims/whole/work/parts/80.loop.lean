/-! THE LAW'S LOOP -/
abbrev LX (G : GG) (l : Launch) (w0 : Wd) (b L : Nat) (xs : Nat → Int32) (Z : Zt) (w : Wd) (pc : Nat) (lv : List (Nat × Value)) (st : List Value) (kc ks : Nat) : Prop := X G l (RM 12 450 601024 7293034) Jvm.Pilot.CStenoRoomsLaw_law_r5597_b11a13.x code 7 ret w0 (tbS b L xs) Z w pc lv st kc ks
abbrev LV (b s a o j : Nat) : List (Nat × Value) := [(0, .ref b), (1, .ref s), (2, .ref a), (3, .ref o), (4, .int (nI j))]
section LO
variable {G : GG} {l : Launch} {w0 w : Wd} {A : Nat → Nat} {b L o9 s j kc ks T : Nat} {xs : Nat → Int32} {Z : Zt} {y : Sy} {rf : Int32} {g : Nat → Int64}
theorem jv (hj : j + 5 < L) (hL : L ≤ 3072) : vp_in (nI j) L ∧ vp_in (nI j + 1) L ∧ vp_in (nI j + 2) L ∧ vp_in (nI j + 3) L ∧ vp_in (nI j + 4) L ∧ vp_in (nI j + 5) L := by
  have e1 : nI j + 1 = nI (j + 1) := nI_add j 1
  have e2 : nI j + 2 = nI (j + 2) := nI_add j 2
  have e3 : nI j + 3 = nI (j + 3) := nI_add j 3
  have e4 : nI j + 4 = nI (j + 4) := nI_add j 4
  have e5 : nI j + 5 = nI (j + 5) := nI_add j 5
  exact ⟨ix_of rfl (by omega) (by omega), ix_of e1 (by omega) (by omega), ix_of e2 (by omega) (by omega), ix_of e3 (by omega) (by omega), ix_of e4 (by omega) (by omega), ix_of e5 (by omega) (by omega)⟩
theorem w_append (hi : Inj A) (h : CW A o9 s y y rf g w) (hS : SI T y) (hT : 1080 ≤ T ∧ T + 2000 < 2 ^ 31) (hk : kc + 250 ≤ 601024) (hs : ks + 11400 ≤ 7293034) (hj : j + 5 < L) (hL : L ≤ 3072) (nx : ∀ y2 rf g w2, SI (T + 30) y2 → CW A o9 s y2 y2 rf g w2 → LX G l w0 b L xs Z w2 1935 (LV b s (A 0) o9 j) [] (kc + 250) (ks + 11400)) : LX G l w0 b L xs Z w 172 (LV b s (A 0) o9 j) [] kc ks := by
  obtain ⟨i0, i1, i2, i3, i4, i5⟩ := jv hj hL
  refine bL_law_172 i1 (mcq := 250) (msq := 11400) (l_append h.ss h.o) hk hs (fun k w2 hk2 => ?_)
  obtain ⟨rfl, g2, h2, hg⟩ := h.cls hk2 oy_append
  obtain ⟨f2, e2⟩ := h2.mo
  refine bL_law_183 i1 e2 (m_append hi h2) (by omega) (by omega) (fun r w3 hr => ?_)
  obtain ⟨rfl, h3⟩ := hr
  obtain ⟨f3, e3⟩ := h3.mo
  refine bL_law_195 e3 h3.thr (by omega) (by omega) (fun r w4 hr => ?_)
  obtain ⟨rfl, rfl⟩ := hr
  refine bL_law_201 (fun _ => ?_) (fun z => absurd rfl z)
  have fin := bL_law_225 (nx _ _ _ _ (si_append hS hT) h3)
  exact bL_law_208 (fun _ => fin) (fun z => bL_law_213 h3.l (vlit rfl) (fun _ => fin) (fun z9 => absurd ((lg_cmp_eq _ _).mpr (hg z)) z9))
theorem w_load (hi : Inj A) (h : CW A o9 s y y rf g w) (hS : SI T y) (hT : 1080 ≤ T ∧ T + 2000 < 2 ^ 31) (hk : kc + 250 ≤ 601024) (hs : ks + 11400 ≤ 7293034) (hj : j + 5 < L) (hL : L ≤ 3072) (nx : ∀ y2 rf g w2, SI (T + 30) y2 → CW A o9 s y2 y2 rf g w2 → LX G l w0 b L xs Z w2 1935 (LV b s (A 0) o9 j) [] (kc + 250) (ks + 11400)) : LX G l w0 b L xs Z w 254 (LV b s (A 0) o9 j) [] kc ks := by
  obtain ⟨i0, i1, i2, i3, i4, i5⟩ := jv hj hL
  refine bL_law_254 (mcq := 250) (msq := 11400) (l_load h.ss h.o) hk hs (fun k w2 hk2 => ?_)
  obtain ⟨rfl, g2, h2, hg⟩ := h.cls hk2 oy_load
  obtain ⟨f2, e2⟩ := h2.mo
  refine bL_law_259 e2 (m_load hi h2) (by omega) (by omega) (fun r w3 hr => ?_)
  obtain ⟨rfl, h3⟩ := hr
  obtain ⟨f3, e3⟩ := h3.mo
  refine bL_law_265 e3 h3.thr (by omega) (by omega) (fun r w4 hr => ?_)
  obtain ⟨rfl, rfl⟩ := hr
  refine bL_law_271 (fun _ => ?_) (fun z => absurd rfl z)
  have fin := bL_law_295 (nx _ _ _ _ (si_load hS hT) h3)
  exact bL_law_278 (fun _ => fin) (fun z => bL_law_283 h3.l (vlit rfl) (fun _ => fin) (fun z9 => absurd ((lg_cmp_eq _ _).mpr (hg z)) z9))
theorem w_about (hi : Inj A) (h : CW A o9 s y y rf g w) (hS : SI T y) (hT : 1080 ≤ T ∧ T + 2000 < 2 ^ 31) (hk : kc + 250 ≤ 601024) (hs : ks + 11400 ≤ 7293034) (hj : j + 5 < L) (hL : L ≤ 3072) (nx : ∀ y2 rf g w2, SI (T + 30) y2 → CW A o9 s y2 y2 rf g w2 → LX G l w0 b L xs Z w2 1935 (LV b s (A 0) o9 j) [] (kc + 250) (ks + 11400)) : LX G l w0 b L xs Z w 298 (LV b s (A 0) o9 j) [] kc ks := by
  obtain ⟨i0, i1, i2, i3, i4, i5⟩ := jv hj hL
  refine bL_law_298 i1 (mcq := 250) (msq := 11400) (l_about hS.1 h.ss h.o) hk hs (fun k w2 hk2 => ?_)
  obtain ⟨rfl, g2, h2, hg⟩ := h.cls hk2 oy_about
  obtain ⟨f2, e2⟩ := h2.mo
  refine bL_law_309 i1 e2 (m_about hi h2) (by omega) (by omega) (fun r w3 hr => ?_)
  obtain ⟨rfl, h3⟩ := hr
  obtain ⟨f3, e3⟩ := h3.mo
  refine bL_law_321 e3 h3.thr (by omega) (by omega) (fun r w4 hr => ?_)
  obtain ⟨rfl, rfl⟩ := hr
  refine bL_law_327 (fun _ => ?_) (fun z => absurd rfl z)
  have fin := bL_law_351 (nx _ _ _ _ (si_about hS hT) h3)
  exact bL_law_334 (fun _ => fin) (fun z => bL_law_339 h3.l (vlit rfl) (fun _ => fin) (fun z9 => absurd ((lg_cmp_eq _ _).mpr (hg z)) z9))
theorem w_stenographer (hi : Inj A) (h : CW A o9 s y y rf g w) (hS : SI T y) (hT : 1080 ≤ T ∧ T + 2000 < 2 ^ 31) (hk : kc + 250 ≤ 601024) (hs : ks + 11400 ≤ 7293034) (hj : j + 5 < L) (hL : L ≤ 3072) (nx : ∀ y2 rf g w2, SI (T + 30) y2 → CW A o9 s y2 y2 rf g w2 → LX G l w0 b L xs Z w2 1935 (LV b s (A 0) o9 j) [] (kc + 250) (ks + 11400)) : LX G l w0 b L xs Z w 354 (LV b s (A 0) o9 j) [] kc ks := by
  obtain ⟨i0, i1, i2, i3, i4, i5⟩ := jv hj hL
  refine bL_law_354 i1 i2 (mcq := 250) (msq := 11400) (l_stenographer hS.1 h.ss h.o) hk hs (fun k w2 hk2 => ?_)
  obtain ⟨rfl, g2, h2, hg⟩ := h.cls hk2 oy_stenographer
  obtain ⟨f2, e2⟩ := h2.mo
  refine bL_law_371 i1 i2 e2 (m_stenographer hi h2) (by omega) (by omega) (fun r w3 hr => ?_)
  obtain ⟨rfl, h3⟩ := hr
  obtain ⟨f3, e3⟩ := h3.mo
  refine bL_law_389 e3 h3.thr (by omega) (by omega) (fun r w4 hr => ?_)
  obtain ⟨rfl, rfl⟩ := hr
  refine bL_law_395 (fun _ => ?_) (fun z => absurd rfl z)
  have fin := bL_law_419 (nx _ _ _ _ (si_stenographer hS hT) h3)
  exact bL_law_402 (fun _ => fin) (fun z => bL_law_407 h3.l (vlit rfl) (fun _ => fin) (fun z9 => absurd ((lg_cmp_eq _ _).mpr (hg z)) z9))
theorem w_sessionOf (hi : Inj A) (h : CW A o9 s y y rf g w) (hS : SI T y) (hT : 1080 ≤ T ∧ T + 2000 < 2 ^ 31) (hk : kc + 250 ≤ 601024) (hs : ks + 11400 ≤ 7293034) (hj : j + 5 < L) (hL : L ≤ 3072) (nx : ∀ y2 rf g w2, SI (T + 30) y2 → CW A o9 s y2 y2 rf g w2 → LX G l w0 b L xs Z w2 1935 (LV b s (A 0) o9 j) [] (kc + 250) (ks + 11400)) : LX G l w0 b L xs Z w 422 (LV b s (A 0) o9 j) [] kc ks := by
  obtain ⟨i0, i1, i2, i3, i4, i5⟩ := jv hj hL
  refine bL_law_422 i1 i2 (mcq := 250) (msq := 11400) (l_sessionOf h.ss h.o) hk hs (fun k w2 hk2 => ?_)
  obtain ⟨rfl, g2, h2, hg⟩ := h.cls hk2 oy_sessionOf
  obtain ⟨f2, e2⟩ := h2.mo
  refine bL_law_439 i1 i2 e2 (m_sessionOf hi h2) (by omega) (by omega) (fun r w3 hr => ?_)
  obtain ⟨rfl, h3⟩ := hr
  obtain ⟨f3, e3⟩ := h3.mo
  refine bL_law_457 e3 h3.thr (by omega) (by omega) (fun r w4 hr => ?_)
  obtain ⟨rfl, rfl⟩ := hr
  refine bL_law_463 (fun _ => ?_) (fun z => absurd rfl z)
  have fin := bL_law_487 (nx _ _ _ _ (si_sessionOf hS hT) h3)
  exact bL_law_470 (fun _ => fin) (fun z => bL_law_475 h3.l (vlit rfl) (fun _ => fin) (fun z9 => absurd ((lg_cmp_eq _ _).mpr (hg z)) z9))
theorem w_transcript (hi : Inj A) (h : CW A o9 s y y rf g w) (hS : SI T y) (hT : 1080 ≤ T ∧ T + 2000 < 2 ^ 31) (hk : kc + 250 ≤ 601024) (hs : ks + 11400 ≤ 7293034) (hj : j + 5 < L) (hL : L ≤ 3072) (nx : ∀ y2 rf g w2, SI (T + 30) y2 → CW A o9 s y2 y2 rf g w2 → LX G l w0 b L xs Z w2 1935 (LV b s (A 0) o9 j) [] (kc + 250) (ks + 11400)) : LX G l w0 b L xs Z w 490 (LV b s (A 0) o9 j) [] kc ks := by
  obtain ⟨i0, i1, i2, i3, i4, i5⟩ := jv hj hL
  refine bL_law_490 i1 i2 i3 (mcq := 250) (msq := 11400) (l_transcript h.ss h.o) hk hs (fun k w2 hk2 => ?_)
  obtain ⟨rfl, g2, h2, hg⟩ := h.cls hk2 oy_transcript
  obtain ⟨f2, e2⟩ := h2.mo
  refine bL_law_513 i1 i2 i3 e2 (m_transcript hi h2) (by omega) (by omega) (fun r w3 hr => ?_)
  obtain ⟨rfl, h3⟩ := hr
  obtain ⟨f3, e3⟩ := h3.mo
  refine bL_law_537 e3 h3.thr (by omega) (by omega) (fun r w4 hr => ?_)
  obtain ⟨rfl, rfl⟩ := hr
  refine bL_law_543 (fun _ => ?_) (fun z => absurd rfl z)
  have fin := bL_law_567 (nx _ _ _ _ (si_transcript hS hT) h3)
  exact bL_law_550 (fun _ => fin) (fun z => bL_law_555 h3.l (vlit rfl) (fun _ => fin) (fun z9 => absurd ((lg_cmp_eq _ _).mpr (hg z)) z9))
theorem w_setting (hi : Inj A) (h : CW A o9 s y y rf g w) (hS : SI T y) (hT : 1080 ≤ T ∧ T + 2000 < 2 ^ 31) (hk : kc + 250 ≤ 601024) (hs : ks + 11400 ≤ 7293034) (hj : j + 5 < L) (hL : L ≤ 3072) (nx : ∀ y2 rf g w2, SI (T + 30) y2 → CW A o9 s y2 y2 rf g w2 → LX G l w0 b L xs Z w2 1935 (LV b s (A 0) o9 j) [] (kc + 250) (ks + 11400)) : LX G l w0 b L xs Z w 570 (LV b s (A 0) o9 j) [] kc ks := by
  obtain ⟨i0, i1, i2, i3, i4, i5⟩ := jv hj hL
  refine bL_law_570 i1 (mcq := 250) (msq := 11400) (l_setting h.ss h.o) hk hs (fun k w2 hk2 => ?_)
  obtain ⟨rfl, g2, h2, hg⟩ := h.cls hk2 oy_setting
  obtain ⟨f2, e2⟩ := h2.mo
  refine bL_law_581 i1 e2 (m_setting hi h2) (by omega) (by omega) (fun r w3 hr => ?_)
  obtain ⟨rfl, h3⟩ := hr
  obtain ⟨f3, e3⟩ := h3.mo
  refine bL_law_593 e3 h3.thr (by omega) (by omega) (fun r w4 hr => ?_)
  obtain ⟨rfl, rfl⟩ := hr
  refine bL_law_599 (fun _ => ?_) (fun z => absurd rfl z)
  have fin := bL_law_623 (nx _ _ _ _ (si_setting hS hT) h3)
  exact bL_law_606 (fun _ => fin) (fun z => bL_law_611 h3.l (vlit rfl) (fun _ => fin) (fun z9 => absurd ((lg_cmp_eq _ _).mpr (hg z)) z9))
theorem w_hire (hi : Inj A) (h : CW A o9 s y y rf g w) (hS : SI T y) (hT : 1080 ≤ T ∧ T + 2000 < 2 ^ 31) (hk : kc + 250 ≤ 601024) (hs : ks + 11400 ≤ 7293034) (hj : j + 5 < L) (hL : L ≤ 3072) (nx : ∀ y2 rf g w2, SI (T + 30) y2 → CW A o9 s y2 y2 rf g w2 → LX G l w0 b L xs Z w2 1935 (LV b s (A 0) o9 j) [] (kc + 250) (ks + 11400)) : LX G l w0 b L xs Z w 626 (LV b s (A 0) o9 j) [] kc ks := by
  obtain ⟨i0, i1, i2, i3, i4, i5⟩ := jv hj hL
  refine bL_law_626 i1 (mcq := 250) (msq := 11400) (l_hire hS.1 (by omega) h.ss h.o) hk hs (fun k w2 hk2 => ?_)
  obtain ⟨rfl, g2, h2, hg⟩ := h.cls hk2 oy_hire
  obtain ⟨f2, e2⟩ := h2.mo
  refine bL_law_637 i1 e2 (m_hire hi h2) (by omega) (by omega) (fun r w3 hr => ?_)
  obtain ⟨rfl, h3⟩ := hr
  obtain ⟨f3, e3⟩ := h3.mo
  refine bL_law_649 e3 h3.thr (by omega) (by omega) (fun r w4 hr => ?_)
  obtain ⟨rfl, rfl⟩ := hr
  refine bL_law_655 (fun _ => ?_) (fun z => absurd rfl z)
  have fin := bL_law_679 (nx _ _ _ _ (si_hire hS hT) h3)
  exact bL_law_662 (fun _ => fin) (fun z => bL_law_667 h3.l (vlit rfl) (fun _ => fin) (fun z9 => absurd ((lg_cmp_eq _ _).mpr (hg z)) z9))
theorem w_session (hi : Inj A) (h : CW A o9 s y y rf g w) (hS : SI T y) (hT : 1080 ≤ T ∧ T + 2000 < 2 ^ 31) (hk : kc + 250 ≤ 601024) (hs : ks + 11400 ≤ 7293034) (hj : j + 5 < L) (hL : L ≤ 3072) (nx : ∀ y2 rf g w2, SI (T + 30) y2 → CW A o9 s y2 y2 rf g w2 → LX G l w0 b L xs Z w2 1935 (LV b s (A 0) o9 j) [] (kc + 250) (ks + 11400)) : LX G l w0 b L xs Z w 682 (LV b s (A 0) o9 j) [] kc ks := by
  obtain ⟨i0, i1, i2, i3, i4, i5⟩ := jv hj hL
  refine bL_law_682 i1 i2 i3 i4 i5 (mcq := 250) (msq := 11400) (l_session hS.1 (by omega) h.ss h.o) hk hs (fun k w2 hk2 => ?_)
  obtain ⟨rfl, g2, h2, hg⟩ := h.cls hk2 oy_session
  obtain ⟨f2, e2⟩ := h2.mo
  refine bL_law_717 i1 i2 i3 i4 i5 e2 (m_session hi h2) (by omega) (by omega) (fun r w3 hr => ?_)
  obtain ⟨rfl, h3⟩ := hr
  obtain ⟨f3, e3⟩ := h3.mo
  refine bL_law_753 e3 h3.thr (by omega) (by omega) (fun r w4 hr => ?_)
  obtain ⟨rfl, rfl⟩ := hr
  refine bL_law_759 (fun _ => ?_) (fun z => absurd rfl z)
  have fin := bL_law_783 (nx _ _ _ _ (si_session hS hT) h3)
  exact bL_law_766 (fun _ => fin) (fun z => bL_law_771 h3.l (vlit rfl) (fun _ => fin) (fun z9 => absurd ((lg_cmp_eq _ _).mpr (hg z)) z9))
theorem w_cancel (hi : Inj A) (h : CW A o9 s y y rf g w) (hS : SI T y) (hT : 1080 ≤ T ∧ T + 2000 < 2 ^ 31) (hk : kc + 250 ≤ 601024) (hs : ks + 11400 ≤ 7293034) (hj : j + 5 < L) (hL : L ≤ 3072) (nx : ∀ y2 rf g w2, SI (T + 30) y2 → CW A o9 s y2 y2 rf g w2 → LX G l w0 b L xs Z w2 1935 (LV b s (A 0) o9 j) [] (kc + 250) (ks + 11400)) : LX G l w0 b L xs Z w 786 (LV b s (A 0) o9 j) [] kc ks := by
  obtain ⟨i0, i1, i2, i3, i4, i5⟩ := jv hj hL
  refine bL_law_786 i1 (mcq := 250) (msq := 11400) (l_cancel hS.1 (by omega) h.ss h.o) hk hs (fun k w2 hk2 => ?_)
  obtain ⟨rfl, g2, h2, hg⟩ := h.cls hk2 oy_cancel
  obtain ⟨f2, e2⟩ := h2.mo
  refine bL_law_797 i1 e2 (m_cancel hi h2) (by omega) (by omega) (fun r w3 hr => ?_)
  obtain ⟨rfl, h3⟩ := hr
  obtain ⟨f3, e3⟩ := h3.mo
  refine bL_law_809 e3 h3.thr (by omega) (by omega) (fun r w4 hr => ?_)
  obtain ⟨rfl, rfl⟩ := hr
  refine bL_law_815 (fun _ => ?_) (fun z => absurd rfl z)
  have fin := bL_law_839 (nx _ _ _ _ (si_cancel hS hT) h3)
  exact bL_law_822 (fun _ => fin) (fun z => bL_law_827 h3.l (vlit rfl) (fun _ => fin) (fun z9 => absurd ((lg_cmp_eq _ _).mpr (hg z)) z9))
theorem w_give (hi : Inj A) (h : CW A o9 s y y rf g w) (hS : SI T y) (hT : 1080 ≤ T ∧ T + 2000 < 2 ^ 31) (hk : kc + 250 ≤ 601024) (hs : ks + 11400 ≤ 7293034) (hj : j + 5 < L) (hL : L ≤ 3072) (nx : ∀ y2 rf g w2, SI (T + 30) y2 → CW A o9 s y2 y2 rf g w2 → LX G l w0 b L xs Z w2 1935 (LV b s (A 0) o9 j) [] (kc + 250) (ks + 11400)) : LX G l w0 b L xs Z w 842 (LV b s (A 0) o9 j) [] kc ks := by
  obtain ⟨i0, i1, i2, i3, i4, i5⟩ := jv hj hL
  refine bL_law_842 i1 i2 (mcq := 250) (msq := 11400) (l_give hS.1 (by omega) h.ss h.o) hk hs (fun k w2 hk2 => ?_)
  obtain ⟨rfl, g2, h2, hg⟩ := h.cls hk2 oy_give
  obtain ⟨f2, e2⟩ := h2.mo
  refine bL_law_859 i1 i2 e2 (m_give hi h2) (by omega) (by omega) (fun r w3 hr => ?_)
  obtain ⟨rfl, h3⟩ := hr
  obtain ⟨f3, e3⟩ := h3.mo
  refine bL_law_877 e3 h3.thr (by omega) (by omega) (fun r w4 hr => ?_)
  obtain ⟨rfl, rfl⟩ := hr
  refine bL_law_883 (fun _ => ?_) (fun z => absurd rfl z)
  have fin := bL_law_907 (nx _ _ _ _ (si_give hS hT) h3)
  exact bL_law_890 (fun _ => fin) (fun z => bL_law_895 h3.l (vlit rfl) (fun _ => fin) (fun z9 => absurd ((lg_cmp_eq _ _).mpr (hg z)) z9))
theorem w_extend (hi : Inj A) (h : CW A o9 s y y rf g w) (hS : SI T y) (hT : 1080 ≤ T ∧ T + 2000 < 2 ^ 31) (hk : kc + 250 ≤ 601024) (hs : ks + 11400 ≤ 7293034) (hj : j + 5 < L) (hL : L ≤ 3072) (nx : ∀ y2 rf g w2, SI (T + 30) y2 → CW A o9 s y2 y2 rf g w2 → LX G l w0 b L xs Z w2 1935 (LV b s (A 0) o9 j) [] (kc + 250) (ks + 11400)) : LX G l w0 b L xs Z w 923 (LV b s (A 0) o9 j) [] kc ks := by
  obtain ⟨i0, i1, i2, i3, i4, i5⟩ := jv hj hL
  refine bL_law_923 i1 i2 (mcq := 250) (msq := 11400) (l_extend hS.1 (by omega) h.ss h.o) hk hs (fun k w2 hk2 => ?_)
  obtain ⟨rfl, g2, h2, hg⟩ := h.cls hk2 oy_extend
  obtain ⟨f2, e2⟩ := h2.mo
  refine bL_law_940 i1 i2 e2 (m_extend hi h2) (by omega) (by omega) (fun r w3 hr => ?_)
  obtain ⟨rfl, h3⟩ := hr
  obtain ⟨f3, e3⟩ := h3.mo
  refine bL_law_958 e3 h3.thr (by omega) (by omega) (fun r w4 hr => ?_)
  obtain ⟨rfl, rfl⟩ := hr
  refine bL_law_964 (fun _ => ?_) (fun z => absurd rfl z)
  have fin := bL_law_988 (nx _ _ _ _ (si_extend hS hT) h3)
  exact bL_law_971 (fun _ => fin) (fun z => bL_law_976 h3.l (vlit rfl) (fun _ => fin) (fun z9 => absurd ((lg_cmp_eq _ _).mpr (hg z)) z9))
theorem w_leave (hi : Inj A) (h : CW A o9 s y y rf g w) (hS : SI T y) (hT : 1080 ≤ T ∧ T + 2000 < 2 ^ 31) (hk : kc + 250 ≤ 601024) (hs : ks + 11400 ≤ 7293034) (hj : j + 5 < L) (hL : L ≤ 3072) (nx : ∀ y2 rf g w2, SI (T + 30) y2 → CW A o9 s y2 y2 rf g w2 → LX G l w0 b L xs Z w2 1935 (LV b s (A 0) o9 j) [] (kc + 250) (ks + 11400)) : LX G l w0 b L xs Z w 991 (LV b s (A 0) o9 j) [] kc ks := by
  obtain ⟨i0, i1, i2, i3, i4, i5⟩ := jv hj hL
  refine bL_law_991 i1 i2 (mcq := 250) (msq := 11400) (l_leave hS.1 (by omega) h.ss h.o) hk hs (fun k w2 hk2 => ?_)
  obtain ⟨rfl, g2, h2, hg⟩ := h.cls hk2 oy_leave
  obtain ⟨f2, e2⟩ := h2.mo
  refine bL_law_1008 i1 i2 e2 (m_leave hi h2) (by omega) (by omega) (fun r w3 hr => ?_)
  obtain ⟨rfl, h3⟩ := hr
  obtain ⟨f3, e3⟩ := h3.mo
  refine bL_law_1026 e3 h3.thr (by omega) (by omega) (fun r w4 hr => ?_)
  obtain ⟨rfl, rfl⟩ := hr
  refine bL_law_1032 (fun _ => ?_) (fun z => absurd rfl z)
  have fin := bL_law_1056 (nx _ _ _ _ (si_leave hS hT) h3)
  exact bL_law_1039 (fun _ => fin) (fun z => bL_law_1044 h3.l (vlit rfl) (fun _ => fin) (fun z9 => absurd ((lg_cmp_eq _ _).mpr (hg z)) z9))
theorem w_run (hi : Inj A) (h : CW A o9 s y y rf g w) (hS : SI T y) (hT : 1080 ≤ T ∧ T + 2000 < 2 ^ 31) (hk : kc + 250 ≤ 601024) (hs : ks + 11400 ≤ 7293034) (hj : j + 5 < L) (hL : L ≤ 3072) (nx : ∀ y2 rf g w2, SI (T + 30) y2 → CW A o9 s y2 y2 rf g w2 → LX G l w0 b L xs Z w2 1935 (LV b s (A 0) o9 j) [] (kc + 250) (ks + 11400)) : LX G l w0 b L xs Z w 1059 (LV b s (A 0) o9 j) [] kc ks := by
  obtain ⟨i0, i1, i2, i3, i4, i5⟩ := jv hj hL
  refine bL_law_1059 i1 (mcq := 250) (msq := 11400) (l_run hS.1 (by omega) h.ss h.o) hk hs (fun k w2 hk2 => ?_)
  obtain ⟨rfl, g2, h2, hg⟩ := h.cls hk2 oy_run
  obtain ⟨f2, e2⟩ := h2.mo
  refine bL_law_1070 i1 e2 (m_run hi h2) (by omega) (by omega) (fun r w3 hr => ?_)
  obtain ⟨rfl, h3⟩ := hr
  obtain ⟨f3, e3⟩ := h3.mo
  refine bL_law_1082 e3 h3.thr (by omega) (by omega) (fun r w4 hr => ?_)
  obtain ⟨rfl, rfl⟩ := hr
  refine bL_law_1088 (fun _ => ?_) (fun z => absurd rfl z)
  have fin := bL_law_1112 (nx _ _ _ _ (si_run hS hT) h3)
  exact bL_law_1095 (fun _ => fin) (fun z => bL_law_1100 h3.l (vlit rfl) (fun _ => fin) (fun z9 => absurd ((lg_cmp_eq _ _).mpr (hg z)) z9))
theorem w_set (hi : Inj A) (h : CW A o9 s y y rf g w) (hS : SI T y) (hT : 1080 ≤ T ∧ T + 2000 < 2 ^ 31) (hk : kc + 250 ≤ 601024) (hs : ks + 11400 ≤ 7293034) (hj : j + 5 < L) (hL : L ≤ 3072) (nx : ∀ y2 rf g w2, SI (T + 30) y2 → CW A o9 s y2 y2 rf g w2 → LX G l w0 b L xs Z w2 1935 (LV b s (A 0) o9 j) [] (kc + 250) (ks + 11400)) : LX G l w0 b L xs Z w 1115 (LV b s (A 0) o9 j) [] kc ks := by
  obtain ⟨i0, i1, i2, i3, i4, i5⟩ := jv hj hL
  refine bL_law_1115 i1 i2 (mcq := 250) (msq := 11400) (l_set hS.1 (by omega) h.ss h.o) hk hs (fun k w2 hk2 => ?_)
  obtain ⟨rfl, g2, h2, hg⟩ := h.cls hk2 oy_set
  obtain ⟨f2, e2⟩ := h2.mo
  refine bL_law_1132 i1 i2 e2 (m_set hi h2) (by omega) (by omega) (fun r w3 hr => ?_)
  obtain ⟨rfl, h3⟩ := hr
  obtain ⟨f3, e3⟩ := h3.mo
  refine bL_law_1150 e3 h3.thr (by omega) (by omega) (fun r w4 hr => ?_)
  obtain ⟨rfl, rfl⟩ := hr
  refine bL_law_1156 (fun _ => ?_) (fun z => absurd rfl z)
  have fin := bL_law_1180 (nx _ _ _ _ (si_set hS hT) h3)
  exact bL_law_1163 (fun _ => fin) (fun z => bL_law_1168 h3.l (vlit rfl) (fun _ => fin) (fun z9 => absurd ((lg_cmp_eq _ _).mpr (hg z)) z9))
theorem w_undo (hi : Inj A) (h : CW A o9 s y y rf g w) (hS : SI T y) (hT : 1080 ≤ T ∧ T + 2000 < 2 ^ 31) (hk : kc + 250 ≤ 601024) (hs : ks + 11400 ≤ 7293034) (hj : j + 5 < L) (hL : L ≤ 3072) (nx : ∀ y2 rf g w2, SI (T + 30) y2 → CW A o9 s y2 y2 rf g w2 → LX G l w0 b L xs Z w2 1935 (LV b s (A 0) o9 j) [] (kc + 250) (ks + 11400)) : LX G l w0 b L xs Z w 1183 (LV b s (A 0) o9 j) [] kc ks := by
  obtain ⟨i0, i1, i2, i3, i4, i5⟩ := jv hj hL
  refine bL_law_1183 (mcq := 250) (msq := 11400) (l_undo h.ss h.o) hk hs (fun k w2 hk2 => ?_)
  obtain ⟨rfl, g2, h2, hg⟩ := h.cls hk2 oy_undo
  obtain ⟨f2, e2⟩ := h2.mo
  refine bL_law_1188 e2 (m_undo hi h2) (by omega) (by omega) (fun r w3 hr => ?_)
  obtain ⟨rfl, h3⟩ := hr
  obtain ⟨f3, e3⟩ := h3.mo
  refine bL_law_1194 e3 h3.thr (by omega) (by omega) (fun r w4 hr => ?_)
  obtain ⟨rfl, rfl⟩ := hr
  refine bL_law_1200 (fun _ => ?_) (fun z => absurd rfl z)
  have fin := bL_law_1224 (nx _ _ _ _ (si_undo hS hT) h3)
  exact bL_law_1207 (fun _ => fin) (fun z => bL_law_1212 h3.l (vlit rfl) (fun _ => fin) (fun z9 => absurd ((lg_cmp_eq _ _).mpr (hg z)) z9))
theorem w_whyNot (hi : Inj A) (h : CW A o9 s y y rf g w) (hS : SI T y) (hT : 1080 ≤ T ∧ T + 2000 < 2 ^ 31) (hk : kc + 250 ≤ 601024) (hs : ks + 11400 ≤ 7293034) (hj : j + 5 < L) (hL : L ≤ 3072) (nx : ∀ y2 rf g w2, SI (T + 30) y2 → CW A o9 s y2 y2 rf g w2 → LX G l w0 b L xs Z w2 1935 (LV b s (A 0) o9 j) [] (kc + 250) (ks + 11400)) : LX G l w0 b L xs Z w 1227 (LV b s (A 0) o9 j) [] kc ks := by
  obtain ⟨i0, i1, i2, i3, i4, i5⟩ := jv hj hL
  refine bL_law_1227 i1 i2 (mcq := 250) (msq := 11400) (l_whyNot hS.1 h.ss h.o) hk hs (fun k w2 hk2 => ?_)
  obtain ⟨rfl, g2, h2, hg⟩ := h.cls hk2 oy_whyNot
  obtain ⟨f2, e2⟩ := h2.mo
  refine bL_law_1244 i1 i2 e2 (m_whyNot hi h2) (by omega) (by omega) (fun r w3 hr => ?_)
  obtain ⟨rfl, h3⟩ := hr
  obtain ⟨f3, e3⟩ := h3.mo
  refine bL_law_1262 e3 h3.thr (by omega) (by omega) (fun r w4 hr => ?_)
  obtain ⟨rfl, rfl⟩ := hr
  refine bL_law_1268 (fun _ => ?_) (fun z => absurd rfl z)
  have fin := bL_law_1292 (nx _ _ _ _ (si_whyNot hS hT) h3)
  exact bL_law_1275 (fun _ => fin) (fun z => bL_law_1280 h3.l (vlit rfl) (fun _ => fin) (fun z9 => absurd ((lg_cmp_eq _ _).mpr (hg z)) z9))
theorem w_whom (hi : Inj A) (h : CW A o9 s y y rf g w) (hS : SI T y) (hT : 1080 ≤ T ∧ T + 2000 < 2 ^ 31) (hk : kc + 250 ≤ 601024) (hs : ks + 11400 ≤ 7293034) (hj : j + 5 < L) (hL : L ≤ 3072) (nx : ∀ y2 rf g w2, SI (T + 30) y2 → CW A o9 s y2 y2 rf g w2 → LX G l w0 b L xs Z w2 1935 (LV b s (A 0) o9 j) [] (kc + 250) (ks + 11400)) : LX G l w0 b L xs Z w 1295 (LV b s (A 0) o9 j) [] kc ks := by
  obtain ⟨i0, i1, i2, i3, i4, i5⟩ := jv hj hL
  refine bL_law_1295 i1 (mcq := 250) (msq := 11400) (l_whom hS.1 h.ss h.o) hk hs (fun k w2 hk2 => ?_)
  obtain ⟨rfl, g2, h2, hg⟩ := h.cls hk2 oy_whom
  obtain ⟨f2, e2⟩ := h2.mo
  refine bL_law_1306 i1 e2 (m_whom hi h2) (by omega) (by omega) (fun r w3 hr => ?_)
  obtain ⟨rfl, h3⟩ := hr
  obtain ⟨f3, e3⟩ := h3.mo
  refine bL_law_1318 e3 h3.thr (by omega) (by omega) (fun r w4 hr => ?_)
  obtain ⟨rfl, rfl⟩ := hr
  refine bL_law_1324 (fun _ => ?_) (fun z => absurd rfl z)
  have fin := bL_law_1348 (nx _ _ _ _ (si_whom hS hT) h3)
  exact bL_law_1331 (fun _ => fin) (fun z => bL_law_1336 h3.l (vlit rfl) (fun _ => fin) (fun z9 => absurd ((lg_cmp_eq _ _).mpr (hg z)) z9))
theorem w_coming (hi : Inj A) (h : CW A o9 s y y rf g w) (hS : SI T y) (hT : 1080 ≤ T ∧ T + 2000 < 2 ^ 31) (hk : kc + 250 ≤ 601024) (hs : ks + 11400 ≤ 7293034) (hj : j + 5 < L) (hL : L ≤ 3072) (nx : ∀ y2 rf g w2, SI (T + 30) y2 → CW A o9 s y2 y2 rf g w2 → LX G l w0 b L xs Z w2 1935 (LV b s (A 0) o9 j) [] (kc + 250) (ks + 11400)) : LX G l w0 b L xs Z w 1351 (LV b s (A 0) o9 j) [] kc ks := by
  obtain ⟨i0, i1, i2, i3, i4, i5⟩ := jv hj hL
  refine bL_law_1351 i1 i2 (mcq := 250) (msq := 11400) (l_coming hS.1 (by omega) h.ss h.o) hk hs (fun k w2 hk2 => ?_)
  obtain ⟨rfl, g2, h2, hg⟩ := h.cls hk2 oy_coming
  obtain ⟨f2, e2⟩ := h2.mo
  refine bL_law_1368 i1 i2 e2 (m_coming hi h2) (by omega) (by omega) (fun r w3 hr => ?_)
  obtain ⟨rfl, h3⟩ := hr
  obtain ⟨f3, e3⟩ := h3.mo
  refine bL_law_1386 e3 h3.thr (by omega) (by omega) (fun r w4 hr => ?_)
  obtain ⟨rfl, rfl⟩ := hr
  refine bL_law_1392 (fun _ => ?_) (fun z => absurd rfl z)
  have fin := bL_law_1416 (nx _ _ _ _ (si_coming hS hT) h3)
  exact bL_law_1399 (fun _ => fin) (fun z => bL_law_1404 h3.l (vlit rfl) (fun _ => fin) (fun z9 => absurd ((lg_cmp_eq _ _).mpr (hg z)) z9))
theorem w_emptyIn (hi : Inj A) (h : CW A o9 s y y rf g w) (hS : SI T y) (hT : 1080 ≤ T ∧ T + 2000 < 2 ^ 31) (hk : kc + 250 ≤ 601024) (hs : ks + 11400 ≤ 7293034) (hj : j + 5 < L) (hL : L ≤ 3072) (nx : ∀ y2 rf g w2, SI (T + 30) y2 → CW A o9 s y2 y2 rf g w2 → LX G l w0 b L xs Z w2 1935 (LV b s (A 0) o9 j) [] (kc + 250) (ks + 11400)) : LX G l w0 b L xs Z w 1419 (LV b s (A 0) o9 j) [] kc ks := by
  obtain ⟨i0, i1, i2, i3, i4, i5⟩ := jv hj hL
  refine bL_law_1419 i1 (mcq := 250) (msq := 11400) (l_emptyIn hS.1 (by omega) h.ss h.o) hk hs (fun k w2 hk2 => ?_)
  obtain ⟨rfl, g2, h2, hg⟩ := h.cls hk2 oy_emptyIn
  obtain ⟨f2, e2⟩ := h2.mo
  refine bL_law_1430 i1 e2 (m_emptyIn hi h2) (by omega) (by omega) (fun r w3 hr => ?_)
  obtain ⟨rfl, h3⟩ := hr
  obtain ⟨f3, e3⟩ := h3.mo
  refine bL_law_1442 e3 h3.thr (by omega) (by omega) (fun r w4 hr => ?_)
  obtain ⟨rfl, rfl⟩ := hr
  refine bL_law_1448 (fun _ => ?_) (fun z => absurd rfl z)
  have fin := bL_law_1472 (nx _ _ _ _ (si_emptyIn hS hT) h3)
  exact bL_law_1455 (fun _ => fin) (fun z => bL_law_1460 h3.l (vlit rfl) (fun _ => fin) (fun z9 => absurd ((lg_cmp_eq _ _).mpr (hg z)) z9))
theorem w_ifHired (hi : Inj A) (h : CW A o9 s y y rf g w) (hS : SI T y) (hT : 1080 ≤ T ∧ T + 2000 < 2 ^ 31) (hk : kc + 250 ≤ 601024) (hs : ks + 11400 ≤ 7293034) (hj : j + 5 < L) (hL : L ≤ 3072) (nx : ∀ y2 rf g w2, SI (T + 30) y2 → CW A o9 s y2 y2 rf g w2 → LX G l w0 b L xs Z w2 1935 (LV b s (A 0) o9 j) [] (kc + 250) (ks + 11400)) : LX G l w0 b L xs Z w 1475 (LV b s (A 0) o9 j) [] kc ks := by
  obtain ⟨i0, i1, i2, i3, i4, i5⟩ := jv hj hL
  refine bL_law_1475 i1 i2 (mcq := 250) (msq := 11400) (l_ifHired hS.1 (by omega) h.ss h.o) hk hs (fun k w2 hk2 => ?_)
  obtain ⟨rfl, g2, h2, hg⟩ := h.cls hk2 oy_ifHired
  obtain ⟨f2, e2⟩ := h2.mo
  refine bL_law_1492 i1 i2 e2 (m_ifHired hi h2) (by omega) (by omega) (fun r w3 hr => ?_)
  obtain ⟨rfl, h3⟩ := hr
  obtain ⟨f3, e3⟩ := h3.mo
  refine bL_law_1510 e3 h3.thr (by omega) (by omega) (fun r w4 hr => ?_)
  obtain ⟨rfl, rfl⟩ := hr
  refine bL_law_1516 (fun _ => ?_) (fun z => absurd rfl z)
  have fin := bL_law_1540 (nx _ _ _ _ (si_ifHired hS hT) h3)
  exact bL_law_1523 (fun _ => fin) (fun z => bL_law_1528 h3.l (vlit rfl) (fun _ => fin) (fun z9 => absurd ((lg_cmp_eq _ _).mpr (hg z)) z9))
theorem w_freeRoom (hi : Inj A) (h : CW A o9 s y y rf g w) (hS : SI T y) (hT : 1080 ≤ T ∧ T + 2000 < 2 ^ 31) (hk : kc + 250 ≤ 601024) (hs : ks + 11400 ≤ 7293034) (hj : j + 5 < L) (hL : L ≤ 3072) (nx : ∀ y2 rf g w2, SI (T + 30) y2 → CW A o9 s y2 y2 rf g w2 → LX G l w0 b L xs Z w2 1935 (LV b s (A 0) o9 j) [] (kc + 250) (ks + 11400)) : LX G l w0 b L xs Z w 1543 (LV b s (A 0) o9 j) [] kc ks := by
  obtain ⟨i0, i1, i2, i3, i4, i5⟩ := jv hj hL
  refine bL_law_1543 i1 i2 i3 (mcq := 250) (msq := 11400) (l_freeRoom h.ss h.o) hk hs (fun k w2 hk2 => ?_)
  obtain ⟨rfl, g2, h2, hg⟩ := h.cls hk2 oy_freeRoom
  obtain ⟨f2, e2⟩ := h2.mo
  refine bL_law_1566 i1 i2 i3 e2 (m_freeRoom hi h2) (by omega) (by omega) (fun r w3 hr => ?_)
  obtain ⟨rfl, h3⟩ := hr
  obtain ⟨f3, e3⟩ := h3.mo
  refine bL_law_1590 e3 h3.thr (by omega) (by omega) (fun r w4 hr => ?_)
  obtain ⟨rfl, rfl⟩ := hr
  refine bL_law_1596 (fun _ => ?_) (fun z => absurd rfl z)
  have fin := bL_law_1620 (nx _ _ _ _ (si_freeRoom hS hT) h3)
  exact bL_law_1603 (fun _ => fin) (fun z => bL_law_1608 h3.l (vlit rfl) (fun _ => fin) (fun z9 => absurd ((lg_cmp_eq _ _).mpr (hg z)) z9))
theorem w_runScript (hi : Inj A) (h : CW A o9 s y y rf g w) (hS : SI T y) (hT : 1080 ≤ T ∧ T + 2000 < 2 ^ 31) (hk : kc + 250 ≤ 601024) (hs : ks + 11400 ≤ 7293034) (hj : j + 5 < L) (hL : L ≤ 3072) (nx : ∀ y2 rf g w2, SI (T + 30) y2 → CW A o9 s y2 y2 rf g w2 → LX G l w0 b L xs Z w2 1935 (LV b s (A 0) o9 j) [] (kc + 250) (ks + 11400)) : LX G l w0 b L xs Z w 1623 (LV b s (A 0) o9 j) [] kc ks := by
  obtain ⟨i0, i1, i2, i3, i4, i5⟩ := jv hj hL
  refine bL_law_1623 i1 i2 i3 (mcq := 250) (msq := 11400) (l_runScript hS.1 (by omega) h.ss h.o) hk hs (fun k w2 hk2 => ?_)
  obtain ⟨rfl, g2, h2, hg⟩ := h.cls hk2 oy_runScript
  obtain ⟨f2, e2⟩ := h2.mo
  refine bL_law_1656 i1 i2 i3 e2 (m_runScript hS.1 hT.2 hi h2) (by omega) (by omega) (fun r w3 hr => ?_)
  obtain ⟨rfl, h3⟩ := hr
  obtain ⟨f3, e3⟩ := h3.mo
  refine bL_law_1690 e3 h3.thr (by omega) (by omega) (fun r w4 hr => ?_)
  obtain ⟨rfl, rfl⟩ := hr
  refine bL_law_1696 (fun _ => ?_) (fun z => absurd rfl z)
  have fin := bL_law_1720 (nx _ _ _ _ (si_runScript hS hT) h3)
  exact bL_law_1703 (fun _ => fin) (fun z => bL_law_1708 h3.l (vlit rfl) (fun _ => fin) (fun z9 => absurd ((lg_cmp_eq _ _).mpr (hg z)) z9))
theorem w_simulate (hi : Inj A) (h : CW A o9 s y y rf g w) (hS : SI T y) (hT : 1080 ≤ T ∧ T + 2000 < 2 ^ 31) (hk : kc + 250 ≤ 601024) (hs : ks + 11400 ≤ 7293034) (hj : j + 5 < L) (hL : L ≤ 3072) (nx : ∀ y2 rf g w2, SI (T + 30) y2 → CW A o9 s y2 y2 rf g w2 → LX G l w0 b L xs Z w2 1935 (LV b s (A 0) o9 j) [] (kc + 250) (ks + 11400)) : LX G l w0 b L xs Z w 1723 (LV b s (A 0) o9 j) [] kc ks := by
  obtain ⟨i0, i1, i2, i3, i4, i5⟩ := jv hj hL
  refine bL_law_1723 i1 i2 i3 (mcq := 250) (msq := 11400) (l_simulate hS.1 (by omega) h.ss h.o) hk hs (fun k w2 hk2 => ?_)
  obtain ⟨rfl, g2, h2, hg⟩ := h.cls hk2 oy_simulate
  obtain ⟨f2, e2⟩ := h2.mo
  refine bL_law_1756 i1 i2 i3 e2 (m_simulate hi h2) (by omega) (by omega) (fun r w3 hr => ?_)
  obtain ⟨rfl, h3⟩ := hr
  obtain ⟨f3, e3⟩ := h3.mo
  refine bL_law_1790 e3 h3.thr (by omega) (by omega) (fun r w4 hr => ?_)
  obtain ⟨rfl, rfl⟩ := hr
  refine bL_law_1796 (fun _ => ?_) (fun z => absurd rfl z)
  have fin := bL_law_1820 (nx _ _ _ _ (si_simulate hS hT) h3)
  exact bL_law_1803 (fun _ => fin) (fun z => bL_law_1808 h3.l (vlit rfl) (fun _ => fin) (fun z9 => absurd ((lg_cmp_eq _ _).mpr (hg z)) z9))
theorem w_save (hi : Inj A) (h : CW A o9 s y y rf g w) (hS : SI T y) (hT : 1080 ≤ T ∧ T + 2000 < 2 ^ 31) (hk : kc + 250 ≤ 601024) (hs : ks + 11400 ≤ 7293034) (hj : j + 5 < L) (hL : L ≤ 3072) (nx : ∀ y2 rf g w2, SI (T + 30) y2 → CW A o9 s y2 y2 rf g w2 → LX G l w0 b L xs Z w2 1935 (LV b s (A 0) o9 j) [] (kc + 250) (ks + 11400)) : LX G l w0 b L xs Z w 1823 (LV b s (A 0) o9 j) [] kc ks := by
  obtain ⟨i0, i1, i2, i3, i4, i5⟩ := jv hj hL
  refine bL_law_1823 i1 (mcq := 250) (msq := 11400) (l_save h.ss h.o) hk hs (fun k w2 hk2 => ?_)
  obtain ⟨rfl, g2, h2, hg⟩ := h.cls hk2 oy_save
  obtain ⟨f2, e2⟩ := h2.mo
  refine bL_law_1834 i1 e2 (m_save hi h2) (by omega) (by omega) (fun r w3 hr => ?_)
  obtain ⟨rfl, h3⟩ := hr
  obtain ⟨f3, e3⟩ := h3.mo
  refine bL_law_1846 e3 h3.thr (by omega) (by omega) (fun r w4 hr => ?_)
  obtain ⟨rfl, rfl⟩ := hr
  refine bL_law_1852 (fun _ => ?_) (fun z => absurd rfl z)
  have fin := bL_law_1876 (nx _ _ _ _ (si_save hS hT) h3)
  exact bL_law_1859 (fun _ => fin) (fun z => bL_law_1864 h3.l (vlit rfl) (fun _ => fin) (fun z9 => absurd ((lg_cmp_eq _ _).mpr (hg z)) z9))
theorem w_restore (hi : Inj A) (h : CW A o9 s y y rf g w) (hS : SI T y) (hT : 1080 ≤ T ∧ T + 2000 < 2 ^ 31) (hk : kc + 250 ≤ 601024) (hs : ks + 11400 ≤ 7293034) (hj : j + 5 < L) (hL : L ≤ 3072) (nx : ∀ y2 rf g w2, SI (T + 30) y2 → CW A o9 s y2 y2 rf g w2 → LX G l w0 b L xs Z w2 1935 (LV b s (A 0) o9 j) [] (kc + 250) (ks + 11400)) : LX G l w0 b L xs Z w 1879 (LV b s (A 0) o9 j) [] kc ks := by
  obtain ⟨i0, i1, i2, i3, i4, i5⟩ := jv hj hL
  refine bL_law_1879 i1 (mcq := 250) (msq := 11400) (l_restore h.ss h.o) hk hs (fun k w2 hk2 => ?_)
  obtain ⟨rfl, g2, h2, hg⟩ := h.cls hk2 oy_restore
  obtain ⟨f2, e2⟩ := h2.mo
  refine bL_law_1890 i1 e2 (m_restore hi h2) (by omega) (by omega) (fun r w3 hr => ?_)
  obtain ⟨rfl, h3⟩ := hr
  obtain ⟨f3, e3⟩ := h3.mo
  refine bL_law_1902 e3 h3.thr (by omega) (by omega) (fun r w4 hr => ?_)
  obtain ⟨rfl, rfl⟩ := hr
  refine bL_law_1908 (fun _ => ?_) (fun z => absurd rfl z)
  have fin := bL_law_1932 (nx _ _ _ _ (si_restore hS hT) h3)
  exact bL_law_1915 (fun _ => fin) (fun z => bL_law_1920 h3.l (vlit rfl) (fun _ => fin) (fun z9 => absurd ((lg_cmp_eq _ _).mpr (hg z)) z9))
theorem w_clearText (hi : Inj A) (h : CW A o9 s y y rf g w) (hS : SI T y) (hT : 1080 ≤ T ∧ T + 2000 < 2 ^ 31) (hk : kc + 250 ≤ 601024) (hs : ks + 11400 ≤ 7293034) (hj : j + 5 < L) (hL : L ≤ 3072) (nx : ∀ y2 rf g w2, SI (T + 30) y2 → CW A o9 s y2 y2 rf g w2 → LX G l w0 b L xs Z w2 1935 (LV b s (A 0) o9 j) [] (kc + 250) (ks + 11400)) : LX G l w0 b L xs Z w 228 (LV b s (A 0) o9 j) [] kc ks := by
  obtain ⟨D, L9, e0, hob, -, -, -⟩ := h.ss.pres
  refine bL_law_228 hob (a_clearText h.ss) (by omega) (by omega) (fun k w2 hk2 => ?_)
  obtain ⟨-, rfl, h9⟩ := hk2
  have h2 := h.st h9
  obtain ⟨f2, e2⟩ := h2.mo
  refine bL_law_232 e2 (c_clearText (Q := fun r w3 => r = (oClr y).2.1 ∧ CW A o9 s (oClr y).2.2 (oClr y).2.2 (oClr y).1 g w3) hi h2.m (fun w3 h3 => ⟨rfl, h2.mod h3⟩)) (by omega) (by omega) (fun r w3 hr => ?_)
  obtain ⟨rfl, h3⟩ := hr
  refine bL_law_236 (fun _ => X.widen (Nat.le_add_right _ _) (Nat.le_add_right _ _) (nx _ _ _ _ ?_ h3)) (fun z => absurd rfl z)
  exact ⟨hS.1.up, fun i hi => (hS.2.1 i hi).up, fun k hk c hc => (hS.2.2.1 k hk c hc).up, Nat.zero_le _⟩
theorem w_errorPosition (hi : Inj A) (h : CW A o9 s y y rf g w) (hS : SI T y) (hT : 1080 ≤ T ∧ T + 2000 < 2 ^ 31) (hk : kc + 250 ≤ 601024) (hs : ks + 11400 ≤ 7293034) (hj : j + 5 < L) (hL : L ≤ 3072) (nx : ∀ y2 rf g w2, SI (T + 30) y2 → CW A o9 s y2 y2 rf g w2 → LX G l w0 b L xs Z w2 1935 (LV b s (A 0) o9 j) [] (kc + 250) (ks + 11400)) : LX G l w0 b L xs Z w 241 (LV b s (A 0) o9 j) [] kc ks := by
  obtain ⟨D, L9, e0, hob, -, -, -⟩ := h.ss.pres
  refine bL_law_241 hob (a_errorPosition h.ss) (by omega) (by omega) (fun k w2 hk2 => ?_)
  obtain ⟨rfl, h9⟩ := hk2
  have h2 := h.st h9
  obtain ⟨f2, e2⟩ := h2.mo
  obtain ⟨sp, ou, hm⟩ := h2.m
  refine bL_law_245 e2 (c_errorPosition (Q := fun r w3 => r = (txt y).1 ∧ CW A o9 s y y 0 g w3) hi hm (fun w3 sp2 ou2 h3 => ⟨rfl, h2.mod ⟨sp2, ou2, h3⟩⟩)) (by omega) (by omega) (fun r w3 hr => ?_)
  obtain ⟨rfl, h3⟩ := hr
  exact bL_law_249 (fun _ => X.widen (Nat.le_add_right _ _) (Nat.le_add_right _ _) (nx _ _ _ _ (hS.mono (by omega)) h3)) (fun z => absurd rfl z)
theorem w_giveAll (hi : Inj A) (h : CW A o9 s y y rf g w) (hS : SI T y) (hT : 1080 ≤ T ∧ T + 2000 < 2 ^ 31) (hk : kc + 250 ≤ 601024) (hs : ks + 11400 ≤ 7293034) (hj : j + 5 < L) (hL : L ≤ 3072) (nx : ∀ y2 rf g w2, SI (T + 30) y2 → CW A o9 s y2 y2 rf g w2 → LX G l w0 b L xs Z w2 1935 (LV b s (A 0) o9 j) [] (kc + 250) (ks + 11400)) : LX G l w0 b L xs Z w 910 (LV b s (A 0) o9 j) [] kc ks := by
  obtain ⟨D, L9, e0, hob, -, -, -⟩ := h.ss.pres
  refine bL_law_910 hob (mcq := 250) (msq := 11400) (a_giveAll h.ss hS.1) hk hs (fun k w2 hk2 => ?_)
  obtain ⟨-, rfl, h9⟩ := hk2
  have h2 := h.st h9
  obtain ⟨f2, e2⟩ := h2.mo
  refine bL_law_914 e2 (c_giveAll (Q := fun r w3 => r = (oGvA y).2.1 ∧ CW A o9 s (oGvA y).2.2 (oGvA y).2.2 (oGvA y).1 g w3) hi h2.m (fun w3 h3 => ⟨rfl, h2.mod h3⟩)) (by omega) (by omega) (fun r w3 hr => ?_)
  obtain ⟨rfl, h3⟩ := hr
  exact bL_law_918 (fun _ => nx _ _ _ _ (hS.act (hS.1.gv _).up) h3) (fun z => absurd rfl z)
theorem lsub6 (hL : L ≤ 3072) : (Int32.ofNat L - 6).toInt = (L : Int) - 6 := by
  show (nI L - 6).toInt = _
  rw [Int32.toInt_sub, nI_toInt (by omega), show (6 : Int32).toInt = 6 from rfl]
  exact bm32 (by omega) (by omega)
theorem law_loop (hi : Inj A) (hL : L ≤ 3072) (K S : Nat) (hK : K ≤ 400000) (hS9 : S ≤ 1000000) (fin : ∀ w kc ks, kc ≤ 601024 → ks ≤ 7293034 → LX G l w0 b L xs Z w 1941 [] [] kc ks) : ∀ d i, L ≤ 6 * (i + d) + 5 → i + d ≤ 512 → ∀ (y : Sy) (rf : Int32) (g : Nat → Int64) (w : Wd), SI (1080 + 30 * i) y → CW A o9 s y y rf g w → LX G l w0 b L xs Z w 23 (LV b s (A 0) o9 (6 * i)) [] (K + 250 * i) (S + 11400 * i) := by
  intro d
  induction d with
  | zero =>
    intro i h1 h2 y rf g w hS h
    refine bL_law_23 (fun _ => fin _ _ _ (by omega) (by omega)) (fun z => absurd ?_ z)
    rw [i32_lt, lsub6 hL, nI_toInt (by omega)]
    omega
  | succ d ih =>
    intro i h1 h2 y rf g w hS h
    refine bL_law_23 (fun _ => fin _ _ _ (by omega) (by omega)) (fun z => ?_)
    rw [i32_lt, lsub6 hL, nI_toInt (by omega)] at z
    have hj : 6 * i + 5 < L := by omega
    obtain ⟨i0, -⟩ := jv hj hL
    have nx : ∀ y2 rf g w2, SI (1080 + 30 * i + 30) y2 → CW A o9 s y2 y2 rf g w2 → LX G l w0 b L xs Z w2 1935 (LV b s (A 0) o9 (6 * i)) [] (K + 250 * i + 250) (S + 11400 * i + 11400) := fun y2 rf g w2 hS2 h2 => bL_law_1935 (by
      have e6 : nI (6 * i) + 6 = nI (6 * (i + 1)) := nI_add (6 * i) 6
      rw [e6, show K + 250 * i + 250 = K + 250 * (i + 1) by omega, show S + 11400 * i + 11400 = S + 11400 * (i + 1) by omega]
      exact ih (i + 1) (by omega) (by omega) y2 rf g w2 (by rw [show 1080 + 30 * (i + 1) = 1080 + 30 * i + 30 by omega]; exact hS2) h2)
    have hT : 1080 ≤ 1080 + 30 * i ∧ 1080 + 30 * i + 2000 < 2 ^ 31 := ⟨by omega, by omega⟩
    have hk : K + 250 * i + 250 ≤ 601024 := by omega
    have hs : S + 11400 * i + 11400 ≤ 7293034 := by omega
    by_cases q : ((xs (nI (6 * i)).toNatClampNeg) &&& 31).toInt < 0 ∨ 28 < ((xs (nI (6 * i)).toNatClampNeg) &&& 31).toInt
    · exact bL_law_33_d i0 q (X.widen (Nat.le_add_right _ _) (Nat.le_add_right _ _) (nx _ _ _ _ (hS.mono (by omega)) h))
    · have ht : ∃ t, ((xs (nI (6 * i)).toNatClampNeg) &&& 31).toInt = t := ⟨_, rfl⟩
      obtain ⟨t, ht⟩ := ht
      rw [ht] at q
      have hs9 : t = 0 ∨ t = 1 ∨ t = 2 ∨ t = 3 ∨ t = 4 ∨ t = 5 ∨ t = 6 ∨ t = 7 ∨ t = 8 ∨ t = 9 ∨ t = 10 ∨ t = 11 ∨ t = 12 ∨ t = 13 ∨ t = 14 ∨ t = 15 ∨ t = 16 ∨ t = 17 ∨ t = 18 ∨ t = 19 ∨ t = 20 ∨ t = 21 ∨ t = 22 ∨ t = 23 ∨ t = 24 ∨ t = 25 ∨ t = 26 ∨ t = 27 ∨ t = 28 := by omega
      rcases hs9 with rfl | rfl | rfl | rfl | rfl | rfl | rfl | rfl | rfl | rfl | rfl | rfl | rfl | rfl | rfl | rfl | rfl | rfl | rfl | rfl | rfl | rfl | rfl | rfl | rfl | rfl | rfl | rfl | rfl
      · exact bL_law_33_0 i0 ht (w_append hi h hS hT hk hs hj hL nx)
      · exact bL_law_33_1 i0 ht (w_clearText hi h hS hT hk hs hj hL nx)
      · exact bL_law_33_2 i0 ht (w_errorPosition hi h hS hT hk hs hj hL nx)
      · exact bL_law_33_3 i0 ht (w_load hi h hS hT hk hs hj hL nx)
      · exact bL_law_33_4 i0 ht (w_about hi h hS hT hk hs hj hL nx)
      · exact bL_law_33_5 i0 ht (w_stenographer hi h hS hT hk hs hj hL nx)
      · exact bL_law_33_6 i0 ht (w_sessionOf hi h hS hT hk hs hj hL nx)
      · exact bL_law_33_7 i0 ht (w_transcript hi h hS hT hk hs hj hL nx)
      · exact bL_law_33_8 i0 ht (w_setting hi h hS hT hk hs hj hL nx)
      · exact bL_law_33_9 i0 ht (w_hire hi h hS hT hk hs hj hL nx)
      · exact bL_law_33_10 i0 ht (w_session hi h hS hT hk hs hj hL nx)
      · exact bL_law_33_11 i0 ht (w_cancel hi h hS hT hk hs hj hL nx)
      · exact bL_law_33_12 i0 ht (w_give hi h hS hT hk hs hj hL nx)
      · exact bL_law_33_13 i0 ht (w_giveAll hi h hS hT hk hs hj hL nx)
      · exact bL_law_33_14 i0 ht (w_extend hi h hS hT hk hs hj hL nx)
      · exact bL_law_33_15 i0 ht (w_leave hi h hS hT hk hs hj hL nx)
      · exact bL_law_33_16 i0 ht (w_run hi h hS hT hk hs hj hL nx)
      · exact bL_law_33_17 i0 ht (w_set hi h hS hT hk hs hj hL nx)
      · exact bL_law_33_18 i0 ht (w_undo hi h hS hT hk hs hj hL nx)
      · exact bL_law_33_19 i0 ht (w_whyNot hi h hS hT hk hs hj hL nx)
      · exact bL_law_33_20 i0 ht (w_whom hi h hS hT hk hs hj hL nx)
      · exact bL_law_33_21 i0 ht (w_coming hi h hS hT hk hs hj hL nx)
      · exact bL_law_33_22 i0 ht (w_emptyIn hi h hS hT hk hs hj hL nx)
      · exact bL_law_33_23 i0 ht (w_ifHired hi h hS hT hk hs hj hL nx)
      · exact bL_law_33_24 i0 ht (w_freeRoom hi h hS hT hk hs hj hL nx)
      · exact bL_law_33_25 i0 ht (w_runScript hi h hS hT hk hs hj hL nx)
      · exact bL_law_33_26 i0 ht (w_simulate hi h hS hT hk hs hj hL nx)
      · exact bL_law_33_27 i0 ht (w_save hi h hS hT hk hs hj hL nx)
      · exact bL_law_33_28 i0 ht (w_restore hi h hS hT hk hs hj hL nx)
end LO
