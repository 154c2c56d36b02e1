/-! THE CLASS: what would be -/
theorem day_m (c : Cal) {L : Nat} (h : 16 ≤ L) (h2 : L ≤ 640) : pC (dayL c L) ≤ pC L ∧ pS (dayL c L) ≤ pS L := dayL_m c h h2
theorem run_m (c : Cal) {L : Nat} (h : 16 ≤ L) (h2 : L ≤ 640) (n : Nat) : pC (runL c L n) ≤ pC L ∧ pS (runL c L n) ≤ pS L := by
  have := runL_m c h h2 0 n
  rw [Nat.zero_add] at this
  exact this
theorem tf_no {b : Bool} (h1 : b = true) (h2 : b = false) : False := by
  rw [h1] at h2
  cases h2
section TY
variable {G : GG} {l : Launch} {fr w : Wd} {s : Nat} {y : Sy}
theorem a_coming {n x : Int32} {T : Nat} (h : StW fr s y w) (hI : Inv T (yC y)) (hT : T + 60 < 2 ^ 31) : CX5_coming G l 250 11400 [.ref s, .int n, .int x] w (RQ fr s (oCom y n x)) (RX fr s y (oCom y n x) SAE SAE SAE) := by
  have bad : ¬ (rngI n 1 60 = true ∧ rngI x 0 3 = true) → RX fr s y (oCom y n x) SAE SAE SAE SAE w := fun z => by
    have eo : oCom y n x = (1, 0, y) := by unfold oCom; rw [if_neg z]
    rw [eo]; exact ⟨h, Or.inl ⟨rfl, rfl⟩⟩
  refine sX5_coming (bX5_coming_0 (fun z => bX5_coming_20 (by decide) (by decide) (bad (fun z9 => tf_no z9.1 (rng_lo rfl z)))) (fun z1 => bX5_coming_5 (fun z => bX5_coming_20 (by decide) (by decide) (bad (fun z9 => tf_no z9.1 (rng_hi rfl z)))) (fun z2 => bX5_coming_11 (fun z => bX5_coming_20 (by decide) (by decide) (bad (fun z9 => tf_no z9.2 (rng_lo rfl z)))) (fun z3 => bX5_coming_15 (fun z4 => ?_) (fun z => bX5_coming_20 (by decide) (by decide) (bad (fun z9 => tf_no z9.2 (rng_nle rfl z))))))))
  have q1 : rngI n 1 60 = true := rng_ok3 rfl rfl z1 z2
  have q2 : rngI x 0 3 = true := rng_ok rfl rfl z3 z4
  have eo : oCom y n x = (0, (if x = 3 then nI (cTs (runTo (yC y) n.toNatClampNeg)).length else cSc (runTo (yC y) n.toNatClampNeg) (4 + x.toNatClampNeg) - cSc (yC y) (4 + x.toNatClampNeg)), y) := by unfold oCom; rw [if_pos ⟨q1, q2⟩]
  rw [eo]
  obtain ⟨D, c1, L1, L0, e0, ho, hw, hoc, hci, hk⟩ := h.copy
  obtain ⟨n1, n2⟩ := rng_nI q1 (by decide) (by decide)
  have n3 := rngI_iff.mp q1
  obtain ⟨k1, k2, k3⟩ := rng_k (b := 3) q2
  have lb := hw.lb
  have b1 := pC_le lb.1
  have b2 := pS_le lb.1
  refine bX5_coming_31 (mcq := 120) (msq := 5664) (Qc := fun w2 => ∃ A' L', A' 0 = D 1 0 ∧ CalW (cutA w (D 1) 26) A' (yC y) L' w2) ho rfl rfl hw.i.o (c_copyFrom hw hci (by omega) (by omega) (fun A' w2 hA h2 => ⟨A', _, hA, h2⟩)) (by decide) (by decide) (fun w2 hw2 => ?_)
  obtain ⟨A', L', hA, h2⟩ := hw2
  have lb2 := h2.lb
  have b3 := pC_le lb2.1
  have b4 := pS_le lb2.1
  refine bX5_coming_42 (mcq := 120) (msq := 5664) (Qc := fun r w3 => r = cSc (runTo (yC y) n.toNatClampNeg) 6 - cSc (yC y) 6 ∧ ∃ A'' L'', A'' 0 = D 1 0 ∧ CalW (cutA w (D 1) 26) A'' (runTo (yC y) n.toNatClampNeg) L'' w3) (h2.f hoc) rfl (by rw [← hA]; exact h2.i.o) (by
    rw [← hA]
    exact c_finesOfDays (n := n.toNatClampNeg) h2 hI n1 (by omega) (by omega) (by omega) (by omega) (fun A'' w3 hA2 h3 => ⟨rfl, A'', _, hA2, h3⟩)) (by decide) (by decide) (fun r w3 hr => ?_)
  obtain ⟨hr, A3, L3, hA3, h3⟩ := hr
  have ho3 := h3.f hoc
  have hcal : w3 (D 1 0) = some (.inl (0, calF A3 (runTo (yC y) n.toNatClampNeg))) := by rw [← hA3]; exact h3.i.o
  have hp : CalIn w3 (D 0) (yC y) L0 := hci.mono (fun q e hq => h3.f hq)
  have hst : StW fr s y w3 := hk _ _ _ _ hA3 h3
  generalize hxk : x.toNatClampNeg = k at k1 k2 k3 ⊢
  have hs : k = 0 ∨ k = 1 ∨ k = 2 ∨ k = 3 := by omega
  rcases hs with rfl | rfl | rfl | rfl
  · refine bX5_coming_50_0 k3 (bX5_coming_80 ho3 rfl hcal rfl rfl hp.o rfl ⟨rfl, ?_, hst⟩ (by decide) (by decide))
    show _ = if x = 3 then _ else _
    rw [if_neg (by rw [k1]; decide)]
  · refine bX5_coming_50_1 k3 (bX5_coming_96 (Qc := fun r w4 => r = cSc (runTo (yC y) n.toNatClampNeg) 5 ∧ w3 = w4) ho3 rfl hcal (by rw [← hA3]; exact c_allPay h3.i ⟨((hI.run n.toNatClampNeg (by omega)).py).symm, rfl⟩) (by decide) (by decide) (fun r w4 hr4 => ?_))
    obtain ⟨hr4, rfl⟩ := hr4
    refine bX5_coming_103 ho3 rfl hp.o (c_allPay (Q := fun r w4 => r = cSc (yC y) 5 ∧ w3 = w4) hp ⟨hI.py.symm, rfl⟩) (by decide) (by decide) (fun r2 w4 hr5 => ?_)
    obtain ⟨hr5, rfl⟩ := hr5
    refine bX5_coming_110 ⟨rfl, ?_, hst⟩ (by decide) (by decide)
    show _ = if x = 3 then _ else _
    rw [if_neg (by rw [k1]; decide), hr4, hr5]
  · refine bX5_coming_50_2 k3 (bX5_coming_112 ⟨rfl, ?_, hst⟩ (by decide) (by decide))
    show _ = if x = 3 then _ else _
    rw [if_neg (by rw [k1]; decide), hr]
  · refine bX5_coming_50_d (Or.inr (by rw [k3]; decide)) (bX5_coming_114 ho3 rfl hcal rfl h3.i.dk.1 rfl ⟨rfl, ?_, hst⟩ (by decide) (by decide))
    show _ = if x = 3 then _ else _
    rw [if_pos (by rw [k1]; rfl)]
theorem a_emptyIn {p : Int32} {T : Nat} (h : StW fr s y w) (hI : Inv T (yC y)) (hT : T + 70 < 2 ^ 31) : CX5_emptyIn G l 250 11400 [.ref s, .int p] w (RQ fr s (oEmp y p)) (RX fr s y (oEmp y p) SIO SIO SIO) := by
  obtain ⟨D, c1, L1, L0, e0, ho, hw, hoc, hci, hk⟩ := h.copy
  obtain ⟨D9, L9, e9, ho9, hw9, -, -⟩ := h.pres
  have hb := hw9.i.b0
  refine sX5_emptyIn (bX5_emptyIn_0 ho9 rfl hw9.i.o (c_staffFault (Q := fun r w2 => bF (inN p (cPs (yC y)).length) 1 = r ∧ w = w2) hw9.i ⟨rfl, rfl⟩) (by decide) (by decide) (fun r w2 hr => ?_))
  obtain ⟨rfl, rfl⟩ := hr
  refine bX5_emptyIn_8 (c_refuse bF_or) (by decide) (by decide) (fun w2 hw2 => ?_) (fun E w2 hE => ?_)
  · obtain ⟨h0, rfl⟩ := hw2
    have q1 := (bF_0 (by decide)).mp h0
    obtain ⟨p1, p2⟩ := inN_k q1 (by omega)
    have pm : ¬ p = -1 := by rw [p2]; exact nI_m1 (by omega)
    have eo : oEmp y p = (0, empF p 61 0 (yC y), y) := by unfold oEmp; rw [if_pos q1]
    rw [eo]
    have lb := hw.lb
    have b1 := pC_le lb.1
    have b2 := pS_le lb.1
    have bl := hci.dk.2.2.2.2.1
    have bl2 := hci.dk.2.2.2.2.2.2
    have gm := grw_m lb.1 lb.2.1 (n := (cTs (yC y)).length) (by omega)
    refine bX5_emptyIn_11 (mcq := pC L1 - pC (grw L1 (cTs (yC y)).length)) (msq := pS L1 - pS (grw L1 (cTs (yC y)).length)) (Qc := fun w2 => ∃ A', A' 0 = D 1 0 ∧ CalW (cutA w (D 1) 26) A' (yC y) (grw L1 (cTs (yC y)).length) w2) ho rfl rfl hw.i.o (c_copyFrom hw hci (by omega) (by omega) (fun A' w2 hA h2 => ⟨A', hA, h2⟩)) (by omega) (by omega) (fun w2 hw2 => bX5_emptyIn_22 ?_)
    obtain ⟨A', hA, h2⟩ := hw2
    have key : ∀ f k, k + f = 61 → ∀ (c : Cal) (L : Nat) (A : Nat → Nat) (w2 : Wd) (kc ks T : Nat), Inv T c → T + f < 2 ^ 31 → A 0 = D 1 0 → CalW (cutA w (D 1) 26) A c L w2 → kc + pC L ≤ 130 → ks + pS L ≤ 5700 → empF p f k c = empF p 61 0 (yC y) → KX5_emptyIn G l 250 11400 w (ZXI G 250 11400 w (RQ fr s (0, empF p 61 0 (yC y), y)) (RX fr s y (0, empF p 61 0 (yC y), y) SIO SIO SIO)) w2 24 [(0, .ref s), (1, .int p), (2, .int (nI k))] [] kc ks := by
      intro f
      induction f with
      | zero =>
        intro k hk9 c L A w2 kc ks T hI hT hA h2 hkc hks e
        have : k = 61 := by omega
        subst this
        exact bX5_emptyIn_24 (fun _ => bX5_emptyIn_59 ⟨rfl, e, hk _ _ _ _ hA h2⟩ (by omega) (by omega)) (fun z => absurd (by decide) z)
      | succ f ih =>
        intro k hk9 c L A w2 kc ks T hI hT hA h2 hkc hks e
        have hcal : w2 (D 1 0) = some (.inl (0, calF A c)) := by rw [← hA]; exact h2.i.o
        have ho2 := h2.f hoc
        refine bX5_emptyIn_24 (fun z => absurd z (nI_nlt (a := 60) (b := k) (by omega) (by omega))) (fun _ => ?_)
        refine bX5_emptyIn_30 ho2 rfl hcal rfl h2.i.dk.1 (c_countOf (Q := fun r w3 => dsk (cTs c) p 0 = r ∧ w2 = w3) h2.i.dk pm ⟨rfl, rfl⟩) (by omega) (by omega) (fun r w3 hr => ?_)
        obtain ⟨rfl, rfl⟩ := hr
        refine bX5_emptyIn_41 (fun z => ?_) (fun z => bX5_emptyIn_44 ⟨rfl, ?_, hk _ _ _ _ hA h2⟩ (by omega) (by omega))
        · have lb := h2.lb
          have dm := day_m c lb.1 lb.2.1
          refine bX5_emptyIn_46 (mcq := pC L - pC (dayL c L)) (msq := pS L - pS (dayL c L)) (Qc := fun w3 => ∃ A', A' 0 = D 1 0 ∧ CalW (cutA w (D 1) 26) A' (dayC c) (dayL c L) w3) ho2 rfl hcal (by
            rw [← hA]
            exact c_letDayGoBy h2 hI (by omega) (by omega) (fun A' w3 hA2 h3 => ⟨A', hA2, h3⟩)) (by omega) (by omega) (fun w3 hw3 => bX5_emptyIn_53 ?_)
          obtain ⟨A', hA2, h3⟩ := hw3
          rw [nI_1]
          refine ih (k + 1) (by omega) (dayC c) (dayL c L) A' w3 _ _ (T + 1) (hI.dC (by omega)) (by omega) hA2 h3 (by omega) (by omega) ?_
          rw [← e, empF, if_neg z]
        · show nI k = empF p 61 0 (yC y)
          rw [← e, empF, if_pos z]
    exact key 61 0 rfl (yC y) _ A' w2 _ _ T hI (by omega) hA h2 (by omega) (by omega) rfl
  · obtain ⟨rfl, hE⟩ := hE
    obtain ⟨e1, rfl⟩ := bF_x hE
    have eo : oEmp y p = (1, 0, y) := by unfold oEmp; rw [if_neg (by rw [e1]; decide)]
    rw [eo]
    exact ⟨h, Or.inl ⟨rfl, rfl⟩⟩
theorem a_ifHired {v n : Int32} {T : Nat} (h : StW fr s y w) (hI : Inv T (yC y)) (hT : T + 60 < 2 ^ 31) : CX5_ifHired G l 250 11400 [.ref s, .int v, .int n] w (RQ fr s (oIfH y v n)) (RX fr s y (oIfH y v n) SAE SSE SSE) := by
  obtain ⟨D, c1, L1, L0, e0, ho, hw, hoc, hci, hk⟩ := h.copy
  obtain ⟨D9, L9, e9, ho9, hw9, -, -⟩ := h.pres
  have bad : ¬ (rngI v 1 20 = true ∧ rngI n 1 30 = true) → RX fr s y (oIfH y v n) SAE SSE SSE SAE w := fun z => by
    have eo : oIfH y v n = (1, 0, y) := by unfold oIfH; rw [if_neg z]
    rw [eo]; exact ⟨h, Or.inl ⟨rfl, rfl⟩⟩
  refine sX5_ifHired (bX5_ifHired_0 (fun z => bX5_ifHired_11 (by decide) (by decide) (bad (fun z9 => tf_no z9.2 (rng_lo rfl z)))) (fun z1 => bX5_ifHired_5 (fun z2 => ?_) (fun z => bX5_ifHired_11 (by decide) (by decide) (bad (fun z9 => tf_no z9.2 (rng_nle rfl z))))))
  have q1 : rngI n 1 30 = true := rng_ok rfl rfl z1 z2
  obtain ⟨n1, n2⟩ := rng_nI q1 (by decide) (by decide)
  have n3 := rngI_iff.mp q1
  refine bX5_ifHired_22 ho9 rfl hw9.i.o (c_hireFault (Q := fun r w2 => r = hireF (yC y) v ∧ w = w2) hw9.i ⟨rfl, rfl⟩) (by decide) (by decide) (fun r w2 hr => ?_)
  obtain ⟨hr, rfl⟩ := hr
  refine bX5_ifHired_30 (c_refuse (by rw [hr]; exact af_hire (c := yC y))) (by decide) (by decide) (fun w2 hw2 => ?_) (fun E w2 hE => ?_)
  · obtain ⟨h0, rfl⟩ := hw2
    obtain ⟨q2, q3⟩ := az_hire (hr.symm.trans h0)
    have eo : oIfH y v n = (0, finW (yC y) n.toNatClampNeg - finW (hireC (yC y) v) n.toNatClampNeg, y) := by unfold oIfH; rw [if_pos ⟨q2, q1⟩, if_pos q3]
    rw [eo]
    have bl := hci.dk.2.2.2.2.1
    have bl2 := hci.dk.2.2.2.2.2.2
    generalize n.toNatClampNeg = m at n1 n2 ⊢
    have mb : m < 2 ^ 31 := by omega
    have mT : T + m < 2 ^ 31 := by omega
    have lb := hw.lb
    have b1 := pC_le lb.1
    have b2 := pS_le lb.1
    have gm := grw_m lb.1 lb.2.1 (n := (cTs (yC y)).length) (by omega)
    refine bX5_ifHired_33 (mcq := pC L1 - pC (grw L1 (cTs (yC y)).length)) (msq := pS L1 - pS (grw L1 (cTs (yC y)).length)) (Qc := fun w2 => ∃ A', A' 0 = D 1 0 ∧ CalW (cutA w (D 1) 26) A' (yC y) (grw L1 (cTs (yC y)).length) w2) ho rfl rfl hw.i.o (c_copyFrom hw hci (by omega) (by omega) (fun A' w2 hA h2 => ⟨A', hA, h2⟩)) (by omega) (by omega) (fun w2 hw2 => ?_)
    obtain ⟨A2, hA2, h2⟩ := hw2
    generalize grw L1 (cTs (yC y)).length = L2 at gm h2 ⊢
    refine bX5_ifHired_44 (Qc := fun r w3 => CalW (cutA w (D 1) 26) A2 (gvAll (yC y)).1 L2 w3) (h2.f hoc) rfl (by rw [← hA2]; exact h2.i.o) (by rw [← hA2]; exact c_giveToBest h2 hI (fun w3 h3 => h3)) (by omega) (by omega) (fun r w3 h3 => ?_)
    have lb3 := h3.lb
    have rm := run_m (gvAll (yC y)).1 lb3.1 lb3.2.1 m
    have rb := runL_b (gvAll (yC y)).1 lb3.1 lb3.2.1 m
    refine bX5_ifHired_51 (mcq := pC L2 - pC (runL (gvAll (yC y)).1 L2 m)) (msq := pS L2 - pS (runL (gvAll (yC y)).1 L2 m)) (Qc := fun r w4 => r = finW (yC y) m ∧ ∃ A', A' 0 = D 1 0 ∧ CalW (cutA w (D 1) 26) A' (runTo (gvAll (yC y)).1 m) (runL (gvAll (yC y)).1 L2 m) w4) (h3.f hoc) rfl (by rw [← hA2]; exact h3.i.o) (by
      rw [← hA2]
      exact c_finesOfDays (n := m) h3 (hI.gv (cSs (yC y)).length) n1 mb mT (by omega) (by omega) (fun A' w4 hA4 h4 => ⟨rfl, A', hA4, h4⟩)) (by omega) (by omega) (fun r4 w4 hr4 => ?_)
    obtain ⟨hr4, A4, hA4, h4⟩ := hr4
    generalize runL (gvAll (yC y)).1 L2 m = L4 at rm rb h4 ⊢
    have gm5 := grw_m rb.1 rb.2 (n := (cTs (yC y)).length) (by omega)
    refine bX5_ifHired_60 (mcq := pC L4 - pC (grw L4 (cTs (yC y)).length)) (msq := pS L4 - pS (grw L4 (cTs (yC y)).length)) (Qc := fun w2 => ∃ A', A' 0 = D 1 0 ∧ CalW (cutA w (D 1) 26) A' (yC y) (grw L4 (cTs (yC y)).length) w2) (h4.f hoc) rfl rfl (by rw [← hA4]; exact h4.i.o) (by
      rw [← hA4]
      exact c_copyFrom h4 hci (by omega) (by omega) (fun A' w2 hA h2 => ⟨A', hA, h2⟩)) (by omega) (by omega) (fun w5 hw5 => ?_)
    obtain ⟨A5, hA5, h5⟩ := hw5
    generalize grw L4 (cTs (yC y)).length = L5 at gm5 h5 ⊢
    refine bX5_ifHired_72 (Qc := fun r w6 => CalW (cutA w (D 1) 26) A5 (hireC (yC y) v) L5 w6) (h5.f hoc) rfl (by rw [← hA5]; exact h5.i.o) (by rw [← hA5]; exact c_addSten h5 q3 (fun w6 h6 => h6)) (by omega) (by omega) (fun r6 w6 h6 => ?_)
    have hI6 := hI.hire v q3
    refine bX5_ifHired_80 (Qc := fun r w7 => CalW (cutA w (D 1) 26) A5 (gvAll (hireC (yC y) v)).1 L5 w7) (h6.f hoc) rfl (by rw [← hA5]; exact h6.i.o) (by rw [← hA5]; exact c_giveToBest h6 hI6 (fun w3 h3 => h3)) (by omega) (by omega) (fun r7 w7 h7 => ?_)
    have lb7 := h7.lb
    have rm7 := run_m (gvAll (hireC (yC y) v)).1 lb7.1 lb7.2.1 m
    refine bX5_ifHired_88 (mcq := pC L5 - pC (runL (gvAll (hireC (yC y) v)).1 L5 m)) (msq := pS L5 - pS (runL (gvAll (hireC (yC y) v)).1 L5 m)) (Qc := fun r w4 => r = finW (hireC (yC y) v) m ∧ ∃ A', A' 0 = D 1 0 ∧ CalW (cutA w (D 1) 26) A' (runTo (gvAll (hireC (yC y) v)).1 m) (runL (gvAll (hireC (yC y) v)).1 L5 m) w4) (h7.f hoc) rfl (by rw [← hA5]; exact h7.i.o) (by
      rw [← hA5]
      exact c_finesOfDays (n := m) h7 (hI6.gv (cSs (hireC (yC y) v)).length) n1 mb mT (by omega) (by omega) (fun A' w4 hA4 h4 => ⟨rfl, A', hA4, h4⟩)) (by omega) (by omega) (fun r8 w8 hr8 => ?_)
    obtain ⟨hr8, A8, hA8, h8⟩ := hr8
    exact bX5_ifHired_98 ⟨rfl, by rw [hr4, hr8], hk _ _ _ _ hA8 h8⟩ (by omega) (by omega)
  · obtain ⟨rfl, hE⟩ := hE
    subst hr
    by_cases q2 : rngI v 1 20 = true
    · by_cases q3 : (cPs (yC y)).length < 6
      · unfold hireF at hE
        rw [if_pos q2, if_pos q3] at hE
        rcases hE with ⟨z, -⟩ | ⟨z, -⟩ | ⟨z, -⟩ <;> exact absurd z (by decide)
      · unfold hireF at hE
        rw [if_pos q2, if_neg q3] at hE
        have eo : oIfH y v n = (2, 0, y) := by unfold oIfH; rw [if_pos ⟨q2, q1⟩, if_neg q3]
        rw [eo]
        rcases hE with ⟨z, -⟩ | ⟨z, -⟩ | ⟨z, e⟩
        · exact absurd z (by decide)
        · exact absurd z (by decide)
        · exact ⟨h, Or.inr (Or.inl ⟨rfl, e⟩)⟩
    · unfold hireF at hE
      rw [if_neg q2] at hE
      rcases hE with ⟨z, -⟩ | ⟨z, e⟩ | ⟨z, -⟩
      · exact absurd z (by decide)
      · rw [e]; exact bad (fun z => q2 z.1)
      · exact absurd z (by decide)
end TY
