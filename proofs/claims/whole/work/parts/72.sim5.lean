/-! THE CLASS: scripts and simulations -/
theorem pw_int : ∀ N : Nat, N ≤ 3 → ((pw N - 1).toInt = (pw N).toInt - 1 ∧ 0 < (pw N).toInt)
  | 0, _ => by decide
  | 1, _ => by decide
  | 2, _ => by decide
  | 3, _ => by decide
  | n + 4, h => absurd h (by omega)
section SM
variable {G : GG} {l : Launch} {fr w : Wd} {s : Nat} {y : Sy}
theorem a_simulate {x : Int64} {m : Int32} {T : Nat} (h : StW fr s y w) (hI : Inv T (yC y)) (hT : T + 100 < 2 ^ 31) : CX5_simulate G l 250 11400 [.ref s, .long x, .int m] w (RQ fr s (oSim y x m)) (RX fr s y (oSim y x m) SAE SAE SAE) := by
  have bad : ¬ rngI m 1 60 = true → RX fr s y (oSim y x m) SAE SAE SAE SAE w := fun z => by
    have eo : oSim y x m = (1, 0, y) := by unfold oSim; rw [if_neg z]
    rw [eo]; exact ⟨h, Or.inl ⟨rfl, rfl⟩⟩
  refine sX5_simulate (bX5_simulate_0 (fun z => bX5_simulate_11 (by decide) (by decide) (bad (fun z9 => tf_no z9 (rng_lo rfl z)))) (fun z1 => bX5_simulate_5 (fun z2 => ?_) (fun z => bX5_simulate_11 (by decide) (by decide) (bad (fun z9 => tf_no z9 (rng_nle rfl z))))))
  have q1 : rngI m 1 60 = true := rng_ok rfl rfl z1 z2
  obtain ⟨n1, n2⟩ := rng_nI q1 (by decide) (by decide)
  have n3 := rngI_iff.mp q1
  have eo : oSim y x m = (0, 1000 * (cSc (simF m.toNatClampNeg x (yC y)) 4 - cSc (yC y) 4) + nI (cTs (simF m.toNatClampNeg x (yC y))).length, y) := by unfold oSim; rw [if_pos q1]
  rw [eo]
  generalize m.toNatClampNeg = M at n1 n2 ⊢
  subst n1
  have hM : M ≤ 60 := by omega
  clear n2 n3 q1 eo bad z1 z2
  obtain ⟨D, c1, L1, L0, e0, ho, hw, hoc, hci, hk⟩ := h.copy
  have lb := hw.lb
  have b1 := pC_le lb.1
  have b2 := pS_le lb.1
  have bl := hci.dk.2.2.2.2.1
  have bl2 := hci.dk.2.2.2.2.2.2
  have gm := grw_m lb.1 lb.2.1 (n := (cTs (yC y)).length) (by omega)
  refine bX5_simulate_22 (mcq := pC L1 - pC (grw L1 (cTs (yC y)).length)) (msq := pS L1 - pS (grw L1 (cTs (yC y)).length)) (Qc := fun w2 => ∃ A', A' 0 = D 1 0 ∧ CalW (cutA w (D 1) 26) A' (yC y) (grw L1 (cTs (yC y)).length) w2) ho rfl rfl hw.i.o (c_copyFrom hw hci (by omega) (by omega) (fun A' w2 hA h2 => ⟨A', hA, h2⟩)) (by omega) (by omega) (fun w2 hw2 => bX5_simulate_33 ?_)
  obtain ⟨A', hA, h2⟩ := hw2
  have key : ∀ (f i : Nat), i + f = M → ∀ (x2 : Int64) (c : Cal) (L : Nat) (A : Nat → Nat) (w2 : Wd) (kc ks T : Nat), Inv T c → T + f + 30 < 2 ^ 31 → A 0 = D 1 0 → CalW (cutA w (D 1) 26) A c L w2 → kc + pC L ≤ 130 → ks + pS L ≤ 5700 → simF f x2 c = simF M x (yC y) → KX5_simulate G l 250 11400 w (ZXI G 250 11400 w (RQ fr s (0, 1000 * (cSc (simF M x (yC y)) 4 - cSc (yC y) 4) + nI (cTs (simF M x (yC y))).length, y)) (RX fr s y (0, 1000 * (cSc (simF M x (yC y)) 4 - cSc (yC y) 4) + nI (cTs (simF M x (yC y))).length, y) SAE SAE SAE)) w2 39 [(0, .ref s), (3, .int (nI M)), (4, .long x2), (6, .int (nI i))] [] kc ks := by
    intro f
    induction f with
    | zero =>
      intro i hi x2 c L A w2 kc ks T hI hT hA h2 hkc hks e
      have : i = M := by omega
      subst this
      have e : c = simF i x (yC y) := e
      have hcal : w2 (D 1 0) = some (.inl (0, calF A c)) := by rw [← hA]; exact h2.i.o
      have hp : CalIn w2 (D 0) (yC y) L0 := hci.mono (fun q e hq => h2.f hq)
      refine bX5_simulate_39 (fun _ => bX5_simulate_76 (h2.f hoc) rfl hcal rfl rfl hp.o rfl rfl h2.i.dk.1 rfl ⟨rfl, ?_, hk _ _ _ _ hA h2⟩ (by omega) (by omega)) (fun z => absurd (nI_le (Nat.le_refl _) (by omega)) z)
      show _ = 1000 * (cSc (simF i x (yC y)) 4 - cSc (yC y) 4) + nI (cTs (simF i x (yC y))).length
      rw [← e]
    | succ f ih =>
      intro i hi x2 c L A w2 kc ks T hI hT hA h2 hkc hks e
      obtain ⟨R, hR, eR⟩ := simR_nat (nxt x2)
      rw [simF_s] at e
      have lb := h2.lb
      have dm := trL_m c (simR (nxt x2)) lb.1 lb.2.1
      refine bX5_simulate_39 (fun z => absurd z (nI_ge (b := M) (by omega) (by omega))) (fun _ => ?_)
      have hM : CX1_doTurn G l (pC L - pC (trL c (simR (nxt x2)) L)) (pS L - pS (trL c (simR (nxt x2)) L)) [.ref (D 1 0), .int (simR (nxt x2))] w2 (fun w3 => ∃ A', A' 0 = D 1 0 ∧ CalW (cutA w (D 1) 26) A' (trnA c (simR (nxt x2))) (trL c (simR (nxt x2)) L) w3) := by
        rw [eR] at dm ⊢
        rw [← hA]
        exact c_doTurn h2 hI (by omega) hR (by omega) (by omega) (fun A' w3 hA2 h3 => ⟨A', hA2, h3⟩)
      refine bX5_simulate_45 (h2.f hoc) rfl hM (by omega) (by omega) (fun w3 hw3 => bX5_simulate_70 ?_)
      obtain ⟨A', hA2, h3⟩ := hw3
      rw [nI_1]
      have hI2 : Inv (T + 1) (trnA c (simR (nxt x2))) := by rw [eR]; exact trnA_inv hI hR (by omega)
      exact ih (i + 1) (by omega) (nxt x2) _ _ A' w3 _ _ (T + 1) hI2 (by omega) hA2 h3 (by omega) (by omega) e
  exact key M 0 (by omega) x (yC y) _ A' w2 _ _ T hI (by omega) hA h2 (by omega) (by omega) rfl
theorem a_runScript {n : Int32} {u : Int64} {T : Nat} (h : StW fr s y w) (hI : Inv T (yC y)) (hT : T + 200 < 2 ^ 31) : CX5_runScript G l 250 11400 [.ref s, .int n, .long u] w (RQ fr s (oScr y n u)) (RX fr s y (oScr y n u) SAE SAE SAE) := by
  have bad : ¬ (rngI n 1 3 = true ∧ ((0 : Int64) ≤ u ∧ u ≤ pw n.toNatClampNeg - 1)) → RX fr s y (oScr y n u) SAE SAE SAE SAE w := fun z => by
    have eo : oScr y n u = (1, 0, y) := by unfold oScr; rw [if_neg z]
    rw [eo]; exact ⟨h, Or.inl ⟨rfl, rfl⟩⟩
  refine sX5_runScript (bX5_runScript_0 (fun z => bX5_runScript_10 (by decide) (by decide) (bad (fun z9 => tf_no z9.1 (rng_lo rfl z)))) (fun z1 => bX5_runScript_5 (fun z2 => ?_) (fun z => bX5_runScript_10 (by decide) (by decide) (bad (fun z9 => tf_no z9.1 (rng_nle rfl z))))))
  have q1 : rngI n 1 3 = true := rng_ok rfl rfl z1 z2
  obtain ⟨n1, n2⟩ := rng_nI q1 (by decide) (by decide)
  have n3 := rngI_iff.mp q1
  have eo : (0 : Int64) ≤ u ∧ u ≤ pw n.toNatClampNeg - 1 → oScr y n u = (0, scrF u n.toNatClampNeg (pw n.toNatClampNeg) 0 (yC y), y) := fun z => by unfold oScr; rw [if_pos ⟨q1, z⟩]
  have bad2 : ¬ ((0 : Int64) ≤ u ∧ u ≤ pw n.toNatClampNeg - 1) → RX fr s y (oScr y n u) SAE SAE SAE SAE w := fun z => bad (fun z9 => z z9.2)
  clear bad
  revert eo bad2
  generalize oScr y n u = o
  intro eo bad2
  generalize n.toNatClampNeg = M at n1 n2 eo bad2
  subst n1
  have hM : M ≤ 3 := by omega
  clear n2 n3 q1 z1 z2
  obtain ⟨pw1, pw2⟩ := pw_int M hM
  refine bX5_runScript_21 ?_
  refine upto (P := fun j => KX5_runScript G l 250 11400 w (ZXI G 250 11400 w (RQ fr s o) (RX fr s y o SAE SAE SAE)) w 27 [(0, .ref s), (1, .int (nI M)), (2, .long u), (4, .long (pw j)), (6, .int (nI j))] [] 0 0) (N := M) ?_ (fun j hj ih => bX5_runScript_27 (fun z => absurd z (nI_ge (b := M) (by omega) (by omega))) (fun _ => bX5_runScript_33 (by rw [nI_1]; exact ih))) 0 (Nat.zero_le _)
  refine bX5_runScript_27 (fun _ => ?_) (fun z => absurd (nI_le (Nat.le_refl _) (by omega)) z)
  refine bX5_runScript_47 (fun z => bX5_runScript_60 (by decide) (by decide) (bad2 (fun z9 => ?_))) (fun z1 => bX5_runScript_53 (fun z2 => ?_) (fun z => bX5_runScript_60 (by decide) (by decide) (bad2 (fun z9 => ?_))))
  · rw [lg_cmp_lt, Int64.lt_iff_toInt_lt] at z
    have := z9.1
    rw [Int64.le_iff_toInt_le] at this
    omega
  rotate_left
  · rw [lg_cmp_lt, Int64.lt_iff_toInt_lt] at z
    have := z9.2
    rw [Int64.le_iff_toInt_le, pw1] at this
    omega
  rw [lg_cmp_lt, Int64.lt_iff_toInt_lt, show (0 : Int64).toInt = 0 from rfl] at z1
  rw [lg_cmp_lt, Int64.lt_iff_toInt_lt] at z2
  have eo := eo ⟨by rw [Int64.le_iff_toInt_le, show (0 : Int64).toInt = 0 from rfl]; omega, by rw [Int64.le_iff_toInt_le, pw1]; omega⟩
  subst eo
  clear bad2
  obtain ⟨D, c1, L1, L0, e0, ho, hw, hoc, hci, hk⟩ := h.copy
  have lb := hw.lb
  have b1 := pC_le lb.1
  have b2 := pS_le lb.1
  have bl := hci.dk.2.2.2.2.1
  have bl2 := hci.dk.2.2.2.2.2.2
  have gm := grw_m lb.1 lb.2.1 (n := (cTs (yC y)).length) (by omega)
  refine bX5_runScript_71 (mcq := pC L1 - pC (grw L1 (cTs (yC y)).length)) (msq := pS L1 - pS (grw L1 (cTs (yC y)).length)) (Qc := fun w2 => ∃ A', A' 0 = D 1 0 ∧ CalW (cutA w (D 1) 26) A' (yC y) (grw L1 (cTs (yC y)).length) w2) ho rfl rfl hw.i.o (c_copyFrom hw hci (by omega) (by omega) (fun A' w2 hA h2 => ⟨A', hA, h2⟩)) (by omega) (by omega) (fun w2 hw2 => bX5_runScript_82 ?_)
  obtain ⟨A', hA, h2⟩ := hw2
  have key : ∀ (f k : Nat), f + k = M → ∀ (c : Cal) (L : Nat) (A : Nat → Nat) (w2 : Wd) (kc ks T : Nat), Inv T c → T + 30 * f + 30 < 2 ^ 31 → A 0 = D 1 0 → CalW (cutA w (D 1) 26) A c L w2 → kc + pC L ≤ 130 → ks + pS L ≤ 5700 → scrF u f (pw f) k c = scrF u M (pw M) 0 (yC y) → KX5_runScript G l 250 11400 w (ZXI G 250 11400 w (RQ fr s (0, scrF u M (pw M) 0 (yC y), y)) (RX fr s y (0, scrF u M (pw M) 0 (yC y), y) SAE SAE SAE)) w2 88 [(0, .ref s), (1, .int (nI M)), (4, .long (pw f)), (6, .long u), (8, .int (nI k))] [] kc ks := by
    intro f
    induction f with
    | zero =>
      intro k hk9 c L A w2 kc ks T hI hT hA h2 hkc hks e
      have : k = M := by omega
      subst this
      exact bX5_runScript_88 (fun _ => bX5_runScript_146 ⟨rfl, e, hk _ _ _ _ hA h2⟩ (by omega) (by omega)) (fun z => absurd (nI_le (Nat.le_refl _) (by omega)) z)
    | succ f ih =>
      intro k hk9 c L A w2 kc ks T hI hT hA h2 hkc hks e
      have hf : f < 3 := by omega
      have hpd := pw_div hf
      have hpn := pw_ne hf
      obtain ⟨R, hR, eR⟩ := scrG_nat (s := u) (u := pw f) (by omega) (pw_int f (by omega)).2
      rw [scrF, hpd] at e
      have lb := h2.lb
      have dm := cmL_m c (scrG u (pw f) / 10000) (scrG u (pw f) - scrG u (pw f) / 10000 * 10000) lb.1 lb.2.1
      refine bX5_runScript_88 (fun z => absurd z (nI_ge (b := M) (by omega) (by omega))) (fun _ => ?_)
      refine bX5_runScript_94 (fun _ => ?_) (fun z => absurd ((lg_cmp_eq _ _).mp z) (by rw [hpd]; exact hpn))
      rw [hpd]
      refine bX5_runScript_113 hpn ?_
      have hI2 : Inv (T + 30) (cmdA c (scrG u (pw f) / 10000) (scrG u (pw f) - scrG u (pw f) / 10000 * 10000)).1 := cmdA_inv hI _ _ (by omega)
      have hM2 : CX1_doScriptCommand G l (pC L - pC (cmL c (scrG u (pw f) / 10000) (scrG u (pw f) - scrG u (pw f) / 10000 * 10000) L)) (pS L - pS (cmL c (scrG u (pw f) / 10000) (scrG u (pw f) - scrG u (pw f) / 10000 * 10000) L)) [.ref (D 1 0), .int (scrG u (pw f))] w2 (fun r w3 => r = bI (cmdA c (scrG u (pw f) / 10000) (scrG u (pw f) - scrG u (pw f) / 10000 * 10000)).2 ∧ ∃ A', A' 0 = D 1 0 ∧ CalW (cutA w (D 1) 26) A' (cmdA c (scrG u (pw f) / 10000) (scrG u (pw f) - scrG u (pw f) / 10000 * 10000)).1 (cmL c (scrG u (pw f) / 10000) (scrG u (pw f) - scrG u (pw f) / 10000 * 10000) L) w3) := by
        rw [eR] at dm ⊢
        rw [← hA]
        exact c_doScript h2 hI (by omega) hR (by omega) (by omega) (fun A' w3 hA2 h3 => ⟨rfl, A', hA2, h3⟩)
      refine bX5_runScript_123 (h2.f hoc) rfl hM2 (by omega) (by omega) (fun r w3 hw3 => ?_)
      obtain ⟨rfl, A', hA2, h3⟩ := hw3
      cases hb : (cmdA c (scrG u (pw f) / 10000) (scrG u (pw f) - scrG u (pw f) / 10000 * 10000)).2 with
      | true =>
        rw [if_pos hb] at e
        refine bX5_runScript_134 (fun _ => bX5_runScript_140 ?_) (fun z => absurd z (by decide))
        rw [nI_1]
        exact ih (k + 1) (by omega) _ _ A' w3 _ _ (T + 30) hI2 (by omega) hA2 h3 (by omega) (by omega) e
      | false =>
        rw [if_neg (by rw [hb]; decide)] at e
        exact bX5_runScript_134 (fun z => absurd rfl z) (fun _ => bX5_runScript_137 ⟨rfl, e, hk _ _ _ _ hA2 h3⟩ (by omega) (by omega))
  exact key M 0 (by omega) (yC y) _ A' w2 _ _ T hI (by omega) hA h2 (by omega) (by omega) rfl
end SM
