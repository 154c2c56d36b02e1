/-! THE CLASS: the text is loaded; scripts and simulations -/
theorem bm64 {z : Int} (h1 : -2 ^ 63 ≤ z) (h2 : z < 2 ^ 63) : z.bmod (2 ^ 64) = z := Int.bmod_eq_of_le (by omega) (by omega)
theorem bm32 {z : Int} (h1 : -2 ^ 31 ≤ z) (h2 : z < 2 ^ 31) : z.bmod (2 ^ 32) = z := Int.bmod_eq_of_le (by omega) (by omega)
theorem scr_nat {s u : Int64} (hs : 0 ≤ s.toInt) (hu : 0 < u.toInt) : ∃ M : Nat, M < 100000 ∧ (s / u - s / u / 100000 * 100000).toInt32.toInt = (M : Int) := by
  have h1 := lg_ldiv_nonneg hs hu
  have h0 : 0 ≤ (s / u).toInt := by rw [h1]; exact Int.ediv_nonneg hs (Int.le_of_lt hu)
  have hm : (s / u).toInt < 2 ^ 63 := Int64.toInt_lt (s / u)
  generalize s / u = q at h0 hm
  have e5 : (100000 : Int64).toInt = 100000 := by decide
  have h2 := lg_ldiv_nonneg h0 (y := 100000) (by decide)
  rw [e5] at h2
  have h3 : (q / 100000 * 100000).toInt = q.toInt / 100000 * 100000 := by
    rw [Int64.toInt_mul, h2, e5]
    exact bm64 (by omega) (by omega)
  have h4 : (q - q / 100000 * 100000).toInt = q.toInt % 100000 := by
    rw [Int64.toInt_sub, h3, bm64 (by omega) (by omega)]
    omega
  refine ⟨(q.toInt % 100000).toNat, by omega, ?_⟩
  rw [Int64.toInt_toInt32, h4, bm32 (by omega) (by omega)]
  omega
theorem sim_nat (x : UInt64) : ∃ M : Nat, M < 2 ^ 31 ∧ (x >>> ((33 : Int32).toInt64.toUInt64 &&& Int64.toUInt64 63)).toInt64.toInt32.toInt = (M : Int) := by
  have e : ((33 : Int32).toInt64.toUInt64 &&& Int64.toUInt64 63) = (33 : UInt64) := by decide
  rw [e]
  have h : (x >>> (33 : UInt64)).toNat < 2 ^ 31 := by
    rw [UInt64.toNat_shiftRight]
    have : (33 : UInt64).toNat % 64 = 33 := by decide
    rw [this, Nat.shiftRight_eq_div_pow]
    have := x.toNat_lt
    omega
  generalize x >>> (33 : UInt64) = z at h
  refine ⟨z.toNat, h, ?_⟩
  have e2 : z.toInt64.toInt = (z.toNat : Int) := by
    show z.toBitVec.toInt = _
    rw [BitVec.toInt_eq_toNat_of_lt]
    · rfl
    · have : z.toBitVec.toNat = z.toNat := rfl
      omega
  rw [Int64.toInt_toInt32, e2, bm32 (by omega) (by omega)]
theorem nI_eqI {x : Int32} {M : Nat} (h : x.toInt = (M : Int)) : x = nI M := by
  have := nI_toN (x := x) (by omega)
  rw [this, h]
  rfl
theorem simR_nat (x : Int64) : ∃ R : Nat, R < 2 ^ 31 ∧ simR x = nI R := by
  obtain ⟨M, h1, h2⟩ := sim_nat x.toUInt64
  exact ⟨M, h1, nI_eqI h2⟩
theorem scrG_nat {s u : Int64} (hs : 0 ≤ s.toInt) (hu : 0 < u.toInt) : ∃ M : Nat, M < 100000 ∧ scrG s u = nI M := by
  obtain ⟨M, h1, h2⟩ := scr_nat hs hu
  exact ⟨M, h1, nI_eqI h2⟩
theorem trnA_inv {T R : Nat} {c : Cal} (h : Inv T c) (hR : R < 2 ^ 31) (hT : T + 1 < 2 ^ 31) : Inv (T + 1) (trnA c (nI R)) := by
  have hmo : ∀ {c2 : Cal}, Inv T c2 → Inv (T + 1) c2 := fun q => q.mono (by omega)
  have b0 := h.b0
  have b1 := h.b1
  unfold trnA
  split
  · split
    · exact hmo (h.add (by assumption))
    · exact hmo h
  · split
    · exact hmo (h.gv _)
    · split
      · split
        · rename_i q
          obtain ⟨k1, k2⟩ := inN_k q (by omega)
          have e : (1 : Int32) + (nI R / 8 / 16 - nI R / 8 / 16 / 4 * 4) = nI (1 + R / 8 / 16 % 4) := by
            rw [show (8 : Int32) = nI 8 from rfl, show (16 : Int32) = nI 16 from rfl, show (4 : Int32) = nI 4 from rfl, pk_div hR (by omega) (by omega), pk_div (by omega) (by omega) (by omega), pk_rem (by omega) (by omega) (by omega), show (1 : Int32) = nI 1 from rfl, nI_add]
          have m4 : R / 8 / 16 % 4 < 4 := Nat.mod_lt _ (by decide)
          have e2 : ((1 : Int32) + (nI R / 8 / 16 - nI R / 8 / 16 / 4 * 4)).toInt = ((1 + R / 8 / 16 % 4 : Nat) : Int) := by rw [e, nI_toInt (by omega)]
          exact hmo (h.ext k1 (by rw [e2]; omega) (by rw [e2]; omega))
        · exact hmo h
      · split
        · split
          · exact hmo (h.lv _ _)
          · exact hmo h
        · split
          · split
            · rename_i q
              obtain ⟨q1, q2, q3⟩ := gvOk_of q
              obtain ⟨p1, p2⟩ := inN_k q2 (by omega)
              exact hmo (h.hold _ (Or.inr ⟨_, p1, p2⟩))
            · exact hmo h
          · exact h.dC hT
theorem dcL_m (c : Cal) (m : Cm) {L : Nat} (h : 16 ≤ L) (h2 : L ≤ 640) : pC (dcL c m L) ≤ pC L ∧ pS (dcL c m L) ≤ pS L := by
  unfold dcL
  split
  · exact run_m c h h2 _
  · exact ⟨Nat.le_refl _, Nat.le_refl _⟩
theorem cmL_m (c : Cal) (a b : Int32) {L : Nat} (h : 16 ≤ L) (h2 : L ≤ 640) : pC (cmL c a b L) ≤ pC L ∧ pS (cmL c a b L) ≤ pS L := by
  unfold cmL
  split
  · exact run_m c h h2 _
  · exact ⟨Nat.le_refl _, Nat.le_refl _⟩
theorem trL_m (c : Cal) (r : Int32) {L : Nat} (h : 16 ≤ L) (h2 : L ≤ 640) : pC (trL c r L) ≤ pC L ∧ pS (trL c r L) ≤ pS L := by
  unfold trL
  split
  · exact run_m c h h2 _
  · exact ⟨Nat.le_refl _, Nat.le_refl _⟩
theorem cm_ok {t : Nat → Int32} {n s : Nat} {m : Cm} (hs : s < n) (h : (rdC t n s).1 = some m) : cmOk m := by
  have up : ∀ {hi : Int32} {b : Int}, hi.toInt = b → 1 ≤ m.2.1 ∧ m.2.1 ≤ hi → rngI m.2.1 1 b = true := fun {hi b} e z => by
    obtain ⟨z1, z2⟩ := z
    rw [i32_le] at z1 z2
    exact rngI_iff.mpr ⟨z1, by omega⟩
  unfold rdC at h
  by_cases q1 : t s = 110
  · rw [if_pos q1] at h
    have := rd1_some (by omega) h
    exact Or.inl ⟨this.2.2.1, up rfl this.2.2.2⟩
  rw [if_neg q1] at h
  by_cases q2 : t s = 115
  · rw [if_pos q2] at h
    exact Or.inr (Or.inl (rdS_some (by omega) h).2.2)
  rw [if_neg q2] at h
  by_cases q3 : t s = 103
  · rw [if_pos q3] at h
    refine Or.inr (Or.inr (Or.inl ?_))
    unfold rdG at h
    dsimp only at h
    split at h
    · cases h
    · rename_i q; cases h; exact ⟨rfl, q⟩
  rw [if_neg q3] at h
  by_cases q4 : t s = 97
  · rw [if_pos q4] at h
    cases h
    exact Or.inr (Or.inr (Or.inr (Or.inl rfl)))
  rw [if_neg q4] at h
  by_cases q5 : t s = 100
  · rw [if_pos q5] at h
    have := rd1_some (by omega) h
    exact Or.inr (Or.inr (Or.inr (Or.inr ⟨this.2.2.1, up rfl this.2.2.2⟩)))
  rw [if_neg q5] at h
  cases h
theorem StR.tw2 {fr w : Wd} {D : Nat → Nat → Nat} {cs : Nat → Cal} {Ls : Nat → Nat} {t : Nat → Int32} {n nR : Nat} {sv : Nat → Bool} (h : StR fr D cs Ls t n nR sv w) {a er lt : Int32} {nu : Nat → Int32} (x0 : w (D 19 0) = some (.inl (3, txF (D 19) n a er lt))) (x2 : w (D 19 2) = some (irow 5 nu)) : TxW (cutA w (D 19) 3) (D 19) t n a er lt nu w := by
  obtain ⟨_, _, _, _, _, x1, _, xb⟩ := h.x
  exact ⟨fun q e hq => cutA_sub hq, fun i hi => cutA_in hi, ⟨h.ne (by decide) (by decide) (by decide) (by decide) (by decide), h.ne (by decide) (by decide) (by decide) (by decide) (by decide), h.ne (by decide) (by decide) (by decide) (by decide) (by decide)⟩, x0, x1, x2, xb⟩
section LD
variable {G : GG} {l : Launch} {fr w : Wd} {s : Nat} {y : Sy}
theorem a_load (h : StW fr s y w) : CX5_load G l 250 11400 [.ref s] w (RQ fr s (oLoad y)) (RX fr s y (oLoad y) SSE SSE SSE) := by
  obtain ⟨D0, a9, er, lt, nu, ho, hx, hk⟩ := h.text
  refine sX5_load (bX5_load_0 ho rfl hx.o (c_findError (Q := fun r w2 => r = (txt y).1 ∧ StW fr s y w2) hx (fun w2 a e l2 u2 h2 => ⟨(txt_1 y).symm, hk _ _ _ _ _ _ _ h2⟩)) (by decide) (by decide) (fun r w2 hr => ?_))
  obtain ⟨rfl, h2⟩ := hr
  clear hx hk ho
  refine bX5_load_7 (fun z => ?_) (fun z => ?_)
  · have eo : oLoad y = (0, (txt y).2.2, (y.1, y.2.1, (txt y).2.1, [], fun _ => none)) := by unfold oLoad; rw [if_pos z]
    rw [eo]
    have hz : ¬ (yN y = 0 ∨ ¬ yT y 0 = 74) := fun q => by
      rw [txt_1, if_pos q] at z
      exact absurd z (by decide)
    have ety : rdTo (yT y) (yN y) (yN y) 1 calN 0 = txt y := by unfold txt; rw [if_neg hz]
    obtain ⟨D, cs, Ls, e0, hR, hc, hsv, hrm⟩ := h2
    subst e0
    have hw := hR.cw (j := 0) (by decide)
    refine bX5_load_21 hR.o rfl hw.i.o (c_makeNew (Q := fun w3 => CalW (cutA w2 (D 0) 26) (D 0) calN (Ls 0) w3) hw (fun w3 h3 => h3)) (by decide) (by decide) (fun w3 h3 => ?_)
    have hb := (hR.back (by decide) h3 rfl).setR (n2 := 0) (by decide)
    have ho3 := (hR.back (by decide) h3 rfl).o
    have eD : upD D 0 (D 0) = D := by
      funext k
      by_cases q : k = 0
      · subst q; exact upD_eq
      · exact upD_ne q
    rw [eD] at hb ho3
    refine bX5_load_28 ho3 (st_l (by decide)) (f2 := stF D 0) rfl ?_
    have hlb := hw.lb
    have ec0 : upF cs 0 calN 0 = calN := upF_eq
    have el0 : upF Ls 0 (Ls 0) 0 = Ls 0 := upF_eq
    generalize upF cs 0 calN = cs1 at hb ec0
    generalize upF Ls 0 (Ls 0) = Ls1 at hb el0
    obtain ⟨g, eg, hg⟩ := hb.b
    have hs1 := hb.setB (g2 := upd g 0 0) (sv2 := fun j => if j = 0 then false else (yS y j).isSome) (fun j hj => by
      by_cases q : j = 0
      · subst q; rw [upd_eq, if_pos rfl]; rfl
      · rw [upd_ne _ _ q, if_neg q]; exact hg j hj)
    have hs2 := hs1.setB (g2 := upd (upd g 0 0) 1 0) (sv2 := fun _ => false) (fun j hj => by
      by_cases q : j = 1
      · subst q; rw [upd_eq]; rfl
      · have : j = 0 := by omega
        subst this
        rw [upd_ne _ _ q, upd_eq]; rfl)
    have eg1 := hs1.b
    refine bX5_load_35 (fun z => absurd z (by decide)) (fun _ => bX5_load_40 hb.o rfl eg (vlit rfl) ?_)
    refine bX5_load_35 (fun z => absurd z (by decide)) (fun _ => bX5_load_40 hs1.o rfl (wset_eq _ _ _) (vlit rfl) ?_)
    refine bX5_load_35 (fun _ => ?_) (fun z => absurd (by decide) z)
    obtain ⟨a9, er, lt, nu, hx⟩ := hs2.tw
    refine bX5_load_53 hs2.o rfl hx.o (c_begin4 (Q := fun w4 => TxW (cutA (wset (wset (wset w3 (D 18 0) (.inl (4, stF D 0))) (D 18 2) (brow 2 (upd g 0 0))) (D 18 2) (brow 2 (upd (upd g 0 0) 1 0))) (D 19) 3) (D 19) (yT y) (yN y) 1 (if yN y = 0 ∨ ¬ yT y 0 = 74 then 0 else -1) lt nu w4) hx (fun w4 h4 => h4)) (by decide) (by decide) (fun w4 h4 => bX5_load_62 ?_)
    rw [if_neg hz] at h4
    have h5 := hs2.tb h4
    have x0 := h4.o
    have x2 := h4.u
    clear hx h4 hs2 hs1 eg1 hb eg hg
    have hn : 0 < yN y := by
      by_cases q : yN y = 0
      · exact absurd (Or.inl q) hz
      · omega
    have hn2 := h5.x
    have hnb : yN y ≤ 120 := by obtain ⟨_, _, _, _, _, _, _, b⟩ := hn2; exact b
    have b1 := pC_le hlb.1
    have b2 := pS_le hlb.1
    have key : ∀ (f p i : Nat) (c : Cal) (o : Int32) (D' : Nat → Nat → Nat) (cs' : Nat → Cal) (Ls' : Nat → Nat) (w1 : Wd) (kc ks T : Nat) (lt : Int32) (nu : Nat → Int32), yN y ≤ p + f → p ≤ yN y → i + 1 ≤ p → Inv T c → T + 9 * f + 30 < 2 ^ 31 → StR fr D' cs' Ls' (yT y) (yN y) 0 (fun _ => false) w1 → D' 18 0 = D 18 0 → cs' 0 = c → kc + pC (Ls' 0) ≤ 130 → ks + pS (Ls' 0) ≤ 5700 → w1 (D' 19 0) = some (.inl (3, txF (D' 19) (yN y) (nI p) (-1) lt)) → w1 (D' 19 2) = some (irow 5 nu) → rdTo (yT y) (yN y) f p c o = txt y → KX5_load G l 250 11400 w (ZXI G 250 11400 w (RQ fr (D 18 0) (0, (txt y).2.2, (y.1, y.2.1, (txt y).2.1, [], fun _ => none))) (RX fr (D 18 0) y (0, (txt y).2.2, (y.1, y.2.1, (txt y).2.1, [], fun _ => none)) SSE SSE SSE)) w1 64 [(0, .ref (D 18 0)), (1, .int o), (2, .int (nI i))] [] kc ks := by
      intro f
      have fin : ∀ (p : Int32) (c : Cal) (o : Int32) (D' : Nat → Nat → Nat) (cs' : Nat → Cal) (Ls' : Nat → Nat) (w1 : Wd) (kc ks : Nat), StR fr D' cs' Ls' (yT y) (yN y) 0 (fun _ => false) w1 → D' 18 0 = D 18 0 → cs' 0 = c → kc ≤ 250 → ks ≤ 11400 → (p, c, o) = txt y → KX5_load G l 250 11400 w (ZXI G 250 11400 w (RQ fr (D 18 0) (0, (txt y).2.2, (y.1, y.2.1, (txt y).2.1, [], fun _ => none))) (RX fr (D 18 0) y (0, (txt y).2.2, (y.1, y.2.1, (txt y).2.1, [], fun _ => none)) SSE SSE SSE)) w1 103 [(1, .int o)] [] kc ks := by
        intro p c o D' cs' Ls' w1 kc ks hR e0 ec hkc hks e
        refine bX5_load_103 ⟨rfl, by rw [← e], D', cs', Ls', e0, hR, ?_, fun k hk c2 hc2 => (by cases hc2), fun k hk => absurd hk (Nat.not_lt_zero _)⟩ hkc hks
        show cs' 0 = (txt y).2.1
        rw [← e]; exact ec
      induction f with
      | zero =>
        intro p i c o D' cs' Ls' w1 kc ks T lt nu h1 h2 h3 hI hT hR e0 ec hkc hks x0 x2 e
        have hx := hR.tw2 x0 x2
        have ho := hR.o
        rw [e0] at ho
        refine bX5_load_64 (fun z => absurd z (nI_ge (b := 120) (by omega) (by decide))) (fun _ => bX5_load_70 ho rfl hx.o (c_readCmd_end (Q := fun r w3 => (0 : Int32) = r ∧ w1 = w3) hx (Or.inr (nI_le (by omega) (by omega))) ⟨rfl, rfl⟩) (by omega) (by omega) (fun r w3 hr => ?_))
        obtain ⟨rfl, rfl⟩ := hr
        exact bX5_load_77 (fun _ => fin _ c o D' cs' Ls' _ _ _ hR e0 ec (by omega) (by omega) e) (fun z => absurd rfl z)
      | succ f ih =>
        intro p i c o D' cs' Ls' w1 kc ks T lt nu h1 h2 h3 hI hT hR e0 ec hkc hks x0 x2 e
        have hx := hR.tw2 x0 x2
        have ho := hR.o
        rw [e0] at ho
        refine bX5_load_64 (fun z => absurd z (nI_ge (b := 120) (by omega) (by decide))) (fun _ => ?_)
        rw [rdTo] at e
        by_cases hsn : p < yN y
        · rw [if_pos hsn] at e
          refine bX5_load_70 ho rfl hx.o (c_readCommand4 (Q := fun r w3 => (∃ p2 a l2 u2, rdC (yT y) (yN y) p = (none, p2) ∧ r = 0 ∧ TxW (cutA w1 (D' 19) 3) (D' 19) (yT y) (yN y) a (nI p2) l2 u2 w3) ∨ ∃ m p2 l2 u2, rdC (yT y) (yN y) p = (some m, p2) ∧ r = 1 ∧ nmOk m l2 u2 ∧ TxW (cutA w1 (D' 19) 3) (D' 19) (yT y) (yN y) (nI p2) (-1) l2 u2 w3) hx hsn (fun p2 hp w3 a l2 u2 hw3 => Or.inl ⟨p2, a, l2, u2, hp, rfl, hw3⟩) (fun m p2 hp w3 l2 u2 hn hw3 => Or.inr ⟨m, p2, l2, u2, hp, rfl, hn, hw3⟩)) (by omega) (by omega) (fun r w3 hr => ?_)
          rcases hr with ⟨p2, a, l2, u2, hp, rfl, hw3⟩ | ⟨m, p2, l2, u2, hp, rfl, hnm, hw3⟩
          · rw [hp] at e
            exact bX5_load_77 (fun _ => fin _ c o D' cs' Ls' _ _ _ (hR.tb hw3) e0 ec (by omega) (by omega) e) (fun z => absurd rfl z)
          · rw [hp] at e
            have hpb := rdC_some (m := m) hsn (by rw [hp])
            rw [hp] at hpb
            have hpb1 : p + 1 ≤ p2 := hpb.1
            have hpb2 : p2 ≤ yN y := hpb.2.1
            have hcm := cm_ok (m := m) hsn (by rw [hp])
            have hR3 := hR.tb hw3
            have hw := hR3.cw (j := 0) (by decide)
            have ho3 := hR3.o
            rw [e0] at ho3
            have hlb := hw.lb
            have dm := dcL_m (cs' 0) m hlb.1 hlb.2.1
            subst ec
            refine bX5_load_77 (fun y => absurd y (by decide)) (fun _ => bX5_load_80 (mcq := pC (Ls' 0) - pC (dcL (cs' 0) m (Ls' 0))) (msq := pS (Ls' 0) - pS (dcL (cs' 0) m (Ls' 0))) ho3 rfl rfl (c_doText (Q := fun r w4 => r = bI (doC (cs' 0) m).2 ∧ ∃ A', A' 0 = D' 0 0 ∧ CalW (cutA w3 (D' 0) 26) A' (doC (cs' 0) m).1 (dcL (cs' 0) m (Ls' 0)) w4) hw hI (by omega) hw3 hnm hcm (by omega) (by omega) (fun A' w4 hA h4 => ⟨rfl, A', hA, h4⟩)) (by omega) (by omega) (fun r w4 hr => ?_))
            obtain ⟨rfl, A', hA, h4⟩ := hr
            have hR4 := hR3.back (by decide) h4 hA
            have y0 : w4 (upD D' 0 A' 19 0) = some (.inl (3, txF (upD D' 0 A' 19) (yN y) (nI p2) (-1) l2)) := by
              rw [upD_ne (by omega)]
              exact h4.f (by rw [hR3.out (k := 0) (j := 19) (i := 0) (by decide) (by decide) (by decide) (by decide)]; exact hw3.o)
            have y2 : w4 (upD D' 0 A' 19 2) = some (irow 5 u2) := by
              rw [upD_ne (by omega)]
              exact h4.f (by rw [hR3.out (k := 0) (j := 19) (i := 2) (by decide) (by decide) (by decide) (by decide)]; exact hw3.u)
            have hI4 := doC_inv hI hpb.2.2 (by omega)
            have e18 : upD D' 0 A' 18 0 = D 18 0 := by rw [upD_ne (by omega)]; exact e0
            have eL : upF Ls' 0 (dcL (cs' 0) m (Ls' 0)) 0 = dcL (cs' 0) m (Ls' 0) := upF_eq
            have nxt : ∀ o2 : Int32, rdTo (yT y) (yN y) f p2 (doC (cs' 0) m).1 o2 = txt y → KX5_load G l 250 11400 w (ZXI G 250 11400 w (RQ fr (D 18 0) (0, (txt y).2.2, (y.1, y.2.1, (txt y).2.1, [], fun _ => none))) (RX fr (D 18 0) y (0, (txt y).2.2, (y.1, y.2.1, (txt y).2.1, [], fun _ => none)) SSE SSE SSE)) w4 97 [(0, .ref (D 18 0)), (1, .int o2), (2, .int (nI i))] [] (kc + (pC (Ls' 0) - pC (dcL (cs' 0) m (Ls' 0)))) (ks + (pS (Ls' 0) - pS (dcL (cs' 0) m (Ls' 0)))) := fun o2 e2 => by
              refine bX5_load_97 ?_
              rw [nI_1]
              exact ih p2 (i + 1) (doC (cs' 0) m).1 o2 (upD D' 0 A') (upF cs' 0 (doC (cs' 0) m).1) (upF Ls' 0 (dcL (cs' 0) m (Ls' 0))) w4 _ _ (T + 9) l2 u2 (by omega) hpb2 (by omega) hI4 (by omega) hR4 e18 upF_eq (by rw [eL]; omega) (by rw [eL]; omega) y0 y2 e2
            have e : rdTo (yT y) (yN y) f p2 (doC (cs' 0) m).1 (o + if (doC (cs' 0) m).2 = true then 0 else 1) = txt y := e
            cases hb : (doC (cs' 0) m).2 with
            | true =>
              rw [hb] at e
              refine bX5_load_91 (fun _ => nxt o ?_) (fun z => absurd z (by decide))
              have e : rdTo (yT y) (yN y) f p2 (doC (cs' 0) m).1 (o + 0) = txt y := e
              rw [Int32.add_zero] at e
              exact e
            | false =>
              rw [hb] at e
              exact bX5_load_91 (fun z => absurd rfl z) (fun _ => bX5_load_94 (nxt (o + 1) e))
        · rw [if_neg hsn] at e
          refine bX5_load_70 ho rfl hx.o (c_readCmd_end (Q := fun r w3 => (0 : Int32) = r ∧ w1 = w3) hx (Or.inr (nI_le (by omega) (by omega))) ⟨rfl, rfl⟩) (by omega) (by omega) (fun r w3 hr => ?_)
          obtain ⟨rfl, rfl⟩ := hr
          exact bX5_load_77 (fun _ => fin _ c o D' cs' Ls' _ _ _ hR e0 ec (by omega) (by omega) e) (fun z => absurd rfl z)
    exact key (yN y) 1 0 calN 0 D cs1 Ls1 w4 _ _ 0 lt nu (by omega) (by omega) (by omega) Inv.new (by omega) h5 rfl ec0 (by rw [el0]; omega) (by rw [el0]; omega) x0 x2 ety
  · have eo : oLoad y = (1, 0, y) := by unfold oLoad; rw [if_neg z]
    rw [eo]
    exact bX5_load_11 (by decide) (by decide) ⟨h2, Or.inl ⟨rfl, rfl⟩⟩
end LD
