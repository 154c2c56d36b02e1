/-! THE CLASS'S OTHER CHANGES: undo, save, restore, the text -/
theorem rng_nle {x hi : Int32} {a b : Int} (hb : hi.toInt = b) (h : ¬ x ≤ hi) : rngI x a b = false := by
  rw [i32_le] at h
  exact Bool.eq_false_iff.mpr (fun z => by have := rngI_iff.mp z; omega)
theorem rng_nlt {x hi : Int32} {a b : Int} (hb : hi.toInt = b + 1) (h : ¬ x < hi) : rngI x a b = false := by
  rw [i32_lt] at h
  exact Bool.eq_false_iff.mpr (fun z => by have := rngI_iff.mp z; omega)
theorem rng_ok2 {x lo hi : Int32} {a b : Int} (ha : lo.toInt = a) (hb : hi.toInt = b + 1) (h1 : ¬ x < lo) (h2 : x < hi) : rngI x a b = true := by
  rw [i32_lt] at h1 h2
  exact rngI_iff.mpr ⟨by omega, by omega⟩
theorem rng_ok3 {x lo hi : Int32} {a b : Int} (ha : lo.toInt = a) (hb : hi.toInt = b) (h1 : ¬ x < lo) (h2 : ¬ hi < x) : rngI x a b = true := by
  rw [i32_lt] at h1 h2
  exact rngI_iff.mpr ⟨by omega, by omega⟩
section OC
variable {G : GG} {l : Launch} {fr w : Wd} {s : Nat} {y : Sy}
theorem a_undo (h : StW fr s y w) : CX5_undo G l 250 11400 [.ref s] w (RQ fr s (oUndo y)) (RX fr s y (oUndo y) SSE SSE SSE) := by
  obtain ⟨D, cs, Ls, e0, hR, hc, hsv, hrm⟩ := id h
  subst e0
  have hnb := hR.nb
  by_cases q : (yR y).length = 0
  · have eo : oUndo y = (1, 0, y) := by unfold oUndo; rw [if_pos q]
    rw [eo]
    exact sX5_undo (bX5_undo_0 hR.o rfl (fun z => absurd z (by rw [q]; decide)) (fun _ => bX5_undo_7 (by decide) (by decide) ⟨h, Or.inl ⟨rfl, rfl⟩⟩))
  · have eo : oUndo y = (0, nI ((yR y).length - 1), (y.1, y.2.1, rg (yR y) ((yR y).length - 1), (yR y).take ((yR y).length - 1), y.2.2.2.2)) := by unfold oUndo; rw [if_neg q]
    rw [eo]
    have en : ∃ n, (yR y).length = n + 1 := ⟨(yR y).length - 1, by omega⟩
    obtain ⟨n, en⟩ := en
    rw [en] at hR ⊢
    have hR2 := hR.setR (n2 := n) (by omega)
    obtain ⟨g, eg, hg⟩ := hR2.r
    have hw := hR2.cw (j := 0) (by decide)
    have hlb := hw.lb
    have b1 := pC_le hlb.1
    have b2 := pS_le hlb.1
    refine sX5_undo (bX5_undo_0 hR.o rfl (fun _ => ?_) (fun z => absurd (nI_lt (a := 0) (b := n + 1) (by omega) (by omega)) z))
    have e1 : nI (n + 1) - 1 = nI n := nI_sub1 (by omega)
    refine bX5_undo_17 (mcq := 120) (msq := 5664) (Qc := fun w2 => StW fr (D 18 0) (y.1, y.2.1, rg (yR y) n, (yR y).take n, y.2.2.2.2) w2) hR.o rfl (st_l (by decide)) (f3 := stF D n) (by rw [e1]; rfl) rfl rfl rfl eg (ix_of rfl (by omega) (by decide)) (by rw [nI_clamp (by omega)]; exact hg _ (by omega)) hw.i.o (c_copyFrom hw (hR2.cc (j := 4 + n) (by decide) (by omega) (by omega)) (by omega) (by omega) (fun A' w2 hA h2 => ?_)) (by decide) (by decide) (fun w2 hw2 => ?_)
    · have hb := hR2.back (by decide) h2 hA
      have el : ((yR y).take n).length = n := by rw [List.length_take, en]; omega
      refine ⟨upD D 0 A', upF cs 0 (cs (4 + n)), upF Ls 0 (grw (Ls 0) (cTs (cs (4 + n))).length), rfl, ?_, hrm n (by omega), fun k hk c hc2 => ?_, fun k hk => ?_⟩
      · show StR fr _ _ _ (yT y) (yN y) ((yR y).take n).length (fun k => (yS y k).isSome) _
        rw [el]; exact hb
      · rw [upF_ne (by omega)]; exact hsv k hk c hc2
      · have hk : k < n := by rw [← el]; exact hk
        show _ = rg ((yR y).take n) k
        rw [upF_ne (by omega), rg_take _ hk]; exact hrm k (by omega)
    · obtain ⟨D2, cs2, Ls2, e02, hR3, -⟩ := id hw2
      have el : ((yR y).take n).length = n := by rw [List.length_take, en]; omega
      have ho := hR3.o
      rw [e02] at ho
      refine bX5_undo_43 ho rfl ⟨rfl, ?_, hw2⟩ (by decide) (by decide)
      show nI ((yR y).take n).length = nI n
      rw [el]
theorem a_save {x : Int32} (h : StW fr s y w) : CX5_save G l 250 11400 [.ref s, .int x] w (RQ fr s (oSave y x)) (RX fr s y (oSave y x) SIO SIO SIO) := by
  have bx : rngI x 0 1 = false → RX fr s y (oSave y x) SIO SIO SIO SIO w := fun e => by
    have : oSave y x = (1, 0, y) := by unfold oSave; rw [if_neg (by rw [e]; decide)]
    rw [this]; exact ⟨h, Or.inl ⟨rfl, rfl⟩⟩
  refine sX5_save (bX5_save_0 (fun z => bX5_save_9 (by decide) (by decide) (bx (rng_lo rfl z))) (fun z => bX5_save_4 (fun z2 => ?_) (fun z2 => bX5_save_9 (by decide) (by decide) (bx (rng_nlt rfl z2)))))
  have q : rngI x 0 1 = true := rng_ok2 rfl rfl z z2
  have eo : oSave y x = (0, cSc (yC y) 3, wS y x.toNatClampNeg (some (yC y))) := by unfold oSave; rw [if_pos q]
  rw [eo]
  obtain ⟨k1, k2, -⟩ := rng_k (b := 1) q
  generalize x.toNatClampNeg = k at k1 k2
  subst k1
  obtain ⟨D, cs, Ls, e0, hR, hc, hsv, hrm⟩ := id h
  subst e0
  obtain ⟨g, eg, hg⟩ := hR.a
  have hw := hR.cw (j := 2 + k) (by omega)
  have hlb := hw.lb
  have b1 := pC_le hlb.1
  have b2 := pS_le hlb.1
  have ex : (nI k).toNatClampNeg = k := nI_clamp (by omega)
  refine bX5_save_20 (mcq := 120) (msq := 5664) (Qc := fun w2 => ∃ A' L', A' 0 = D (2 + k) 0 ∧ CalW (cutA w (D (2 + k)) 26) A' (cs 0) L' w2) hR.o rfl eg (ix_of rfl (by omega) (by decide)) (by rw [ex]; exact hg k (by omega)) rfl hw.i.o (c_copyFrom hw (hR.cc (j := 0) (by omega) (by decide) (by omega)) (by omega) (by omega) (fun A' w2 hA h2 => ⟨A', _, hA, h2⟩)) (by decide) (by decide) (fun w2 hw2 => ?_)
  obtain ⟨A', L', hA, h2⟩ := hw2
  have hb := hR.back (by omega) h2 hA
  obtain ⟨g2, eg2, hg2⟩ := hb.b
  have eo : upD D (2 + k) A' 18 0 = D 18 0 := by rw [upD_ne (by omega)]
  have e00 : upD D (2 + k) A' 0 0 = D 0 0 := by rw [upD_ne (by omega)]
  have hs := hb.setB (g2 := upd g2 k 1) (sv2 := fun j => (yS (wS y k (some (yC y))) j).isSome) (fun j hj => by
    show upd g2 k 1 j = bI (if j = k then some (yC y) else yS y j).isSome
    by_cases qj : j = k
    · subst qj; rw [upd_eq, if_pos rfl]; rfl
    · rw [upd_ne _ _ qj, if_neg qj]; exact hg2 j hj)
  have hst : StW fr (upD D (2 + k) A' 18 0) (wS y k (some (yC y))) (wset w2 (upD D (2 + k) A' 18 2) (brow 2 (upd g2 k 1))) := by
    refine ⟨upD D (2 + k) A', upF cs (2 + k) (cs 0), upF Ls (2 + k) L', rfl, hs, (upF_ne (by omega)).trans hc, fun j hj c hc2 => ?_, fun j hj => ?_⟩
    · have hc2 : (if j = k then some (yC y) else yS y j) = some c := hc2
      by_cases qj : j = k
      · subst qj
        rw [if_pos rfl] at hc2
        rw [upF_eq, hc]; exact Option.some.inj hc2
      · rw [if_neg qj] at hc2
        rw [upF_ne (by omega)]; exact hsv j hj c hc2
    · rw [upF_ne (by omega)]; exact hrm j hj
  have ec : upF cs (2 + k) (cs 0) 0 = yC y := (upF_ne (by omega)).trans hc
  rw [eo] at hst
  have h18 := hs.o
  rw [eo] at h18
  have hbo := hb.o
  rw [eo] at hbo
  have hcal := (hs.c (j := 0) (by decide)).o
  refine bX5_save_33 hbo rfl eg2 (ix_of rfl (by omega) (by decide)) (by rw [ex]; exact h18) rfl (by rw [ex]; exact hcal) rfl ?_ (by decide) (by decide)
  rw [ex]
  exact ⟨rfl, by rw [ec], hst⟩
theorem a_restore {x : Int32} (h : StW fr s y w) : CX5_restore G l 250 11400 [.ref s, .int x] w (RQ fr s (oRest y x)) (RX fr s y (oRest y x) SIO SSE SSE) := by
  have bx : rngI x 0 1 = false → RX fr s y (oRest y x) SIO SSE SSE SIO w := fun e => by
    have : oRest y x = (1, 0, y) := by unfold oRest; rw [if_neg (by rw [e]; decide)]
    rw [this]; exact ⟨h, Or.inl ⟨rfl, rfl⟩⟩
  refine sX5_restore (bX5_restore_0 (fun z => bX5_restore_9 (by decide) (by decide) (bx (rng_lo rfl z))) (fun z => bX5_restore_4 (fun z2 => ?_) (fun z2 => bX5_restore_9 (by decide) (by decide) (bx (rng_nlt rfl z2)))))
  have q : rngI x 0 1 = true := rng_ok2 rfl rfl z z2
  have eo : oRest y x = (match yS y x.toNatClampNeg with | none => (2, 0, y) | some c => (0, cSc c 3, (y.1, y.2.1, c, [], y.2.2.2.2))) := by unfold oRest; rw [if_pos q]; rfl
  rw [eo]
  obtain ⟨k1, k2, -⟩ := rng_k (b := 1) q
  generalize x.toNatClampNeg = k at k1 k2
  subst k1
  obtain ⟨D, cs, Ls, e0, hR, hc, hsv, hrm⟩ := id h
  subst e0
  obtain ⟨g, eg, hg⟩ := hR.a
  obtain ⟨g2, eg2, hg2⟩ := hR.b
  have ex : (nI k).toNatClampNeg = k := nI_clamp (by omega)
  have e9 := hg2 k (by omega)
  cases ey : yS y k with
  | none =>
    refine bX5_restore_20 hR.o rfl eg2 (ix_of rfl (by omega) (by decide)) (fun z => absurd (by rw [ex, e9]; show bI (yS y k).isSome = 0; rw [ey]; rfl) z) (fun _ => bX5_restore_29 (by decide) (by decide) ⟨h, Or.inr (Or.inl ⟨rfl, rfl⟩)⟩)
  | some c =>
    have hck := hsv k (by omega) c ey
    have hw := hR.cw (j := 0) (by decide)
    have hlb := hw.lb
    have b1 := pC_le hlb.1
    have b2 := pS_le hlb.1
    refine bX5_restore_20 hR.o rfl eg2 (ix_of rfl (by omega) (by decide)) (fun _ => ?_) (fun z => absurd (by rw [ex, e9] at z; rw [show (yS y k).isSome = true by rw [ey]; rfl] at z; exact z) (by decide))
    refine bX5_restore_40 (mcq := 120) (msq := 5664) (Qc := fun w2 => ∃ A' L', A' 0 = D 0 0 ∧ CalW (cutA w (D 0) 26) A' (cs (2 + k)) L' w2) hR.o rfl rfl eg (ix_of rfl (by omega) (by decide)) (by rw [ex]; exact hg k (by omega)) hw.i.o (c_copyFrom hw (hR.cc (j := 2 + k) (by omega) (by omega) (by omega)) (by omega) (by omega) (fun A' w2 hA h2 => ⟨A', _, hA, h2⟩)) (by decide) (by decide) (fun w2 hw2 => ?_)
    obtain ⟨A', L', hA, h2⟩ := hw2
    have hb := hR.back (by omega) h2 hA
    have hs := hb.setR (n2 := 0) (by omega)
    have eo : upD D 0 A' 18 0 = D 18 0 := by rw [upD_ne (by omega)]
    have hst : StW fr (upD D 0 A' 18 0) (y.1, y.2.1, c, [], y.2.2.2.2) (wset w2 (upD D 0 A' 18 0) (.inl (4, stF (upD D 0 A') 0))) := by
      refine ⟨upD D 0 A', upF cs 0 (cs (2 + k)), upF Ls 0 L', rfl, hs, upF_eq.trans hck, fun j hj c hc2 => ?_, fun j hj => absurd hj (Nat.not_lt_zero _)⟩
      rw [upF_ne (by omega)]; exact hsv j hj c hc2
    have hcal := (hs.c (j := 0) (by decide)).o
    have ec : upF cs 0 (cs (2 + k)) 0 = c := upF_eq.trans hck
    have hbo := hb.o
    rw [eo] at hst hbo
    rw [eo] at hcal
    exact bX5_restore_53 hbo (st_l (by decide)) (f2 := stF (upD D 0 A') 0) rfl rfl hcal rfl ⟨rfl, by rw [ec], hst⟩ (by decide) (by decide)
/-- the text has changed -/
theorem StW.text (h : StW fr s y w) : ∃ D at9 err lt nu, w s = some (.inl (4, stF D (yR y).length)) ∧ TxW (cutA w (D 19) 3) (D 19) (yT y) (yN y) at9 err lt nu w ∧ ∀ t n a e l2 u2 w2, TxW (cutA w (D 19) 3) (D 19) t n a e l2 u2 w2 → StW fr s (t, n, y.2.2) w2 := by
  obtain ⟨D, cs, Ls, e0, hR, hc, hsv, hrm⟩ := h
  subst e0
  obtain ⟨a, er, lt, nu, hx⟩ := hR.tw
  exact ⟨D, a, er, lt, nu, hR.o, hx, fun t n a e l2 u2 w2 h2 => ⟨D, cs, Ls, rfl, hR.tb h2, hc, hsv, hrm⟩⟩
theorem a_append {x : Int32} (h : StW fr s y w) : CX5_append G l 250 11400 [.ref s, .int x] w (RQ fr s (oApp y x)) (RX fr s y (oApp y x) SAE SSE SSE) := by
  have bx : rngI x 0 255 = false → RX fr s y (oApp y x) SAE SSE SSE SAE w := fun e => by
    have : oApp y x = (1, 0, y) := by unfold oApp; rw [if_neg (by rw [e]; decide)]
    rw [this]; exact ⟨h, Or.inl ⟨rfl, rfl⟩⟩
  refine sX5_append (bX5_append_0 (fun z => bX5_append_11 (by decide) (by decide) (bx (rng_lo rfl z))) (fun z => bX5_append_4 (fun z2 => ?_) (fun z2 => bX5_append_11 (by decide) (by decide) (bx (rng_nle rfl z2)))))
  have q : rngI x 0 255 = true := rng_ok rfl rfl z z2
  obtain ⟨D, a9, er, lt, nu, ho, hx, hk⟩ := h.text
  have hb := hx.b
  by_cases q2 : yN y = 120
  · have eo : oApp y x = (2, 0, y) := by unfold oApp; rw [if_pos q, if_pos q2]
    rw [eo]
    exact bX5_append_21 ho rfl hx.o rfl (fun z => absurd z (by rw [q2]; decide)) (fun _ => bX5_append_33 (by decide) (by decide) ⟨h, Or.inr (Or.inl ⟨rfl, rfl⟩)⟩)
  · have eo : oApp y x = (0, nI (yN y + 1), (upd (yT y) (yN y) x, yN y + 1, y.2.2)) := by unfold oApp; rw [if_pos q, if_neg q2]
    rw [eo]
    exact bX5_append_21 ho rfl hx.o rfl (fun _ => bX5_append_43 ho rfl hx.o (c_addSign (Q := fun r w2 => r = nI (yN y + 1) ∧ StW fr s (upd (yT y) (yN y) x, yN y + 1, y.2.2) w2) hx (by omega) (fun w2 h2 => ⟨rfl, hk _ _ _ _ _ _ _ h2⟩)) (by decide) (by decide) (fun r w2 hr => bX5_append_51 ⟨rfl, hr.1, hr.2⟩ (by decide) (by decide))) (fun z => absurd (nI_lt (a := yN y) (b := 120) (by omega) (by decide)) z)
theorem a_clearText (h : StW fr s y w) : CX5_clearText G l [.ref s] w (RQ fr s (oClr y)) := by
  obtain ⟨D, a9, er, lt, nu, ho, hx, hk⟩ := h.text
  obtain ⟨f, m, ⟨n1, n2, n3⟩, e0, ⟨g, e1, c1⟩, e2, b9⟩ := id hx
  refine sX5_clearText (bX5_clearText_0 ho rfl hx.o rfl (tx_l (by decide)) (f5 := txF (D 19) 0 a9 er lt) rfl ⟨rfl, rfl, ?_⟩)
  exact hk _ 0 a9 er lt nu _ ⟨fun q e hq => wn (fr_ne hq (m 0 (by decide))) (f q e hq), m, ⟨n1, n2, n3⟩, wset_eq _ _ _, ⟨g, wn n1.symm e1, fun i hi => absurd hi (Nat.not_lt_zero _)⟩, wn n2.symm e2, Nat.zero_le _⟩
theorem txt_1 (y : Sy) : (txt y).1 = if yN y = 0 ∨ ¬ yT y 0 = 74 then 0 else rdE (yT y) (yN y) (yN y) 1 := by
  unfold txt
  split
  · rfl
  · exact rdTo_1 _ _ _ _ _ _
theorem a_errorPosition (h : StW fr s y w) : CX5_errorPosition G l [.ref s] w (fun r w2 => r = (txt y).1 ∧ StW fr s y w2) := by
  obtain ⟨D, a9, er, lt, nu, ho, hx, hk⟩ := h.text
  exact sX5_errorPosition (bX5_errorPosition_0 ho rfl hx.o (c_findError (Q := fun r w2 => r = (txt y).1 ∧ StW fr s y w2) hx (fun w2 a e l2 u2 h2 => ⟨(txt_1 y).symm, hk _ _ _ _ _ _ _ h2⟩)) (fun r w2 hr => bX5_errorPosition_7 hr))
theorem a_setting {x : Int32} (h : StW fr s y w) : CX5_setting G l 250 11400 [.ref s, .int x] w (RQ fr s (oSetg y x)) (RX fr s y (oSetg y x) SAE SAE SAE) := by
  have bx : rngI x 0 3 = false → RX fr s y (oSetg y x) SAE SAE SAE SAE w := fun e => by
    have : oSetg y x = (1, 0, y) := by unfold oSetg; rw [if_neg (by rw [e]; decide)]
    rw [this]; exact ⟨h, Or.inl ⟨rfl, rfl⟩⟩
  refine sX5_setting (bX5_setting_0 (fun z => bX5_setting_9 (by decide) (by decide) (bx (rng_lo rfl z))) (fun z => bX5_setting_4 (fun z2 => ?_) (fun z2 => bX5_setting_9 (by decide) (by decide) (bx (rng_nlt rfl z2)))))
  have q : rngI x 0 3 = true := rng_ok2 rfl rfl z z2
  have eo : oSetg y x = (0, cSc (yC y) (9 + x.toNatClampNeg), y) := by unfold oSetg; rw [if_pos q]
  rw [eo]
  obtain ⟨k1, k2, -⟩ := rng_k (b := 3) q
  obtain ⟨D, L, e0, ho, hw, hoc, hk⟩ := h.pres
  obtain ⟨g, eg, hg⟩ := hw.i.st
  exact bX5_setting_19 ho rfl hw.i.o rfl eg (ix_of k1 (by omega) (by decide)) ⟨rfl, hg _ (by omega), h⟩ (by decide) (by decide)
end OC
