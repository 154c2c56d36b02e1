/-! THE CLASS'S CALLS: what is refused, what is remembered, actions -/
abbrev SIO : String := "java/lang/IndexOutOfBoundsException"
abbrev SAE : String := "java/lang/IllegalArgumentException"
abbrev SSE : String := "java/lang/IllegalStateException"
def RQ (fr : Wd) (s : Nat) (o : Int32 × Int32 × Sy) (r : Int32) (w2 : Wd) : Prop := o.1 = 0 ∧ r = o.2.1 ∧ StW fr s o.2.2 w2
def RX (fr : Wd) (s : Nat) (y : Sy) (o : Int32 × Int32 × Sy) (E1 E2 E3 : String) (E : String) (w2 : Wd) : Prop := StW fr s y w2 ∧ ((o.1 = 1 ∧ E = E1) ∨ (o.1 = 2 ∧ E = E2) ∨ (o.1 = 3 ∧ E = E3))
section FW
variable {fr w : Wd} {s : Nat} {y : Sy}
/-- the present calendar -/
theorem StW.pres (h : StW fr s y w) : ∃ D Ls, D 18 0 = s ∧ w s = some (.inl (4, stF D (yR y).length)) ∧ CalW (cutA w (D 0) 26) (D 0) (yC y) Ls w ∧ cutA w (D 0) 26 s = some (.inl (4, stF D (yR y).length)) ∧ ∀ A' c' L' w2, A' 0 = D 0 0 → CalW (cutA w (D 0) 26) A' c' L' w2 → StW fr s (wC y c') w2 := by
  obtain ⟨D, cs, Ls, e0, hR, hc, hsv, hrm⟩ := h
  subst e0
  refine ⟨D, Ls 0, rfl, hR.o, by rw [← hc]; exact hR.cw (by decide), hR.oc (by decide), fun A' c' L' w2 hA h2 => ?_⟩
  refine ⟨upD D 0 A', upF cs 0 c', upF Ls 0 L', rfl, hR.back (by decide) h2 hA, rfl, fun k hk c hc2 => ?_, fun k hk => ?_⟩
  · rw [upF_ne (by omega)]; exact hsv k hk c hc2
  · rw [upF_ne (by omega)]; exact hrm k hk
/-- the calendar in which things are tried out -/
theorem StW.copy (h : StW fr s y w) : ∃ (D : Nat → Nat → Nat) (c1 : Cal) (L1 L0 : Nat), D 18 0 = s ∧ w s = some (.inl (4, stF D (yR y).length)) ∧ CalW (cutA w (D 1) 26) (D 1) c1 L1 w ∧ cutA w (D 1) 26 s = some (.inl (4, stF D (yR y).length)) ∧ CalIn (cutA w (D 1) 26) (D 0) (yC y) L0 ∧ ∀ A' c' L' w2, A' 0 = D 1 0 → CalW (cutA w (D 1) 26) A' c' L' w2 → StW fr s y w2 := by
  obtain ⟨D, cs, Ls, e0, hR, hc, hsv, hrm⟩ := h
  subst e0
  refine ⟨D, cs 1, Ls 1, Ls 0, rfl, hR.o, hR.cw (by decide), hR.oc (by decide), by rw [← hc]; exact hR.cc (by decide) (by decide) (by decide), fun A' c' L' w2 hA h2 => ?_⟩
  refine ⟨upD D 1 A', upF cs 1 c', upF Ls 1 L', rfl, hR.back (by decide) h2 hA, ?_, fun k hk c hc2 => ?_, fun k hk => ?_⟩
  · rw [upF_ne (by decide)]; exact hc
  · rw [upF_ne (by omega)]; exact hsv k hk c hc2
  · rw [upF_ne (by omega)]; exact hrm k hk
end FW
section A5
variable {G : GG} {l : Launch} {fr w : Wd} {s : Nat} {y : Sy}
theorem c_refuse {f : Int32} (hf : f = 0 ∨ f = 1 ∨ f = 2 ∨ f = 3) : CX5_refuse G l 1 6 [.int f] w (fun w2 => f = 0 ∧ w = w2) (fun E w2 => w = w2 ∧ ((f = 1 ∧ E = SIO) ∨ (f = 2 ∧ E = SAE) ∨ (f = 3 ∧ E = SSE))) := by
  rcases hf with rfl | rfl | rfl | rfl
  · exact sX5_refuse (bX5_refuse_0_d (Or.inl (by decide)) (bX5_refuse_61 ⟨rfl, rfl⟩ (by decide) (by decide)))
  · exact sX5_refuse (bX5_refuse_0_1 (by decide) (bX5_refuse_28 (by decide) (by decide) ⟨rfl, Or.inl ⟨rfl, rfl⟩⟩))
  · exact sX5_refuse (bX5_refuse_0_2 (by decide) (bX5_refuse_39 (by decide) (by decide) ⟨rfl, Or.inr (Or.inl ⟨rfl, rfl⟩)⟩))
  · exact sX5_refuse (bX5_refuse_0_3 (by decide) (bX5_refuse_50 (by decide) (by decide) ⟨rfl, Or.inr (Or.inr ⟨rfl, rfl⟩)⟩))
theorem c_forgetOldest {D : Nat → Nat → Nat} {cs : Nat → Cal} {Ls : Nat → Nat} {t : Nat → Int32} {n : Nat} {sv : Nat → Bool} {Q : Wd → Prop} (h : StR fr D cs Ls t n 14 sv w) (hq : ∀ w2, StR fr (fun j => D (rot j)) (fun j => cs (rot j)) (fun j => Ls (rot j)) t n 13 sv w2 → Q w2) : CX5_forgetOldest G l [.ref (D 18 0)] w Q := by
  obtain ⟨g, eg, hg⟩ := h.r
  have n03 : D 18 0 ≠ D 18 3 := h.ne (by decide) (by decide) (by decide) (by decide) (by decide)
  have nc : ∀ {j : Nat}, j < 18 → D j 0 ≠ D 18 3 := fun hj => h.ne (by omega) (by rw [sz_c hj]; decide) (by decide) (by decide) (by omega)
  refine sX5_forgetOldest (bX5_forgetOldest_0 h.o rfl eg (vlit rfl) (show g ((0 : Int32).toNatClampNeg) = some (D 4 0) from hg 0 (by decide)) ?_)
  have key : ∀ i, i ≤ 13 → ∀ gq : Nat → Option Nat, (∀ k, k < 14 → gq k = some (D (if k < i then 4 + k + 1 else 4 + k) 0)) → KX5_forgetOldest G l w (ZV G 0 0 w Q) (wset w (D 18 3) (qrow 3 14 gq)) 9 [(0, .ref (D 18 0)), (1, .ref (D 4 0)), (2, .int (nI (i + 1)))] [] := by
    refine upto (P := fun i => ∀ gq : Nat → Option Nat, (∀ k, k < 14 → gq k = some (D (if k < i then 4 + k + 1 else 4 + k) 0)) → KX5_forgetOldest G l w (ZV G 0 0 w Q) (wset w (D 18 3) (qrow 3 14 gq)) 9 [(0, .ref (D 18 0)), (1, .ref (D 4 0)), (2, .int (nI (i + 1)))] []) (N := 13) (fun gq hgq => ?_) (fun i hi ih gq hgq => ?_)
    · have hs := h.turn (n2 := 13) (g2 := va_up gq 13 (some (D 4 0))) (by decide) (fun k hk => by
        show va_up gq 13 (some (D 4 0)) k = _
        unfold va_up rot
        by_cases q : k = 13
        · subst q; rfl
        · rw [if_neg q, hgq k hk, if_pos (by omega), if_neg (by omega), if_pos (by omega)])
      refine bX5_forgetOldest_9 (fun _ => bX5_forgetOldest_35 (wn n03 h.o) rfl (wset_eq _ _ _) (vlit rfl) (wn (nc (by decide)) (h.c (j := 4) (by decide)).o) (wn n03 (wn n03 h.o)) rfl (st_l (by decide)) (f8 := stF D 13) rfl ?_) (fun z => absurd (by decide) z)
      rw [wset_wset]
      exact hq _ hs
    · have e4 : gq (nI (i + 1)).toNatClampNeg = some (D (4 + (i + 1)) 0) := by rw [nI_clamp (by omega), hgq _ (by omega), if_neg (by omega)]
      refine bX5_forgetOldest_9 (fun z => absurd z (nI_ge (b := 14) (by omega) (by decide))) (fun _ => ?_)
      refine bX5_forgetOldest_15 (wn n03 h.o) rfl (wset_eq _ _ _) (ix_of rfl (by omega) (by decide)) e4 (by rw [nI_pred]; exact ix_of rfl (by omega) (by decide)) (wn (nc (by omega)) (h.c (j := 4 + (i + 1)) (by omega)).o) ?_
      rw [nI_1, nI_pred, nI_clamp (by omega), wset_wset]
      refine ih _ (fun k hk => ?_)
      show va_up gq i (some (D (4 + (i + 1)) 0)) k = _
      unfold va_up
      by_cases q : k = i
      · subst q; rw [if_pos rfl, if_pos (by omega)]; rfl
      · rw [if_neg q, hgq k hk]
        by_cases q2 : k < i
        · rw [if_pos q2, if_pos (by omega)]
        · rw [if_neg q2, if_neg (by omega)]
  have := key 0 (Nat.zero_le _) g (fun k hk => by rw [if_neg (Nat.not_lt_zero _)]; exact hg k hk)
  rw [wset_self w _ _ eg] at this
  exact this
theorem c_remember5 {Q : Wd → Prop} (h : StW fr s y w) (hq : ∀ w2, StW fr s (wR y) w2 → Q w2) : CX5_remember G l 120 5664 [.ref s] w Q := by
  have tail : ∀ (y1 : Sy) (w1 : Wd), StW fr s y1 w1 → (yR y1).length < 14 → (∀ w2, StW fr s (wL y1 (yR y1 ++ [yC y1])) w2 → Q w2) → KX5_remember G l 120 5664 w (ZV G 120 5664 w Q) w1 13 [(0, .ref s)] [] 0 0 := by
    intro y1 w1 h hl hq
    obtain ⟨D, cs, Ls, e0, hR, hc, hsv, hrm⟩ := h
    subst e0
    obtain ⟨g, eg, hg⟩ := hR.r
    have e5 : g (nI (yR y1).length).toNatClampNeg = some (D (4 + (yR y1).length) 0) := by rw [nI_clamp (by omega)]; exact hg _ hl
    have hw := hR.cw (j := 4 + (yR y1).length) (by omega)
    have hlb := hw.lb
    have b1 := pC_le hlb.1
    have b2 := pS_le hlb.1
    refine bX5_remember_13 hR.o rfl rfl eg (ix_of rfl hl (by decide)) e5 rfl hw.i.o (mcq := 120) (msq := 5664) (c_copyFrom (Q := fun w2 => ∃ A' L', A' 0 = D (4 + (yR y1).length) 0 ∧ CalW (cutA w1 (D (4 + (yR y1).length)) 26) A' (cs 0) L' w2) hw (hR.cc (j := 0) (by omega) (by decide) (by omega)) (by omega) (by omega) (fun A' w2 hA h2 => ⟨A', _, hA, h2⟩)) (by decide) (by decide) (fun w2 hw2 => ?_)
    obtain ⟨A', L', hA, h2⟩ := hw2
    have hb := hR.back (by omega) h2 hA
    have hs := hb.setR (n2 := (yR y1).length + 1) (by omega)
    have eo : upD D (4 + (yR y1).length) A' 18 0 = D 18 0 := by rw [upD_ne (by omega)]
    rw [← eo] at hq ⊢
    have el : (yR y1 ++ [yC y1]).length = (yR y1).length + 1 := by rw [List.length_append]; rfl
    refine bX5_remember_29 hb.o rfl (st_l (by decide)) (f3 := stF (upD D (4 + (yR y1).length) A') ((yR y1).length + 1)) (by rw [nI_1]; rfl) (hq _ ⟨upD D (4 + (yR y1).length) A', upF cs (4 + (yR y1).length) (cs 0), upF Ls (4 + (yR y1).length) L', rfl, ?_, ?_, fun k hk c hc2 => ?_, fun k hk => ?_⟩) (by decide) (by decide)
    · show StR fr _ _ _ (yT y1) (yN y1) (yR y1 ++ [yC y1]).length (fun k => (yS y1 k).isSome) _
      rw [el]; exact hs
    · rw [upF_ne (by omega)]; exact hc
    · rw [upF_ne (by omega)]; exact hsv k hk c hc2
    · have hk : k < (yR y1).length + 1 := by rw [← el]; exact hk
      show _ = rg (yR y1 ++ [yC y1]) k
      by_cases q : k = (yR y1).length
      · rw [q, upF_eq, rg_app1]; exact hc
      · rw [upF_ne (by omega), rg_app2 _ _ (by omega)]; exact hrm k (by omega)
  obtain ⟨D, cs, Ls, e0, hR, hc, hsv, hrm⟩ := id h
  subst e0
  have hnb := hR.nb
  refine sX5_remember (bX5_remember_0 hR.o rfl (fun z => ?_) (fun z => ?_))
  · have hl : (yR y).length < 14 := by
      by_cases q : (yR y).length = 14
      · exact absurd (by rw [q]; rfl) z
      · omega
    refine tail y w h hl (fun w2 hw2 => hq w2 ?_)
    have e : wR y = wL y (yR y ++ [yC y]) := by unfold wR rmb; rw [if_neg (by omega)]; rfl
    rw [e]; exact hw2
  · have hl : (yR y).length = 14 := (nI_eq (a := (yR y).length) (b := 14) (by omega) (by decide)).mp z
    rw [hl] at hR
    refine bX5_remember_9 hR.o (c_forgetOldest (Q := fun w2 => StW fr (D 18 0) (wL y ((yR y).drop 1)) w2) hR (fun w2 hw2 => ?_)) (by decide) (by decide) (fun w2 hw2 => ?_)
    · have el : ((yR y).drop 1).length = 13 := by rw [List.length_drop, hl]
      refine ⟨fun j => D (rot j), fun j => cs (rot j), fun j => Ls (rot j), rfl, ?_, hc, fun k hk c hc2 => ?_, fun k hk => ?_⟩
      · show StR fr _ _ _ (yT y) (yN y) ((yR y).drop 1).length (fun k => (yS y k).isSome) _
        rw [el]; exact hw2
      · show cs (rot (2 + k)) = c
        rw [rot_lo (by omega)]; exact hsv k hk c hc2
      · have hk : k < 13 := by rw [← el]; exact hk
        show cs (rot (4 + k)) = rg ((yR y).drop 1) k
        rw [rg_drop]
        have : rot (4 + k) = 4 + (k + 1) := by unfold rot; rw [if_neg (by omega), if_pos (by omega)]; omega
        rw [this]; exact hrm (k + 1) (by omega)
    · refine tail (wL y ((yR y).drop 1)) w2 hw2 (by show ((yR y).drop 1).length < 14; rw [List.length_drop, hl]; decide) (fun w3 hw3 => hq w3 ?_)
      have e : wR y = wL (wL y ((yR y).drop 1)) ((yR y).drop 1 ++ [yC y]) := by unfold wR rmb; rw [if_pos hl]; rfl
      rw [e]; exact hw3
end A5
