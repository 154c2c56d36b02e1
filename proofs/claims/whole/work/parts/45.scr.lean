/-! SCRIPTS, TURNS -/
theorem cmdA_inv {T9 : Nat} {c : Cal} (h : Inv T9 c) (how x : Int32) (hT : T9 + 30 < 2 ^ 31) : Inv (T9 + 30) (cmdA c how x).1 := by
  have hmo : ∀ {c2 : Cal}, Inv T9 c2 → Inv (T9 + 30) c2 := fun q => q.mono (by omega)
  have hb := h.b0
  have hb1 := h.b1
  unfold cmdA
  split
  · split
    · exact hmo (h.add (by assumption))
    · exact hmo h
  · split
    · split
      · rename_i q
        obtain ⟨q1, q2, q3⟩ := gvOk_of q.2
        obtain ⟨p1, p2⟩ := inN_k q2 (by omega)
        exact hmo (h.hold _ (Or.inr ⟨_, p1, p2⟩))
      · exact hmo h
    · split
      · split
        · exact hmo (h.gv _)
        · exact hmo h
      · split
        · split
          · rename_i q
            have z := rngI_iff.mp q.2
            exact hmo (h.ext (inN_k q.1 (by omega)).1 z.1 z.2)
          · exact hmo h
        · split
          · split
            · exact hmo (h.lv _ _)
            · exact hmo h
          · split
            · split
              · rename_i q
                have z := rngI_iff.mp q.2
                obtain ⟨e, hk, ei⟩ := rng_k (x := x - x / 100 * 100) (b := 30) (rngI_iff.mpr ⟨by omega, z.2⟩)
                exact (h.run _ (by omega)).mono (by omega)
              · exact hmo h
            · split
              · exact hmo h
              · split
                · exact hmo h
                · split
                  · exact hmo h
                  · exact hmo h
def trnA (c : Cal) (r : Int32) : Cal :=
  if r - r / 8 * 8 < 3 then (if isNw c (r / 8 - r / 8 / 5 * 5) (cSc c 3 + (r / 8 / 5 - r / 8 / 5 / 4 * 4)) (r / 8 / 20 - r / 8 / 20 / 16 * 16) (1 + (r / 8 / 320 - r / 8 / 320 / 5 * 5)) (1 + (r / 8 / 1600 - r / 8 / 1600 / 9 * 9)) = true then insS c (r / 8 - r / 8 / 5 * 5, cSc c 3 + (r / 8 / 5 - r / 8 / 5 / 4 * 4), r / 8 / 20 - r / 8 / 20 / 16 * 16, 1 + (r / 8 / 320 - r / 8 / 320 / 5 * 5), 1 + (r / 8 / 1600 - r / 8 / 1600 / 9 * 9), -1) else c)
  else if r - r / 8 * 8 = 3 then (gvAll c).1
  else if r - r / 8 * 8 = 4 then (if inN (r / 8 - r / 8 / 16 * 16) (cSs c).length = true then extC c (r / 8 - r / 8 / 16 * 16).toNatClampNeg (1 + (r / 8 / 16 - r / 8 / 16 / 4 * 4)) else c)
  else if r - r / 8 * 8 = 5 then (if inN (r / 8 - r / 8 / 6 * 6) (cPs c).length = true then (lvAll c (r / 8 - r / 8 / 6 * 6).toNatClampNeg (r / 8 / 6 - r / 8 / 6 / 4 * 4)).1 else c)
  else if r - r / 8 * 8 = 6 then (if gvOk c (r / 8 - r / 8 / 16 * 16) (r / 8 / 16 - r / 8 / 16 / 6 * 6) = true then setS c (r / 8 - r / 8 / 16 * 16).toNatClampNeg 5 (r / 8 / 16 - r / 8 / 16 / 6 * 6) else c)
  else dayC c
def pw : Nat → Int64
  | 0 => 1
  | k + 1 => pw k * 100000
def scrG (s u : Int64) : Int32 := (s / u - s / u / 100000 * 100000).toInt32
def scrF (s : Int64) : Nat → Int64 → Nat → Cal → Int32
  | 0, _, _, _ => -1
  | f + 1, u, k, c => if (cmdA c (scrG s (u / 100000) / 10000) (scrG s (u / 100000) - scrG s (u / 100000) / 10000 * 10000)).2 = true then scrF s f (u / 100000) (k + 1) (cmdA c (scrG s (u / 100000) / 10000) (scrG s (u / 100000) - scrG s (u / 100000) / 10000 * 10000)).1 else nI k
def oScr (y : Sy) (n : Int32) (s : Int64) : Int32 × Int32 × Sy := if rngI n 1 3 = true ∧ ((0 : Int64) ≤ s ∧ s ≤ pw n.toNatClampNeg - 1) then (0, scrF s n.toNatClampNeg (pw n.toNatClampNeg) 0 (yC y), y) else (1, 0, y)
section SC
variable {G : GG} {l : Launch} {w0 w : Wd} {A : Nat → Nat} {rf : Int32} {y : Sy} {T : (Nat → Int32) → Prop} {sp ou : Int32}
theorem c_turn {c : Cal} {r : Int32} {Q : Wd → Prop} (hi : Inj A) (h : MG w0 A rf y (fun g => MRep g c) sp ou w) (hq : ∀ w2, MG w0 A rf y (fun g => MRep g (trnA c r)) sp ou w2 → Q w2) : CX6_turn G l [.ref (A 0), .int r] w Q := by
  obtain ⟨g, hg, hc⟩ := h.t
  have b0 := hc.b0
  have b1 := hc.b1
  have e3 : g ((3 : Int32).toNatClampNeg) = cSc c 3 := hc.sc 3 (by decide) (by decide)
  unfold trnA at hq
  generalize hh : r - r / 8 * 8 = hw at hq
  generalize hv : r / 8 = q at hq
  refine sX6_turn (bX6_turn_0 h.o rfl hg (vlit rfl) (fun z => ?_) (fun z => ?_))
  · rw [hh] at z
    rw [if_neg (by rw [i32_lt]; rw [i32_le] at z; omega)] at hq
    rw [hh, hv]
    refine bX6_turn_112 (fun z3 => ?_) (fun z3 => ?_)
    · rw [if_neg z3] at hq
      refine bX6_turn_129 (fun z4 => ?_) (fun z4 => ?_)
      · rw [if_neg z4] at hq
        refine bX6_turn_173 (fun z5 => ?_) (fun z5 => ?_)
        · rw [if_neg z5] at hq
          refine bX6_turn_214 (fun z6 => ?_) (fun z6 => ?_)
          · rw [if_neg z6] at hq
            exact bX6_turn_295 h.o rfl (c_dayOn hg hc (fun g2 hg2 => bX6_turn_302 (hq _ (h.setT hi (T2 := fun g => MRep g (dayC c)) hg2)))) (fun _ h => h)
          · rw [if_pos z6] at hq
            generalize hd : q / 16 - q / 16 / 6 * 6 = d at hq
            generalize ht : q - q / 16 * 16 = t at hq
            have no : ¬ gvOk c t d = true → KX6_turn G l w (ZV G 0 0 w Q) w 302 [] [] := fun z => by
              rw [if_neg z] at hq
              exact bX6_turn_302 (hq w h)
            refine bX6_turn_221 h.o rfl ?_ (fun _ _ h => h)
            rw [ht]
            refine c_isSession hg hc (bX6_turn_232 (fun z => no (fun z9 => by rw [(gvOk_of z9).1] at z; exact absurd z (by decide))) (fun z2 => ?_))
            have z2 := bI_n0.mp z2
            obtain ⟨k1, k2⟩ := inN_k z2 (by omega)
            refine bX6_turn_235 h.o rfl ?_ (fun _ _ h => h)
            rw [hd]
            refine c_isPerson hg hc (bX6_turn_249 (fun z => no (fun z9 => by rw [(gvOk_of z9).2.1] at z; exact absurd z (by decide))) (fun z3 => ?_))
            have z3 := bI_n0.mp z3
            obtain ⟨p1, p2⟩ := inN_k z3 (by omega)
            refine bX6_turn_252 h.o rfl ?_ (fun _ _ h => h)
            rw [hd, ht]
            refine c_canGive hg hc k2 k1 (Or.inr ⟨_, p1, p2⟩) (fun b9 hb => ?_)
            have hp1 : ¬ d = -1 := by rw [p2]; exact nI_m1 (by omega)
            have hb2 : b9 = true ↔ why c t.toNatClampNeg d.toNatClampNeg = 0 := by
              rw [hb]
              constructor
              · rintro (e | ⟨p, hp, e, hw9⟩)
                · exact absurd e hp1
                · rw [p2, nI_eq (by omega) (by omega)] at e
                  rw [e]; exact hw9
              · exact fun e => Or.inr ⟨_, p1, p2, e⟩
            refine bX6_turn_270 (fun z => no (fun z9 => by rw [hb2.mpr (gvOk_of z9).2.2] at z; exact absurd z (by decide))) (fun z4 => ?_)
            have z4 := hb2.mp (bI_n0.mp z4)
            rw [if_pos (by unfold gvOk; rw [z2, z3, decide_eq_true z4]; rfl)] at hq
            refine bX6_turn_273 h.o rfl ?_ (fun _ _ h => h)
            rw [hd, ht]
            exact c_giveOn hg hc k2 k1 (fun g2 hg2 => bX6_turn_291 (bX6_turn_302 (hq _ (h.setT hi (T2 := fun g => MRep g (setS c t.toNatClampNeg 5 d)) hg2))))
        · rw [if_pos z5] at hq
          generalize hd : q / 6 - q / 6 / 4 * 4 = d at hq
          generalize ht : q - q / 6 * 6 = t at hq
          refine bX6_turn_179 h.o rfl ?_ (fun _ _ h => h)
          rw [ht]
          refine c_isPerson hg hc (bX6_turn_190 (fun z => ?_) (fun z2 => ?_))
          · rw [if_neg (by rw [bI_0.mp z]; exact Bool.false_ne_true)] at hq
            exact bX6_turn_302 (hq w h)
          · have z2 := bI_n0.mp z2
            rw [if_pos z2] at hq
            obtain ⟨k1, k2⟩ := inN_k z2 (by omega)
            refine bX6_turn_193 h.o rfl ?_ (fun _ _ h => h)
            rw [hd, ht]
            exact c_leaveOn hg hc k2 k1 (fun g2 hg2 => bX6_turn_210 (bX6_turn_302 (hq _ (h.setT hi (T2 := fun g => MRep g (lvAll c t.toNatClampNeg d).1) hg2))))
      · rw [if_pos z4] at hq
        generalize hd : 1 + (q / 16 - q / 16 / 4 * 4) = d at hq
        generalize ht : q - q / 16 * 16 = t at hq
        refine bX6_turn_135 h.o rfl ?_ (fun _ _ h => h)
        rw [ht]
        refine c_isSession hg hc (bX6_turn_146 (fun z => ?_) (fun z2 => ?_))
        · rw [if_neg (by rw [bI_0.mp z]; exact Bool.false_ne_true)] at hq
          exact bX6_turn_302 (hq w h)
        · have z2 := bI_n0.mp z2
          rw [if_pos z2] at hq
          obtain ⟨k1, k2⟩ := inN_k z2 (by omega)
          refine bX6_turn_149 h.o rfl ?_ (fun _ _ h => h)
          rw [hd, ht]
          refine c_extW hi h (Or.inr rfl) hg hc k2 k1 (fun g2 A2 B2 C2 D2 hg2 => bX6_turn_169 (bX6_turn_302 (hq _ ?_)))
          exact ((((h.setT hi (T2 := fun g => MRep g (extC c t.toNatClampNeg d)) hg2).setL hi (by decide) (by decide) A2).setL hi (by decide) (by decide) B2).setL hi (by decide) (by decide) C2).setL hi (by decide) (by decide) D2
    · rw [if_pos z3] at hq
      exact bX6_turn_118 h.o rfl (c_giveAllOn hg hc (fun g2 hg2 => bX6_turn_125 (bX6_turn_302 (hq _ (h.setT hi (T2 := fun g => MRep g (gvAll c).1) hg2))))) (fun _ _ h => h)
  · rw [hh] at z
    rw [if_pos (by rw [i32_lt]; rw [i32_le] at z; omega)] at hq
    rw [e3, hv]
    refine bX6_turn_30 h.o rfl (c_isNew hg hc ?_) (fun _ _ h => h)
    by_cases z2 : isNw c (q - q / 5 * 5) (cSc c 3 + (q / 5 - q / 5 / 4 * 4)) (q / 20 - q / 20 / 16 * 16) (1 + (q / 320 - q / 320 / 5 * 5)) (1 + (q / 1600 - q / 1600 / 9 * 9)) = true
    · rw [if_pos z2] at hq
      rw [z2]
      have hlt : (cSs c).length < 16 := by
        unfold isNw at z2
        simp only [Bool.and_eq_true, decide_eq_true_eq] at z2
        exact z2.2.2.2.1
      refine bX6_turn_67 (fun z => absurd z (by decide)) (fun _ => ?_)
      exact bX6_turn_70 h.o rfl (c_insert hg hc hlt (fun g2 hg2 => bX6_turn_108 (bX6_turn_302 (hq _ (h.setT hi (T2 := fun g => MRep g (insS c (q - q / 5 * 5, cSc c 3 + (q / 5 - q / 5 / 4 * 4), q / 20 - q / 20 / 16 * 16, 1 + (q / 320 - q / 320 / 5 * 5), 1 + (q / 1600 - q / 1600 / 9 * 9), -1))) hg2))))) (fun _ _ h => h)
    · rw [if_neg z2] at hq
      rw [Bool.eq_false_iff.mpr z2]
      exact bX6_turn_67 (fun _ => bX6_turn_302 (hq w h)) (fun z => absurd rfl z)
end SC
