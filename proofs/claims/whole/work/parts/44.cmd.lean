/-! SCRIPTS -/
def cmdA (c : Cal) (how x : Int32) : Cal × Bool :=
  if how = 1 then (if isNw c (x / 1000) (cSc c 3) (x / 10 - x / 10 / 100 * 100) (x - x / 10 * 10) 3 = true then (insS c (x / 1000, cSc c 3, x / 10 - x / 10 / 100 * 100, x - x / 10 * 10, 3, -1), true) else (c, false))
  else if how = 2 then (if x - x / 10 * 10 = 0 ∧ gvOk c (x / 100) (x / 10 - x / 10 / 10 * 10) = true then (setS c (x / 100).toNatClampNeg 5 (x / 10 - x / 10 / 10 * 10), true) else (c, false))
  else if how = 3 then (if x = 0 then ((gvAll c).1, true) else (c, false))
  else if how = 4 then (if inN (x / 100) (cSs c).length = true ∧ rngI (x - x / 100 * 100) 1 16 = true then (extC c (x / 100).toNatClampNeg (x - x / 100 * 100), true) else (c, false))
  else if how = 5 then (if x / 100 - x / 100 / 10 * 10 = 0 ∧ inN (x / 1000) (cPs c).length = true ∧ rngI (x - x / 100 * 100) 0 30 = true then ((lvAll c (x / 1000).toNatClampNeg (x - x / 100 * 100)).1, true) else (c, false))
  else if how = 6 then (if x / 100 = 0 ∧ rngI (x - x / 100 * 100) 1 30 = true then (runTo c (x - x / 100 * 100).toNatClampNeg, true) else (c, false))
  else if how = 7 then (c, decide (x / 100 = 0 ∧ sesOf (cSs c) (-1) ≤ x - x / 100 * 100))
  else if how = 8 then (c, decide (x - x / 10 * 10 = 0 ∧ inN (x / 1000) (cPs c).length = true ∧ dsk (cTs c) (x / 1000) 0 ≤ x / 10 - x / 10 / 100 * 100))
  else if how = 9 then (c, decide (x - x / 10 * 10 = 0 ∧ inN (x / 100) (cSs c).length = true ∧ inN (x / 10 - x / 10 / 10 * 10) (cPs c).length = true ∧ sf (sg (cSs c) (x / 100).toNatClampNeg) 5 = x / 10 - x / 10 / 10 * 10))
  else (c, false)
section CM
variable {G : GG} {l : Launch} {w0 w : Wd} {A : Nat → Nat} {rf : Int32} {y : Sy} {T : (Nat → Int32) → Prop} {sp ou : Int32}
theorem c_command {c : Cal} {T9 : Nat} {how x : Int32} {Q : Int32 → Wd → Prop} (hi : Inj A) (hI : Inv T9 c) (hT : T9 + 60 < 2 ^ 31) (h : MG w0 A rf y (fun g => MRep g c) sp ou w) (hq : ∀ w2, MG w0 A rf y (fun g => MRep g (cmdA c how x).1) sp ou w2 → Q (bI (cmdA c how x).2) w2) : CX6_command G l [.ref (A 0), .int how, .int x] w Q := by
  obtain ⟨g, hg, hc⟩ := h.t
  have b0 := hc.b0
  have b1 := hc.b1
  have e3 : g ((3 : Int32).toNatClampNeg) = cSc c 3 := hc.sc 3 (by decide) (by decide)
  have i32k : ∀ {a : Int32} {k : Int32}, a = k → a.toInt = k.toInt := fun e => by rw [e]
  unfold cmdA at hq
  by_cases q1 : how = 1
  · rw [if_pos q1] at hq
    refine sX6_command (bX6_command_0_1 (i32k q1) (bX6_command_88 h.o rfl hg (vlit rfl) (c_isNew hg hc ?_) (fun _ _ h => h)))
    rw [e3]
    by_cases z : isNw c (x / 1000) (cSc c 3) (x / 10 - x / 10 / 100 * 100) (x - x / 10 * 10) 3 = true
    · rw [if_pos z] at hq
      rw [z]
      have hlt := (isNw_ok hI z).2.2.1
      refine bX6_command_109 (fun z => absurd z (by decide)) (fun _ => ?_)
      refine bX6_command_112 h.o rfl hg (vlit rfl) (c_insert hg hc hlt (fun g2 hg2 => ?_)) (fun _ _ h => h)
      rw [e3] at hg2 ⊢
      have h6 := h.setT hi (T2 := fun g => MRep g (insS c (x / 1000, cSc c 3, x / 10 - x / 10 / 100 * 100, x - x / 10 * 10, 3, -1))) hg2
      refine bX6_command_134 (fun z => absurd z ?_) (fun _ => bX6_command_137 (bX6_command_142 (hq _ h6) rfl))
      have hp := insTo_le (cSs c) (cSc c 3) (x / 10 - x / 10 / 100 * 100) (x / 1000) (cSs c).length
      rw [i32_lt, show insP (cSs c) (x / 1000, cSc c 3, x / 10 - x / 10 / 100 * 100, x - x / 10 * 10, 3, -1) = insTo (cSs c) (cSc c 3) (x / 10 - x / 10 / 100 * 100) (x / 1000) (cSs c).length from rfl, nI_toInt (by omega), show (0 : Int32).toInt = 0 from rfl]
      omega
    · rw [if_neg z] at hq
      rw [Bool.eq_false_iff.mpr z]
      exact bX6_command_109 (fun _ => bX6_command_141 (bX6_command_142 (hq w h) rfl)) (fun z => absurd rfl z)
  rw [if_neg q1] at hq
  by_cases q2 : how = 2
  · rw [if_pos q2] at hq
    generalize hd : x / 10 - x / 10 / 10 * 10 = d at hq
    generalize ht : x / 100 = t at hq
    have no : ¬ (x - x / 10 * 10 = 0 ∧ gvOk c t d = true) → KX6_command G l w (ZI G 0 0 w Q) w 207 [] [] := fun z => by
      rw [if_neg z] at hq
      exact bX6_command_207 (bX6_command_208 (hq w h) rfl)
    refine sX6_command (bX6_command_0_2 (i32k q2) ?_)
    rw [hd, ht]
    refine bX6_command_143 (fun z => no (fun z9 => z z9.1)) (fun z1 => ?_)
    refine bX6_command_150 h.o rfl (c_isSession hg hc (bX6_command_159 (fun z => no (fun z9 => by rw [(gvOk_of z9.2).1] at z; exact absurd z (by decide))) (fun z2 => ?_))) (fun _ _ h => h)
    have z2 := bI_n0.mp z2
    obtain ⟨k1, k2⟩ := inN_k z2 (by omega)
    refine bX6_command_162 h.o rfl (c_isPerson hg hc (bX6_command_171 (fun z => no (fun z9 => by rw [(gvOk_of z9.2).2.1] at z; exact absurd z (by decide))) (fun z3 => ?_))) (fun _ _ h => h)
    have z3 := bI_n0.mp z3
    obtain ⟨p1, p2⟩ := inN_k z3 (by omega)
    refine bX6_command_174 h.o rfl (c_canGive hg hc k2 k1 (Or.inr ⟨_, p1, p2⟩) (fun b9 hb => ?_)) (fun _ _ h => h)
    have hp1 : ¬ d = -1 := by rw [p2]; exact nI_m1 (by omega)
    have hb2 : b9 = true ↔ why c t.toNatClampNeg d.toNatClampNeg = 0 := by
      rw [hb]
      constructor
      · rintro (e | ⟨p, hp, e, hw9⟩)
        · exact absurd e hp1
        · rw [p2, nI_eq (by omega) (by omega)] at e
          rw [e]; exact hw9
      · exact fun e => Or.inr ⟨_, p1, p2, e⟩
    refine bX6_command_185 (fun z => no (fun z9 => by rw [hb2.mpr (gvOk_of z9.2).2.2] at z; exact absurd z (by decide))) (fun z4 => ?_)
    have z4 := hb2.mp (bI_n0.mp z4)
    rw [if_pos ⟨z1, by unfold gvOk; rw [z2, z3, decide_eq_true z4]; rfl⟩] at hq
    refine bX6_command_188 h.o rfl (c_giveOn hg hc k2 k1 (fun g2 hg2 => ?_)) (fun _ _ h => h)
    have h3 := h.setT hi (T2 := fun g => MRep g (setS c t.toNatClampNeg 5 d)) hg2
    have hh := (hI.hd (sg_mem k1)).1
    refine bX6_command_199 (fun z => absurd z ?_) (fun _ => bX6_command_203 (bX6_command_208 (hq _ h3) rfl))
    rw [i32_lt, show (-1 : Int32).toInt = -1 from by decide]; omega
  rw [if_neg q2] at hq
  by_cases q3 : how = 3
  · rw [if_pos q3] at hq
    refine sX6_command (bX6_command_0_3 (i32k q3) (bX6_command_209 (fun z => ?_) (fun z => ?_)))
    · rw [if_neg z] at hq
      exact bX6_command_227 (bX6_command_228 (hq w h) rfl)
    · rw [if_pos z] at hq
      refine bX6_command_213 h.o rfl (c_giveAllOn hg hc (fun g2 hg2 => ?_)) (fun _ _ h => h)
      have h3 := h.setT hi (T2 := fun g => MRep g (gvAll c).1) hg2
      refine bX6_command_220 (fun z => absurd z ?_) (fun _ => bX6_command_223 (bX6_command_228 (hq _ h3) rfl))
      obtain ⟨m, hm, e⟩ := gvTo_2 c (cSs c).length
      rw [show (gvAll c).2 = nI m from e, i32_lt, nI_toInt (by omega), show (0 : Int32).toInt = 0 from rfl]; omega
  rw [if_neg q3] at hq
  by_cases q4 : how = 4
  · rw [if_pos q4] at hq
    generalize hd : x - x / 100 * 100 = d at hq
    generalize ht : x / 100 = t at hq
    have no : ¬ (inN t (cSs c).length = true ∧ rngI d 1 16 = true) → KX6_command G l w (ZI G 0 0 w Q) w 273 [] [] := fun z => by
      rw [if_neg z] at hq
      exact bX6_command_273 (bX6_command_274 (hq w h) rfl)
    refine sX6_command (bX6_command_0_4 (i32k q4) ?_)
    rw [hd, ht]
    refine bX6_command_229 h.o rfl (c_isSession hg hc (bX6_command_238 (fun z => no (fun z9 => by rw [z9.1] at z; exact absurd z (by decide))) (fun z2 => ?_))) (fun _ _ h => h)
    have z2 := bI_n0.mp z2
    obtain ⟨k1, k2⟩ := inN_k z2 (by omega)
    refine bX6_command_241 (c_in ?_) (fun _ _ h => h)
    rw [in_R (a := 1) (b := 16) rfl rfl]
    refine bX6_command_251 (fun z => no (fun z9 => by rw [z9.2] at z; exact absurd z (by decide))) (fun z3 => ?_)
    have z3 := bI_n0.mp z3
    rw [if_pos ⟨z2, z3⟩] at hq
    have z4 := rngI_iff.mp z3
    have hpos := extPos hI k1 z4.1 z4.2
    refine bX6_command_254 h.o rfl (c_extW hi h (Or.inr rfl) hg hc k2 k1 (fun g2 A2 B2 C2 D2 hg2 => ?_)) (fun _ _ h => h)
    refine bX6_command_266 (fun z => absurd z (by rw [i32_le]; rw [i32_lt] at hpos; omega)) (fun _ => bX6_command_269 (bX6_command_274 (hq _ ?_) rfl))
    exact ((((h.setT hi (T2 := fun g => MRep g (extC c t.toNatClampNeg d)) hg2).setL hi (by decide) (by decide) A2).setL hi (by decide) (by decide) B2).setL hi (by decide) (by decide) C2).setL hi (by decide) (by decide) D2
  rw [if_neg q4] at hq
  by_cases q5 : how = 5
  · rw [if_pos q5] at hq
    generalize hd : x - x / 100 * 100 = d at hq
    generalize ha : x / 1000 = a at hq
    have no : ¬ (x / 100 - x / 100 / 10 * 10 = 0 ∧ inN a (cPs c).length = true ∧ rngI d 0 30 = true) → KX6_command G l w (ZI G 0 0 w Q) w 324 [] [] := fun z => by
      rw [if_neg z] at hq
      exact bX6_command_324 (bX6_command_325 (hq w h) rfl)
    refine sX6_command (bX6_command_0_5 (i32k q5) ?_)
    rw [hd, ha]
    refine bX6_command_275 (fun z => no (fun z9 => z z9.1)) (fun z1 => ?_)
    refine bX6_command_283 h.o rfl (c_isPerson hg hc (bX6_command_291 (fun z => no (fun z9 => by rw [z9.2.1] at z; exact absurd z (by decide))) (fun z2 => ?_))) (fun _ _ h => h)
    have z2 := bI_n0.mp z2
    obtain ⟨k1, k2⟩ := inN_k z2 (by omega)
    refine bX6_command_294 (c_in ?_) (fun _ _ h => h)
    rw [in_R (a := 0) (b := 30) rfl rfl]
    refine bX6_command_304 (fun z => no (fun z9 => by rw [z9.2.2] at z; exact absurd z (by decide))) (fun z3 => ?_)
    have z3 := bI_n0.mp z3
    rw [if_pos ⟨z1, z2, z3⟩] at hq
    refine bX6_command_307 h.o rfl (c_leaveOn hg hc k2 k1 (fun g2 hg2 => ?_)) (fun _ _ h => h)
    have h3 := h.setT hi (T2 := fun g => MRep g (lvAll c a.toNatClampNeg d).1) hg2
    refine bX6_command_317 (fun z => absurd z ?_) (fun _ => bX6_command_320 (bX6_command_325 (hq _ h3) rfl))
    obtain ⟨m, hm, e⟩ := lvTo_2 (setP c a.toNatClampNeg 1 (cSc c 3 + d)) (nI a.toNatClampNeg) (cSc c 3 + d) (cSs c).length
    rw [show (lvAll c a.toNatClampNeg d).2 = nI m from e, i32_lt, nI_toInt (by omega), show (0 : Int32).toInt = 0 from rfl]; omega
  rw [if_neg q5] at hq
  by_cases q6 : how = 6
  · rw [if_pos q6] at hq
    generalize hd : x - x / 100 * 100 = d at hq
    generalize ht : x / 100 = t at hq
    have no : ¬ (t = 0 ∧ rngI d 1 30 = true) → KX6_command G l w (ZI G 0 0 w Q) w 360 [] [] := fun z => by
      rw [if_neg z] at hq
      exact bX6_command_360 (bX6_command_361 (hq w h) rfl)
    refine sX6_command (bX6_command_0_6 (i32k q6) ?_)
    rw [hd, ht]
    refine bX6_command_326 (fun z => no (fun z9 => z z9.1)) (fun z1 => ?_)
    refine bX6_command_331 (c_in ?_) (fun _ _ h => h)
    rw [in_R (a := 1) (b := 30) rfl rfl]
    refine bX6_command_341 (fun z => no (fun z9 => by rw [z9.2] at z; exact absurd z (by decide))) (fun z3 => ?_)
    have z3 := bI_n0.mp z3
    rw [if_pos ⟨z1, z3⟩] at hq
    have z4 := rngI_iff.mp z3
    obtain ⟨e, hk, ei⟩ := rng_k (x := d) (b := 30) (rngI_iff.mpr ⟨by omega, z4.2⟩)
    refine bX6_command_344 h.o rfl (c_runOn hg hc e (by omega) (fun g2 hg2 => ?_)) (fun _ _ h => h)
    have h3 := h.setT hi (T2 := fun g => MRep g (runTo c d.toNatClampNeg)) hg2
    refine bX6_command_353 (fun z => absurd z ?_) (fun _ => bX6_command_356 (bX6_command_361 (hq _ h3) rfl))
    have := runFine hI (n := d.toNatClampNeg) (by omega) hT
    rw [i32_lt, show (0 : Int32).toInt = 0 from rfl]; omega
  rw [if_neg q6] at hq
  by_cases q7 : how = 7
  · rw [if_pos q7] at hq
    refine sX6_command (bX6_command_0_7 (i32k q7) (bX6_command_362 (fun z => bX6_command_384 (bX6_command_385 ?_ rfl)) (fun z => ?_)))
    · rw [decide_eq_false (fun z9 => z z9.1)] at hq; exact hq w h
    · refine bX6_command_367 h.o rfl (c_sessionsOf hg hc ?_) (fun _ _ h => h)
      refine bX6_command_375 (fun z2 => bX6_command_384 (bX6_command_385 ?_ rfl)) (fun z2 => bX6_command_380 (bX6_command_385 ?_ rfl))
      · rw [decide_eq_false (fun z9 => absurd z9.2 (by rw [i32_le]; rw [i32_lt] at z2; omega))] at hq; exact hq w h
      · rw [decide_eq_true ⟨z, by rw [i32_le]; rw [i32_lt] at z2; omega⟩] at hq; exact hq w h
  rw [if_neg q7] at hq
  by_cases q8 : how = 8
  · rw [if_pos q8] at hq
    refine sX6_command (bX6_command_0_8 (i32k q8) (bX6_command_386 (fun z => bX6_command_422 (bX6_command_423 ?_ rfl)) (fun z => ?_)))
    · rw [decide_eq_false (fun z9 => z z9.1)] at hq; exact hq w h
    · refine bX6_command_393 h.o rfl (c_isPerson hg hc (bX6_command_401 (fun z2 => bX6_command_422 (bX6_command_423 ?_ rfl)) (fun z2 => ?_))) (fun _ _ h => h)
      · rw [decide_eq_false (fun z9 => by rw [z9.2.1] at z2; exact absurd z2 (by decide))] at hq; exact hq w h
      · refine bX6_command_404 h.o rfl (c_onDesk hg hc ?_) (fun _ _ h => h)
        refine bX6_command_413 (fun z3 => bX6_command_422 (bX6_command_423 ?_ rfl)) (fun z3 => bX6_command_418 (bX6_command_423 ?_ rfl))
        · rw [decide_eq_false (fun z9 => absurd z9.2.2 (by rw [i32_le]; rw [i32_lt] at z3; omega))] at hq; exact hq w h
        · rw [decide_eq_true ⟨z, bI_n0.mp z2, by rw [i32_le]; rw [i32_lt] at z3; omega⟩] at hq; exact hq w h
  rw [if_neg q8] at hq
  by_cases q9 : how = 9
  · rw [if_pos q9] at hq
    refine sX6_command (bX6_command_0_9 (i32k q9) (bX6_command_424 (fun z => bX6_command_474 (bX6_command_475 ?_ rfl)) (fun z => ?_)))
    · rw [decide_eq_false (fun z9 => z z9.1)] at hq; exact hq w h
    · refine bX6_command_431 h.o rfl (c_isSession hg hc (bX6_command_440 (fun z2 => bX6_command_474 (bX6_command_475 ?_ rfl)) (fun z2 => ?_))) (fun _ _ h => h)
      · rw [decide_eq_false (fun z9 => by rw [z9.2.1] at z2; exact absurd z2 (by decide))] at hq; exact hq w h
      · refine bX6_command_443 h.o rfl (c_isPerson hg hc (bX6_command_452 (fun z3 => bX6_command_474 (bX6_command_475 ?_ rfl)) (fun z3 => ?_))) (fun _ _ h => h)
        · rw [decide_eq_false (fun z9 => by rw [z9.2.2.1] at z3; exact absurd z3 (by decide))] at hq; exact hq w h
        · obtain ⟨k1, k2⟩ := inN_k (bI_n0.mp z2) (by omega)
          refine bX6_command_455 h.o rfl (c_of (j := 5) hg k2 rfl (by omega) (by decide) ?_) (fun _ _ h => h)
          rw [hc.S k1]
          refine bX6_command_465 (fun z4 => bX6_command_474 (bX6_command_475 ?_ rfl)) (fun z4 => bX6_command_470 (bX6_command_475 ?_ rfl))
          · rw [decide_eq_false (fun z9 => z4 z9.2.2.2)] at hq; exact hq w h
          · rw [decide_eq_true ⟨z, bI_n0.mp z2, bI_n0.mp z3, z4⟩] at hq; exact hq w h
  rw [if_neg q9] at hq
  refine sX6_command (bX6_command_0_d ?_ (bX6_command_476 (hq w h)))
  have n1 : ∀ k : Int32, ¬ how = k → ¬ how.toInt = k.toInt := fun k z e => z (by rw [i32_eq]; exact e)
  have m1 := n1 1 q1
  have m2 := n1 2 q2
  have m3 := n1 3 q3
  have m4 := n1 4 q4
  have m5 := n1 5 q5
  have m6 := n1 6 q6
  have m7 := n1 7 q7
  have m8 := n1 8 q8
  have m9 := n1 9 q9
  rw [show (1 : Int32).toInt = 1 from rfl] at m1
  rw [show (2 : Int32).toInt = 2 from rfl] at m2
  rw [show (3 : Int32).toInt = 3 from rfl] at m3
  rw [show (4 : Int32).toInt = 4 from rfl] at m4
  rw [show (5 : Int32).toInt = 5 from rfl] at m5
  rw [show (6 : Int32).toInt = 6 from rfl] at m6
  rw [show (7 : Int32).toInt = 7 from rfl] at m7
  rw [show (8 : Int32).toInt = 8 from rfl] at m8
  rw [show (9 : Int32).toInt = 9 from rfl] at m9
  omega
end CM
