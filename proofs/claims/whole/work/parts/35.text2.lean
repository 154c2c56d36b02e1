/-! THE TEXT: commands -/
theorem lks_d {l : List (Int × Int)} {d k : Int} (h : ∀ p, p ∈ l → ¬ p.1 = k) : Op.lookupswitch.offset l d k = d := by
  induction l with
  | nil => rfl
  | cons a r ih =>
    obtain ⟨a, o⟩ := a
    rw [Op.lookupswitch.offset_cons, if_neg (h (a, o) List.mem_cons_self)]
    exact ih (fun p hp => h p (List.mem_cons_of_mem _ hp))
theorem inN_k {p : Int32} {n : Nat} (h : inN p n = true) (hn : n < 2 ^ 31) : p.toNatClampNeg < n ∧ p = nI p.toNatClampNeg := by
  obtain ⟨k, hk, rfl⟩ := inN_of h hn
  rw [nI_clamp (by omega)]
  exact ⟨hk, rfl⟩
theorem gvOk_of {c : Cal} {k p : Int32} (h : gvOk c k p = true) : inN k (cSs c).length = true ∧ inN p (cPs c).length = true ∧ why c k.toNatClampNeg p.toNatClampNeg = 0 := by
  unfold gvOk at h
  simpa only [Bool.and_eq_true, decide_eq_true_eq] using h
theorem rng_nat {v lo hi : Int32} (h : lo ≤ v ∧ v ≤ hi) (h0 : 0 ≤ lo.toInt) : v = nI v.toNatClampNeg ∧ v.toNatClampNeg = v.toInt.toNat := by
  have h1 := h.1
  rw [i32_le] at h1
  have e : v.toNatClampNeg = v.toInt.toNat := rfl
  exact ⟨by rw [e]; exact nI_toN (by omega), e⟩
section TX2
variable {G : GG} {l : Launch} {w0 w : Wd} {A : Nat → Nat} {rf : Int32} {y : Sy} {T : (Nat → Int32) → Prop} {sp ou : Int32}
theorem c_readCommand {s T9 : Nat} {o : Int32} {c : Cal} {Q : Int32 → Wd → Prop} (hi9 : Inj A) (hI : Inv T9 c) (hT : T9 + 60 < 2 ^ 31) (h : MG w0 A rf y (fun g => MRep g c) (nI s) o w) (hs : s < yN y)
    (hq : ∀ w2, MG w0 A rf y (fun g => MRep g (afC (rdC (yT y) (yN y) s).1 c)) (nI (rdC (yT y) (yN y) s).2) (afO (rdC (yT y) (yN y) s).1 c o) w2 → Q (bI (rdC (yT y) (yN y) s).1.isSome) w2) : CX6_readCommand G l [.ref (A 0), .ref (A 3)] w Q := by
  have hnb := h.nb
  obtain ⟨gx, hx, hxe⟩ := h.x
  have hv : vp_in (nI s) 120 := vp_in_nI (by omega) (by omega)
  have hcl : (nI s).toNatClampNeg = s := nI_clamp (by omega)
  have hgx : gx s = yT y s := hxe s hs
  have h1 := h.setO hi9 rf (nI (s + 1)) o
  rw [← nI_1] at h1
  have hw : ∀ {k : Int32}, yT y s = k → (gx (nI s).toNatClampNeg).toInt = k.toInt := fun e => by rw [hcl, hgx, e]
  unfold rdC at hq
  by_cases q110 : yT y s = 110
  · rw [if_pos q110] at hq
    refine sX6_readCommand (bX6_readCommand_0_110 h.o rfl rfl hx hv (mf_l (by decide)) mf_13 (hw q110) ?_)
    have h1 : MG w0 A rf y (fun g => MRep g c) (nI (s + 1)) o (wset w (A 0) (.inl (5, mf A rf (nI (yN y)) (nI (yR y).length) (nI s + 1) o))) := by rw [nI_1]; exact h.setO hi9 rf (nI (s + 1)) o
    refine bX6_readCommand_72 h1.o (c_figures (two := true) hi9 h1 rfl (by omega) (fun w1 h2 => ?_)) (fun _ _ h => h)
    unfold rd1 at hq
    generalize fg (yT y) (yN y) (s + 1) 0 true 1 20 = a at h2 hq ⊢
    refine bX6_readCommand_81 (fun q => bX6_readCommand_118 (bX6_readCommand_119 ?_ rfl)) (fun q => ?_)
    · have hq : ∀ w2, MG w0 A rf y (fun g => MRep g (afC (if a.1 = -1 then none else some (110, a.1, 0, 0, 0, 0)) c)) (nI a.2) (afO (if a.1 = -1 then none else some (110, a.1, 0, 0, 0, 0)) c o) w2 → Q (bI (if a.1 = -1 then none else some ((110, a.1, 0, 0, 0, 0) : Cm)).isSome) w2 := hq
      rw [if_pos q] at hq
      exact hq w1 h2
    · have hq : ∀ w2, MG w0 A rf y (fun g => MRep g (afC (if a.1 = -1 then none else some (110, a.1, 0, 0, 0, 0)) c)) (nI a.2) (afO (if a.1 = -1 then none else some (110, a.1, 0, 0, 0, 0)) c o) w2 → Q (bI (if a.1 = -1 then none else some ((110, a.1, 0, 0, 0, 0) : Cm)).isSome) w2 := hq
      rw [if_neg q] at hq
      have e9 : doC c (110, a.1, 0, 0, 0, 0) = if (cPs c).length < 6 then (hireC c a.1, true) else (c, false) := rfl
      have hq : ∀ w2, MG w0 A rf y (fun g => MRep g (doC c (110, a.1, 0, 0, 0, 0)).1) (nI a.2) (o + if (doC c (110, a.1, 0, 0, 0, 0)).2 = true then 0 else 1) w2 → Q 1 w2 := hq
      rw [e9] at hq
      obtain ⟨g, hg, hc⟩ := h2.t
      refine bX6_readCommand_87 (c_canHire hg hc ?_) (fun _ _ h => h)
      by_cases q2 : (cPs c).length < 6
      · rw [if_pos q2] at hq
        rw [decide_eq_true q2]
        refine bX6_readCommand_92 (fun z => absurd z (by decide)) (fun _ => ?_)
        refine bX6_readCommand_95 (c_hireOn hg hc q2 (fun g2 hg2 => ?_)) (fun _ _ h => h)
        have h3 := h2.setT hi9 (T2 := fun g => MRep g (hireC c a.1)) hg2
        refine bX6_readCommand_100 (fun z => absurd z ?_) (fun _ => bX6_readCommand_103 ?_)
        · rw [i32_lt, nI_toInt (by omega), show (0 : Int32).toInt = 0 from rfl]; omega
        · exact bX6_readCommand_108 h3.o (c_done (b := true) hi9 h3 (fun w7 h7 => bX6_readCommand_111 (fun z => absurd z (by decide)) (fun _ => bX6_readCommand_114 (bX6_readCommand_119 (hq w7 h7) rfl)))) (fun _ _ h => h)
      · rw [if_neg q2] at hq
        rw [decide_eq_false q2]
        refine bX6_readCommand_92 (fun _ => bX6_readCommand_107 ?_) (fun z => absurd rfl z)
        exact bX6_readCommand_108 h2.o (c_done (b := false) hi9 h2 (fun w7 h7 => bX6_readCommand_111 (fun z => absurd z (by decide)) (fun _ => bX6_readCommand_114 (bX6_readCommand_119 (hq w7 h7) rfl)))) (fun _ _ h => h)
  rw [if_neg q110] at hq
  by_cases q115 : yT y s = 115
  · rw [if_pos q115] at hq
    refine sX6_readCommand (bX6_readCommand_0_115 h.o rfl rfl hx hv (mf_l (by decide)) mf_13 (hw q115) ?_)
    have h1 : MG w0 A rf y (fun g => MRep g c) (nI (s + 1)) o (wset w (A 0) (.inl (5, mf A rf (nI (yN y)) (nI (yR y).length) (nI s + 1) o))) := by rw [nI_1]; exact h.setO hi9 rf (nI (s + 1)) o
    exact bX6_readCommand_120 h1.o (c_readSession (Q := fun r w2 => narrow .boolean (.int r) = .int r ∧ Q r w2) hi9 h1 (by omega) (fun w2 h2 => ⟨bI_nar _, hq w2 h2⟩)) (fun r w2 hr => bX6_readCommand_125 hr.2 hr.1)
  rw [if_neg q115] at hq
  by_cases q103 : yT y s = 103
  · rw [if_pos q103] at hq
    refine sX6_readCommand (bX6_readCommand_0_103 h.o rfl rfl hx hv (mf_l (by decide)) mf_13 (hw q103) ?_)
    have h1 : MG w0 A rf y (fun g => MRep g c) (nI (s + 1)) o (wset w (A 0) (.inl (5, mf A rf (nI (yN y)) (nI (yR y).length) (nI s + 1) o))) := by rw [nI_1]; exact h.setO hi9 rf (nI (s + 1)) o
    refine bX6_readCommand_126 h1.o (c_figures (two := true) hi9 h1 rfl (by omega) (fun w1 h2 => ?_)) (fun _ _ h => h)
    have s1 := (fg_le (t := yT y) (ah := 0) (two := true) (lo := 0) (hi := 15) (show s + 1 ≤ yN y by omega)).1
    generalize ha9 : fg (yT y) (yN y) (s + 1) 0 true 0 15 = a at h2 s1 ⊢
    refine bX6_readCommand_135 h2.o (c_figures (two := false) hi9 h2 rfl s1 (fun w1 h2 => ?_)) (fun _ _ h => h)
    generalize hb9 : fg (yT y) (yN y) a.2 a.1 false 0 5 = b at h2 ⊢
    have eG : rdG (yT y) (yN y) (s + 1) = (if b.1 = -1 then none else some (103, a.1, b.1, 0, 0, 0), b.2) := by subst ha9; subst hb9; rfl
    rw [eG] at hq
    refine bX6_readCommand_144 (fun q => bX6_readCommand_206 (bX6_readCommand_207 ?_ rfl)) (fun q => ?_)
    · rw [if_pos q] at hq
      exact hq w1 h2
    · rw [if_neg q] at hq
      have e9 : doC c (103, a.1, b.1, 0, 0, 0) = if gvOk c a.1 b.1 = true then (setS c a.1.toNatClampNeg 5 b.1, true) else (c, false) := rfl
      have hq : ∀ w2, MG w0 A rf y (fun g => MRep g (doC c (103, a.1, b.1, 0, 0, 0)).1) (nI b.2) (o + if (doC c (103, a.1, b.1, 0, 0, 0)).2 = true then 0 else 1) w2 → Q 1 w2 := hq
      rw [e9] at hq
      obtain ⟨g, hg, hc⟩ := h2.t
      have b0 := hc.b0
      have b1 := hc.b1
      have no : gvOk c a.1 b.1 = false → KX6_readCommand G l w (ZI G 0 0 w Q) w1 195 [] [.ref (A 0)] := fun z => by
        rw [if_neg (by rw [z]; exact Bool.false_ne_true)] at hq
        exact bX6_readCommand_195 (bX6_readCommand_196 h2.o (c_done (b := false) hi9 h2 (fun w7 h7 => bX6_readCommand_199 (fun z => absurd z (by decide)) (fun _ => bX6_readCommand_202 (bX6_readCommand_207 (hq w7 h7) rfl)))) (fun _ _ h => h))
      unfold gvOk at no
      refine bX6_readCommand_152 (c_isSession hg hc (bX6_readCommand_158 (fun z => no (by rw [bI_0.mp z]; rfl)) (fun z1 => ?_))) (fun _ _ h => h)
      have z1 := bI_n0.mp z1
      obtain ⟨k1, k2⟩ := inN_k z1 (by omega)
      refine bX6_readCommand_161 (c_isPerson hg hc (bX6_readCommand_167 (fun z => no (by rw [bI_0.mp z, Bool.false_and, Bool.and_false])) (fun z2 => ?_))) (fun _ _ h => h)
      have z2 := bI_n0.mp z2
      obtain ⟨p1, p2⟩ := inN_k z2 (by omega)
      refine bX6_readCommand_170 (c_canGive hg hc k2 k1 (Or.inr ⟨_, p1, p2⟩) (fun b9 hb => ?_)) (fun _ _ h => h)
      have hp1 : ¬ b.1 = -1 := q
      have hb2 : b9 = decide (why c a.1.toNatClampNeg b.1.toNatClampNeg = 0) := by
        rw [Bool.eq_iff_iff, hb, decide_eq_true_eq]
        constructor
        · rintro (e | ⟨p, hp, e, hw9⟩)
          · exact absurd e hp1
          · rw [p2, nI_eq (by omega) (by omega)] at e
            rw [e]; exact hw9
        · exact fun e => Or.inr ⟨_, p1, p2, e⟩
      refine bX6_readCommand_177 (fun z => no (by rw [← hb2, bI_0.mp z, Bool.and_false, Bool.and_false])) (fun z3 => ?_)
      have z3 := bI_n0.mp z3
      rw [if_pos (by unfold gvOk; rw [z1, z2, ← hb2, z3]; rfl)] at hq
      refine bX6_readCommand_180 (c_giveOn hg hc k2 k1 (fun g2 hg2 => ?_)) (fun _ _ h => h)
      have h3 := h2.setT hi9 (T2 := fun g => MRep g (setS c a.1.toNatClampNeg 5 b.1)) hg2
      have hh := (hI.hd (sg_mem k1)).1
      refine bX6_readCommand_187 (fun z => absurd z ?_) (fun _ => bX6_readCommand_191 ?_)
      · rw [i32_lt, show (-1 : Int32).toInt = -1 from by decide]; omega
      · exact bX6_readCommand_196 h3.o (c_done (b := true) hi9 h3 (fun w7 h7 => bX6_readCommand_199 (fun z => absurd z (by decide)) (fun _ => bX6_readCommand_202 (bX6_readCommand_207 (hq w7 h7) rfl)))) (fun _ _ h => h)
  rw [if_neg q103] at hq
  by_cases q97 : yT y s = 97
  · rw [if_pos q97] at hq
    refine sX6_readCommand (bX6_readCommand_0_97 h.o rfl rfl hx hv (mf_l (by decide)) mf_13 (hw q97) ?_)
    have h1 : MG w0 A rf y (fun g => MRep g c) (nI (s + 1)) o (wset w (A 0) (.inl (5, mf A rf (nI (yN y)) (nI (yR y).length) (nI s + 1) o))) := by rw [nI_1]; exact h.setO hi9 rf (nI (s + 1)) o
    obtain ⟨g, hg, hc⟩ := h1.t
    refine bX6_readCommand_208 (c_giveAllOn hg hc (fun g2 hg2 => ?_)) (fun _ _ h => h)
    have h3 := h1.setT hi9 (T2 := fun g => MRep g (gvAll c).1) hg2
    refine bX6_readCommand_213 (fun z => absurd z ?_) (fun _ => bX6_readCommand_216 ?_)
    · obtain ⟨m, hm, e⟩ := gvTo_2 c (cSs c).length
      have hb1 := hc.b1
      rw [show (gvAll c).2 = nI m from e, i32_lt, nI_toInt (by omega), show (0 : Int32).toInt = 0 from rfl]; omega
    · exact bX6_readCommand_221 h3.o (c_done (b := true) hi9 h3 (fun w7 h7 => bX6_readCommand_224 (hq w7 h7) (bI_nar _))) (fun _ _ h => h)
  rw [if_neg q97] at hq
  by_cases q100 : yT y s = 100
  · rw [if_pos q100] at hq
    refine sX6_readCommand (bX6_readCommand_0_100 h.o rfl rfl hx hv (mf_l (by decide)) mf_13 (hw q100) ?_)
    have h1 : MG w0 A rf y (fun g => MRep g c) (nI (s + 1)) o (wset w (A 0) (.inl (5, mf A rf (nI (yN y)) (nI (yR y).length) (nI s + 1) o))) := by rw [nI_1]; exact h.setO hi9 rf (nI (s + 1)) o
    refine bX6_readCommand_225 h1.o (c_figures (two := false) hi9 h1 rfl (by omega) (fun w1 h2 => ?_)) (fun _ _ h => h)
    unfold rd1 at hq
    have hr := fg_rng (t := yT y) (n := yN y) (s := s + 1) (ah := 0) (two := false) (lo := 1) (hi := 9)
    generalize fg (yT y) (yN y) (s + 1) 0 false 1 9 = a at h2 hq hr ⊢
    have hq : ∀ w2, MG w0 A rf y (fun g => MRep g (afC (if a.1 = -1 then none else some (100, a.1, 0, 0, 0, 0)) c)) (nI a.2) (afO (if a.1 = -1 then none else some (100, a.1, 0, 0, 0, 0)) c o) w2 → Q (bI (if a.1 = -1 then none else some ((100, a.1, 0, 0, 0, 0) : Cm)).isSome) w2 := hq
    refine bX6_readCommand_234 (fun q => bX6_readCommand_264 (bX6_readCommand_265 ?_ rfl)) (fun q => ?_)
    · rw [if_pos q] at hq
      exact hq w1 h2
    · rw [if_neg q] at hq
      have hq : ∀ w2, MG w0 A rf y (fun g => MRep g (runTo c a.1.toNatClampNeg)) (nI a.2) (o + 0) w2 → Q 1 w2 := hq
      obtain ⟨r1, r2⟩ := rng_nat (hr.resolve_left q) (by decide)
      have r3 := (hr.resolve_left q).2
      rw [i32_le, show (9 : Int32).toInt = 9 from rfl] at r3
      obtain ⟨g, hg, hc⟩ := h2.t
      refine bX6_readCommand_240 (c_runOn hg hc r1 (by omega) (fun g2 hg2 => ?_)) (fun _ _ h => h)
      have h3 := h2.setT hi9 (T2 := fun g => MRep g (runTo c a.1.toNatClampNeg)) hg2
      refine bX6_readCommand_246 (fun z => absurd z ?_) (fun _ => bX6_readCommand_249 ?_)
      · have := runFine hI (n := a.1.toNatClampNeg) (by omega) hT
        rw [i32_lt, show (0 : Int32).toInt = 0 from rfl]; omega
      · exact bX6_readCommand_254 h3.o (c_done (b := true) hi9 h3 (fun w7 h7 => bX6_readCommand_257 (fun z => absurd z (by decide)) (fun _ => bX6_readCommand_260 (bX6_readCommand_265 (hq w7 h7) rfl)))) (fun _ _ h => h)
  rw [if_neg q100] at hq
  refine sX6_readCommand (bX6_readCommand_0_d h.o rfl rfl hx hv (mf_l (by decide)) mf_13 (lks_d (fun p hp e => ?_)) ?_)
  · rw [hcl, hgx] at e
    have hne : ∀ k : Int32, ¬ yT y s = k → ¬ k.toInt = (yT y s).toInt := fun k z e => z (by rw [i32_eq]; exact e.symm)
    simp only [List.mem_cons, List.not_mem_nil, or_false] at hp
    rcases hp with rfl | rfl | rfl | rfl | rfl
    · exact hne 97 q97 e
    · exact hne 100 q100 e
    · exact hne 103 q103 e
    · exact hne 110 q110 e
    · exact hne 115 q115 e
  · have h1 : MG w0 A rf y (fun g => MRep g c) (nI (s + 1)) o (wset w (A 0) (.inl (5, mf A rf (nI (yN y)) (nI (yR y).length) (nI s + 1) o))) := by rw [nI_1]; exact h.setO hi9 rf (nI (s + 1)) o
    refine bX6_readCommand_266 h1.o rfl (mf_l (by decide)) mf_13 (hq _ ?_)
    have h2 := h1.setO hi9 rf (nI s) o
    have e : nI (s + 1) - 1 = nI s := nI_pred s
    rw [e]
    exact h2
end TX2
