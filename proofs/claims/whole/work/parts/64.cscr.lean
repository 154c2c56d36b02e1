/-! THE CLASS: commands of scripts, turns of simulations -/
def cmL (c : Cal) (how x : Int32) (L : Nat) : Nat := if how = 6 ∧ x / 100 = 0 ∧ rngI (x - x / 100 * 100) 1 30 = true then runL c L (x - x / 100 * 100).toNatClampNeg else L
theorem cmL_n {c : Cal} {how x : Int32} {L : Nat} (h : ¬ how = 6) : cmL c how x L = L := if_neg (fun z => h z.1)
theorem nI_lit (n : Nat) : nI n = Int32.ofNat n := rfl
section SS
variable {G : GG} {l : Launch} {fr w : Wd} {A : Nat → Nat} {c : Cal} {L : Nat} {mc ms : Nat}
theorem c_doScript {T M : Nat} {Q : Int32 → Wd → Prop} (h : CalW fr A c L w) (hI : Inv T c) (hT : T + 30 < 2 ^ 31) (hM : M < 100000)
    (hc : pC L ≤ mc + pC (cmL c (nI M / 10000) (nI M - nI M / 10000 * 10000) L)) (hs : pS L ≤ ms + pS (cmL c (nI M / 10000) (nI M - nI M / 10000 * 10000) L))
    (hq : ∀ A' w2, A' 0 = A 0 → CalW fr A' (cmdA c (nI M / 10000) (nI M - nI M / 10000 * 10000)).1 (cmL c (nI M / 10000) (nI M - nI M / 10000 * 10000) L) w2 → Q (bI (cmdA c (nI M / 10000) (nI M - nI M / 10000 * 10000)).2) w2) : CX1_doScriptCommand G l mc ms [.ref (A 0), .int (nI M)] w Q := by
  have hok : ∀ s, s ∈ cSs c → okR s := fun s hs => hI.s hs
  have i10 : (10 : Int32) = nI 10 := rfl
  have i100 : (100 : Int32) = nI 100 := rfl
  have i1000 : (1000 : Int32) = nI 1000 := rfl
  have i10000 : (10000 : Int32) = nI 10000 := rfl
  -- the digits
  obtain ⟨a, b, x, d, e, hb, hx, hd, he, ha, eM⟩ : ∃ a b x d e : Nat, b < 10 ∧ x < 10 ∧ d < 10 ∧ e < 10 ∧ a < 10 ∧ M = 10000 * a + 1000 * b + 100 * x + 10 * d + e := ⟨M / 10000, M / 1000 % 10, M / 100 % 10, M / 10 % 10, M % 10, by omega, by omega, by omega, by omega, by omega, by omega⟩
  have eh : nI M / 10000 = nI a := by rw [i10000, pk_div (by omega) (by omega) (by omega)]; congr 1; omega
  have ef : nI M - nI M / 10000 * 10000 = nI (1000 * b + 100 * x + 10 * d + e) := by rw [i10000, pk_rem (by omega) (by omega) (by omega)]; congr 1; omega
  have f1000 : nI (1000 * b + 100 * x + 10 * d + e) / 1000 = nI b := by rw [i1000, pk_div (by omega) (by omega) (by omega)]; congr 1; omega
  have f100 : nI (1000 * b + 100 * x + 10 * d + e) / 100 = nI (10 * b + x) := by rw [i100, pk_div (by omega) (by omega) (by omega)]; congr 1; omega
  have f10 : nI (1000 * b + 100 * x + 10 * d + e) / 10 = nI (100 * b + 10 * x + d) := by rw [i10, pk_div (by omega) (by omega) (by omega)]; congr 1; omega
  have r100 : nI (1000 * b + 100 * x + 10 * d + e) - nI (10 * b + x) * 100 = nI (10 * d + e) := by rw [← f100, i100, pk_rem (by omega) (by omega) (by omega)]; congr 1; omega
  have r10 : nI (1000 * b + 100 * x + 10 * d + e) - nI (100 * b + 10 * x + d) * 10 = nI e := by rw [← f10, i10, pk_rem (by omega) (by omega) (by omega)]; congr 1; omega
  have m100 : nI (100 * b + 10 * x + d) - nI (100 * b + 10 * x + d) / 100 * 100 = nI (10 * x + d) := by rw [i100, pk_rem (by omega) (by omega) (by omega)]; congr 1; omega
  have m10 : nI (100 * b + 10 * x + d) - nI (100 * b + 10 * x + d) / 10 * 10 = nI d := by rw [i10, pk_rem (by omega) (by omega) (by omega)]; congr 1; omega
  have t10 : nI (10 * b + x) - nI (10 * b + x) / 10 * 10 = nI x := by rw [i10, pk_rem (by omega) (by omega) (by omega)]; congr 1; omega
  -- as the class has them
  have g2 : nI M / 1000 - nI M / 1000 / 10 * 10 = nI b := by rw [i1000, i10, pk_div (by omega) (by omega) (by omega), pk_rem (by omega) (by omega) (by omega)]; congr 1; omega
  have g3 : nI M / 100 - nI M / 100 / 10 * 10 = nI x := by rw [i100, i10, pk_div (by omega) (by omega) (by omega), pk_rem (by omega) (by omega) (by omega)]; congr 1; omega
  have g4 : nI M / 10 - nI M / 10 / 10 * 10 = nI d := by rw [i10, pk_div (by omega) (by omega) (by omega), pk_rem (by omega) (by omega) (by omega)]; congr 1; omega
  have g5 : nI M - nI M / 10 * 10 = nI e := by rw [i10, pk_rem (by omega) (by omega) (by omega)]; congr 1; omega
  have g23 : (10 : Int32) * nI b + nI x = nI (10 * b + x) := by rw [i10, nI_mul, nI_add]
  have g34 : (10 : Int32) * nI x + nI d = nI (10 * x + d) := by rw [i10, nI_mul, nI_add]
  have g45 : (10 : Int32) * nI d + nI e = nI (10 * d + e) := by rw [i10, nI_mul, nI_add]
  rw [ef, eh] at hq hc hs
  have z0 : ∀ {k : Nat}, k < 10000 → (nI k = 0 ↔ k = 0) := fun hk => nI_eq (b := 0) (by omega) (by decide)
  refine sX1_doScriptCommand (bX1_doScriptCommand_0 (fun z3 => ?_) (fun z3 => ?_))
  · rw [g2, g3, g4, g5, g23, g34, g45]
    have hd' : ¬ nI d = -1 := nI_m1 (by omega)
    have sw : ∀ k : Nat, a = k → k < 10 → (nI M / 10000).toInt = (k : Int) := fun k hk hk2 => by rw [eh, hk, nI_toInt (by omega)]
    have how : ∀ {k : Nat}, a = k → nI a = nI k := fun hk => by rw [hk]
    have hn : ∀ {j k : Nat}, a = k → ¬ k = j → k < 10 → j < 10 → ¬ nI a = nI j := fun hk hne h1 h2 z => hne (by rw [hk] at z; exact (nI_eq (by omega) (by omega)).mp z)
    have ha10 : a = 0 ∨ a = 1 ∨ a = 2 ∨ a = 3 ∨ a = 4 ∨ a = 5 ∨ a = 6 ∨ a = 7 ∨ a = 8 ∨ a = 9 := by omega
    rcases ha10 with q | q | q | q | q | q | q | q | q | q
    · -- 0
      rw [cmL_n (hn (j := 6) q (by decide) (by decide) (by decide))] at hq hc hs
      have ec : cmdA c (nI a) (nI (1000 * b + 100 * x + 10 * d + e)) = (c, false) := by unfold cmdA; rw [q]; rfl
      rw [ec] at hq
      exact bX1_doScriptCommand_73_d (Or.inl (by rw [sw 0 q (by decide)]; decide)) (bX1_doScriptCommand_302 (hq A w rfl h) (by omega) (by omega))
    · -- 1
      rw [cmL_n (hn (j := 6) q (by decide) (by decide) (by decide))] at hq hc hs
      have ec : cmdA c (nI a) (nI (1000 * b + 100 * x + 10 * d + e)) = if isNw c (nI b) (cSc c 3) (nI (10 * x + d)) (nI e) 3 = true then (insS c (nI b, cSc c 3, nI (10 * x + d), nI e, 3, -1), true) else (c, false) := by
        unfold cmdA; rw [if_pos (show nI a = 1 from how q), f1000, f10, m100, r10]
      rw [ec] at hq
      refine bX1_doScriptCommand_73_1 (sw 1 q (by decide)) (bX1_doScriptCommand_128 h.i.o rfl (c_trySession (Q := fun r w2 => narrow .boolean (.int r) = .int r ∧ Q r w2) h hI (fun z A' w2 e9 hw2 => ⟨rfl, ?_⟩) (fun z => ⟨rfl, ?_⟩)) (by omega) (by omega) (fun r w2 hr => bX1_doScriptCommand_142 hr.2 (by omega) (by omega) hr.1))
      · rw [if_pos z] at hq; exact hq A' w2 e9 hw2
      · rw [if_neg z] at hq; exact hq A w rfl h
    · -- 2
      rw [cmL_n (hn (j := 6) q (by decide) (by decide) (by decide))] at hq hc hs
      have ec : cmdA c (nI a) (nI (1000 * b + 100 * x + 10 * d + e)) = if nI e = 0 ∧ gvOk c (nI (10 * b + x)) (nI d) = true then (setS c (nI (10 * b + x)).toNatClampNeg 5 (nI d), true) else (c, false) := by
        unfold cmdA; rw [if_neg (show ¬ nI a = 1 from hn (j := 1) q (by decide) (by decide) (by decide)), if_pos (show nI a = 2 from how q), f100, f10, m10, r10]
      rw [ec] at hq
      refine bX1_doScriptCommand_73_2 (sw 2 q (by decide)) (bX1_doScriptCommand_143 (fun z => bX1_doScriptCommand_163 (bX1_doScriptCommand_164 ?_ (by omega) (by omega) rfl)) (fun z => ?_))
      · rw [if_neg (fun y => z y.1)] at hq; exact hq A w rfl h
      · refine bX1_doScriptCommand_148 (c_tryGive (Q := fun r w2 => (r = 1 ∧ gvOk c (nI (10 * b + x)) (nI d) = true ∧ CalW fr A (setS c (nI (10 * b + x)).toNatClampNeg 5 (nI d)) L w2) ∨ (r = 0 ∧ ¬ gvOk c (nI (10 * b + x)) (nI d) = true ∧ w = w2)) h hok hd' (fun y w2 hw2 => Or.inl ⟨rfl, y, hw2⟩) (fun y => Or.inr ⟨rfl, y, rfl⟩)) (by omega) (by omega) (fun r w2 hr => ?_)
        rcases hr with ⟨rfl, y, hw2⟩ | ⟨rfl, y, rfl⟩
        · rw [if_pos ⟨z, y⟩] at hq
          exact bX1_doScriptCommand_156 (fun u => absurd u (by decide)) (fun _ => bX1_doScriptCommand_159 (bX1_doScriptCommand_164 (hq A w2 rfl hw2) (by omega) (by omega) rfl))
        · rw [if_neg (fun u => y u.2)] at hq
          exact bX1_doScriptCommand_156 (fun _ => bX1_doScriptCommand_163 (bX1_doScriptCommand_164 (hq A w rfl h) (by omega) (by omega) rfl)) (fun u => absurd rfl u)
    · -- 3
      rw [cmL_n (hn (j := 6) q (by decide) (by decide) (by decide))] at hq hc hs
      have ec : cmdA c (nI a) (nI (1000 * b + 100 * x + 10 * d + e)) = if nI (1000 * b + 100 * x + 10 * d + e) = 0 then ((gvAll c).1, true) else (c, false) := by
        unfold cmdA; rw [if_neg (show ¬ nI a = 1 from hn (j := 1) q (by decide) (by decide) (by decide)), if_neg (show ¬ nI a = 2 from hn (j := 2) q (by decide) (by decide) (by decide)), if_pos (show nI a = 3 from how q)]
      rw [ec, if_neg (fun u => z3 (by
        have := (z0 (by omega)).mp u
        have : M = 30000 := by omega
        rw [this]; rfl))] at hq
      exact bX1_doScriptCommand_73_3 (sw 3 q (by decide)) (bX1_doScriptCommand_302 (hq A w rfl h) (by omega) (by omega))
    · -- 4
      rw [cmL_n (hn (j := 6) q (by decide) (by decide) (by decide))] at hq hc hs
      have ec : cmdA c (nI a) (nI (1000 * b + 100 * x + 10 * d + e)) = if inN (nI (10 * b + x)) (cSs c).length = true ∧ rngI (nI (10 * d + e)) 1 16 = true then (extC c (nI (10 * b + x)).toNatClampNeg (nI (10 * d + e)), true) else (c, false) := by
        unfold cmdA; rw [if_neg (show ¬ nI a = 1 from hn (j := 1) q (by decide) (by decide) (by decide)), if_neg (show ¬ nI a = 2 from hn (j := 2) q (by decide) (by decide) (by decide)), if_neg (show ¬ nI a = 3 from hn (j := 3) q (by decide) (by decide) (by decide)), if_pos (show nI a = 4 from how q), f100, r100]
      rw [ec] at hq
      refine bX1_doScriptCommand_73_4 (sw 4 q (by decide)) (bX1_doScriptCommand_165 (c_tryExtend (Q := fun r w2 => narrow .boolean (.int r) = .int r ∧ Q r w2) h hI (fun z1 z2 A' w2 e9 hw2 => ⟨rfl, ?_⟩) (fun z => ⟨rfl, ?_⟩)) (by omega) (by omega) (fun r w2 hr => bX1_doScriptCommand_173 hr.2 (by omega) (by omega) hr.1))
      · rw [if_pos ⟨z1, z2⟩] at hq; exact hq A' w2 e9 hw2
      · rw [if_neg z] at hq; exact hq A w rfl h
    · -- 5
      rw [cmL_n (hn (j := 6) q (by decide) (by decide) (by decide))] at hq hc hs
      have ec : cmdA c (nI a) (nI (1000 * b + 100 * x + 10 * d + e)) = if nI x = 0 ∧ inN (nI b) (cPs c).length = true ∧ rngI (nI (10 * d + e)) 0 30 = true then ((lvAll c (nI b).toNatClampNeg (nI (10 * d + e))).1, true) else (c, false) := by
        unfold cmdA; rw [if_neg (show ¬ nI a = 1 from hn (j := 1) q (by decide) (by decide) (by decide)), if_neg (show ¬ nI a = 2 from hn (j := 2) q (by decide) (by decide) (by decide)), if_neg (show ¬ nI a = 3 from hn (j := 3) q (by decide) (by decide) (by decide)), if_neg (show ¬ nI a = 4 from hn (j := 4) q (by decide) (by decide) (by decide)), if_pos (show nI a = 5 from how q), f100, r100, t10, f1000]
      rw [ec] at hq
      refine bX1_doScriptCommand_73_5 (sw 5 q (by decide)) (bX1_doScriptCommand_174 (fun z => bX1_doScriptCommand_192 (bX1_doScriptCommand_193 ?_ (by omega) (by omega) rfl)) (fun z => ?_))
      · rw [if_neg (fun y => z y.1)] at hq; exact hq A w rfl h
      · refine bX1_doScriptCommand_178 (c_tryLeave (Q := fun r w2 => (r = 1 ∧ (inN (nI b) (cPs c).length = true ∧ rngI (nI (10 * d + e)) 0 30 = true) ∧ CalW fr A (lvAll c (nI b).toNatClampNeg (nI (10 * d + e))).1 L w2) ∨ (r = 0 ∧ ¬ (inN (nI b) (cPs c).length = true ∧ rngI (nI (10 * d + e)) 0 30 = true) ∧ w = w2)) h (fun y1 y2 w2 hw2 => Or.inl ⟨rfl, ⟨y1, y2⟩, hw2⟩) (fun y => Or.inr ⟨rfl, y, rfl⟩)) (by omega) (by omega) (fun r w2 hr => ?_)
        rcases hr with ⟨rfl, y, hw2⟩ | ⟨rfl, y, rfl⟩
        · rw [if_pos ⟨z, y⟩] at hq
          exact bX1_doScriptCommand_185 (fun u => absurd u (by decide)) (fun _ => bX1_doScriptCommand_188 (bX1_doScriptCommand_193 (hq A w2 rfl hw2) (by omega) (by omega) rfl))
        · rw [if_neg (fun u => y u.2)] at hq
          exact bX1_doScriptCommand_185 (fun _ => bX1_doScriptCommand_192 (bX1_doScriptCommand_193 (hq A w rfl h) (by omega) (by omega) rfl)) (fun u => absurd rfl u)
    · -- 6
      have ec : cmdA c (nI a) (nI (1000 * b + 100 * x + 10 * d + e)) = if nI (10 * b + x) = 0 ∧ rngI (nI (10 * d + e)) 1 30 = true then (runTo c (nI (10 * d + e)).toNatClampNeg, true) else (c, false) := by
        unfold cmdA; rw [if_neg (show ¬ nI a = 1 from hn (j := 1) q (by decide) (by decide) (by decide)), if_neg (show ¬ nI a = 2 from hn (j := 2) q (by decide) (by decide) (by decide)), if_neg (show ¬ nI a = 3 from hn (j := 3) q (by decide) (by decide) (by decide)), if_neg (show ¬ nI a = 4 from hn (j := 4) q (by decide) (by decide) (by decide)), if_neg (show ¬ nI a = 5 from hn (j := 5) q (by decide) (by decide) (by decide)), if_pos (show nI a = 6 from how q), f100, r100]
      have eL : cmL c (nI a) (nI (1000 * b + 100 * x + 10 * d + e)) L = if nI (10 * b + x) = 0 ∧ rngI (nI (10 * d + e)) 1 30 = true then runL c L (nI (10 * d + e)).toNatClampNeg else L := by
        unfold cmL; rw [f100, r100]
        by_cases z : nI (10 * b + x) = 0 ∧ rngI (nI (10 * d + e)) 1 30 = true
        · rw [if_pos ⟨how q, z⟩, if_pos z]
        · rw [if_neg (fun y => z y.2), if_neg z]
      rw [ec, eL] at hq
      rw [eL] at hc hs
      refine bX1_doScriptCommand_73_6 (sw 6 q (by decide)) (bX1_doScriptCommand_194 (fun z => bX1_doScriptCommand_212 (bX1_doScriptCommand_213 ?_ (by omega) (by omega) rfl)) (fun z => ?_))
      · rw [if_neg (fun y => z y.1)] at hq; rw [if_neg (fun y => z y.1)] at hq; exact hq A w rfl h
      · by_cases y : rngI (nI (10 * d + e)) 1 30 = true
        · rw [if_pos ⟨z, y⟩] at hc hs hq
          rw [if_pos ⟨z, y⟩] at hq
          refine bX1_doScriptCommand_199 (mcq := mc) (msq := ms) (c_tryRun (Q := fun r w2 => r = 1 ∧ ∃ A', A' 0 = A 0 ∧ CalW fr A' (runTo c (nI (10 * d + e)).toNatClampNeg) (runL c L (nI (10 * d + e)).toNatClampNeg) w2) h hI hT (fun _ => hc) (fun _ => hs) (fun _ A' w2 e9 hw2 => ⟨rfl, A', e9, hw2⟩) (fun u => absurd y u)) (by omega) (by omega) (fun r w2 hr => ?_)
          obtain ⟨rfl, A', e9, hw2⟩ := hr
          exact bX1_doScriptCommand_205 (fun u => absurd u (by decide)) (fun _ => bX1_doScriptCommand_208 (bX1_doScriptCommand_213 (hq A' w2 e9 hw2) (by omega) (by omega) rfl))
        · rw [if_neg (fun u => y u.2)] at hc hs hq
          rw [if_neg (fun u => y u.2)] at hq
          refine bX1_doScriptCommand_199 (mcq := 0) (msq := 0) (c_tryRun (Q := fun r w2 => r = 0 ∧ w = w2) h hI hT (fun u => absurd u y) (fun u => absurd u y) (fun u => absurd u y) (fun _ => ⟨rfl, rfl⟩)) (by omega) (by omega) (fun r w2 hr => ?_)
          obtain ⟨rfl, rfl⟩ := hr
          exact bX1_doScriptCommand_205 (fun _ => bX1_doScriptCommand_212 (bX1_doScriptCommand_213 (hq A w rfl h) (by omega) (by omega) rfl)) (fun u => absurd rfl u)
    · -- 7
      rw [cmL_n (hn (j := 6) q (by decide) (by decide) (by decide))] at hq hc hs
      have ec : cmdA c (nI a) (nI (1000 * b + 100 * x + 10 * d + e)) = (c, decide (nI (10 * b + x) = 0 ∧ sesOf (cSs c) (-1) ≤ nI (10 * d + e))) := by
        unfold cmdA; rw [if_neg (show ¬ nI a = 1 from hn (j := 1) q (by decide) (by decide) (by decide)), if_neg (show ¬ nI a = 2 from hn (j := 2) q (by decide) (by decide) (by decide)), if_neg (show ¬ nI a = 3 from hn (j := 3) q (by decide) (by decide) (by decide)), if_neg (show ¬ nI a = 4 from hn (j := 4) q (by decide) (by decide) (by decide)), if_neg (show ¬ nI a = 5 from hn (j := 5) q (by decide) (by decide) (by decide)), if_neg (show ¬ nI a = 6 from hn (j := 6) q (by decide) (by decide) (by decide)), if_pos (show nI a = 7 from how q), f100, r100]
      rw [ec] at hq
      refine bX1_doScriptCommand_73_7 (sw 7 q (by decide)) (bX1_doScriptCommand_214 (fun z => bX1_doScriptCommand_233 (bX1_doScriptCommand_234 ?_ (by omega) (by omega) rfl)) (fun z => ?_))
      · have := hq A w rfl h
        rw [decide_eq_false (fun y => z y.1)] at this; exact this
      · refine bX1_doScriptCommand_219 h.i.o (c_sesOf (Q := fun r w2 => sesOf (cSs c) (-1) = r ∧ w = w2) h.i ⟨rfl, rfl⟩) (by omega) (by omega) (fun r w2 hr => ?_)
        obtain ⟨rfl, rfl⟩ := hr
        have hq := hq A w rfl h
        refine bX1_doScriptCommand_224 (fun y => bX1_doScriptCommand_233 (bX1_doScriptCommand_234 ?_ (by omega) (by omega) rfl)) (fun y => bX1_doScriptCommand_229 (bX1_doScriptCommand_234 ?_ (by omega) (by omega) rfl))
        · rw [decide_eq_false (fun u => by have := u.2; rw [i32_le] at this; rw [i32_lt] at y; omega)] at hq; exact hq
        · rw [decide_eq_true ⟨z, nlt_le y⟩] at hq; exact hq
    · -- 8
      rw [cmL_n (hn (j := 6) q (by decide) (by decide) (by decide))] at hq hc hs
      have ec : cmdA c (nI a) (nI (1000 * b + 100 * x + 10 * d + e)) = (c, decide (nI e = 0 ∧ inN (nI b) (cPs c).length = true ∧ dsk (cTs c) (nI b) 0 ≤ nI (10 * x + d))) := by
        unfold cmdA; rw [if_neg (show ¬ nI a = 1 from hn (j := 1) q (by decide) (by decide) (by decide)), if_neg (show ¬ nI a = 2 from hn (j := 2) q (by decide) (by decide) (by decide)), if_neg (show ¬ nI a = 3 from hn (j := 3) q (by decide) (by decide) (by decide)), if_neg (show ¬ nI a = 4 from hn (j := 4) q (by decide) (by decide) (by decide)), if_neg (show ¬ nI a = 5 from hn (j := 5) q (by decide) (by decide) (by decide)), if_neg (show ¬ nI a = 6 from hn (j := 6) q (by decide) (by decide) (by decide)), if_neg (show ¬ nI a = 7 from hn (j := 7) q (by decide) (by decide) (by decide)), if_pos (show nI a = 8 from how q), f10, r10, f1000, m100]
      rw [ec] at hq
      have hq := hq A w rfl h
      refine bX1_doScriptCommand_73_8 (sw 8 q (by decide)) (bX1_doScriptCommand_235 (fun z => bX1_doScriptCommand_265 (bX1_doScriptCommand_266 ?_ (by omega) (by omega) rfl)) (fun z => ?_))
      · rw [decide_eq_false (fun y => z y.1)] at hq; exact hq
      · refine bX1_doScriptCommand_240 h.i.o (c_staffFault (Q := fun r w2 => bF (inN (nI b) (cPs c).length) 1 = r ∧ w = w2) h.i ⟨rfl, rfl⟩) (by omega) (by omega) (fun r w2 hr => ?_)
        obtain ⟨rfl, rfl⟩ := hr
        refine bX1_doScriptCommand_245 (fun y => bX1_doScriptCommand_265 (bX1_doScriptCommand_266 ?_ (by omega) (by omega) rfl)) (fun y => ?_)
        · rw [decide_eq_false (fun u => y ((bF_0 (by decide)).mpr u.2.1))] at hq; exact hq
        · rw [bF_0 (by decide)] at y
          refine bX1_doScriptCommand_248 h.i.o rfl h.i.dk.1 (c_countOf (Q := fun r w2 => dsk (cTs c) (nI b) 0 = r ∧ w = w2) h.i.dk (nI_m1 (by omega)) ⟨rfl, rfl⟩) (by omega) (by omega) (fun r w2 hr => ?_)
          obtain ⟨rfl, rfl⟩ := hr
          refine bX1_doScriptCommand_256 (fun u => bX1_doScriptCommand_265 (bX1_doScriptCommand_266 ?_ (by omega) (by omega) rfl)) (fun u => bX1_doScriptCommand_261 (bX1_doScriptCommand_266 ?_ (by omega) (by omega) rfl))
          · rw [decide_eq_false (fun v => by have := v.2.2; rw [i32_le] at this; rw [i32_lt] at u; omega)] at hq; exact hq
          · rw [decide_eq_true ⟨z, y, nlt_le u⟩] at hq; exact hq
    · -- 9
      rw [cmL_n (hn (j := 6) q (by decide) (by decide) (by decide))] at hq hc hs
      have ec : cmdA c (nI a) (nI (1000 * b + 100 * x + 10 * d + e)) = (c, decide (nI e = 0 ∧ inN (nI (10 * b + x)) (cSs c).length = true ∧ inN (nI d) (cPs c).length = true ∧ sf (sg (cSs c) (nI (10 * b + x)).toNatClampNeg) 5 = nI d)) := by
        unfold cmdA; rw [if_neg (show ¬ nI a = 1 from hn (j := 1) q (by decide) (by decide) (by decide)), if_neg (show ¬ nI a = 2 from hn (j := 2) q (by decide) (by decide) (by decide)), if_neg (show ¬ nI a = 3 from hn (j := 3) q (by decide) (by decide) (by decide)), if_neg (show ¬ nI a = 4 from hn (j := 4) q (by decide) (by decide) (by decide)), if_neg (show ¬ nI a = 5 from hn (j := 5) q (by decide) (by decide) (by decide)), if_neg (show ¬ nI a = 6 from hn (j := 6) q (by decide) (by decide) (by decide)), if_neg (show ¬ nI a = 7 from hn (j := 7) q (by decide) (by decide) (by decide)), if_neg (show ¬ nI a = 8 from hn (j := 8) q (by decide) (by decide) (by decide)), if_pos (show nI a = 9 from how q), f10, r10, f100, m10]
      rw [ec] at hq
      have hq := hq A w rfl h
      refine bX1_doScriptCommand_73_9 (sw 9 q (by decide)) (bX1_doScriptCommand_267 (fun z => bX1_doScriptCommand_300 (bX1_doScriptCommand_301 ?_ (by omega) (by omega) rfl)) (fun z => ?_))
      · rw [decide_eq_false (fun y => z y.1)] at hq; exact hq
      · refine bX1_doScriptCommand_272 h.i.o (c_numberFault (Q := fun r w2 => bF (inN (nI (10 * b + x)) (cSs c).length) 1 = r ∧ w = w2) h.i ⟨rfl, rfl⟩) (by omega) (by omega) (fun r w2 hr => ?_)
        obtain ⟨rfl, rfl⟩ := hr
        refine bX1_doScriptCommand_278 (fun y => bX1_doScriptCommand_300 (bX1_doScriptCommand_301 ?_ (by omega) (by omega) rfl)) (fun y => ?_)
        · rw [decide_eq_false (fun u => y ((bF_0 (by decide)).mpr u.2.1))] at hq; exact hq
        · rw [bF_0 (by decide)] at y
          have b1 := h.i.b1
          have b0 := h.i.b0
          obtain ⟨k1, k2⟩ := inN_k y (by omega)
          obtain ⟨g, eg, hg⟩ := h.i.sa
          refine bX1_doScriptCommand_281 h.i.o rfl eg (ix_of k2 (by omega) (by decide)) (hg _ (by omega)) (h.i.se k1) rfl (fun u => bX1_doScriptCommand_300 (bX1_doScriptCommand_301 ?_ (by omega) (by omega) rfl)) (fun u => bX1_doScriptCommand_296 (bX1_doScriptCommand_301 ?_ (by omega) (by omega) rfl))
          · rw [decide_eq_false (fun v => u v.2.2.2)] at hq; exact hq
          · have hh := hI.hd (sg_mem k1)
            unfold okH at hh
            rw [u, nI_toInt (by omega)] at hh
            rw [decide_eq_true ⟨z, y, inN_nI (by omega) (by omega), u⟩] at hq; exact hq
  · -- 30000
    have h3 : M = 30000 := (nI_eq (a := M) (b := 30000) (by omega) (by decide)).mp z3
    have q : a = 3 := by omega
    have q0 : 1000 * b + 100 * x + 10 * d + e = 0 := by omega
    rw [q, q0] at hq hc hs
    rw [cmL_n (by decide)] at hq hc hs
    have ec : cmdA c (nI 3) (nI 0) = ((gvAll c).1, true) := rfl
    rw [ec] at hq
    exact bX1_doScriptCommand_66 h.i.o (c_giveToBest (Q := fun _ w2 => CalW fr A (gvAll c).1 L w2) h hI (fun w2 hw2 => hw2)) (by omega) (by omega) (fun r w2 hr => bX1_doScriptCommand_70 (hq A w2 rfl hr) (by omega) (by omega))
def trL (c : Cal) (r : Int32) (L : Nat) : Nat := if r - r / 8 * 8 = 7 then runL c L 1 else L
theorem c_doTurn {T R : Nat} {Q : Wd → Prop} (h : CalW fr A c L w) (hI : Inv T c) (hT : T + 30 < 2 ^ 31) (hR : R < 2 ^ 31) (hc : pC L ≤ mc + pC (trL c (nI R) L)) (hs : pS L ≤ ms + pS (trL c (nI R) L)) (hq : ∀ A' w2, A' 0 = A 0 → CalW fr A' (trnA c (nI R)) (trL c (nI R) L) w2 → Q w2) : CX1_doTurn G l mc ms [.ref (A 0), .int (nI R)] w Q := by
  have hok : ∀ s, s ∈ cSs c → okR s := fun s hs => hI.s hs
  have i8 : (8 : Int32) = nI 8 := rfl
  have e8 : nI R - nI R / 8 * 8 = nI (R % 8) := by rw [i8, pk_rem hR (by omega) (by omega)]
  have q8 : nI R / 8 = nI (R / 8) := by rw [i8, pk_div hR (by omega) (by omega)]
  have ti : (nI R - nI R / 8 * 8).toInt = ((R % 8 : Nat) : Int) := by rw [e8, nI_toInt (by omega)]
  have ne : ∀ {k j : Nat}, R % 8 = k → ¬ k = j → j < 10 → ¬ nI R - nI R / 8 * 8 = nI j := fun hk hne hj z => hne (by rw [e8] at z; have := (nI_eq (by omega) (by omega)).mp z; omega)
  have pe : ∀ {k : Nat}, R % 8 = k → nI R - nI R / 8 * 8 = nI k := fun hk => by rw [e8, hk]
  have n3 : ¬ R % 8 < 3 → ¬ nI R - nI R / 8 * 8 < 3 := fun hk z => hk (by rw [e8] at z; exact (nI_ltI (b := 3) (by omega) (by omega)).mp z)
  unfold trnA at hq
  by_cases z3 : R % 8 < 3
  · have eL : trL c (nI R) L = L := if_neg (ne (j := 7) rfl (by omega) (by omega))
    rw [eL] at hq
    rw [if_pos (by rw [e8]; exact nI_lt (a := R % 8) (b := 3) z3 (by decide))] at hq
    refine sX1_doTurn (bX1_doTurn_0_d (Or.inl (by rw [ti]; omega)) (bX1_doTurn_116 h.i.o rfl (c_trySession (Q := fun _ w2 => Q w2) h hI (fun z A' w2 e9 hw2 => ?_) (fun z => ?_)) (by omega) (by omega) (fun r w2 hr => bX1_doTurn_159 (bX1_doTurn_160 hr (by omega) (by omega)))))
    · rw [if_pos z] at hq; exact hq A' w2 e9 hw2
    · rw [if_neg z] at hq; exact hq A w rfl h
  · rw [if_neg (n3 z3)] at hq
    have h5 : R % 8 = 3 ∨ R % 8 = 4 ∨ R % 8 = 5 ∨ R % 8 = 6 ∨ R % 8 = 7 := by omega
    rcases h5 with q | q | q | q | q
    · have eL : trL c (nI R) L = L := if_neg (ne (j := 7) q (by decide) (by decide))
      rw [eL] at hq
      rw [if_pos (show nI R - nI R / 8 * 8 = 3 from pe q)] at hq
      exact sX1_doTurn (bX1_doTurn_0_3 (by rw [ti, q]; rfl) (bX1_doTurn_44 h.i.o (c_giveToBest (Q := fun _ w2 => CalW fr A (gvAll c).1 L w2) h hI (fun w2 hw2 => hw2)) (by omega) (by omega) (fun r w2 hr => bX1_doTurn_48 (bX1_doTurn_160 (hq A w2 rfl hr) (by omega) (by omega)))))
    · have eL : trL c (nI R) L = L := if_neg (ne (j := 7) q (by decide) (by decide))
      rw [eL] at hq
      rw [if_neg (show ¬ nI R - nI R / 8 * 8 = 3 from ne (j := 3) q (by decide) (by decide)), if_pos (show nI R - nI R / 8 * 8 = 4 from pe q)] at hq
      have hr16 : rngI (1 + (nI R / 8 / 16 - nI R / 8 / 16 / 4 * 4)) 1 16 = true := by
        have : nI R / 8 / 16 - nI R / 8 / 16 / 4 * 4 = nI (R / 8 / 16 % 4) := by
          rw [q8, show (16 : Int32) = nI 16 from rfl, pk_div (by omega) (by omega) (by omega), show (4 : Int32) = nI 4 from rfl, pk_rem (by omega) (by omega) (by omega)]
        rw [this, show (1 : Int32) = nI 1 from rfl, nI_add, rngI_iff, nI_toInt (by omega)]
        omega
      refine sX1_doTurn (bX1_doTurn_0_4 (by rw [ti, q]; rfl) (bX1_doTurn_52 (c_tryExtend (Q := fun _ w2 => Q w2) h hI (fun z1 z2 A' w2 e9 hw2 => ?_) (fun z => ?_)) (by omega) (by omega) (fun r w2 hr => bX1_doTurn_68 (bX1_doTurn_160 hr (by omega) (by omega)))))
      · rw [if_pos z1] at hq; exact hq A' w2 e9 hw2
      · rw [if_neg (fun y => z ⟨y, hr16⟩)] at hq; exact hq A w rfl h
    · have eL : trL c (nI R) L = L := if_neg (ne (j := 7) q (by decide) (by decide))
      rw [eL] at hq
      rw [if_neg (show ¬ nI R - nI R / 8 * 8 = 3 from ne (j := 3) q (by decide) (by decide)), if_neg (show ¬ nI R - nI R / 8 * 8 = 4 from ne (j := 4) q (by decide) (by decide)), if_pos (show nI R - nI R / 8 * 8 = 5 from pe q)] at hq
      have hr30 : rngI (nI R / 8 / 6 - nI R / 8 / 6 / 4 * 4) 0 30 = true := by
        have : nI R / 8 / 6 - nI R / 8 / 6 / 4 * 4 = nI (R / 8 / 6 % 4) := by
          rw [q8, show (6 : Int32) = nI 6 from rfl, pk_div (by omega) (by omega) (by omega), show (4 : Int32) = nI 4 from rfl, pk_rem (by omega) (by omega) (by omega)]
        rw [this, rngI_iff, nI_toInt (by omega)]
        omega
      refine sX1_doTurn (bX1_doTurn_0_5 (by rw [ti, q]; rfl) (bX1_doTurn_72 (c_tryLeave (Q := fun _ w2 => Q w2) h (fun z1 z2 w2 hw2 => ?_) (fun z => ?_)) (by omega) (by omega) (fun r w2 hr => bX1_doTurn_86 (bX1_doTurn_160 hr (by omega) (by omega)))))
      · rw [if_pos z1] at hq; exact hq A w2 rfl hw2
      · rw [if_neg (fun y => z ⟨y, hr30⟩)] at hq; exact hq A w rfl h
    · have eL : trL c (nI R) L = L := if_neg (ne (j := 7) q (by decide) (by decide))
      rw [eL] at hq
      rw [if_neg (show ¬ nI R - nI R / 8 * 8 = 3 from ne (j := 3) q (by decide) (by decide)), if_neg (show ¬ nI R - nI R / 8 * 8 = 4 from ne (j := 4) q (by decide) (by decide)), if_neg (show ¬ nI R - nI R / 8 * 8 = 5 from ne (j := 5) q (by decide) (by decide)), if_pos (show nI R - nI R / 8 * 8 = 6 from pe q)] at hq
      have hp : ¬ nI R / 8 / 16 - nI R / 8 / 16 / 6 * 6 = -1 := by
        have : nI R / 8 / 16 - nI R / 8 / 16 / 6 * 6 = nI (R / 8 / 16 % 6) := by
          rw [q8, show (16 : Int32) = nI 16 from rfl, pk_div (by omega) (by omega) (by omega), show (6 : Int32) = nI 6 from rfl, pk_rem (by omega) (by omega) (by omega)]
        rw [this]; exact nI_m1 (by omega)
      refine sX1_doTurn (bX1_doTurn_0_6 (by rw [ti, q]; rfl) (bX1_doTurn_90 (c_tryGive (Q := fun _ w2 => Q w2) h hok hp (fun z w2 hw2 => ?_) (fun z => ?_)) (by omega) (by omega) (fun r w2 hr => bX1_doTurn_105 (bX1_doTurn_160 hr (by omega) (by omega)))))
      · rw [if_pos z] at hq; exact hq A w2 rfl hw2
      · rw [if_neg z] at hq; exact hq A w rfl h
    · have eL : trL c (nI R) L = runL c L 1 := if_pos (pe q)
      rw [eL] at hq hc hs
      rw [if_neg (show ¬ nI R - nI R / 8 * 8 = 3 from ne (j := 3) q (by decide) (by decide)), if_neg (show ¬ nI R - nI R / 8 * 8 = 4 from ne (j := 4) q (by decide) (by decide)), if_neg (show ¬ nI R - nI R / 8 * 8 = 5 from ne (j := 5) q (by decide) (by decide)), if_neg (show ¬ nI R - nI R / 8 * 8 = 6 from ne (j := 6) q (by decide) (by decide))] at hq
      exact sX1_doTurn (bX1_doTurn_0_7 (by rw [ti, q]; rfl) (bX1_doTurn_109 h.i.o (mcq := mc) (msq := ms) (c_letDayGoBy (Q := Q) h hI hc hs (fun A' w2 e9 hw2 => hq A' w2 e9 hw2)) (by omega) (by omega) (fun w2 hr => bX1_doTurn_113 (bX1_doTurn_160 hr (by omega) (by omega)))))
end SS
