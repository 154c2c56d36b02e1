/-! SCRIPTS -/
theorem pw_div {f : Nat} (h : f < 3) : pw (f + 1) / 100000 = pw f :=
  match f, h with
  | 0, _ => by decide
  | 1, _ => by decide
  | 2, _ => by decide
theorem pw_ne {f : Nat} (h : f < 3) : ¬ pw f = 0 :=
  match f, h with
  | 0, _ => by decide
  | 1, _ => by decide
  | 2, _ => by decide
def simR (x : Int64) : Int32 := (x.toUInt64 >>> ((33 : Int32).toInt64.toUInt64 &&& Int64.toUInt64 63)).toInt64.toInt32
def nxt (x : Int64) : Int64 := x * 6364136223846793005 + 1442695040888963407
def simG (n : Int64 → Int64) (t : Cal → Int64 → Cal) : Nat → Int64 → Cal → Cal
  | 0, _, c => c
  | f + 1, x, c => simG n t f (n x) (t c (n x))
theorem simG_s (n : Int64 → Int64) (t : Cal → Int64 → Cal) (f : Nat) (x : Int64) (c : Cal) : simG n t (f + 1) x c = simG n t f (n x) (t c (n x)) := rfl
def simF : Nat → Int64 → Cal → Cal := simG nxt (fun c x => trnA c (simR x))
theorem simF_s (f : Nat) (x : Int64) (c : Cal) : simF (f + 1) x c = simF f (nxt x) (trnA c (simR (nxt x))) := simG_s nxt (fun c x => trnA c (simR x)) f x c
theorem nxt_eq (x : Int64) : x * 6364136223846793005 + 1442695040888963407 = nxt x := rfl
theorem simR_eq (x : Int64) : (x.toUInt64 >>> ((33 : Int32).toInt64.toUInt64 &&& Int64.toUInt64 63)).toInt64.toInt32 = simR x := rfl
def oSim (y : Sy) (x : Int64) (m : Int32) : Int32 × Int32 × Sy := if rngI m 1 60 = true then (0, 1000 * (cSc (simF m.toNatClampNeg x (yC y)) 4 - cSc (yC y) 4) + nI (cTs (simF m.toNatClampNeg x (yC y))).length, y) else (1, 0, y)
section SC2
variable {G : GG} {l : Launch} {w0 w : Wd} {A : Nat → Nat} {rf : Int32} {y : Sy}
theorem c_runScript {n : Int32} {s : Int64} {T9 : Nat} {Q : Int32 → Wd → Prop} (hi : Inj A) (hI : Inv T9 (yC y)) (hT : T9 + 2000 < 2 ^ 31) (h : MW w0 A rf y w) (hq : ∀ w2, MW w0 A (oScr y n s).1 (oScr y n s).2.2 w2 → Q (oScr y n s).2.1 w2) : CX6_runScript G l [.ref (A 0), .int n, .long s] w Q := by
  obtain ⟨sp, ou, h⟩ := h
  unfold oScr at hq
  have bad : ∀ u : Int64, (∀ w2, MW w0 A 1 y w2 → Q 0 w2) → KX6_runScript G l w (ZI G 0 0 w Q) w 61 [(0, .ref (A 0)), (1, .int n), (2, .long s), (4, .long u)] [.ref (A 0)] := fun u hq => by
    refine bX6_runScript_61 (bX6_runScript_62 h.o (c_refused hi h (fun w3 h3 => ?_)) (fun _ _ h => h))
    exact bX6_runScript_65 (fun z => absurd z (by decide)) (fun _ => bX6_runScript_68 (hq w3 h3.mw))
  have j32 : ∀ j : Nat, j ≤ 3 → (n.toInt ≤ j ∨ j = 3) → (j = 0 ∨ (j : Int) ≤ n.toInt) → KX6_runScript G l w (ZI G 0 0 w Q) w 32 [(0, .ref (A 0)), (1, .int n), (2, .long s), (4, .long (pw j))] [] := fun j h1 h2 h3 => by
    refine bX6_runScript_32 (c_in ?_) (fun _ _ h => h)
    rw [in_R (a := 1) (b := 3) rfl rfl]
    by_cases q1 : rngI n 1 3 = true
    · rw [q1]
      have q2 := rngI_iff.mp q1
      obtain ⟨e, hk, ei⟩ := rng_k (x := n) (b := 3) (rngI_iff.mpr ⟨by omega, q2.2⟩)
      have hj : j = n.toNatClampNeg := by omega
      subst hj
      refine bX6_runScript_42 (fun z => absurd z (by decide)) (fun _ => ?_)
      refine bX6_runScript_45 (c_in ?_) (fun _ _ h => h)
      by_cases q3 : (0 : Int64) ≤ s ∧ s ≤ pw n.toNatClampNeg - 1
      · rw [if_pos ⟨q1, q3⟩] at hq
        rw [decide_eq_true q3.1, decide_eq_true q3.2]
        refine bX6_runScript_54 (fun z => absurd z (by decide)) (fun _ => bX6_runScript_57 ?_)
        refine bX6_runScript_62 h.o (c_refused hi h (fun w3 h3 => ?_)) (fun _ _ h => h)
        refine bX6_runScript_65 (fun _ => ?_) (fun z => absurd rfl z)
        refine bX6_runScript_70 h3.o rfl rfl (cp_nt hi h3 (fun w4 h4 => ?_)) (fun _ h => h)
        refine bX6_runScript_83 ?_
        generalize n.toNatClampNeg = n9 at e hk ei hq
        have key : ∀ f k, f + k = n9 → ∀ (c : Cal) (T8 : Nat) (w5 : Wd), Inv T8 c → T8 + 30 * f ≤ T9 + 90 → MG w0 A 0 y (fun g => MRep g c) sp ou w5 → scrF s f (pw f) k c = scrF s n9 (pw n9) 0 (yC y) → KX6_runScript G l w (ZI G 0 0 w Q) w5 86 [(0, .ref (A 0)), (1, .int n), (2, .long s), (4, .long (pw f)), (6, .int (nI k))] [] := by
          intro f
          induction f with
          | zero =>
            intro k hk9 c T8 w5 _ _ h5 e5
            have hk9 : k = n9 := by omega
            subst hk9
            refine bX6_runScript_86 (fun _ => bX6_runScript_139 ?_) (fun z => absurd (by rw [e]; exact nI_le (Nat.le_refl _) (by omega)) z)
            have := hq w5 h5.mw
            rw [← e5] at this
            exact this
          | succ f ih =>
            intro k hk9 c T8 w5 hI8 hT8 h5 e5
            have e1 : scrF s (f + 1) (pw (f + 1)) k c = if (cmdA c (scrG s (pw (f + 1) / 100000) / 10000) (scrG s (pw (f + 1) / 100000) - scrG s (pw (f + 1) / 100000) / 10000 * 10000)).2 = true then scrF s f (pw (f + 1) / 100000) (k + 1) (cmdA c (scrG s (pw (f + 1) / 100000) / 10000) (scrG s (pw (f + 1) / 100000) - scrG s (pw (f + 1) / 100000) / 10000 * 10000)).1 else nI k := rfl
            rw [pw_div (by omega)] at e1
            refine bX6_runScript_86 (fun z => absurd z (by rw [e]; exact nI_ge (by omega) (by omega))) (fun _ => ?_)
            refine bX6_runScript_92 (by rw [pw_div (by omega)]; exact pw_ne (by omega)) h5.o ?_ (fun _ _ h => h)
            rw [pw_div (by omega)]
            show CX6_command G l [.ref (A 0), .int (scrG s (pw f) / 10000), .int (scrG s (pw f) - scrG s (pw f) / 10000 * 10000)] _ _
            have hIc := cmdA_inv hI8 (scrG s (pw f) / 10000) (scrG s (pw f) - scrG s (pw f) / 10000 * 10000) (by omega)
            refine c_command hi hI8 (by omega) h5 (fun w6 h6 => ?_)
            generalize cmdA c (scrG s (pw f) / 10000) (scrG s (pw f) - scrG s (pw f) / 10000 * 10000) = R at e1 h6 hIc
            refine bX6_runScript_127 (fun z => ?_) (fun z => bX6_runScript_130 ?_)
            · rw [if_pos (bI_n0.mp z)] at e1
              refine bX6_runScript_133 ?_
              rw [nI_1]
              exact ih (k + 1) (by omega) R.1 (T8 + 30) w6 hIc (by omega) h6 (e1.symm.trans e5)
            · rw [if_neg (by rw [bI_0.mp z]; exact Bool.false_ne_true)] at e1
              have := hq w6 h6.mw
              rw [← e5, e1] at this
              exact this
        exact key n9 0 rfl (yC y) T9 w4 hI (by omega) h4 rfl
      · rw [if_neg (fun z => q3 z.2)] at hq
        refine bX6_runScript_54 (fun _ => bad _ hq) (fun z => absurd ?_ q3)
        have := bI_n0.mp z
        simpa only [Bool.and_eq_true, decide_eq_true_eq] using this
    · rw [if_neg (fun z => q1 z.1)] at hq
      rw [Bool.eq_false_iff.mpr q1]
      exact bX6_runScript_42 (fun _ => bad _ hq) (fun z => absurd rfl z)
  have j6 : ∀ d j : Nat, d + j = 3 → (j = 0 ∨ (j : Int) ≤ n.toInt) → KX6_runScript G l w (ZI G 0 0 w Q) w 6 [(0, .ref (A 0)), (1, .int n), (2, .long s), (4, .long (pw j)), (6, .int (nI j))] [] := by
    intro d
    induction d with
    | zero =>
      intro j hj h1
      have hj : j = 3 := by omega
      subst hj
      exact bX6_runScript_6 (fun _ => j32 3 (by decide) (Or.inr rfl) h1) (fun _ => bX6_runScript_12 (fun _ => j32 3 (by decide) (Or.inr rfl) h1) (fun z => absurd (by decide) z))
    | succ d ih =>
      intro j hj h1
      have ej : (nI j).toInt = j := nI_toInt (by omega)
      refine bX6_runScript_6 (fun z => j32 j (by omega) (Or.inl (by rw [i32_le, ej] at z; exact z)) h1) (fun z => ?_)
      rw [i32_le, ej] at z
      refine bX6_runScript_12 (fun z2 => absurd z2 (nI_ge (b := 3) (by omega) (by decide))) (fun _ => ?_)
      refine bX6_runScript_18 ?_
      rw [nI_1]
      exact ih (j + 1) (by omega) (Or.inr (by omega))
  exact sX6_runScript (bX6_runScript_0 (j6 3 0 rfl (Or.inl rfl)))
theorem c_simulate {x : Int64} {m : Int32} {Q : Int32 → Wd → Prop} (hi : Inj A) (h : MW w0 A rf y w) (hq : ∀ w2, MW w0 A (oSim y x m).1 (oSim y x m).2.2 w2 → Q (oSim y x m).2.1 w2) : CX6_simulate G l [.ref (A 0), .long x, .int m] w Q := by
  obtain ⟨sp, ou, h⟩ := h
  unfold oSim at hq
  refine sX6_simulate (bX6_simulate_0 (c_in ?_) (fun _ _ h => h))
  rw [in_R (a := 1) (b := 60) rfl rfl]
  by_cases q1 : rngI m 1 60 = true
  · rw [if_pos q1] at hq
    rw [q1]
    have q2 := rngI_iff.mp q1
    obtain ⟨e, hk, ei⟩ := rng_k (x := m) (b := 60) (rngI_iff.mpr ⟨by omega, q2.2⟩)
    refine bX6_simulate_10 (fun z => absurd z (by decide)) (fun _ => bX6_simulate_13 ?_)
    refine bX6_simulate_18 h.o (c_refused hi h (fun w3 h3 => ?_)) (fun _ _ h => h)
    refine bX6_simulate_21 (fun _ => ?_) (fun z => absurd rfl z)
    refine bX6_simulate_26 h3.o rfl rfl (cp_nt hi h3 (fun w4 h4 => ?_)) (fun _ h => h)
    refine bX6_simulate_39 ?_
    generalize m.toNatClampNeg = m9 at e hk ei hq
    have key : ∀ f k : Nat, f + k = m9 → ∀ (c : Cal) (x5 : Int64) (w5 : Wd), MG w0 A 0 y (fun g => MRep g c) sp ou w5 → simF f x5 c = simF m9 x (yC y) → KX6_simulate G l w (ZI G 0 0 w Q) w5 45 [(0, .ref (A 0)), (3, .int m), (4, .long x5), (6, .int (nI k))] [] := by
      intro f
      induction f with
      | zero =>
        intro k hk9 c x5 w5 h5 e5
        have hk9 : k = m9 := by omega
        subst hk9
        obtain ⟨g, hg, hc⟩ := h5.t
        obtain ⟨gn, hgn, hcn⟩ := h5.n
        refine bX6_simulate_45 (fun _ => ?_) (fun z => absurd (by rw [e]; exact nI_le (Nat.le_refl _) (by omega)) z)
        refine bX6_simulate_79 h5.o rfl hg (vlit rfl) rfl hgn (vlit rfl) (vlit rfl) ?_
        rw [hc.n2, show g ((4 : Int32).toNatClampNeg) = cSc c 4 from hc.sc 4 (by decide) (by decide), show gn ((4 : Int32).toNatClampNeg) = cSc (yC y) 4 from hcn.sc 4 (by decide) (by decide)]
        have := hq w5 h5.mw
        rw [← e5] at this
        exact this
      | succ f ih =>
        intro k hk9 c x5 w5 h5 e5
        refine bX6_simulate_45 (fun z => absurd z (by rw [e]; exact nI_ge (by omega) (by omega))) (fun _ => ?_)
        rw [simF_s] at e5
        refine bX6_simulate_51 h5.o ?_ (fun _ h => h)
        rw [nxt_eq, simR_eq]
        generalize nxt x5 = x6 at e5 ⊢
        refine c_turn hi h5 (fun w6 h6 => ?_)
        refine bX6_simulate_73 ?_
        rw [nI_1]
        exact ih (k + 1) (by omega) _ _ w6 h6 e5
    exact key m9 0 rfl (yC y) x w4 h4 rfl
  · rw [if_neg q1] at hq
    rw [Bool.eq_false_iff.mpr q1]
    refine bX6_simulate_10 (fun _ => bX6_simulate_17 ?_) (fun z => absurd rfl z)
    refine bX6_simulate_18 h.o (c_refused hi h (fun w3 h3 => ?_)) (fun _ _ h => h)
    exact bX6_simulate_21 (fun z => absurd z (by decide)) (fun _ => bX6_simulate_24 (hq w3 h3.mw))
end SC2
