/-! WHAT WOULD BE -/
def oWhy (y : Sy) (k p : Int32) : Int32 × Int32 × Sy := if inN k (cSs (yC y)).length = true ∧ inN p (cPs (yC y)).length = true then (0, why (yC y) k.toNatClampNeg p.toNatClampNeg, y) else (1, 0, y)
def oWhom (y : Sy) (k : Int32) : Int32 × Int32 × Sy := if inN k (cSs (yC y)).length = true then (0, bes (setS (yC y) k.toNatClampNeg 5 (-1)) k.toNatClampNeg, y) else (1, 0, y)
def oCom (y : Sy) (n x : Int32) : Int32 × Int32 × Sy := if rngI n 1 60 = true ∧ rngI x 0 3 = true then (0, (if x = 3 then nI (cTs (runTo (yC y) n.toNatClampNeg)).length else cSc (runTo (yC y) n.toNatClampNeg) (4 + x.toNatClampNeg) - cSc (yC y) (4 + x.toNatClampNeg)), y) else (1, 0, y)
def empF (p : Int32) : Nat → Nat → Cal → Int32
  | 0, _, _ => -1
  | f + 1, k, c => if dsk (cTs c) p 0 = 0 then nI k else empF p f (k + 1) (dayC c)
def oEmp (y : Sy) (p : Int32) : Int32 × Int32 × Sy := if inN p (cPs (yC y)).length = true then (0, empF p 61 0 (yC y), y) else (1, 0, y)
def finW (c : Cal) (n : Nat) : Int32 := cSc (runTo (gvAll c).1 n) 6 - cSc (gvAll c).1 6
def oIfH (y : Sy) (s n : Int32) : Int32 × Int32 × Sy := if rngI s 1 20 = true ∧ rngI n 1 30 = true then (if (cPs (yC y)).length < 6 then (0, finW (yC y) n.toNatClampNeg - finW (hireC (yC y) s) n.toNatClampNeg, y) else (2, 0, y)) else (1, 0, y)
def freF (c : Cal) (d f n : Int32) : Nat → Nat → Int32
  | 0, _ => -1
  | k + 1, r => if isFr (cSs c) (nI r) d f n = true then nI r else freF c d f n k (r + 1)
def oFre (y : Sy) (d f n : Int32) : Int32 × Int32 × Sy := if isTm (yC y) d f n = true then (0, freF (yC y) d f n 5 0, y) else (1, 0, y)
section BE
variable {G : GG} {l : Launch} {w0 w : Wd} {A : Nat → Nat} {rf : Int32} {y : Sy}
theorem c_whyNot {k p : Int32} {Q : Int32 → Wd → Prop} (hi : Inj A) (h : MW w0 A rf y w) (hq : ∀ w2, MW w0 A (oWhy y k p).1 (oWhy y k p).2.2 w2 → Q (oWhy y k p).2.1 w2) : CX6_whyNot G l [.ref (A 0), .int k, .int p] w Q := by
  obtain ⟨sp, ou, h⟩ := h
  unfold oWhy at hq
  obtain ⟨g, hg, hc⟩ := h.n
  have hb := hc.b1
  have hb0 := hc.b0
  have bad : ∀ v : Int32, 0 < v → (∀ w2, MW w0 A v y w2 → Q 0 w2) → KX6_whyNot G l w (ZI G 0 0 w Q) w 28 [(0, .ref (A 0)), (1, .int k), (2, .int p)] [.int v, .ref (A 0)] := fun v hv hq => by
    refine bX6_whyNot_28 h.o (c_refused hi h (fun w3 h3 => ?_)) (fun _ _ h => h)
    rw [decide_eq_true hv]
    exact bX6_whyNot_31 (fun z => absurd z (by decide)) (fun _ => bX6_whyNot_34 (hq w3 h3.mw))
  refine sX6_whyNot (bX6_whyNot_0 h.o rfl (c_isSession hg hc ?_) (fun _ _ h => h))
  by_cases q1 : inN k (cSs (yC y)).length = true
  · rw [q1]
    refine bX6_whyNot_9 (fun z => absurd z (by decide)) (fun _ => ?_)
    refine bX6_whyNot_12 h.o rfl (c_isPerson hg hc ?_) (fun _ _ h => h)
    by_cases q2 : inN p (cPs (yC y)).length = true
    · rw [q2]
      rw [if_pos ⟨q1, q2⟩] at hq
      refine bX6_whyNot_20 (fun z => absurd z (by decide)) (fun _ => bX6_whyNot_23 ?_)
      refine bX6_whyNot_28 h.o (c_refused hi h (fun w3 h3 => ?_)) (fun _ _ h => h)
      refine bX6_whyNot_31 (fun _ => ?_) (fun z => absurd rfl z)
      obtain ⟨g, hg, hc⟩ := h3.n
      exact bX6_whyNot_36 h3.o rfl (c_why hg hc (inN_k q1 (by omega)).2 (inN_k q2 (by omega)).2 (inN_k q1 (by omega)).1 (inN_k q2 (by omega)).1 (bX6_whyNot_45 (hq _ h3.mw))) (fun _ _ h => h)
    · rw [if_neg (fun z => q2 z.2)] at hq
      rw [Bool.eq_false_iff.mpr q2]
      exact bX6_whyNot_20 (fun _ => bX6_whyNot_27 (bad 1 (by decide) hq)) (fun z => absurd rfl z)
  · rw [if_neg (fun z => q1 z.1)] at hq
    rw [Bool.eq_false_iff.mpr q1]
    exact bX6_whyNot_9 (fun _ => bX6_whyNot_27 (bad 1 (by decide) hq)) (fun z => absurd rfl z)
theorem c_whom {k : Int32} {Q : Int32 → Wd → Prop} (hi : Inj A) (h : MW w0 A rf y w) (hq : ∀ w2, MW w0 A (oWhom y k).1 (oWhom y k).2.2 w2 → Q (oWhom y k).2.1 w2) : CX6_whom G l [.ref (A 0), .int k] w Q := by
  obtain ⟨sp, ou, h⟩ := h
  unfold oWhom at hq
  obtain ⟨g, hg, hc⟩ := h.n
  have hb := hc.b1
  have bad : ∀ v : Int32, 0 < v → (∀ w2, MW w0 A v y w2 → Q 0 w2) → KX6_whom G l w (ZI G 0 0 w Q) w 17 [(0, .ref (A 0)), (1, .int k)] [.int v, .ref (A 0)] := fun v hv hq => by
    refine bX6_whom_17 h.o (c_refused hi h (fun w3 h3 => ?_)) (fun _ _ h => h)
    rw [decide_eq_true hv]
    exact bX6_whom_20 (fun z => absurd z (by decide)) (fun _ => bX6_whom_23 (hq w3 h3.mw))
  refine sX6_whom (bX6_whom_0 h.o rfl (c_isSession hg hc ?_) (fun _ _ h => h))
  by_cases q1 : inN k (cSs (yC y)).length = true
  · rw [if_pos q1] at hq
    rw [q1]
    obtain ⟨k1, k2⟩ := inN_k q1 (by omega)
    refine bX6_whom_9 (fun z => absurd z (by decide)) (fun _ => bX6_whom_12 ?_)
    refine bX6_whom_17 h.o (c_refused hi h (fun w3 h3 => ?_)) (fun _ _ h => h)
    refine bX6_whom_20 (fun _ => ?_) (fun z => absurd rfl z)
    refine bX6_whom_25 h3.o rfl rfl (cp_nt hi h3 (fun w4 h4 => ?_)) (fun _ h => h)
    obtain ⟨g, hg, hc⟩ := h4.t
    refine bX6_whom_38 h4.o rfl (c_lay hg k2 (j := 5) rfl (by omega) (by decide) ?_) (fun _ h => h)
    have h5 := h4.setT hi (T2 := fun g => MRep g (setS (yC y) k.toNatClampNeg 5 (-1))) (hc.setS (j := 5) (-1) k1 (by decide))
    obtain ⟨g, hg, hc⟩ := h5.t
    exact bX6_whom_48 h5.o rfl (c_best hg hc k2 (by rw [setS_len]; exact k1) (bX6_whom_56 (hq _ h5.mw))) (fun _ _ h => h)
  · rw [if_neg q1] at hq
    rw [Bool.eq_false_iff.mpr q1]
    exact bX6_whom_9 (fun _ => bX6_whom_16 (bad 1 (by decide) hq)) (fun z => absurd rfl z)
theorem c_coming {n x : Int32} {Q : Int32 → Wd → Prop} (hi : Inj A) (h : MW w0 A rf y w) (hq : ∀ w2, MW w0 A (oCom y n x).1 (oCom y n x).2.2 w2 → Q (oCom y n x).2.1 w2) : CX6_coming G l [.ref (A 0), .int n, .int x] w Q := by
  obtain ⟨sp, ou, h⟩ := h
  unfold oCom at hq
  have bad : ∀ v : Int32, 0 < v → (∀ w2, MW w0 A v y w2 → Q 0 w2) → KX6_coming G l w (ZI G 0 0 w Q) w 30 [(0, .ref (A 0)), (1, .int n), (2, .int x)] [.int v, .ref (A 0)] := fun v hv hq => by
    refine bX6_coming_30 h.o (c_refused hi h (fun w3 h3 => ?_)) (fun _ _ h => h)
    rw [decide_eq_true hv]
    exact bX6_coming_33 (fun z => absurd z (by decide)) (fun _ => bX6_coming_36 (hq w3 h3.mw))
  refine sX6_coming (bX6_coming_0 (c_in ?_) (fun _ _ h => h))
  rw [in_R (a := 1) (b := 60) rfl rfl]
  by_cases q1 : rngI n 1 60 = true
  · rw [q1]
    refine bX6_coming_10 (fun z => absurd z (by decide)) (fun _ => ?_)
    refine bX6_coming_13 (c_in ?_) (fun _ _ h => h)
    rw [in_R (a := 0) (b := 3) rfl rfl]
    by_cases q2 : rngI x 0 3 = true
    · rw [q2]
      rw [if_pos ⟨q1, q2⟩] at hq
      refine bX6_coming_22 (fun z => absurd z (by decide)) (fun _ => bX6_coming_25 ?_)
      refine bX6_coming_30 h.o (c_refused hi h (fun w3 h3 => ?_)) (fun _ _ h => h)
      refine bX6_coming_33 (fun _ => ?_) (fun z => absurd rfl z)
      refine bX6_coming_38 h3.o rfl rfl (cp_nt hi h3 (fun w4 h4 => ?_)) (fun _ h => h)
      obtain ⟨g, hg, hc⟩ := h4.t
      have q3 := rngI_iff.mp q1
      obtain ⟨e, hk, ei⟩ := rng_k (x := n) (b := 60) (rngI_iff.mpr ⟨by omega, q3.2⟩)
      refine bX6_coming_51 h4.o rfl (c_runOn hg hc e (by omega) (fun g2 hg2 => ?_)) (fun _ _ h => h)
      have h5 := h4.setT hi (T2 := fun g => MRep g (runTo (yC y) n.toNatClampNeg)) hg2
      obtain ⟨g, hg, hc⟩ := h5.t
      obtain ⟨gn, hgn, hcn⟩ := h5.n
      have hq := hq _ h5.mw
      obtain ⟨ex, hkx, eix⟩ := rng_k (b := 3) q2
      refine bX6_coming_59 (fun z => ?_) (fun z => ?_)
      · rw [if_neg z] at hq
        have e9 : 4 + x = nI (4 + x.toNatClampNeg) := by rw [← nI_add, ← ex]; rfl
        refine bX6_coming_74 h5.o rfl hg (ix_of e9 (by omega) (by decide)) rfl hgn (ix_of e9 (by omega) (by decide)) ?_
        rw [cl_of e9 (by omega), hc.sc _ (by omega) (by omega), hcn.sc _ (by omega) (by omega)]
        exact bX6_coming_91 hq
      · rw [if_pos z] at hq
        refine bX6_coming_65 h5.o rfl hg (vlit rfl) ?_
        rw [hc.n2]
        exact bX6_coming_91 hq
    · rw [if_neg (fun z => q2 z.2)] at hq
      rw [Bool.eq_false_iff.mpr q2]
      exact bX6_coming_22 (fun _ => bX6_coming_29 (bad 1 (by decide) hq)) (fun z => absurd rfl z)
  · rw [if_neg (fun z => q1 z.1)] at hq
    rw [Bool.eq_false_iff.mpr q1]
    exact bX6_coming_10 (fun _ => bX6_coming_29 (bad 1 (by decide) hq)) (fun z => absurd rfl z)
theorem c_emptyIn {p : Int32} {Q : Int32 → Wd → Prop} (hi : Inj A) (h : MW w0 A rf y w) (hq : ∀ w2, MW w0 A (oEmp y p).1 (oEmp y p).2.2 w2 → Q (oEmp y p).2.1 w2) : CX6_emptyIn G l [.ref (A 0), .int p] w Q := by
  obtain ⟨sp, ou, h⟩ := h
  unfold oEmp at hq
  obtain ⟨g, hg, hc⟩ := h.n
  have hb := hc.b0
  have bad : ∀ v : Int32, 0 < v → (∀ w2, MW w0 A v y w2 → Q 0 w2) → KX6_emptyIn G l w (ZI G 0 0 w Q) w 17 [(0, .ref (A 0)), (1, .int p)] [.int v, .ref (A 0)] := fun v hv hq => by
    refine bX6_emptyIn_17 h.o (c_refused hi h (fun w3 h3 => ?_)) (fun _ _ h => h)
    rw [decide_eq_true hv]
    exact bX6_emptyIn_20 (fun z => absurd z (by decide)) (fun _ => bX6_emptyIn_23 (hq w3 h3.mw))
  refine sX6_emptyIn (bX6_emptyIn_0 h.o rfl (c_isPerson hg hc ?_) (fun _ _ h => h))
  by_cases q1 : inN p (cPs (yC y)).length = true
  · rw [if_pos q1] at hq
    rw [q1]
    refine bX6_emptyIn_9 (fun z => absurd z (by decide)) (fun _ => bX6_emptyIn_12 ?_)
    refine bX6_emptyIn_17 h.o (c_refused hi h (fun w3 h3 => ?_)) (fun _ _ h => h)
    refine bX6_emptyIn_20 (fun _ => ?_) (fun z => absurd rfl z)
    refine bX6_emptyIn_25 h3.o rfl rfl (cp_nt hi h3 (fun w4 h4 => ?_)) (fun _ h => h)
    refine bX6_emptyIn_38 ?_
    have key : ∀ f k, f + k = 61 → ∀ (c : Cal) (w5 : Wd), MG w0 A 0 y (fun g => MRep g c) sp ou w5 → empF p f k c = empF p 61 0 (yC y) → KX6_emptyIn G l w (ZI G 0 0 w Q) w5 40 [(0, .ref (A 0)), (1, .int p), (2, .int (nI k))] [] := by
      intro f
      induction f with
      | zero =>
        intro k hk c w5 h5 e
        have hk : k = 61 := by omega
        subst hk
        refine bX6_emptyIn_40 (fun _ => bX6_emptyIn_73 ?_) (fun z => absurd (by decide) z)
        have := hq w5 h5.mw
        rw [← e] at this
        exact this
      | succ f ih =>
        intro k hk c w5 h5 e
        have e1 : empF p (f + 1) k c = if dsk (cTs c) p 0 = 0 then nI k else empF p f (k + 1) (dayC c) := rfl
        refine bX6_emptyIn_40 (fun z => absurd z (by rw [i32_lt, nI_toInt (by omega), show (60 : Int32).toInt = 60 from rfl]; omega)) (fun _ => ?_)
        obtain ⟨g, hg, hc⟩ := h5.t
        refine bX6_emptyIn_46 h5.o rfl (c_onDesk hg hc ?_) (fun _ _ h => h)
        refine bX6_emptyIn_55 (fun z => ?_) (fun z => bX6_emptyIn_58 ?_)
        · rw [if_neg z] at e1
          refine bX6_emptyIn_60 h5.o rfl (c_dayOn hg hc (fun g2 hg2 => ?_)) (fun _ h => h)
          refine bX6_emptyIn_67 ?_
          rw [nI_1]
          exact ih (k + 1) (by omega) (dayC c) _ (h5.setT hi (T2 := fun g => MRep g (dayC c)) hg2) (e1.symm.trans e)
        · rw [if_pos z] at e1
          have := hq w5 h5.mw
          rw [← e, e1] at this
          exact this
    exact key 61 0 rfl (yC y) w4 h4 rfl
  · rw [if_neg q1] at hq
    rw [Bool.eq_false_iff.mpr q1]
    exact bX6_emptyIn_9 (fun _ => bX6_emptyIn_16 (bad 1 (by decide) hq)) (fun z => absurd rfl z)
theorem c_finesWith {T : (Nat → Int32) → Prop} {sp ou : Int32} {n : Nat} {x1 x2 : Int32} {Q : Int32 → Wd → Prop} (hi : Inj A) (h : MG w0 A rf y T sp ou w) (h2 : x2 = nI n) (hn : n < 2 ^ 31) (hl : ¬ x1 = -1 → (cPs (yC y)).length < 6) (hq : ∀ w2, MG w0 A rf y (fun _ => True) sp ou w2 → Q (finW (if x1 = -1 then yC y else hireC (yC y) x1) n) w2) : CX6_finesWith G l [.ref (A 0), .int x1, .int x2] w Q := by
  refine sX6_finesWith (bX6_finesWith_0 h.o rfl rfl (cp_nt hi h (fun w4 h4 => ?_)) (fun _ h => h))
  have j27 : ∀ (c : Cal) (w5 : Wd), MG w0 A rf y (fun g => MRep g c) sp ou w5 → (if x1 = -1 then yC y else hireC (yC y) x1) = c → KX6_finesWith G l w (ZI G 0 0 w Q) w5 27 [(0, .ref (A 0)), (2, .int x2)] [] := fun c w5 h5 e => by
    rw [e] at hq
    obtain ⟨g, hg, hc⟩ := h5.t
    refine bX6_finesWith_27 h5.o rfl (c_giveAllOn hg hc (fun g2 hg2 => ?_)) (fun _ _ h => h)
    have h6 := h5.setT hi (T2 := fun g => MRep g (gvAll c).1) hg2
    obtain ⟨g, hg, hc⟩ := h6.t
    refine bX6_finesWith_34 h6.o rfl (c_runOn hg hc h2 hn (fun g2 hg2 => ?_)) (fun _ _ h => h)
    have h7 := h6.setT hi (T2 := fun g => MRep g (runTo (gvAll c).1 n)) hg2
    exact bX6_finesWith_43 (hq _ h7.any)
  refine bX6_finesWith_13 (fun z => j27 _ w4 h4 (if_pos z)) (fun z => ?_)
  obtain ⟨g, hg, hc⟩ := h4.t
  refine bX6_finesWith_18 h4.o rfl (c_hireOn hg hc (hl z) (fun g2 hg2 => ?_)) (fun _ _ h => h)
  have h5 := h4.setT hi (T2 := fun g => MRep g (hireC (yC y) x1)) hg2
  exact bX6_finesWith_26 (j27 _ _ h5 (if_neg z))
theorem c_ifHired {s n : Int32} {Q : Int32 → Wd → Prop} (hi : Inj A) (h : MW w0 A rf y w) (hq : ∀ w2, MW w0 A (oIfH y s n).1 (oIfH y s n).2.2 w2 → Q (oIfH y s n).2.1 w2) : CX6_ifHired G l [.ref (A 0), .int s, .int n] w Q := by
  obtain ⟨sp, ou, h⟩ := h
  unfold oIfH at hq
  obtain ⟨g, hg, hc⟩ := h.n
  have bad : ∀ v : Int32, 0 < v → (∀ w2, MW w0 A v y w2 → Q 0 w2) → KX6_ifHired G l w (ZI G 0 0 w Q) w 44 [(0, .ref (A 0)), (1, .int s), (2, .int n)] [.int v, .ref (A 0)] := fun v hv hq => by
    refine bX6_ifHired_44 h.o (c_refused hi h (fun w3 h3 => ?_)) (fun _ _ h => h)
    rw [decide_eq_true hv]
    exact bX6_ifHired_47 (fun z => absurd z (by decide)) (fun _ => bX6_ifHired_50 (hq w3 h3.mw))
  refine sX6_ifHired (bX6_ifHired_0 (c_in ?_) (fun _ _ h => h))
  rw [in_R (a := 1) (b := 20) rfl rfl]
  by_cases q1 : rngI s 1 20 = true
  · rw [q1]
    refine bX6_ifHired_10 (fun z => absurd z (by decide)) (fun _ => ?_)
    refine bX6_ifHired_13 (c_in ?_) (fun _ _ h => h)
    rw [in_R (a := 1) (b := 30) rfl rfl]
    by_cases q2 : rngI n 1 30 = true
    · rw [q2]
      rw [if_pos ⟨q1, q2⟩] at hq
      refine bX6_ifHired_22 (fun _ => ?_) (fun z => absurd z (by decide))
      refine bX6_ifHired_29 h.o rfl (c_canHire hg hc ?_) (fun _ _ h => h)
      by_cases q3 : (cPs (yC y)).length < 6
      · rw [if_pos q3] at hq
        rw [decide_eq_true q3]
        refine bX6_ifHired_36 (fun z => absurd z (by decide)) (fun _ => bX6_ifHired_39 ?_)
        refine bX6_ifHired_44 h.o (c_refused hi h (fun w3 h3 => ?_)) (fun _ _ h => h)
        refine bX6_ifHired_47 (fun _ => ?_) (fun z => absurd rfl z)
        have q5 := rngI_iff.mp q2
        have q6 := rngI_iff.mp q1
        obtain ⟨e, hk, ei⟩ := rng_k (x := n) (b := 30) (rngI_iff.mpr ⟨by omega, q5.2⟩)
        have hs1 : ¬ s = -1 := fun z => by
          rw [z, show (-1 : Int32).toInt = -1 from by decide] at q6
          omega
        refine bX6_ifHired_52 h3.o (c_finesWith hi h3 e (by omega) (fun z => absurd rfl z) (fun w5 h5 => ?_)) (fun _ _ h => h)
        refine bX6_ifHired_58 h5.o (c_finesWith hi h5 e (by omega) (fun _ => q3) (fun w6 h6 => ?_)) (fun _ _ h => h)
        rw [if_pos rfl, if_neg hs1]
        exact bX6_ifHired_66 (hq _ h6.mw)
      · rw [if_neg q3] at hq
        rw [decide_eq_false q3]
        exact bX6_ifHired_36 (fun _ => bX6_ifHired_43 (bad 2 (by decide) hq)) (fun z => absurd rfl z)
    · rw [if_neg (fun z => q2 z.2)] at hq
      rw [Bool.eq_false_iff.mpr q2]
      exact bX6_ifHired_22 (fun z => absurd rfl z) (fun _ => bX6_ifHired_25 (bad 1 (by decide) hq))
  · rw [if_neg (fun z => q1 z.1)] at hq
    rw [Bool.eq_false_iff.mpr q1]
    exact bX6_ifHired_10 (fun _ => bX6_ifHired_25 (bad 1 (by decide) hq)) (fun z => absurd rfl z)
theorem c_freeRoom {d f n : Int32} {Q : Int32 → Wd → Prop} (hi : Inj A) (h : MW w0 A rf y w) (hq : ∀ w2, MW w0 A (oFre y d f n).1 (oFre y d f n).2.2 w2 → Q (oFre y d f n).2.1 w2) : CX6_freeRoom G l [.ref (A 0), .int d, .int f, .int n] w Q := by
  obtain ⟨sp, ou, h⟩ := h
  unfold oFre at hq
  obtain ⟨g, hg, hc⟩ := h.n
  have bad : ∀ v : Int32, 0 < v → (∀ w2, MW w0 A v y w2 → Q 0 w2) → KX6_freeRoom G l w (ZI G 0 0 w Q) w 19 [(0, .ref (A 0)), (1, .int d), (2, .int f), (3, .int n)] [.int v, .ref (A 0)] := fun v hv hq => by
    refine bX6_freeRoom_19 h.o (c_refused hi h (fun w3 h3 => ?_)) (fun _ _ h => h)
    rw [decide_eq_true hv]
    exact bX6_freeRoom_22 (fun z => absurd z (by decide)) (fun _ => bX6_freeRoom_25 (hq w3 h3.mw))
  refine sX6_freeRoom (bX6_freeRoom_0 h.o rfl (c_isTime hg hc ?_) (fun _ _ h => h))
  by_cases q1 : isTm (yC y) d f n = true
  · rw [if_pos q1] at hq
    rw [q1]
    refine bX6_freeRoom_11 (fun z => absurd z (by decide)) (fun _ => bX6_freeRoom_14 ?_)
    refine bX6_freeRoom_19 h.o (c_refused hi h (fun w3 h3 => ?_)) (fun _ _ h => h)
    refine bX6_freeRoom_22 (fun _ => ?_) (fun z => absurd rfl z)
    refine bX6_freeRoom_27 ?_
    have hq := hq _ h3.mw
    obtain ⟨g, hg, hc⟩ := h3.n
    have key : ∀ k r, k + r = 5 → freF (yC y) d f n k r = freF (yC y) d f n 5 0 → KX6_freeRoom G l w (ZI G 0 0 w Q) w3 30 [(0, .ref (A 0)), (1, .int d), (2, .int f), (3, .int n), (4, .int (nI r))] [] := by
      intro k
      induction k with
      | zero =>
        intro r hr e
        have hr : r = 5 := by omega
        subst hr
        refine bX6_freeRoom_30 (fun _ => bX6_freeRoom_60 ?_) (fun z => absurd (by decide) z)
        rw [← e] at hq
        exact hq
      | succ k ih =>
        intro r hr e
        have e1 : freF (yC y) d f n (k + 1) r = if isFr (cSs (yC y)) (nI r) d f n = true then nI r else freF (yC y) d f n k (r + 1) := rfl
        refine bX6_freeRoom_30 (fun z => absurd z (nI_ge (b := 5) (by omega) (by decide))) (fun _ => ?_)
        refine bX6_freeRoom_36 h3.o rfl (c_isFree hg hc ?_) (fun _ _ h => h)
        refine bX6_freeRoom_48 (fun z => bX6_freeRoom_54 ?_) (fun z => bX6_freeRoom_51 ?_)
        · rw [if_neg (by rw [bI_0.mp z]; exact Bool.false_ne_true)] at e1
          rw [nI_1]
          exact ih (r + 1) (by omega) (e1.symm.trans e)
        · rw [if_pos (bI_n0.mp z)] at e1
          rw [← e, e1] at hq
          exact hq
    exact key 5 0 rfl rfl
  · rw [if_neg q1] at hq
    rw [Bool.eq_false_iff.mpr q1]
    exact bX6_freeRoom_11 (fun _ => bX6_freeRoom_18 (bad 1 (by decide) hq)) (fun z => absurd rfl z)
end BE
