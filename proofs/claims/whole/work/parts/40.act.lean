/-! ACTIONS -/
def oHire (y : Sy) (x : Int32) : Int32 × Int32 × Sy := if rngI x 1 20 = true then (if (cPs (yC y)).length < 6 then (0, nI (cPs (yC y)).length, wC (wR y) (hireC (yC y) x)) else (2, 0, y)) else (1, 0, y)
def oSess (y : Sy) (a b d e f : Int32) : Int32 × Int32 × Sy := if rngI a 0 4 = true then (if isTm (yC y) b d e = true ∧ rngI f 1 9 = true then (if isNw (yC y) a b d e f = true then (0, nI (insP (cSs (yC y)) (a, b, d, e, f, -1)), wC (wR y) (insS (yC y) (a, b, d, e, f, -1))) else (3, 0, y)) else (2, 0, y)) else (1, 0, y)
def oCanc (y : Sy) (k : Int32) : Int32 × Int32 × Sy := if inN k (cSs (yC y)).length = true then (0, nI ((cSs (yC y)).length - 1), wC (wR y) (delS (yC y) k.toNatClampNeg)) else (1, 0, y)
def oGive (y : Sy) (k p : Int32) : Int32 × Int32 × Sy := if inN k (cSs (yC y)).length = true ∧ (p = -1 ∨ inN p (cPs (yC y)).length = true) then (if p = -1 ∨ why (yC y) k.toNatClampNeg p.toNatClampNeg = 0 then (0, sf (sg (cSs (yC y)) k.toNatClampNeg) 5, wC (wR y) (setS (yC y) k.toNatClampNeg 5 p)) else (2, 0, y)) else (1, 0, y)
def oGvA (y : Sy) : Int32 × Int32 × Sy := (0, (gvAll (yC y)).2, wC (wR y) (gvAll (yC y)).1)
def oLeav (y : Sy) (p d : Int32) : Int32 × Int32 × Sy := if inN p (cPs (yC y)).length = true then (if rngI d 0 30 = true then (0, (lvAll (yC y) p.toNatClampNeg d).2, wC (wR y) (lvAll (yC y) p.toNatClampNeg d).1) else (2, 0, y)) else (1, 0, y)
def oRun (y : Sy) (n : Int32) : Int32 × Int32 × Sy := if rngI n 1 30 = true then (0, cSc (runTo (yC y) n.toNatClampNeg) 6 - cSc (yC y) 6, wC (wR y) (runTo (yC y) n.toNatClampNeg)) else (1, 0, y)
section AC
variable {G : GG} {l : Launch} {w0 w : Wd} {A : Nat → Nat} {rf : Int32} {y : Sy}
theorem c_hire {x : Int32} {Q : Int32 → Wd → Prop} (hi : Inj A) (h : MW w0 A rf y w) (hq : ∀ w2, MW w0 A (oHire y x).1 (oHire y x).2.2 w2 → Q (oHire y x).2.1 w2) : CX6_hire G l [.ref (A 0), .int x] w Q := by
  obtain ⟨sp, ou, h⟩ := h
  unfold oHire at hq
  obtain ⟨g, hg, hc⟩ := h.n
  have hb := hc.b0
  have bad : ∀ v : Int32, 0 < v → (∀ w2, MW w0 A v y w2 → Q 0 w2) → KX6_hire G l w (ZI G 0 0 w Q) w 32 [(0, .ref (A 0)), (1, .int x)] [.int v, .ref (A 0)] := fun v hv hq => by
    refine bX6_hire_32 h.o (c_refused hi h (fun w3 h3 => ?_)) (fun _ _ h => h)
    rw [decide_eq_true hv]
    exact bX6_hire_35 (fun z => absurd z (by decide)) (fun _ => bX6_hire_38 (hq w3 h3.mw))
  refine sX6_hire (bX6_hire_0 (c_in ?_) (fun _ _ h => h))
  rw [in_R (a := 1) (b := 20) rfl rfl]
  by_cases q1 : rngI x 1 20 = true
  · rw [if_pos q1] at hq
    rw [q1]
    refine bX6_hire_10 (fun _ => ?_) (fun z => absurd z (by decide))
    refine bX6_hire_17 h.o rfl (c_canHire hg hc ?_) (fun _ _ h => h)
    by_cases q2 : (cPs (yC y)).length < 6
    · rw [if_pos q2] at hq
      rw [decide_eq_true q2]
      refine bX6_hire_24 (fun z => absurd z (by decide)) (fun _ => bX6_hire_27 ?_)
      refine bX6_hire_32 h.o (c_refused hi h (fun w3 h3 => ?_)) (fun _ _ h => h)
      refine bX6_hire_35 (fun _ => ?_) (fun z => absurd rfl z)
      refine bX6_hire_40 h3.o (c_remember hi h3 (fun w4 h4 => ?_)) (fun _ h => h)
      obtain ⟨g, hg, hc⟩ := h4.n
      exact bX6_hire_44 h4.o rfl (c_hireOn hg hc q2 (fun g2 hg2 => bX6_hire_52 (hq _ (h4.setN hi hg2).mw))) (fun _ _ h => h)
    · rw [if_neg q2] at hq
      rw [decide_eq_false q2]
      exact bX6_hire_24 (fun _ => bX6_hire_31 (bad 2 (by decide) hq)) (fun z => absurd rfl z)
  · rw [if_neg q1] at hq
    rw [Bool.eq_false_iff.mpr q1]
    exact bX6_hire_10 (fun z => absurd rfl z) (fun _ => bX6_hire_13 (bad 1 (by decide) hq))
theorem c_session {a b d e f : Int32} {Q : Int32 → Wd → Prop} (hi : Inj A) (h : MW w0 A rf y w) (hq : ∀ w2, MW w0 A (oSess y a b d e f).1 (oSess y a b d e f).2.2 w2 → Q (oSess y a b d e f).2.1 w2) : CX6_session G l [.ref (A 0), .int a, .int b, .int d, .int e, .int f] w Q := by
  obtain ⟨sp, ou, h⟩ := h
  unfold oSess at hq
  obtain ⟨g, hg, hc⟩ := h.n
  have hb := hc.b1
  have bad : ∀ v : Int32, 0 < v → (∀ w2, MW w0 A v y w2 → Q 0 w2) → KX6_session G l w (ZI G 0 0 w Q) w 65 [(0, .ref (A 0)), (1, .int a), (2, .int b), (3, .int d), (4, .int e), (5, .int f)] [.int v, .ref (A 0)] := fun v hv hq => by
    refine bX6_session_65 h.o (c_refused hi h (fun w3 h3 => ?_)) (fun _ _ h => h)
    rw [decide_eq_true hv]
    exact bX6_session_68 (fun z => absurd z (by decide)) (fun _ => bX6_session_71 (hq w3 h3.mw))
  refine sX6_session (bX6_session_0 (c_isRoom ?_) (fun _ _ h => h))
  by_cases q1 : rngI a 0 4 = true
  · rw [if_pos q1] at hq
    rw [q1]
    refine bX6_session_5 (fun _ => ?_) (fun z => absurd z (by decide))
    refine bX6_session_12 h.o rfl (c_isTime hg hc ?_) (fun _ _ h => h)
    by_cases q2 : isTm (yC y) b d e = true
    · rw [q2]
      refine bX6_session_23 (fun z => absurd z (by decide)) (fun _ => ?_)
      refine bX6_session_26 (c_in ?_) (fun _ _ h => h)
      rw [in_R (a := 1) (b := 9) rfl rfl]
      by_cases q3 : rngI f 1 9 = true
      · rw [if_pos ⟨q2, q3⟩] at hq
        rw [q3]
        refine bX6_session_36 (fun _ => ?_) (fun z => absurd z (by decide))
        refine bX6_session_43 h.o rfl (c_isNew hg hc ?_) (fun _ _ h => h)
        by_cases q4 : isNw (yC y) a b d e f = true
        · rw [if_pos q4] at hq
          rw [q4]
          refine bX6_session_57 (fun z => absurd z (by decide)) (fun _ => bX6_session_60 ?_)
          refine bX6_session_65 h.o (c_refused hi h (fun w3 h3 => ?_)) (fun _ _ h => h)
          refine bX6_session_68 (fun _ => ?_) (fun z => absurd rfl z)
          refine bX6_session_73 h3.o (c_remember hi h3 (fun w4 h4 => ?_)) (fun _ h => h)
          obtain ⟨g, hg, hc⟩ := h4.n
          have hl : (cSs (yC y)).length < 16 := by
            unfold isNw at q4
            simp only [Bool.and_eq_true, decide_eq_true_eq] at q4
            exact q4.2.2.2.1
          exact bX6_session_77 h4.o rfl (c_insert hg hc hl (fun g2 hg2 => bX6_session_92 (hq _ (h4.setN hi hg2).mw))) (fun _ _ h => h)
        · rw [if_neg q4] at hq
          rw [Bool.eq_false_iff.mpr q4]
          exact bX6_session_57 (fun _ => bX6_session_64 (bad 3 (by decide) hq)) (fun z => absurd rfl z)
      · rw [if_neg (fun z => q3 z.2)] at hq
        rw [Bool.eq_false_iff.mpr q3]
        exact bX6_session_36 (fun z => absurd rfl z) (fun _ => bX6_session_39 (bad 2 (by decide) hq))
    · rw [if_neg (fun z => q2 z.1)] at hq
      rw [Bool.eq_false_iff.mpr q2]
      exact bX6_session_23 (fun _ => bX6_session_39 (bad 2 (by decide) hq)) (fun z => absurd rfl z)
  · rw [if_neg q1] at hq
    rw [Bool.eq_false_iff.mpr q1]
    exact bX6_session_5 (fun z => absurd rfl z) (fun _ => bX6_session_8 (bad 1 (by decide) hq))
theorem c_cancel {k : Int32} {Q : Int32 → Wd → Prop} (hi : Inj A) (h : MW w0 A rf y w) (hq : ∀ w2, MW w0 A (oCanc y k).1 (oCanc y k).2.2 w2 → Q (oCanc y k).2.1 w2) : CX6_cancel G l [.ref (A 0), .int k] w Q := by
  obtain ⟨sp, ou, h⟩ := h
  unfold oCanc at hq
  obtain ⟨g, hg, hc⟩ := h.n
  have hb := hc.b1
  have bad : ∀ v : Int32, 0 < v → (∀ w2, MW w0 A v y w2 → Q 0 w2) → KX6_cancel G l w (ZI G 0 0 w Q) w 17 [(0, .ref (A 0)), (1, .int k)] [.int v, .ref (A 0)] := fun v hv hq => by
    refine bX6_cancel_17 h.o (c_refused hi h (fun w3 h3 => ?_)) (fun _ _ h => h)
    rw [decide_eq_true hv]
    exact bX6_cancel_20 (fun z => absurd z (by decide)) (fun _ => bX6_cancel_23 (hq w3 h3.mw))
  refine sX6_cancel (bX6_cancel_0 h.o rfl (c_isSession hg hc ?_) (fun _ _ h => h))
  by_cases q1 : inN k (cSs (yC y)).length = true
  · rw [if_pos q1] at hq
    rw [q1]
    obtain ⟨k1, k2⟩ := inN_k q1 (by omega)
    refine bX6_cancel_9 (fun z => absurd z (by decide)) (fun _ => bX6_cancel_12 ?_)
    refine bX6_cancel_17 h.o (c_refused hi h (fun w3 h3 => ?_)) (fun _ _ h => h)
    refine bX6_cancel_20 (fun _ => ?_) (fun z => absurd rfl z)
    refine bX6_cancel_25 h3.o (c_remember hi h3 (fun w4 h4 => ?_)) (fun _ h => h)
    obtain ⟨g, hg, hc⟩ := h4.n
    exact bX6_cancel_29 h4.o rfl (c_removeOn hg hc k2 k1 (fun g2 hg2 => bX6_cancel_37 (hq _ (h4.setN hi hg2).mw))) (fun _ _ h => h)
  · rw [if_neg q1] at hq
    rw [Bool.eq_false_iff.mpr q1]
    exact bX6_cancel_9 (fun _ => bX6_cancel_16 (bad 1 (by decide) hq)) (fun z => absurd rfl z)
theorem c_give {k p : Int32} {Q : Int32 → Wd → Prop} (hi : Inj A) (h : MW w0 A rf y w) (hq : ∀ w2, MW w0 A (oGive y k p).1 (oGive y k p).2.2 w2 → Q (oGive y k p).2.1 w2) : CX6_give G l [.ref (A 0), .int k, .int p] w Q := by
  obtain ⟨sp, ou, h⟩ := h
  unfold oGive at hq
  obtain ⟨g, hg, hc⟩ := h.n
  have hb := hc.b1
  have hb0 := hc.b0
  have bad : ∀ v : Int32, 0 < v → (∀ w2, MW w0 A v y w2 → Q 0 w2) → KX6_give G l w (ZI G 0 0 w Q) w 49 [(0, .ref (A 0)), (1, .int k), (2, .int p)] [.int v, .ref (A 0)] := fun v hv hq => by
    refine bX6_give_49 h.o (c_refused hi h (fun w3 h3 => ?_)) (fun _ _ h => h)
    rw [decide_eq_true hv]
    exact bX6_give_52 (fun z => absurd z (by decide)) (fun _ => bX6_give_55 (hq w3 h3.mw))
  refine sX6_give (bX6_give_0 h.o rfl (c_isSession hg hc ?_) (fun _ _ h => h))
  by_cases q1 : inN k (cSs (yC y)).length = true
  · rw [q1]
    obtain ⟨k1, k2⟩ := inN_k q1 (by omega)
    refine bX6_give_9 (fun z => absurd z (by decide)) (fun _ => ?_)
    have j32 : (p = -1 ∨ inN p (cPs (yC y)).length = true) → KX6_give G l w (ZI G 0 0 w Q) w 32 [(0, .ref (A 0)), (1, .int k), (2, .int p)] [.ref (A 0)] := fun hp => by
      rw [if_pos ⟨q1, hp⟩] at hq
      have hp2 : p = -1 ∨ ∃ p9, p9 < (cPs (yC y)).length ∧ p = nI p9 := hp.imp_right (fun z => ⟨_, (inN_k z (by omega)).1, (inN_k z (by omega)).2⟩)
      refine bX6_give_32 h.o rfl (c_canGive hg hc k2 k1 hp2 (fun b hb9 => ?_)) (fun _ _ h => h)
      have hb2 : b = true ↔ (p = -1 ∨ why (yC y) k.toNatClampNeg p.toNatClampNeg = 0) := by
        rw [hb9]
        constructor
        · rintro (e | ⟨p9, hp9, e, hw9⟩)
          · exact Or.inl e
          · refine Or.inr ?_
            rw [e, nI_clamp (by omega)]; exact hw9
        · rintro (e | e)
          · exact Or.inl e
          · rcases hp with z | z
            · exact Or.inl z
            · exact Or.inr ⟨_, (inN_k z (by omega)).1, (inN_k z (by omega)).2, e⟩
      cases b with
      | true =>
        rw [if_pos (hb2.mp rfl)] at hq
        refine bX6_give_41 (fun z => absurd z (by decide)) (fun _ => bX6_give_44 ?_)
        refine bX6_give_49 h.o (c_refused hi h (fun w3 h3 => ?_)) (fun _ _ h => h)
        refine bX6_give_52 (fun _ => ?_) (fun z => absurd rfl z)
        refine bX6_give_57 h3.o (c_remember hi h3 (fun w4 h4 => ?_)) (fun _ h => h)
        obtain ⟨g, hg, hc⟩ := h4.n
        exact bX6_give_61 h4.o rfl (c_giveOn hg hc k2 k1 (fun g2 hg2 => bX6_give_70 (hq _ (h4.setN hi hg2).mw))) (fun _ _ h => h)
      | false =>
        rw [if_neg (fun z => Bool.false_ne_true (hb2.mpr z))] at hq
        exact bX6_give_41 (fun _ => bX6_give_48 (bad 2 (by decide) hq)) (fun z => absurd rfl z)
    refine bX6_give_12 (fun z => j32 (Or.inl z)) (fun z => ?_)
    refine bX6_give_17 h.o rfl (c_isPerson hg hc ?_) (fun _ _ h => h)
    refine bX6_give_25 (fun z2 => j32 (Or.inr (bI_n0.mp z2))) (fun z2 => bX6_give_28 ?_)
    have z3 := bI_0.mp z2
    rw [if_neg (fun z4 => z4.2.elim z (fun z5 => by rw [z3] at z5; exact Bool.false_ne_true z5))] at hq
    exact bad 1 (by decide) hq
  · rw [if_neg (fun z => q1 z.1)] at hq
    rw [Bool.eq_false_iff.mpr q1]
    exact bX6_give_9 (fun _ => bX6_give_28 (bad 1 (by decide) hq)) (fun z => absurd rfl z)
theorem c_giveAll {Q : Int32 → Wd → Prop} (hi : Inj A) (h : MW w0 A rf y w) (hq : ∀ w2, MW w0 A (oGvA y).1 (oGvA y).2.2 w2 → Q (oGvA y).2.1 w2) : CX6_giveAll G l [.ref (A 0)] w Q := by
  obtain ⟨sp, ou, h⟩ := h
  unfold oGvA at hq
  have h3 := h.setO hi 0 sp ou
  refine sX6_giveAll (bX6_giveAll_0 h.o (mf_l (by decide)) mf_0 (c_remember hi h3 (fun w4 h4 => ?_)) (fun _ h => h))
  obtain ⟨g, hg, hc⟩ := h4.n
  exact bX6_giveAll_9 h4.o rfl (c_giveAllOn hg hc (fun g2 hg2 => bX6_giveAll_16 (hq _ (h4.setN hi hg2).mw))) (fun _ _ h => h)
theorem c_leave {p d : Int32} {Q : Int32 → Wd → Prop} (hi : Inj A) (h : MW w0 A rf y w) (hq : ∀ w2, MW w0 A (oLeav y p d).1 (oLeav y p d).2.2 w2 → Q (oLeav y p d).2.1 w2) : CX6_leave G l [.ref (A 0), .int p, .int d] w Q := by
  obtain ⟨sp, ou, h⟩ := h
  unfold oLeav at hq
  obtain ⟨g, hg, hc⟩ := h.n
  have hb := hc.b0
  have bad : ∀ v : Int32, 0 < v → (∀ w2, MW w0 A v y w2 → Q 0 w2) → KX6_leave G l w (ZI G 0 0 w Q) w 33 [(0, .ref (A 0)), (1, .int p), (2, .int d)] [.int v, .ref (A 0)] := fun v hv hq => by
    refine bX6_leave_33 h.o (c_refused hi h (fun w3 h3 => ?_)) (fun _ _ h => h)
    rw [decide_eq_true hv]
    exact bX6_leave_36 (fun z => absurd z (by decide)) (fun _ => bX6_leave_39 (hq w3 h3.mw))
  refine sX6_leave (bX6_leave_0 h.o rfl (c_isPerson hg hc ?_) (fun _ _ h => h))
  by_cases q1 : inN p (cPs (yC y)).length = true
  · rw [if_pos q1] at hq
    rw [q1]
    obtain ⟨k1, k2⟩ := inN_k q1 (by omega)
    refine bX6_leave_9 (fun _ => ?_) (fun z => absurd z (by decide))
    refine bX6_leave_16 (c_in ?_) (fun _ _ h => h)
    rw [in_R (a := 0) (b := 30) rfl rfl]
    by_cases q2 : rngI d 0 30 = true
    · rw [if_pos q2] at hq
      rw [q2]
      refine bX6_leave_25 (fun z => absurd z (by decide)) (fun _ => bX6_leave_28 ?_)
      refine bX6_leave_33 h.o (c_refused hi h (fun w3 h3 => ?_)) (fun _ _ h => h)
      refine bX6_leave_36 (fun _ => ?_) (fun z => absurd rfl z)
      refine bX6_leave_41 h3.o (c_remember hi h3 (fun w4 h4 => ?_)) (fun _ h => h)
      obtain ⟨g, hg, hc⟩ := h4.n
      exact bX6_leave_45 h4.o rfl (c_leaveOn hg hc k2 k1 (fun g2 hg2 => bX6_leave_54 (hq _ (h4.setN hi hg2).mw))) (fun _ _ h => h)
    · rw [if_neg q2] at hq
      rw [Bool.eq_false_iff.mpr q2]
      exact bX6_leave_25 (fun _ => bX6_leave_32 (bad 2 (by decide) hq)) (fun z => absurd rfl z)
  · rw [if_neg q1] at hq
    rw [Bool.eq_false_iff.mpr q1]
    exact bX6_leave_9 (fun z => absurd rfl z) (fun _ => bX6_leave_12 (bad 1 (by decide) hq))
theorem c_run {n : Int32} {Q : Int32 → Wd → Prop} (hi : Inj A) (h : MW w0 A rf y w) (hq : ∀ w2, MW w0 A (oRun y n).1 (oRun y n).2.2 w2 → Q (oRun y n).2.1 w2) : CX6_run G l [.ref (A 0), .int n] w Q := by
  obtain ⟨sp, ou, h⟩ := h
  unfold oRun at hq
  have bad : ∀ v : Int32, 0 < v → (∀ w2, MW w0 A v y w2 → Q 0 w2) → KX6_run G l w (ZI G 0 0 w Q) w 18 [(0, .ref (A 0)), (1, .int n)] [.int v, .ref (A 0)] := fun v hv hq => by
    refine bX6_run_18 h.o (c_refused hi h (fun w3 h3 => ?_)) (fun _ _ h => h)
    rw [decide_eq_true hv]
    exact bX6_run_21 (fun z => absurd z (by decide)) (fun _ => bX6_run_24 (hq w3 h3.mw))
  refine sX6_run (bX6_run_0 (c_in ?_) (fun _ _ h => h))
  rw [in_R (a := 1) (b := 30) rfl rfl]
  by_cases q1 : rngI n 1 30 = true
  · rw [if_pos q1] at hq
    rw [q1]
    have q2 := rngI_iff.mp q1
    obtain ⟨e, hk, ei⟩ := rng_k (x := n) (b := 30) (rngI_iff.mpr ⟨by omega, q2.2⟩)
    refine bX6_run_10 (fun z => absurd z (by decide)) (fun _ => bX6_run_13 ?_)
    refine bX6_run_18 h.o (c_refused hi h (fun w3 h3 => ?_)) (fun _ _ h => h)
    refine bX6_run_21 (fun _ => ?_) (fun z => absurd rfl z)
    refine bX6_run_26 h3.o (c_remember hi h3 (fun w4 h4 => ?_)) (fun _ h => h)
    obtain ⟨g, hg, hc⟩ := h4.n
    exact bX6_run_30 h4.o rfl (c_runOn hg hc e (by omega) (fun g2 hg2 => bX6_run_38 (hq _ (h4.setN hi hg2).mw))) (fun _ _ h => h)
  · rw [if_neg q1] at hq
    rw [Bool.eq_false_iff.mpr q1]
    exact bX6_run_10 (fun _ => bX6_run_17 (bad 1 (by decide) hq)) (fun z => absurd rfl z)
end AC
