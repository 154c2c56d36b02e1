/-! WHAT THERE IS: looks -/
section LK2
variable {G : GG} {l : Launch} {w0 w : Wd} {A : Nat → Nat} {rf : Int32} {y : Sy}
theorem c_about {x : Int32} {Q : Int32 → Wd → Prop} (hi : Inj A) (h : MW w0 A rf y w) (hq : ∀ w2, MW w0 A (oAbout y x).1 (oAbout y x).2.2 w2 → Q (oAbout y x).2.1 w2) : CX6_about G l [.ref (A 0), .int x] w Q := by
  obtain ⟨sp, ou, h⟩ := h
  unfold oAbout at hq
  refine sX6_about (bX6_about_0 (c_in ?_) (fun _ _ h => h))
  rw [in_R (a := 0) (b := 10) rfl rfl]
  by_cases q1 : rngI x 0 10 = true
  · rw [if_pos q1] at hq
    rw [q1]
    refine bX6_about_10 (fun z => absurd z (by decide)) (fun _ => bX6_about_13 ?_)
    refine bX6_about_18 h.o (c_refused hi h (fun w3 h3 => ?_)) (fun _ _ h => h)
    refine bX6_about_21 (fun _ => ?_) (fun z => absurd rfl z)
    obtain ⟨e, hk, ei⟩ := rng_k (b := 10) q1
    obtain ⟨g, hg, hc⟩ := h3.n
    have hq := hq w3 h3.mw
    have j64 : ∀ i, i < 2 → x = nI i → abt (yC y) i = g i → Q (g i) w3 → KX6_about G l w (ZI G 0 0 w Q) w3 64 [(0, .ref (A 0)), (1, .int x)] [] := fun i hi2 hx _ hQ => by
      refine bX6_about_64 h3.o rfl hg (ix_of hx (by omega) (by decide)) ?_
      rw [cl_of hx (by omega)]; exact hQ
    have j104 : ∀ i, 3 ≤ i → i < 13 → (4 + x) - 6 = nI i → Q (cSc (yC y) i) w3 → KX6_about G l w (ZI G 0 0 w Q) w3 104 [(0, .ref (A 0)), (1, .int x)] [] := fun i h1 h2 hx hQ => by
      refine bX6_about_104 h3.o rfl hg (ix_of hx (by omega) (by decide)) ?_
      rw [cl_of hx (by omega), hc.sc i h1 h2]; exact hQ
    generalize x.toNatClampNeg = k at e hk ei hq
    match k, hk with
    | 0, _ => exact bX6_about_26_0 ei (j64 0 (by decide) e hc.1.symm (by rw [hc.1]; exact hq))
    | 1, _ => exact bX6_about_26_1 ei (j64 1 (by decide) e hc.2.1.symm (by rw [hc.2.1]; exact hq))
    | 2, _ => exact bX6_about_26_2 ei (bX6_about_71 h3.o rfl hg (vlit rfl) (by rw [show g ((3 : Int32).toNatClampNeg) = cSc (yC y) 3 from hc.sc 3 (by decide) (by decide)]; exact hq))
    | 3, _ => exact bX6_about_26_3 ei (bX6_about_78 h3.o rfl (c_sessionsOf hg hc hq) (fun _ _ h => bX6_about_86 h))
    | 4, _ => exact bX6_about_26_4 ei (bX6_about_87 h3.o rfl hg (vlit rfl) (by rw [hc.n2]; exact hq))
    | 5, _ => exact bX6_about_26_5 ei (bX6_about_94 h3.o rfl (c_onDesk hg hc hq) (fun _ _ h => bX6_about_103 h))
    | 6, _ => exact bX6_about_26_d (by omega) (j104 4 (by decide) (by decide) (by rw [e]; rfl) hq)
    | 7, _ => exact bX6_about_26_d (by omega) (j104 5 (by decide) (by decide) (by rw [e]; rfl) hq)
    | 8, _ => exact bX6_about_26_d (by omega) (j104 6 (by decide) (by decide) (by rw [e]; rfl) hq)
    | 9, _ => exact bX6_about_26_d (by omega) (j104 7 (by decide) (by decide) (by rw [e]; rfl) hq)
    | 10, _ => exact bX6_about_26_d (by omega) (j104 8 (by decide) (by decide) (by rw [e]; rfl) hq)
    | k + 11, hk => omega
  · rw [if_neg q1] at hq
    rw [Bool.eq_false_iff.mpr q1]
    refine bX6_about_10 (fun _ => bX6_about_17 ?_) (fun z => absurd rfl z)
    refine bX6_about_18 h.o (c_refused hi h (fun w3 h3 => ?_)) (fun _ _ h => h)
    exact bX6_about_21 (fun z => absurd z (by decide)) (fun _ => bX6_about_24 (hq w3 h3.mw))
theorem c_stenographer {p x : Int32} {Q : Int32 → Wd → Prop} (hi : Inj A) (h : MW w0 A rf y w) (hq : ∀ w2, MW w0 A (oSten y p x).1 (oSten y p x).2.2 w2 → Q (oSten y p x).2.1 w2) : CX6_stenographer G l [.ref (A 0), .int p, .int x] w Q := by
  obtain ⟨sp, ou, h⟩ := h
  unfold oSten at hq
  obtain ⟨g, hg, hc⟩ := h.n
  have hb := hc.b0
  refine sX6_stenographer (bX6_stenographer_0 h.o rfl (c_isPerson hg hc ?_) (fun _ _ h => h))
  have bad : ∀ v : Int32, 0 < v → (∀ w2, MW w0 A v y w2 → Q 0 w2) → KX6_stenographer G l w (ZI G 0 0 w Q) w 33 [(0, .ref (A 0)), (1, .int p), (2, .int x)] [.int v, .ref (A 0)] := fun v hv hq => by
    refine bX6_stenographer_33 h.o (c_refused hi h (fun w3 h3 => ?_)) (fun _ _ h => h)
    rw [decide_eq_true hv]
    exact bX6_stenographer_36 (fun z => absurd z (by decide)) (fun _ => bX6_stenographer_39 (hq w3 h3.mw))
  by_cases q0 : inN p (cPs (yC y)).length = true
  · rw [if_pos q0] at hq
    rw [q0]
    refine bX6_stenographer_9 (fun _ => ?_) (fun z => absurd z (by decide))
    refine bX6_stenographer_16 (c_in ?_) (fun _ _ h => h)
    rw [in_R (a := 0) (b := 6) rfl rfl]
    by_cases q1 : rngI x 0 6 = true
    · rw [if_pos q1] at hq
      rw [q1]
      refine bX6_stenographer_25 (fun z => absurd z (by decide)) (fun _ => bX6_stenographer_28 ?_)
      refine bX6_stenographer_33 h.o (c_refused hi h (fun w3 h3 => ?_)) (fun _ _ h => h)
      refine bX6_stenographer_36 (fun _ => ?_) (fun z => absurd rfl z)
      obtain ⟨e, hk, ei⟩ := rng_k (b := 6) q1
      obtain ⟨p1, p2⟩ := inN_k q0 (by omega)
      obtain ⟨g, hg, hc⟩ := h3.n
      have hq := hq w3 h3.mw
      generalize p.toNatClampNeg = p9 at hq p1 p2
      have hP := hc.P p1
      have j80 : ∀ i, i < 2 → x = nI i → Q (tf (pg (cPs (yC y)) p9) i) w3 → KX6_stenographer G l w (ZI G 0 0 w Q) w3 80 [(0, .ref (A 0)), (1, .int p), (2, .int x)] [] := fun i hi2 hx hQ => by
        have e9 : 13 + 3 * p + x = nI (13 + 3 * p9 + i) := by rw [p2, hx, show (13 : Int32) = nI 13 from rfl, show (3 : Int32) = nI 3 from rfl, nI_mul, nI_add, nI_add]
        refine bX6_stenographer_80 h3.o rfl hg (ix_of e9 (by omega) (by decide)) ?_
        rw [cl_of e9 (by omega)]
        have e8 : g (13 + 3 * p9 + i) = tf (pg (cPs (yC y)) p9) i := by
          rw [← hP]
          match i, hi2 with
          | 0, _ => rfl
          | 1, _ => rfl
        rw [e8]; exact hQ
      have j103 : ∀ f : Int32, (f = if x = 4 then 1 else 0) → Q (dsk (cTs (yC y)) p f) w3 → KX6_stenographer G l w (ZI G 0 0 w Q) w3 103 [(0, .ref (A 0)), (1, .int p), (2, .int x)] [] := fun f hf hQ => by
        refine bX6_stenographer_103 h3.o rfl (fun z => bX6_stenographer_117 ?_) (fun z => bX6_stenographer_113 ?_)
        · rw [if_neg z] at hf; subst hf
          exact bX6_stenographer_118 (c_onDesk hg hc hQ) (fun _ _ h => bX6_stenographer_121 h)
        · rw [if_pos z] at hf; subst hf
          exact bX6_stenographer_118 (c_onDesk hg hc hQ) (fun _ _ h => bX6_stenographer_121 h)
      generalize x.toNatClampNeg = k at e hk ei hq
      match k, hk with
      | 0, _ => exact bX6_stenographer_41_0 ei (j80 0 (by decide) e hq)
      | 1, _ => exact bX6_stenographer_41_1 ei (j80 1 (by decide) e hq)
      | 2, _ => exact bX6_stenographer_41_2 ei (bX6_stenographer_94 h3.o rfl (c_sessionsOf hg hc (by rw [p2]; exact hq)) (fun _ _ h => bX6_stenographer_102 h))
      | 3, _ => exact bX6_stenographer_41_3 ei (j103 0 (by rw [e]; rfl) (by rw [p2]; exact hq))
      | 4, _ => exact bX6_stenographer_41_4 ei (j103 1 (by rw [e]; rfl) (by rw [p2]; exact hq))
      | 5, _ =>
        refine bX6_stenographer_41_5 ei (bX6_stenographer_122 h3.o rfl hg (vlit rfl) (c_slots hg hc ?_) (fun _ _ h => h))
        rw [show g ((3 : Int32).toNatClampNeg) = cSc (yC y) 3 from hc.sc 3 (by decide) (by decide), p2]
        exact bX6_stenographer_137 (c_count hq) (fun _ _ h => bX6_stenographer_140 h)
      | 6, _ =>
        have e9 : 13 + 3 * p + 2 = nI (13 + 3 * p9 + 2) := by rw [p2, show (13 : Int32) = nI 13 from rfl, show (3 : Int32) = nI 3 from rfl, show (2 : Int32) = nI 2 from rfl, nI_mul, nI_add, nI_add]
        refine bX6_stenographer_41_d (by omega) (bX6_stenographer_141 h3.o rfl hg (ix_of e9 (by omega) (by decide)) ?_)
        rw [cl_of e9 (by omega)]
        have e8 : g (13 + 3 * p9 + 2) = tf (pg (cPs (yC y)) p9) 2 := by rw [← hP]; rfl
        rw [e8]; exact hq
      | k + 7, hk => omega
    · rw [if_neg q1] at hq
      rw [Bool.eq_false_iff.mpr q1]
      exact bX6_stenographer_25 (fun _ => bX6_stenographer_32 (bad 2 (by decide) hq)) (fun z => absurd rfl z)
  · rw [if_neg q0] at hq
    rw [Bool.eq_false_iff.mpr q0]
    exact bX6_stenographer_9 (fun z => absurd rfl z) (fun _ => bX6_stenographer_12 (bad 1 (by decide) hq))
theorem c_sessionOf {p x : Int32} {Q : Int32 → Wd → Prop} (hi : Inj A) (h : MW w0 A rf y w) (hq : ∀ w2, MW w0 A (oSesOf y p x).1 (oSesOf y p x).2.2 w2 → Q (oSesOf y p x).2.1 w2) : CX6_sessionOf G l [.ref (A 0), .int p, .int x] w Q := by
  obtain ⟨sp, ou, h⟩ := h
  unfold oSesOf at hq
  obtain ⟨g, hg, hc⟩ := h.n
  have hb := hc.b1
  refine sX6_sessionOf (bX6_sessionOf_0 h.o rfl (c_isSession hg hc ?_) (fun _ _ h => h))
  have bad : ∀ v : Int32, 0 < v → (∀ w2, MW w0 A v y w2 → Q 0 w2) → KX6_sessionOf G l w (ZI G 0 0 w Q) w 33 [(0, .ref (A 0)), (1, .int p), (2, .int x)] [.int v, .ref (A 0)] := fun v hv hq => by
    refine bX6_sessionOf_33 h.o (c_refused hi h (fun w3 h3 => ?_)) (fun _ _ h => h)
    rw [decide_eq_true hv]
    exact bX6_sessionOf_36 (fun z => absurd z (by decide)) (fun _ => bX6_sessionOf_39 (hq w3 h3.mw))
  by_cases q0 : inN p (cSs (yC y)).length = true
  · rw [if_pos q0] at hq
    rw [q0]
    refine bX6_sessionOf_9 (fun _ => ?_) (fun z => absurd z (by decide))
    refine bX6_sessionOf_16 (c_in ?_) (fun _ _ h => h)
    rw [in_R (a := 0) (b := 5) rfl rfl]
    by_cases q1 : rngI x 0 5 = true
    · rw [if_pos q1] at hq
      rw [q1]
      refine bX6_sessionOf_25 (fun z => absurd z (by decide)) (fun _ => bX6_sessionOf_28 ?_)
      refine bX6_sessionOf_33 h.o (c_refused hi h (fun w3 h3 => ?_)) (fun _ _ h => h)
      refine bX6_sessionOf_36 (fun _ => ?_) (fun z => absurd rfl z)
      obtain ⟨e, hk, ei⟩ := rng_k (b := 5) q1
      obtain ⟨p1, p2⟩ := inN_k q0 (by omega)
      obtain ⟨g, hg, hc⟩ := h3.n
      refine bX6_sessionOf_41 h3.o rfl (c_of hg p2 e (by omega) (by omega) ?_) (fun _ _ h => bX6_sessionOf_50 h)
      rw [hc.S p1]
      exact hq w3 h3.mw
    · rw [if_neg q1] at hq
      rw [Bool.eq_false_iff.mpr q1]
      exact bX6_sessionOf_25 (fun _ => bX6_sessionOf_32 (bad 2 (by decide) hq)) (fun z => absurd rfl z)
  · rw [if_neg q0] at hq
    rw [Bool.eq_false_iff.mpr q0]
    exact bX6_sessionOf_9 (fun z => absurd rfl z) (fun _ => bX6_sessionOf_12 (bad 1 (by decide) hq))
theorem c_setting {x : Int32} {Q : Int32 → Wd → Prop} (hi : Inj A) (h : MW w0 A rf y w) (hq : ∀ w2, MW w0 A (oSetg y x).1 (oSetg y x).2.2 w2 → Q (oSetg y x).2.1 w2) : CX6_setting G l [.ref (A 0), .int x] w Q := by
  obtain ⟨sp, ou, h⟩ := h
  unfold oSetg at hq
  refine sX6_setting (bX6_setting_0 (c_in ?_) (fun _ _ h => h))
  rw [in_R (a := 0) (b := 3) rfl rfl]
  by_cases q1 : rngI x 0 3 = true
  · rw [if_pos q1] at hq
    rw [q1]
    refine bX6_setting_10 (fun z => absurd z (by decide)) (fun _ => bX6_setting_13 ?_)
    refine bX6_setting_18 h.o (c_refused hi h (fun w3 h3 => ?_)) (fun _ _ h => h)
    refine bX6_setting_21 (fun _ => ?_) (fun z => absurd rfl z)
    obtain ⟨e, hk, ei⟩ := rng_k (b := 3) q1
    obtain ⟨g, hg, hc⟩ := h3.n
    have e9 : 9 + x = nI (9 + x.toNatClampNeg) := by rw [← nI_add, ← e]; rfl
    refine bX6_setting_26 h3.o rfl hg (ix_of e9 (by omega) (by decide)) ?_
    rw [cl_of e9 (by omega), hc.sc _ (by omega) (by omega)]
    exact hq w3 h3.mw
  · rw [if_neg q1] at hq
    rw [Bool.eq_false_iff.mpr q1]
    refine bX6_setting_10 (fun _ => bX6_setting_17 ?_) (fun z => absurd rfl z)
    refine bX6_setting_18 h.o (c_refused hi h (fun w3 h3 => ?_)) (fun _ _ h => h)
    exact bX6_setting_21 (fun z => absurd z (by decide)) (fun _ => bX6_setting_24 (hq w3 h3.mw))
end LK2
