/-! THE OTHER CALLS: extend, undo, save, restore -/
section RE2
variable {G : GG} {l : Launch} {w0 w : Wd} {A : Nat → Nat} {rf : Int32} {y : Sy} {T : (Nat → Int32) → Prop} {sp ou : Int32}
theorem MG.setL (hi : Inj A) (h : MG w0 A rf y T sp ou w) {j : Nat} (h7 : 7 ≤ j) (h11 : j < 11) (g : Nat → Int32) : MG w0 A rf y T sp ou (wset w (A j) (irow 16 g)) := by
  obtain ⟨f, h0, h1, h2, h3, h4, h5, h6, ⟨g7, e7⟩, ⟨g8, e8⟩, ⟨g9, e9⟩, ⟨g10, e10⟩, hnb, hrb⟩ := h
  have rd : ∀ {i : Nat}, i < 7 → wset w (A j) (irow 16 g) (A i) = w (A i) := fun h9 => wset_ne _ _ (hi.ne (by omega) h11 (by omega))
  have r7 : ∀ {i : Nat} {g9 : Nat → Int32}, i < 11 → w (A i) = some (irow 16 g9) → ∃ g, wset w (A j) (irow 16 g) (A i) = some (irow 16 g) ∨ True := fun _ _ => ⟨g, Or.inr trivial⟩
  have r : ∀ {i : Nat} {g9 : Nat → Int32}, i < 11 → w (A i) = some (irow 16 g9) → ∃ g2, wset w (A j) (irow 16 g) (A i) = some (irow 16 g2) := fun {i g9} hi11 e => by
    by_cases q : i = j
    · subst q; exact ⟨g, wset_eq _ _ _⟩
    · exact ⟨g9, (wset_ne _ _ (hi.ne hi11 h11 q)).trans e⟩
  refine ⟨fun a ha => (wset_ne _ _ (ha j h11)).trans (f a ha), (rd (by decide)).trans h0, ?_, ?_, ?_, ?_, ?_, ?_, r (by decide) e7, r (by decide) e8, r (by decide) e9, r (by decide) e10, hnb, hrb⟩
  · rw [rd (by decide)]; exact h1
  · rw [rd (by decide)]; exact h2
  · rw [rd (by decide)]; exact h3
  · rw [rd (by decide)]; exact h4
  · rw [rd (by decide)]; exact h5
  · rw [rd (by decide)]; exact h6
theorem W5_chain {m r lf ll lt lw : Nat} (hap : Ap5 m r lf ll lt lw) {w : Wd} {g g2 A0 B0 C0 D0 A2 B2 C2 D2 : Nat → Int32} (e : W5 w r lf ll lt lw g A0 B0 C0 D0 = w) : W5 w r lf ll lt lw g2 A2 B2 C2 D2 = wset (wset (wset (wset (wset w r (irow 2047 g2)) lf (irow 16 A2)) ll (irow 16 B2)) lt (irow 16 C2)) lw (irow 16 D2) := by
  have : wset (wset (wset (wset (wset (W5 w r lf ll lt lw g A0 B0 C0 D0) r (irow 2047 g2)) lf (irow 16 A2)) ll (irow 16 B2)) lt (irow 16 C2)) lw (irow 16 D2) = W5 w r lf ll lt lw g2 A2 B2 C2 D2 := by
    rw [W5_sr, W5_sf hap, W5_sl hap, W5_st hap, W5_sw hap]
  rw [e] at this
  exact this.symm
/-- a session of a row lasts longer: for the state and for the trial -/
theorem c_extW {k n : Nat} {x2 x3 : Int32} {c : Cal} {Q : Int32 → Wd → Prop} (hi : Inj A) (h : MG w0 A rf y T sp ou w) (hn : n = 2 ∨ n = 3) {g : Nat → Int32} (hg : w (A n) = some (irow 2047 g)) (hc : MRep g c) (h2 : x2 = nI k) (hk : k < (cSs c).length)
    (hq : ∀ g2 A2 B2 C2 D2, MRep g2 (extC c k x3) → Q (extL (sg (cSs c) k) x3) (wset (wset (wset (wset (wset w (A n) (irow 2047 g2)) (A 7) (irow 16 A2)) (A 8) (irow 16 B2)) (A 9) (irow 16 C2)) (A 10) (irow 16 D2))) : CX6_extendOn G l [.ref (A 0), .ref (A n), .int x2, .int x3] w Q := by
  have hap := hi.ap5 hn
  have h9 := h
  obtain ⟨f, h0, h1, -, h3, h4, h5, h6, ⟨g7, e7⟩, ⟨g8, e8⟩, ⟨g9, e9⟩, ⟨g10, e10⟩, hnb, hrb⟩ := h9
  have e := W5_of hg e7 e8 e9 e10
  have := c_extendOn (G := G) (l := l) (w := w) (A0 := g7) (B0 := g8) (C0 := g9) (D0 := g10) (n := x3) (Q := Q) hap h.o rfl rfl rfl rfl hc h2 hk (fun g2 A2 B2 C2 D2 hg2 => by
    rw [W5_chain hap e]
    exact hq g2 A2 B2 C2 D2 hg2)
  rw [e] at this
  exact this
theorem c_extend {k n : Int32} {Q : Int32 → Wd → Prop} (hi : Inj A) (h : MW w0 A rf y w) (hq : ∀ w2, MW w0 A (oExt y k n).1 (oExt y k n).2.2 w2 → Q (oExt y k n).2.1 w2) : CX6_extend G l [.ref (A 0), .int k, .int n] w Q := by
  obtain ⟨sp, ou, h⟩ := h
  unfold oExt at hq
  obtain ⟨g, hg, hc⟩ := h.n
  have hb := hc.b1
  have bad : ∀ v : Int32, 0 < v → (∀ w2, MW w0 A v y w2 → Q 0 w2) → KX6_extend G l w (ZI G 0 0 w Q) w 33 [(0, .ref (A 0)), (1, .int k), (2, .int n)] [.int v, .ref (A 0)] := fun v hv hq => by
    refine bX6_extend_33 h.o (c_refused hi h (fun w3 h3 => ?_)) (fun _ _ h => h)
    rw [decide_eq_true hv]
    exact bX6_extend_36 (fun z => absurd z (by decide)) (fun _ => bX6_extend_39 (hq w3 h3.mw))
  refine sX6_extend (bX6_extend_0 h.o rfl (c_isSession hg hc ?_) (fun _ _ h => h))
  by_cases q1 : inN k (cSs (yC y)).length = true
  · rw [if_pos q1] at hq
    rw [q1]
    obtain ⟨k1, k2⟩ := inN_k q1 (by omega)
    refine bX6_extend_9 (fun _ => ?_) (fun z => absurd z (by decide))
    refine bX6_extend_16 (c_in ?_) (fun _ _ h => h)
    rw [in_R (a := 1) (b := 16) rfl rfl]
    by_cases q2 : rngI n 1 16 = true
    · rw [if_pos q2] at hq
      rw [q2]
      refine bX6_extend_25 (fun z => absurd z (by decide)) (fun _ => bX6_extend_28 ?_)
      refine bX6_extend_33 h.o (c_refused hi h (fun w3 h3 => ?_)) (fun _ _ h => h)
      refine bX6_extend_36 (fun _ => ?_) (fun z => absurd rfl z)
      refine bX6_extend_41 h3.o (c_remember hi h3 (fun w4 h4 => ?_)) (fun _ h => h)
      obtain ⟨g, hg, hc⟩ := h4.n
      refine bX6_extend_45 h4.o rfl (c_extW hi h4 (Or.inl rfl) hg hc k2 k1 (fun g2 A2 B2 C2 D2 hg2 => bX6_extend_55 (hq _ ?_))) (fun _ _ h => h)
      exact (((((h4.setN hi hg2).setL hi (by decide) (by decide) A2).setL hi (by decide) (by decide) B2).setL hi (by decide) (by decide) C2).setL hi (by decide) (by decide) D2).mw
    · rw [if_neg q2] at hq
      rw [Bool.eq_false_iff.mpr q2]
      exact bX6_extend_25 (fun _ => bX6_extend_32 (bad 2 (by decide) hq)) (fun z => absurd rfl z)
  · rw [if_neg q1] at hq
    rw [Bool.eq_false_iff.mpr q1]
    exact bX6_extend_9 (fun z => absurd rfl z) (fun _ => bX6_extend_12 (bad 1 (by decide) hq))
theorem c_undo {Q : Int32 → Wd → Prop} (hi : Inj A) (h : MW w0 A rf y w) (hq : ∀ w2, MW w0 A (oUndo y).1 (oUndo y).2.2 w2 → Q (oUndo y).2.1 w2) : CX6_undo G l [.ref (A 0)] w Q := by
  obtain ⟨sp, ou, h⟩ := h
  unfold oUndo at hq
  have bad : ∀ v : Int32, 0 < v → (∀ w2, MW w0 A v y w2 → Q 0 w2) → KX6_undo G l w (ZI G 0 0 w Q) w 13 [(0, .ref (A 0))] [.int v, .ref (A 0)] := fun v hv hq => by
    refine bX6_undo_13 h.o (c_refused hi h (fun w3 h3 => ?_)) (fun _ _ h => h)
    rw [decide_eq_true hv]
    exact bX6_undo_16 (fun z => absurd z (by decide)) (fun _ => bX6_undo_19 (hq w3 h3.mw))
  have hrb := h.rb
  refine sX6_undo (bX6_undo_0 h.o rfl (fun z => bX6_undo_12 ?_) (fun z => bX6_undo_8 ?_))
  · have hl : ¬ (yR y).length = 0 := fun e => z (by rw [e]; rfl)
    rw [if_neg hl] at hq
    refine bX6_undo_13 h.o (c_refused hi h (fun w3 h3 => ?_)) (fun _ _ h => h)
    refine bX6_undo_16 (fun _ => ?_) (fun z => absurd rfl z)
    obtain ⟨gd, hd, hdr⟩ := h3.d
    have h4 := h3.rem hi hd ((yR y).take ((yR y).length - 1)) (by rw [List.length_take]; omega) (fun i hi2 => by
      rw [List.length_take] at hi2
      rw [rg_take _ (by omega)]
      exact hdr i (by omega))
    have e1 : ((yR y).take ((yR y).length - 1)).length = (yR y).length - 1 := by rw [List.length_take]; omega
    have e2 : nI (yR y).length - 1 = nI ((yR y).take ((yR y).length - 1)).length := by rw [e1]; exact nI_sub1 (by omega)
    have e3 : (2047 : Int32) * nI ((yR y).take ((yR y).length - 1)).length = nI (2047 * ((yR y).length - 1)) := by rw [e1, show (2047 : Int32) = nI 2047 from rfl, nI_mul]
    obtain ⟨gn, hn, -⟩ := h4.n
    have hrow := hdr ((yR y).length - 1) (by omega)
    have hd4 : (wset w3 (A 0) (.inl (5, mf A 0 (nI (yN y)) (nI ((yR y).take ((yR y).length - 1)).length) sp ou))) (A 4) = some (irow 28658 gd) := (wset_ne _ _ (hi.ne (by decide) (by decide) (by decide))).trans hd
    refine bX6_undo_21 (f3 := mf A 0 (nI (yN y)) (nI ((yR y).take ((yR y).length - 1)).length) sp ou) h3.o rfl (mf_l (by decide)) (by rw [e2]; rfl) rfl rfl rfl (c_copyState (fa := 2047 * ((yR y).length - 1)) (ta := 0) (n := (cTs (rg (yR y) ((yR y).length - 1))).length) hd4 hn (Or.inl (hi.ne (by decide) (by decide) (by decide))) e3 rfl (by omega) (by decide) (by decide) (by decide) hrow.n2 hrow.b2 ?_) (fun _ h => h)
    have h5 := h4.setN hi (hrow.cpy (g := gn)).of0
    have h6 := hq _ h5.mw
    have h7 : ∀ v : Int32, v = nI ((yR y).length - 1) → Q v (wset (wset w3 (A 0) (.inl (5, mf A 0 (nI (yN y)) (nI ((yR y).take ((yR y).length - 1)).length) sp ou))) (A 2) (irow 2047 (cpyR gd gn (2047 * ((yR y).length - 1)) 0 (127 + 3 * (cTs (rg (yR y) ((yR y).length - 1))).length)))) := fun v hv => by subst hv; exact h6
    exact bX6_undo_51 h5.o rfl (h7 _ (congrArg nI e1))
  · have hl : (yR y).length = 0 := by
      have := congrArg Int32.toInt z
      rw [nI_toInt (by omega), show (0 : Int32).toInt = 0 from rfl] at this
      omega
    rw [if_pos hl] at hq
    exact bad 1 (by decide) hq
theorem MG.svb (hi : Inj A) (h : MG w0 A rf y T sp ou w) {gk gb : Nat → Int32} {s : Nat → Option Cal} (hk : w (A 5) = some (irow 4094 gk)) (hk2 : ∀ i, i < 2 → ∀ c, s i = some c → MRep (fun k => gk (2047 * i + k)) c) (hb : ∀ i, i < 2 → gb i = bI (s i).isSome) : MG w0 A rf (y.1, y.2.1, y.2.2.1, y.2.2.2.1, s) T sp ou (wset w (A 6) (brow 2 gb)) := by
  obtain ⟨f, h0, h1, h2, h3, h4, h5, h6, h7, h8, h9, h10, hnb, hrb⟩ := h
  have rd : ∀ {i : Nat} (e : PE), i < 11 → ¬ i = 6 → ∀ w : Wd, wset w (A 6) e (A i) = w (A i) := fun e h11 he w => wset_ne _ _ (hi.ne h11 (by decide) he)
  refine ⟨fun a ha => (wset_ne _ _ (ha 6 (by decide))).trans (f a ha), (rd _ (by decide) (by decide) _).trans h0, ?_, ?_, ?_, ?_, ⟨gk, (rd _ (by decide) (by decide) _).trans hk, hk2⟩, ⟨gb, wset_eq _ _ _, hb⟩, ?_, ?_, ?_, ?_, hnb, hrb⟩
  · rw [rd _ (by decide) (by decide)]; exact h1
  · rw [rd _ (by decide) (by decide)]; exact h2
  · rw [rd _ (by decide) (by decide)]; exact h3
  · rw [rd _ (by decide) (by decide)]; exact h4
  · rw [rd _ (by decide) (by decide)]; exact h7
  · rw [rd _ (by decide) (by decide)]; exact h8
  · rw [rd _ (by decide) (by decide)]; exact h9
  · rw [rd _ (by decide) (by decide)]; exact h10
theorem c_save {s : Int32} {Q : Int32 → Wd → Prop} (hi : Inj A) (h : MW w0 A rf y w) (hq : ∀ w2, MW w0 A (oSave y s).1 (oSave y s).2.2 w2 → Q (oSave y s).2.1 w2) : CX6_save G l [.ref (A 0), .int s] w Q := by
  obtain ⟨sp, ou, h⟩ := h
  unfold oSave at hq
  have bad : ∀ v : Int32, 0 < v → (∀ w2, MW w0 A v y w2 → Q 0 w2) → KX6_save G l w (ZI G 0 0 w Q) w 16 [(0, .ref (A 0)), (1, .int s)] [.int v, .ref (A 0)] := fun v hv hq => by
    refine bX6_save_16 h.o (c_refused hi h (fun w3 h3 => ?_)) (fun _ _ h => h)
    rw [decide_eq_true hv]
    exact bX6_save_19 (fun z => absurd z (by decide)) (fun _ => bX6_save_22 (hq w3 h3.mw))
  refine sX6_save (bX6_save_0 (c_in ?_) (fun _ _ h => h))
  rw [in_R (a := 0) (b := 1) rfl rfl]
  by_cases q1 : rngI s 0 1 = true
  · rw [if_pos q1] at hq
    rw [q1]
    obtain ⟨e, hk, ei⟩ := rng_k (b := 1) q1
    refine bX6_save_8 (fun z => absurd z (by decide)) (fun _ => bX6_save_11 ?_)
    refine bX6_save_16 h.o (c_refused hi h (fun w3 h3 => ?_)) (fun _ _ h => h)
    refine bX6_save_19 (fun _ => ?_) (fun z => absurd rfl z)
    obtain ⟨gn, hn, hc⟩ := h3.n
    obtain ⟨gk, hgk, hkk⟩ := h3.k
    obtain ⟨gb, hgb, hbb⟩ := h3.b
    generalize s.toNatClampNeg = s9 at e hk ei hq
    have e1 : (2047 : Int32) * s = nI (2047 * s9) := by rw [e, show (2047 : Int32) = nI 2047 from rfl, nI_mul]
    refine bX6_save_24 h3.o rfl rfl (c_copyState (fa := 0) (ta := 2047 * s9) (n := (cTs (yC y)).length) hn hgk (Or.inl (hi.ne (by decide) (by decide) (by decide))) rfl e1 (by decide) (by omega) (by decide) (by decide) hc.n2 hc.b2 ?_) (fun _ h => h)
    -- the row of the slot, the flag as it was
    have h4 : MG w0 A 0 (wS y s9 ((yS y s9).map (fun _ => yC y))) (fun _ => True) sp ou (wset w3 (A 5) (irow 4094 (cpyR gn gk 0 (2047 * s9) (127 + 3 * (cTs (yC y)).length)))) := by
      refine h3.any.chg hi (y2 := wS y s9 ((yS y s9).map (fun _ => yC y))) (by decide) rfl (fun g q => ⟨g, rfl, q⟩) (fun g q => ⟨g, rfl, q⟩) (fun g q => ⟨g, rfl, q⟩) (fun g q => ⟨g, rfl, q⟩) (fun _ _ => ⟨_, rfl, fun i hi2 c hc2 => ?_⟩) (fun g q => ⟨g, rfl, fun i hi2 => ?_⟩) (by decide) h3.nb h3.rb
      · have hc2 : (if i = s9 then (yS y s9).map (fun _ => yC y) else yS y i) = some c := hc2
        by_cases z : i = s9
        · rw [if_pos z] at hc2
          cases hy : yS y s9 with
          | none => rw [hy] at hc2; cases hc2
          | some c9 =>
            rw [hy] at hc2
            cases hc2
            rw [z]; exact hc.at0.cpy
        · rw [if_neg z] at hc2
          exact (hkk i hi2 c hc2).keep hc.b2 (by omega)
      · show g i = bI (if i = s9 then (yS y s9).map (fun _ => yC y) else yS y i).isSome
        rw [q i hi2]
        by_cases z : i = s9
        · rw [if_pos z, z]; cases yS y s9 <;> rfl
        · rw [if_neg z]
    obtain ⟨gb, hgb, hbb⟩ := h4.b
    have h5 := h4.svb hi (gb := upd gb s9 1) (s := fun i => if i = s9 then some (yC y) else yS y i) (wset_eq _ _ _) (fun i hi2 c hc2 => by
      by_cases z : i = s9
      · rw [if_pos z] at hc2
        cases hc2
        rw [z]; exact hc.at0.cpy
      · rw [if_neg z] at hc2
        exact (hkk i hi2 c hc2).keep hc.b2 (by omega)) (fun i hi2 => by
      by_cases z : i = s9
      · rw [z, upd_eq, if_pos rfl]; rfl
      · rw [upd_ne _ _ z, if_neg z, hbb i hi2]
        show bI (if i = s9 then (yS y s9).map (fun _ => yC y) else yS y i).isSome = _
        rw [if_neg z])
    obtain ⟨gn2, hn2, hc2⟩ := h5.n
    have e9 : s.toNatClampNeg = s9 := cl_of e (by omega)
    rw [show upd gb s9 1 = upd gb s.toNatClampNeg 1 by rw [e9]] at h5 hn2
    refine bX6_save_41 h4.o rfl hgb (ix_of e (by omega) (by decide)) h5.o rfl hn2 (vlit rfl) ?_
    rw [show gn2 ((3 : Int32).toNatClampNeg) = cSc (yC y) 3 from hc2.sc 3 (by decide) (by decide)]
    exact hq _ h5.mw
  · rw [if_neg q1] at hq
    rw [Bool.eq_false_iff.mpr q1]
    exact bX6_save_8 (fun _ => bX6_save_15 (bad 1 (by decide) hq)) (fun z => absurd rfl z)
theorem c_restore {s : Int32} {Q : Int32 → Wd → Prop} (hi : Inj A) (h : MW w0 A rf y w) (hq : ∀ w2, MW w0 A (oRest y s).1 (oRest y s).2.2 w2 → Q (oRest y s).2.1 w2) : CX6_restore G l [.ref (A 0), .int s] w Q := by
  obtain ⟨sp, ou, h⟩ := h
  unfold oRest at hq
  have bad : ∀ v : Int32, 0 < v → (∀ w2, MW w0 A v y w2 → Q 0 w2) → KX6_restore G l w (ZI G 0 0 w Q) w 29 [(0, .ref (A 0)), (1, .int s)] [.int v, .ref (A 0)] := fun v hv hq => by
    refine bX6_restore_29 h.o (c_refused hi h (fun w3 h3 => ?_)) (fun _ _ h => h)
    rw [decide_eq_true hv]
    exact bX6_restore_32 (fun z => absurd z (by decide)) (fun _ => bX6_restore_35 (hq w3 h3.mw))
  refine sX6_restore (bX6_restore_0 (c_in ?_) (fun _ _ h => h))
  rw [in_R (a := 0) (b := 1) rfl rfl]
  by_cases q1 : rngI s 0 1 = true
  · rw [if_pos q1] at hq
    rw [q1]
    obtain ⟨e, hk, ei⟩ := rng_k (b := 1) q1
    refine bX6_restore_8 (fun _ => ?_) (fun z => absurd z (by decide))
    obtain ⟨gb, hgb, hbb⟩ := h.b
    have e9 : s.toNatClampNeg = s.toNatClampNeg := rfl
    have hb9 := hbb s.toNatClampNeg (by omega)
    generalize hs9 : s.toNatClampNeg = s9 at e hk ei hq hb9
    cases hy : yS y s9 with
    | none =>
      rw [hy] at hq hb9
      exact bX6_restore_15 h.o rfl hgb (ix_of e (by omega) (by decide)) (fun z => absurd (by rw [hs9]; exact hb9) z) (fun _ => bX6_restore_24 (bad 2 (by decide) hq))
    | some c =>
      rw [hy] at hq hb9
      refine bX6_restore_15 h.o rfl hgb (ix_of e (by omega) (by decide)) (fun _ => bX6_restore_28 ?_) (fun z => absurd ((by rw [hs9]; exact hb9 : gb s.toNatClampNeg = 1).symm.trans z) (by decide))
      refine bX6_restore_29 h.o (c_refused hi h (fun w3 h3 => ?_)) (fun _ _ h => h)
      refine bX6_restore_32 (fun _ => ?_) (fun z => absurd rfl z)
      obtain ⟨gn, hn, -⟩ := h3.n
      obtain ⟨gk, hgk, hkk⟩ := h3.k
      have hrow := hkk s9 (by omega) c hy
      have e1 : (2047 : Int32) * s = nI (2047 * s9) := by rw [e, show (2047 : Int32) = nI 2047 from rfl, nI_mul]
      refine bX6_restore_37 h3.o rfl rfl (c_copyState (fa := 2047 * s9) (ta := 0) (n := (cTs c).length) hgk hn (Or.inl (hi.ne (by decide) (by decide) (by decide))) e1 rfl (by omega) (by decide) (by decide) (by decide) hrow.n2 hrow.b2 ?_) (fun _ h => h)
      have h4 := h3.setN hi (hrow.cpy (g := gn)).of0
      have h5 := h4.setR0 hi
      obtain ⟨gn2, hn2, hc2⟩ := h5.n
      refine bX6_restore_54 h4.o (mf_l (by decide)) mf_6 rfl hn2 (vlit rfl) ?_
      rw [show gn2 ((3 : Int32).toNatClampNeg) = cSc c 3 from hc2.sc 3 (by decide) (by decide)]
      exact hq _ h5.mw
  · rw [if_neg q1] at hq
    rw [Bool.eq_false_iff.mpr q1]
    exact bX6_restore_8 (fun z => absurd rfl z) (fun _ => bX6_restore_11 (bad 1 (by decide) hq))
end RE2
