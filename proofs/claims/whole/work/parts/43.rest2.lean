/-! THE OTHER CALLS: extend, undo, save, restore -/
section RE2
variable {G : GG} {l : Launch} {w0 w : Wd} {A : Nat → Nat} {rf : Int32} {y : Sy} {T : (Nat → Int32) → Prop} {sp ou : Int32}
theorem MG.setL (hi : Inj A) (h : MG w0 A rf y T sp ou w) {j : Nat} (h7 : 7 ≤ j) (h11 : j < 11) (g : Nat → Int32) : MG w0 A rf y T sp ou (wset w (A j) (irow 16 g)) := by
  obtain ⟨f, h0, h1, h2, h3, h4, h5, h6, ⟨g7, e7⟩, ⟨g8, e8⟩, ⟨g9, e9⟩, ⟨g10, e10⟩, hnb, hrb⟩ := h
  have rd : ∀ {i : Nat}, i < 7 → wset w (A j) (irow 16 g) (A i) = w (A i) := fun h9 => wset_ne _ _ (hi.ne (by omega) h11 (by omega))
  have r7 : ∀ {i : Nat} {g9 : Nat → Int32}, i < 11 → w (A i) = some (irow 16 g9) → ∃ g, wset w (A j) (irow 16 g) (A i) = some (irow 16 g) ∨ True := fun _ _ => ⟨g, Or.inr trivial⟩
  have r : ∀ {i : Nat} {g9 : Nat → Int32}, i < 11 → w (A i) = some (irow 16 g9) → ∃ g2, wset w (A j) (irow 16 g) (A i) = some (irow 16 g2) := fun {i g9} hi11 e => by
    by_cases q : i = j
    · subst q; exact ⟨g, wset_eq _ _ _⟩
    · exact ⟨g9, (wset_ne _ _ (hi.ne hi11 h11 q)).trans e⟩
  refine ⟨fun a ha => (wset_ne _ _ (ha j h11)).trans (f a ha), (rd (by decide)).trans h0, ?_, ?_, ?_, ?_, ?_, ?_, r (by decide) e7, r (by decide) e8, r (by decide) e9, r (by decide) e10, hnb, hrb⟩
  · rw [rd (by decide)]; exact h1
  · rw [rd (by decide)]; exact h2
  · rw [rd (by decide)]; exact h3
  · rw [rd (by decide)]; exact h4
  · rw [rd (by decide)]; exact h5
  · rw [rd (by decide)]; exact h6
theorem W5_chain {m r lf ll lt lw : Nat} (hap : Ap5 m r lf ll lt lw) {w : Wd} {g g2 A0 B0 C0 D0 A2 B2 C2 D2 : Nat → Int32} (e : W5 w r lf ll lt lw g A0 B0 C0 D0 = w) : W5 w r lf ll lt lw g2 A2 B2 C2 D2 = wset (wset (wset (wset (wset w r (irow 2047 g2)) lf (irow 16 A2)) ll (irow 16 B2)) lt (irow 16 C2)) lw (irow 16 D2) := by
  have : wset (wset (wset (wset (wset (W5 w r lf ll lt lw g A0 B0 C0 D0) r (irow 2047 g2)) lf (irow 16 A2)) ll (irow 16 B2)) lt (irow 16 C2)) lw (irow 16 D2) = W5 w r lf ll lt lw g2 A2 B2 C2 D2 := by
    rw [W5_sr, W5_sf hap, W5_sl hap, W5_st hap, W5_sw hap]
  rw [e] at this
  exact this.symm
/-- a session of a row lasts longer: for the state and for the trial -/
theorem c_extW {k n : Nat} {x2 x3 : Int32} {c : Cal} {Q : Int32 → Wd → Prop} (hi : Inj A) (h : MG w0 A rf y T sp ou w) (hn : n = 2 ∨ n = 3) {g : Nat → Int32} (hg : w (A n) = some (irow 2047 g)) (hc : MRep g c) (h2 : x2 = nI k) (hk : k < (cSs c).length)
    (hq : ∀ g2 A2 B2 C2 D2, MRep g2 (extC c k x3) → Q (extL (sg (cSs c) k) x3) (wset (wset (wset (wset (wset w (A n) (irow 2047 g2)) (A 7) (irow 16 A2)) (A 8) (irow 16 B2)) (A 9) (irow 16 C2)) (A 10) (irow 16 D2))) : CX6_extendOn G l [.ref (A 0), .ref (A n), .int x2, .int x3] w Q := by
  have hap := hi.ap5 hn
  have h9 := h
  obtain ⟨f, h0, h1, -, h3, h4, h5, h6, ⟨g7, e7⟩, ⟨g8, e8⟩, ⟨g9, e9⟩, ⟨g10, e10⟩, hnb, hrb⟩ := h9
  have e := W5_of hg e7 e8 e9 e10
  have := c_extendOn (G := G) (l := l) (w := w) (A0 := g7) (B0 := g8) (C0 := g9) (D0 := g10) (n := x3) (Q := Q) hap h.o rfl rfl rfl rfl hc h2 hk (fun g2 A2 B2 C2 D2 hg2 => by
    rw [W5_chain hap e]
    exact hq g2 A2 B2 C2 D2 hg2)
  rw [e] at this
  exact this
theorem c_extend {k n : Int32} {Q : Int32 → Wd → Prop} (hi : Inj A) (h : MW w0 A rf y w) (hq : ∀ w2, MW w0 A (oExt y k n).1 (oExt y k n).2.2 w2 → Q (oExt y k n).2.1 w2) : CX6_extend G l [.ref (A 0), .int k, .int n] w Q := by
  obtain ⟨sp, ou, h⟩ := h
  unfold oExt at hq
  obtain ⟨g, hg, hc⟩ := h.n
  have hb := hc.b1
  have bad : ∀ v : Int32, 0 < v → (∀ w2, MW w0 A v y w2 → Q 0 w2) → KX6_extend G l w (ZI G 0 0 w Q) w 33 [(0, .ref (A 0)), (1, .int k), (2, .int n)] [.int v, .ref (A 0)] := fun v hv hq => by
    refine bX6_extend_33 h.o (c_refused hi h (fun w3 h3 => ?_)) (fun _ _ h => h)
    rw [decide_eq_true hv]
    exact bX6_extend_36 (fun z => absurd z (by decide)) (fun _ => bX6_extend_39 (hq w3 h3.mw))
  refine sX6_extend (bX6_extend_0 h.o rfl (c_isSession hg hc ?_) (fun _ _ h => h))
  by_cases q1 : inN k (cSs (yC y)).length = true
  · rw [if_pos q1] at hq
    rw [q1]
    obtain ⟨k1, k2⟩ := inN_k q1 (by omega)
    refine bX6_extend_9 (fun _ => ?_) (fun z => absurd z (by decide))
    refine bX6_extend_16 (c_in ?_) (fun _ _ h => h)
    rw [in_R (a := 1) (b := 16) rfl rfl]
    by_cases q2 : rngI n 1 16 = true
    · rw [if_pos q2] at hq
      rw [q2]
      refine bX6_extend_25 (fun z => absurd z (by decide)) (fun _ => bX6_extend_28 ?_)
      refine bX6_extend_33 h.o (c_refused hi h (fun w3 h3 => ?_)) (fun _ _ h => h)
      refine bX6_extend_36 (fun _ => ?_) (fun z => absurd rfl z)
      refine bX6_extend_41 h3.o (c_remember hi h3 (fun w4 h4 => ?_)) (fun _ h => h)
      obtain ⟨g, hg, hc⟩ := h4.n
      refine bX6_extend_45 h4.o rfl (c_extW hi h4 (Or.inl rfl) hg hc k2 k1 (fun g2 A2 B2 C2 D2 hg2 => bX6_extend_55 (hq _ ?_))) (fun _ _ h => h)
      exact (((((h4.setN hi hg2).setL hi (by decide) (by decide) A2).setL hi (by decide) (by decide) B2).setL hi (by decide) (by decide) C2).setL hi (by decide) (by decide) D2).mw
    · rw [if_neg q2] at hq
      rw [Bool.eq_false_iff.mpr q2]
      exact bX6_extend_25 (fun _ => bX6_extend_32 (bad 2 (by decide) hq)) (fun z => absurd rfl z)
  · rw [if_neg q1] at hq
    rw [Bool.eq_false_iff.mpr q1]
    exact bX6_extend_9 (fun z => absurd rfl z) (fun _ => bX6_extend_12 (bad 1 (by decide) hq))
theorem c_undo {Q : Int32 → Wd → Prop} (hi : Inj A) (h : MW w0 A rf y w) (hq : ∀ w2, MW w0 A (oUndo y).1 (oUndo y).2.2 w2 → Q (oUndo y).2.1 w2) : CX6_undo G l [.ref (A 0)] w Q := by
  obtain ⟨sp, ou, h⟩ := h
  unfold oUndo at hq
  have bad : ∀ v : Int32, 0 < v → (∀ w2, MW w0 A v y w2 → Q 0 w2) → KX6_undo G l w (ZI G 0 0 w Q) w 13 [(0, .ref (A 0))] [.int v, .ref (A 0)] := fun v hv hq => by
    refine bX6_undo_13 h.o (c_refused hi h (fun w3 h3 => ?_)) (fun _ _ h => h)
    rw [decide_eq_true hv]
    exact bX6_undo_16 (fun z => absurd z (by decide)) (fun _ => bX6_undo_19 (hq w3 h3.mw))
  have hrb := h.rb
  refine sX6_undo (bX6_undo_0 h.o rfl (fun z => bX6_undo_12 ?_) (fun z => bX6_undo_8 ?_))
  · have hl : ¬ (yR y).length = 0 := fun e => z (by rw [e]; rfl)
    rw [if_neg hl] at hq
    refine bX6_undo_13 h.o (c_refused hi h (fun w3 h3 => ?_)) (fun _ _ h => h)
    refine bX6_undo_16 (fun _ => ?_) (fun z => absurd rfl z)
    obtain ⟨gd, hd, hdr⟩ := h3.d
    have h4 := h3.rem hi hd ((yR y).take ((yR y).length - 1)) (by rw [List.length_take]; omega) (fun i hi2 => by
      rw [List.length_take] at hi2
      rw [rg_take _ (by omega)]
      exact hdr i (by omega))
    have e1 : ((yR y).take ((yR y).length - 1)).length = (yR y).length - 1 := by rw [List.length_take]; omega
    have e2 : nI (yR y).length - 1 = nI ((yR y).take ((yR y).length - 1)).length := by rw [e1]; exact nI_sub1 (by omega)
    have e3 : (2047 : Int32) * nI ((yR y).take ((yR y).length - 1)).length = nI (2047 * ((yR y).length - 1)) := by rw [e1, show (2047 : Int32) = nI 2047 from rfl, nI_mul]
    obtain ⟨gn, hn, -⟩ := h4.n
    have hrow := hdr ((yR y).length - 1) (by omega)
    have hd4 : (wset w3 (A 0) (.inl (5, mf A 0 (nI (yN y)) (nI ((yR y).take ((yR y).length - 1)).length) sp ou))) (A 4) = some (irow 28658 gd) := (wset_ne _ _ (hi.ne (by decide) (by decide) (by decide))).trans hd
    refine bX6_undo_21 (f3 := mf A 0 (nI (yN y)) (nI ((yR y).take ((yR y).length - 1)).length) sp ou) h3.o rfl (mf_l (by decide)) (by rw [e2]; rfl) rfl rfl rfl (c_copyState (fa := 2047 * ((yR y).length - 1)) (ta := 0) (n := (cTs (rg (yR y) ((yR y).length - 1))).length) hd4 hn (Or.inl (hi.ne (by decide) (by decide) (by decide))) e3 rfl (by omega) (by decide) (by decide) (by decide) hrow.n2 hrow.b2 ?_) (fun _ h => h)
    have h5 := h4.setN hi hrow.cpy.of0
    refine bX6_undo_51 h5.o rfl ?_
    have := hq _ h5.mw
    rw [← e1] at this
    exact this
  · have hl : (yR y).length = 0 := by
      have := congrArg Int32.toInt z
      rw [nI_toInt (by omega), show (0 : Int32).toInt = 0 from rfl] at this
      omega
    rw [if_pos hl] at hq
    exact bad 1 (by decide) hq
end RE2
