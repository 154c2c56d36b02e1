/-! CLASS AGAINST MODEL: every call of the law -/
section ST
variable {G : GG} {l : Launch} {w : Wd} {A : Nat → Nat} {o9 s : Nat} {y y2 : Sy} {rf : Int32} {g : Nat → Int64}
theorem CW.thr (h : CW A o9 s y y2 rf g w) : CX6_thrown G l [.ref (A 0)] w (fun r w2 => r = rf ∧ w = w2) := by
  obtain ⟨sp, ou, hm⟩ := h.m
  exact c_thrown hm ⟨rfl, rfl⟩
theorem Inv.del {T : Nat} {c : Cal} (h : Inv T c) (i : Nat) : Inv T (delS c i) :=
  ⟨fun s hs => h.1 s (List.mem_of_mem_eraseIdx hs), List.Pairwise.sublist (List.eraseIdx_sublist _ _) h.kk, List.Pairwise.sublist (List.eraseIdx_sublist _ _) h.dj, ⟨h.t0, h.tT⟩, h.st, ⟨h.b0, Nat.le_trans (List.Sublist.length_le (List.eraseIdx_sublist _ _)) h.b1, h.b2⟩, h.py⟩
theorem Inv.stg9 {T : Nat} {c : Cal} (h : Inv T c) {x v : Int32} (q : isStg x v = true) : Inv T (setC c (9 + x.toNatClampNeg) v) := by
  refine h.stg v ⟨by omega, by omega⟩ ?_
  unfold isStg at q
  rw [Bool.and_eq_true] at q
  obtain ⟨q1, q2⟩ := q
  obtain ⟨k1, k2, k3⟩ := rng_k (b := 3) q1
  have st := h.st
  unfold okC at st ⊢
  generalize x.toNatClampNeg = k at k1 k2 k3
  subst k1
  have e : ∀ i j, cSc (setC c i v) j = if j = i then v else cSc c j := fun i j => rfl
  simp only [e]
  have hs : k = 0 ∨ k = 1 ∨ k = 2 ∨ k = 3 := by omega
  rcases hs with rfl | rfl | rfl | rfl
  · rw [if_pos (by decide)] at q2
    have := rngI_iff.mp q2
    simp only [show (10 : Nat) = 9 ↔ False by decide, show (11 : Nat) = 9 ↔ False by decide, show (12 : Nat) = 9 ↔ False by decide, if_true, if_false]
    exact ⟨this.1, this.2, st.2.2⟩
  · rw [if_pos (by decide)] at q2
    have := rngI_iff.mp q2
    exact ⟨st.1, st.2.1, this.1, this.2, st.2.2.2.2⟩
  · rw [if_neg (by decide), if_pos (by decide)] at q2
    have := rngI_iff.mp q2
    exact ⟨st.1, st.2.1, st.2.2.1, st.2.2.2.1, this.1, this.2, st.2.2.2.2.2.2⟩
  · rw [if_neg (by decide), if_neg (by decide)] at q2
    have := rngI_iff.mp q2
    exact ⟨st.1, st.2.1, st.2.2.1, st.2.2.2.1, st.2.2.2.2.1, st.2.2.2.2.2.1, this.1, this.2⟩
theorem Inv.up {T : Nat} {c : Cal} (h : Inv T c) : Inv (T + 30) c := h.mono (by omega)
theorem oy_append {y : Sy} {x1 : Int32} : ¬ (oApp y x1).1 = 0 → (oApp y x1).2.2 = y := by
  unfold oApp
  (repeat' split) <;> (first | exact fun _ => rfl | exact fun z => absurd rfl z)
theorem m_append {x1 : Int32} (hi : Inj A) (h : CW A o9 s y y2 rf g w) : CX6_append G l [.ref (A 0), .int x1] w (fun r w3 => r = (oApp y x1).2.1 ∧ CW A o9 s (oApp y x1).2.2 y2 (oApp y x1).1 g w3) := c_append hi h.m (fun w3 h3 => ⟨rfl, h.mod h3⟩)
theorem si_append {x1 : Int32} {T : Nat} (h : SI T y) (hT : 1080 ≤ T ∧ T + 2000 < 2 ^ 31) : SI (T + 30) (oApp y x1).2.2 := by
  unfold oApp
  split
  · split
    · exact h.mono (by omega)
    · rename_i q
      have hn := h.2.2.2
      exact ⟨h.1.up, fun i hi => (h.2.1 i hi).up, fun k hk c hc => (h.2.2.1 k hk c hc).up, (by omega : yN y + 1 ≤ 120)⟩
  · exact h.mono (by omega)
theorem oy_load {y : Sy}  : ¬ (oLoad y).1 = 0 → (oLoad y).2.2 = y := by
  unfold oLoad
  (repeat' split) <;> (first | exact fun _ => rfl | exact fun z => absurd rfl z)
theorem m_load  (hi : Inj A) (h : CW A o9 s y y2 rf g w) : CX6_load G l [.ref (A 0)] w (fun r w3 => r = (oLoad y).2.1 ∧ CW A o9 s (oLoad y).2.2 y2 (oLoad y).1 g w3) := by
  obtain ⟨sp, ou, hm⟩ := h.m
  exact c_load hi hm (fun w3 sp2 ou2 h3 => ⟨rfl, h.mod ⟨sp2, ou2, h3⟩⟩)
theorem si_load  {T : Nat} (h : SI T y) (hT : 1080 ≤ T ∧ T + 2000 < 2 ^ 31) : SI (T + 30) (oLoad y).2.2 := by
  unfold oLoad
  split
  · exact ⟨(txt_inv h.2.2.2).mono (by omega), fun i hi => absurd hi (Nat.not_lt_zero _), fun k hk c hc => (by cases hc), h.2.2.2⟩
  · exact h.mono (by omega)
theorem oy_about {y : Sy} {x1 : Int32} : ¬ (oAbout y x1).1 = 0 → (oAbout y x1).2.2 = y := by
  unfold oAbout
  (repeat' split) <;> (first | exact fun _ => rfl | exact fun z => absurd rfl z)
theorem m_about {x1 : Int32} (hi : Inj A) (h : CW A o9 s y y2 rf g w) : CX6_about G l [.ref (A 0), .int x1] w (fun r w3 => r = (oAbout y x1).2.1 ∧ CW A o9 s (oAbout y x1).2.2 y2 (oAbout y x1).1 g w3) := c_about hi h.m (fun w3 h3 => ⟨rfl, h.mod h3⟩)
theorem si_about {x1 : Int32} {T : Nat} (h : SI T y) (hT : 1080 ≤ T ∧ T + 2000 < 2 ^ 31) : SI (T + 30) (oAbout y x1).2.2 := by
  have e : (oAbout y x1).2.2 = y := by unfold oAbout; (repeat' split) <;> rfl
  rw [e]; exact h.mono (by omega)
theorem oy_stenographer {y : Sy} {x1 : Int32} {x2 : Int32} : ¬ (oSten y x1 x2).1 = 0 → (oSten y x1 x2).2.2 = y := by
  unfold oSten
  (repeat' split) <;> (first | exact fun _ => rfl | exact fun z => absurd rfl z)
theorem m_stenographer {x1 : Int32} {x2 : Int32} (hi : Inj A) (h : CW A o9 s y y2 rf g w) : CX6_stenographer G l [.ref (A 0), .int x1, .int x2] w (fun r w3 => r = (oSten y x1 x2).2.1 ∧ CW A o9 s (oSten y x1 x2).2.2 y2 (oSten y x1 x2).1 g w3) := c_stenographer hi h.m (fun w3 h3 => ⟨rfl, h.mod h3⟩)
theorem si_stenographer {x1 : Int32} {x2 : Int32} {T : Nat} (h : SI T y) (hT : 1080 ≤ T ∧ T + 2000 < 2 ^ 31) : SI (T + 30) (oSten y x1 x2).2.2 := by
  have e : (oSten y x1 x2).2.2 = y := by unfold oSten; (repeat' split) <;> rfl
  rw [e]; exact h.mono (by omega)
theorem oy_sessionOf {y : Sy} {x1 : Int32} {x2 : Int32} : ¬ (oSesOf y x1 x2).1 = 0 → (oSesOf y x1 x2).2.2 = y := by
  unfold oSesOf
  (repeat' split) <;> (first | exact fun _ => rfl | exact fun z => absurd rfl z)
theorem m_sessionOf {x1 : Int32} {x2 : Int32} (hi : Inj A) (h : CW A o9 s y y2 rf g w) : CX6_sessionOf G l [.ref (A 0), .int x1, .int x2] w (fun r w3 => r = (oSesOf y x1 x2).2.1 ∧ CW A o9 s (oSesOf y x1 x2).2.2 y2 (oSesOf y x1 x2).1 g w3) := c_sessionOf hi h.m (fun w3 h3 => ⟨rfl, h.mod h3⟩)
theorem si_sessionOf {x1 : Int32} {x2 : Int32} {T : Nat} (h : SI T y) (hT : 1080 ≤ T ∧ T + 2000 < 2 ^ 31) : SI (T + 30) (oSesOf y x1 x2).2.2 := by
  have e : (oSesOf y x1 x2).2.2 = y := by unfold oSesOf; (repeat' split) <;> rfl
  rw [e]; exact h.mono (by omega)
theorem oy_transcript {y : Sy} {x1 : Int32} {x2 : Int32} {x3 : Int32} : ¬ (oTrn y x1 x2 x3).1 = 0 → (oTrn y x1 x2 x3).2.2 = y := by
  unfold oTrn
  (repeat' split) <;> (first | exact fun _ => rfl | exact fun z => absurd rfl z)
theorem m_transcript {x1 : Int32} {x2 : Int32} {x3 : Int32} (hi : Inj A) (h : CW A o9 s y y2 rf g w) : CX6_transcript G l [.ref (A 0), .int x1, .int x2, .int x3] w (fun r w3 => r = (oTrn y x1 x2 x3).2.1 ∧ CW A o9 s (oTrn y x1 x2 x3).2.2 y2 (oTrn y x1 x2 x3).1 g w3) := c_transcript hi h.m (fun w3 h3 => ⟨rfl, h.mod h3⟩)
theorem si_transcript {x1 : Int32} {x2 : Int32} {x3 : Int32} {T : Nat} (h : SI T y) (hT : 1080 ≤ T ∧ T + 2000 < 2 ^ 31) : SI (T + 30) (oTrn y x1 x2 x3).2.2 := by
  have e : (oTrn y x1 x2 x3).2.2 = y := by unfold oTrn; (repeat' split) <;> rfl
  rw [e]; exact h.mono (by omega)
theorem oy_setting {y : Sy} {x1 : Int32} : ¬ (oSetg y x1).1 = 0 → (oSetg y x1).2.2 = y := by
  unfold oSetg
  (repeat' split) <;> (first | exact fun _ => rfl | exact fun z => absurd rfl z)
theorem m_setting {x1 : Int32} (hi : Inj A) (h : CW A o9 s y y2 rf g w) : CX6_setting G l [.ref (A 0), .int x1] w (fun r w3 => r = (oSetg y x1).2.1 ∧ CW A o9 s (oSetg y x1).2.2 y2 (oSetg y x1).1 g w3) := c_setting hi h.m (fun w3 h3 => ⟨rfl, h.mod h3⟩)
theorem si_setting {x1 : Int32} {T : Nat} (h : SI T y) (hT : 1080 ≤ T ∧ T + 2000 < 2 ^ 31) : SI (T + 30) (oSetg y x1).2.2 := by
  have e : (oSetg y x1).2.2 = y := by unfold oSetg; (repeat' split) <;> rfl
  rw [e]; exact h.mono (by omega)
theorem oy_hire {y : Sy} {x1 : Int32} : ¬ (oHire y x1).1 = 0 → (oHire y x1).2.2 = y := by
  unfold oHire
  (repeat' split) <;> (first | exact fun _ => rfl | exact fun z => absurd rfl z)
theorem m_hire {x1 : Int32} (hi : Inj A) (h : CW A o9 s y y2 rf g w) : CX6_hire G l [.ref (A 0), .int x1] w (fun r w3 => r = (oHire y x1).2.1 ∧ CW A o9 s (oHire y x1).2.2 y2 (oHire y x1).1 g w3) := c_hire hi h.m (fun w3 h3 => ⟨rfl, h.mod h3⟩)
theorem si_hire {x1 : Int32} {T : Nat} (h : SI T y) (hT : 1080 ≤ T ∧ T + 2000 < 2 ^ 31) : SI (T + 30) (oHire y x1).2.2 := by
  unfold oHire
  split
  · split
    · rename_i q; exact h.act (h.1.hire _ q).up
    · exact h.mono (by omega)
  · exact h.mono (by omega)
theorem oy_session {y : Sy} {x1 : Int32} {x2 : Int32} {x3 : Int32} {x4 : Int32} {x5 : Int32} : ¬ (oSess y x1 x2 x3 x4 x5).1 = 0 → (oSess y x1 x2 x3 x4 x5).2.2 = y := by
  unfold oSess
  (repeat' split) <;> (first | exact fun _ => rfl | exact fun z => absurd rfl z)
theorem m_session {x1 : Int32} {x2 : Int32} {x3 : Int32} {x4 : Int32} {x5 : Int32} (hi : Inj A) (h : CW A o9 s y y2 rf g w) : CX6_session G l [.ref (A 0), .int x1, .int x2, .int x3, .int x4, .int x5] w (fun r w3 => r = (oSess y x1 x2 x3 x4 x5).2.1 ∧ CW A o9 s (oSess y x1 x2 x3 x4 x5).2.2 y2 (oSess y x1 x2 x3 x4 x5).1 g w3) := c_session hi h.m (fun w3 h3 => ⟨rfl, h.mod h3⟩)
theorem si_session {x1 : Int32} {x2 : Int32} {x3 : Int32} {x4 : Int32} {x5 : Int32} {T : Nat} (h : SI T y) (hT : 1080 ≤ T ∧ T + 2000 < 2 ^ 31) : SI (T + 30) (oSess y x1 x2 x3 x4 x5).2.2 := by
  unfold oSess
  split
  · split
    · split
      · rename_i q; exact h.act (h.1.add q).up
      · exact h.mono (by omega)
    · exact h.mono (by omega)
  · exact h.mono (by omega)
theorem oy_cancel {y : Sy} {x1 : Int32} : ¬ (oCanc y x1).1 = 0 → (oCanc y x1).2.2 = y := by
  unfold oCanc
  (repeat' split) <;> (first | exact fun _ => rfl | exact fun z => absurd rfl z)
theorem m_cancel {x1 : Int32} (hi : Inj A) (h : CW A o9 s y y2 rf g w) : CX6_cancel G l [.ref (A 0), .int x1] w (fun r w3 => r = (oCanc y x1).2.1 ∧ CW A o9 s (oCanc y x1).2.2 y2 (oCanc y x1).1 g w3) := c_cancel hi h.m (fun w3 h3 => ⟨rfl, h.mod h3⟩)
theorem si_cancel {x1 : Int32} {T : Nat} (h : SI T y) (hT : 1080 ≤ T ∧ T + 2000 < 2 ^ 31) : SI (T + 30) (oCanc y x1).2.2 := by
  unfold oCanc
  split
  · rename_i q
    have b := h.1.b1
    obtain ⟨k1, k2⟩ := inN_k q (by omega)
    exact h.act (Inv.del h.1 _).up
  · exact h.mono (by omega)
theorem oy_give {y : Sy} {x1 : Int32} {x2 : Int32} : ¬ (oGive y x1 x2).1 = 0 → (oGive y x1 x2).2.2 = y := by
  unfold oGive
  (repeat' split) <;> (first | exact fun _ => rfl | exact fun z => absurd rfl z)
theorem m_give {x1 : Int32} {x2 : Int32} (hi : Inj A) (h : CW A o9 s y y2 rf g w) : CX6_give G l [.ref (A 0), .int x1, .int x2] w (fun r w3 => r = (oGive y x1 x2).2.1 ∧ CW A o9 s (oGive y x1 x2).2.2 y2 (oGive y x1 x2).1 g w3) := c_give hi h.m (fun w3 h3 => ⟨rfl, h.mod h3⟩)
theorem si_give {x1 : Int32} {x2 : Int32} {T : Nat} (h : SI T y) (hT : 1080 ≤ T ∧ T + 2000 < 2 ^ 31) : SI (T + 30) (oGive y x1 x2).2.2 := by
  unfold oGive
  split
  · rename_i q
    split
    · have b := h.1.b0
      refine h.act (h.1.hold _ ?_).up
      rcases q.2 with e | e
      · exact Or.inl e
      · obtain ⟨p1, p2⟩ := inN_k e (by omega)
        exact Or.inr ⟨_, p1, p2⟩
    · exact h.mono (by omega)
  · exact h.mono (by omega)
theorem oy_extend {y : Sy} {x1 : Int32} {x2 : Int32} : ¬ (oExt y x1 x2).1 = 0 → (oExt y x1 x2).2.2 = y := by
  unfold oExt
  (repeat' split) <;> (first | exact fun _ => rfl | exact fun z => absurd rfl z)
theorem m_extend {x1 : Int32} {x2 : Int32} (hi : Inj A) (h : CW A o9 s y y2 rf g w) : CX6_extend G l [.ref (A 0), .int x1, .int x2] w (fun r w3 => r = (oExt y x1 x2).2.1 ∧ CW A o9 s (oExt y x1 x2).2.2 y2 (oExt y x1 x2).1 g w3) := c_extend hi h.m (fun w3 h3 => ⟨rfl, h.mod h3⟩)
theorem si_extend {x1 : Int32} {x2 : Int32} {T : Nat} (h : SI T y) (hT : 1080 ≤ T ∧ T + 2000 < 2 ^ 31) : SI (T + 30) (oExt y x1 x2).2.2 := by
  unfold oExt
  split
  · rename_i q
    split
    · rename_i q2
      have b := h.1.b1
      obtain ⟨k1, k2⟩ := inN_k q (by omega)
      obtain ⟨n1, n2⟩ := rngI_iff.mp q2
      exact h.act (h.1.ext k1 n1 n2).up
    · exact h.mono (by omega)
  · exact h.mono (by omega)
theorem oy_leave {y : Sy} {x1 : Int32} {x2 : Int32} : ¬ (oLeav y x1 x2).1 = 0 → (oLeav y x1 x2).2.2 = y := by
  unfold oLeav
  (repeat' split) <;> (first | exact fun _ => rfl | exact fun z => absurd rfl z)
theorem m_leave {x1 : Int32} {x2 : Int32} (hi : Inj A) (h : CW A o9 s y y2 rf g w) : CX6_leave G l [.ref (A 0), .int x1, .int x2] w (fun r w3 => r = (oLeav y x1 x2).2.1 ∧ CW A o9 s (oLeav y x1 x2).2.2 y2 (oLeav y x1 x2).1 g w3) := c_leave hi h.m (fun w3 h3 => ⟨rfl, h.mod h3⟩)
theorem si_leave {x1 : Int32} {x2 : Int32} {T : Nat} (h : SI T y) (hT : 1080 ≤ T ∧ T + 2000 < 2 ^ 31) : SI (T + 30) (oLeav y x1 x2).2.2 := by
  unfold oLeav
  split
  · split
    · exact h.act (h.1.lv _ _).up
    · exact h.mono (by omega)
  · exact h.mono (by omega)
theorem oy_run {y : Sy} {x1 : Int32} : ¬ (oRun y x1).1 = 0 → (oRun y x1).2.2 = y := by
  unfold oRun
  (repeat' split) <;> (first | exact fun _ => rfl | exact fun z => absurd rfl z)
theorem m_run {x1 : Int32} (hi : Inj A) (h : CW A o9 s y y2 rf g w) : CX6_run G l [.ref (A 0), .int x1] w (fun r w3 => r = (oRun y x1).2.1 ∧ CW A o9 s (oRun y x1).2.2 y2 (oRun y x1).1 g w3) := c_run hi h.m (fun w3 h3 => ⟨rfl, h.mod h3⟩)
theorem si_run {x1 : Int32} {T : Nat} (h : SI T y) (hT : 1080 ≤ T ∧ T + 2000 < 2 ^ 31) : SI (T + 30) (oRun y x1).2.2 := by
  unfold oRun
  split
  · rename_i q
    obtain ⟨n1, n2⟩ := rng_nI q (by decide) (by decide)
    have n3 := rngI_iff.mp q
    exact h.act ((h.1.run x1.toNatClampNeg (by omega)).mono (by omega))
  · exact h.mono (by omega)
theorem oy_set {y : Sy} {x1 : Int32} {x2 : Int32} : ¬ (oSet y x1 x2).1 = 0 → (oSet y x1 x2).2.2 = y := by
  unfold oSet
  (repeat' split) <;> (first | exact fun _ => rfl | exact fun z => absurd rfl z)
theorem m_set {x1 : Int32} {x2 : Int32} (hi : Inj A) (h : CW A o9 s y y2 rf g w) : CX6_set G l [.ref (A 0), .int x1, .int x2] w (fun r w3 => r = (oSet y x1 x2).2.1 ∧ CW A o9 s (oSet y x1 x2).2.2 y2 (oSet y x1 x2).1 g w3) := c_set hi h.m (fun w3 h3 => ⟨rfl, h.mod h3⟩)
theorem si_set {x1 : Int32} {x2 : Int32} {T : Nat} (h : SI T y) (hT : 1080 ≤ T ∧ T + 2000 < 2 ^ 31) : SI (T + 30) (oSet y x1 x2).2.2 := by
  unfold oSet
  split
  · rename_i q
    exact h.act (Inv.stg9 h.1 q).up
  · exact h.mono (by omega)
theorem oy_undo {y : Sy}  : ¬ (oUndo y).1 = 0 → (oUndo y).2.2 = y := by
  unfold oUndo
  (repeat' split) <;> (first | exact fun _ => rfl | exact fun z => absurd rfl z)
theorem m_undo  (hi : Inj A) (h : CW A o9 s y y2 rf g w) : CX6_undo G l [.ref (A 0)] w (fun r w3 => r = (oUndo y).2.1 ∧ CW A o9 s (oUndo y).2.2 y2 (oUndo y).1 g w3) := c_undo hi h.m (fun w3 h3 => ⟨rfl, h.mod h3⟩)
theorem si_undo  {T : Nat} (h : SI T y) (hT : 1080 ≤ T ∧ T + 2000 < 2 ^ 31) : SI (T + 30) (oUndo y).2.2 := by
  unfold oUndo
  split
  · exact h.mono (by omega)
  · rename_i q
    refine ⟨(h.2.1 _ (by omega)).up, fun i hi => ?_, fun k hk c hc => (h.2.2.1 k hk c hc).up, h.2.2.2⟩
    have hi : i < ((yR y).take ((yR y).length - 1)).length := hi
    rw [List.length_take] at hi
    show Inv (T + 30) (rg ((yR y).take ((yR y).length - 1)) i)
    rw [rg_take _ (by omega)]
    exact (h.2.1 i (by omega)).up
theorem oy_whyNot {y : Sy} {x1 : Int32} {x2 : Int32} : ¬ (oWhy y x1 x2).1 = 0 → (oWhy y x1 x2).2.2 = y := by
  unfold oWhy
  (repeat' split) <;> (first | exact fun _ => rfl | exact fun z => absurd rfl z)
theorem m_whyNot {x1 : Int32} {x2 : Int32} (hi : Inj A) (h : CW A o9 s y y2 rf g w) : CX6_whyNot G l [.ref (A 0), .int x1, .int x2] w (fun r w3 => r = (oWhy y x1 x2).2.1 ∧ CW A o9 s (oWhy y x1 x2).2.2 y2 (oWhy y x1 x2).1 g w3) := c_whyNot hi h.m (fun w3 h3 => ⟨rfl, h.mod h3⟩)
theorem si_whyNot {x1 : Int32} {x2 : Int32} {T : Nat} (h : SI T y) (hT : 1080 ≤ T ∧ T + 2000 < 2 ^ 31) : SI (T + 30) (oWhy y x1 x2).2.2 := by
  have e : (oWhy y x1 x2).2.2 = y := by unfold oWhy; (repeat' split) <;> rfl
  rw [e]; exact h.mono (by omega)
theorem oy_whom {y : Sy} {x1 : Int32} : ¬ (oWhom y x1).1 = 0 → (oWhom y x1).2.2 = y := by
  unfold oWhom
  (repeat' split) <;> (first | exact fun _ => rfl | exact fun z => absurd rfl z)
theorem m_whom {x1 : Int32} (hi : Inj A) (h : CW A o9 s y y2 rf g w) : CX6_whom G l [.ref (A 0), .int x1] w (fun r w3 => r = (oWhom y x1).2.1 ∧ CW A o9 s (oWhom y x1).2.2 y2 (oWhom y x1).1 g w3) := c_whom hi h.m (fun w3 h3 => ⟨rfl, h.mod h3⟩)
theorem si_whom {x1 : Int32} {T : Nat} (h : SI T y) (hT : 1080 ≤ T ∧ T + 2000 < 2 ^ 31) : SI (T + 30) (oWhom y x1).2.2 := by
  have e : (oWhom y x1).2.2 = y := by unfold oWhom; (repeat' split) <;> rfl
  rw [e]; exact h.mono (by omega)
theorem oy_coming {y : Sy} {x1 : Int32} {x2 : Int32} : ¬ (oCom y x1 x2).1 = 0 → (oCom y x1 x2).2.2 = y := by
  unfold oCom
  (repeat' split) <;> (first | exact fun _ => rfl | exact fun z => absurd rfl z)
theorem m_coming {x1 : Int32} {x2 : Int32} (hi : Inj A) (h : CW A o9 s y y2 rf g w) : CX6_coming G l [.ref (A 0), .int x1, .int x2] w (fun r w3 => r = (oCom y x1 x2).2.1 ∧ CW A o9 s (oCom y x1 x2).2.2 y2 (oCom y x1 x2).1 g w3) := c_coming hi h.m (fun w3 h3 => ⟨rfl, h.mod h3⟩)
theorem si_coming {x1 : Int32} {x2 : Int32} {T : Nat} (h : SI T y) (hT : 1080 ≤ T ∧ T + 2000 < 2 ^ 31) : SI (T + 30) (oCom y x1 x2).2.2 := by
  have e : (oCom y x1 x2).2.2 = y := by unfold oCom; (repeat' split) <;> rfl
  rw [e]; exact h.mono (by omega)
theorem oy_emptyIn {y : Sy} {x1 : Int32} : ¬ (oEmp y x1).1 = 0 → (oEmp y x1).2.2 = y := by
  unfold oEmp
  (repeat' split) <;> (first | exact fun _ => rfl | exact fun z => absurd rfl z)
theorem m_emptyIn {x1 : Int32} (hi : Inj A) (h : CW A o9 s y y2 rf g w) : CX6_emptyIn G l [.ref (A 0), .int x1] w (fun r w3 => r = (oEmp y x1).2.1 ∧ CW A o9 s (oEmp y x1).2.2 y2 (oEmp y x1).1 g w3) := c_emptyIn hi h.m (fun w3 h3 => ⟨rfl, h.mod h3⟩)
theorem si_emptyIn {x1 : Int32} {T : Nat} (h : SI T y) (hT : 1080 ≤ T ∧ T + 2000 < 2 ^ 31) : SI (T + 30) (oEmp y x1).2.2 := by
  have e : (oEmp y x1).2.2 = y := by unfold oEmp; (repeat' split) <;> rfl
  rw [e]; exact h.mono (by omega)
theorem oy_ifHired {y : Sy} {x1 : Int32} {x2 : Int32} : ¬ (oIfH y x1 x2).1 = 0 → (oIfH y x1 x2).2.2 = y := by
  unfold oIfH
  (repeat' split) <;> (first | exact fun _ => rfl | exact fun z => absurd rfl z)
theorem m_ifHired {x1 : Int32} {x2 : Int32} (hi : Inj A) (h : CW A o9 s y y2 rf g w) : CX6_ifHired G l [.ref (A 0), .int x1, .int x2] w (fun r w3 => r = (oIfH y x1 x2).2.1 ∧ CW A o9 s (oIfH y x1 x2).2.2 y2 (oIfH y x1 x2).1 g w3) := c_ifHired hi h.m (fun w3 h3 => ⟨rfl, h.mod h3⟩)
theorem si_ifHired {x1 : Int32} {x2 : Int32} {T : Nat} (h : SI T y) (hT : 1080 ≤ T ∧ T + 2000 < 2 ^ 31) : SI (T + 30) (oIfH y x1 x2).2.2 := by
  have e : (oIfH y x1 x2).2.2 = y := by unfold oIfH; (repeat' split) <;> rfl
  rw [e]; exact h.mono (by omega)
theorem oy_freeRoom {y : Sy} {x1 : Int32} {x2 : Int32} {x3 : Int32} : ¬ (oFre y x1 x2 x3).1 = 0 → (oFre y x1 x2 x3).2.2 = y := by
  unfold oFre
  (repeat' split) <;> (first | exact fun _ => rfl | exact fun z => absurd rfl z)
theorem m_freeRoom {x1 : Int32} {x2 : Int32} {x3 : Int32} (hi : Inj A) (h : CW A o9 s y y2 rf g w) : CX6_freeRoom G l [.ref (A 0), .int x1, .int x2, .int x3] w (fun r w3 => r = (oFre y x1 x2 x3).2.1 ∧ CW A o9 s (oFre y x1 x2 x3).2.2 y2 (oFre y x1 x2 x3).1 g w3) := c_freeRoom hi h.m (fun w3 h3 => ⟨rfl, h.mod h3⟩)
theorem si_freeRoom {x1 : Int32} {x2 : Int32} {x3 : Int32} {T : Nat} (h : SI T y) (hT : 1080 ≤ T ∧ T + 2000 < 2 ^ 31) : SI (T + 30) (oFre y x1 x2 x3).2.2 := by
  have e : (oFre y x1 x2 x3).2.2 = y := by unfold oFre; (repeat' split) <;> rfl
  rw [e]; exact h.mono (by omega)
theorem oy_runScript {y : Sy} {x1 : Int32} {x2 : Int64} : ¬ (oScr y x1 x2).1 = 0 → (oScr y x1 x2).2.2 = y := by
  unfold oScr
  (repeat' split) <;> (first | exact fun _ => rfl | exact fun z => absurd rfl z)
theorem m_runScript {x1 : Int32} {x2 : Int64} {T : Nat} (hI : Inv T (yC y)) (hT : T + 2000 < 2 ^ 31) (hi : Inj A) (h : CW A o9 s y y2 rf g w) : CX6_runScript G l [.ref (A 0), .int x1, .long x2] w (fun r w3 => r = (oScr y x1 x2).2.1 ∧ CW A o9 s (oScr y x1 x2).2.2 y2 (oScr y x1 x2).1 g w3) := c_runScript hi hI hT h.m (fun w3 h3 => ⟨rfl, h.mod h3⟩)
theorem si_runScript {x1 : Int32} {x2 : Int64} {T : Nat} (h : SI T y) (hT : 1080 ≤ T ∧ T + 2000 < 2 ^ 31) : SI (T + 30) (oScr y x1 x2).2.2 := by
  have e : (oScr y x1 x2).2.2 = y := by unfold oScr; (repeat' split) <;> rfl
  rw [e]; exact h.mono (by omega)
theorem oy_simulate {y : Sy} {x1 : Int64} {x2 : Int32} : ¬ (oSim y x1 x2).1 = 0 → (oSim y x1 x2).2.2 = y := by
  unfold oSim
  (repeat' split) <;> (first | exact fun _ => rfl | exact fun z => absurd rfl z)
theorem m_simulate {x1 : Int64} {x2 : Int32} (hi : Inj A) (h : CW A o9 s y y2 rf g w) : CX6_simulate G l [.ref (A 0), .long x1, .int x2] w (fun r w3 => r = (oSim y x1 x2).2.1 ∧ CW A o9 s (oSim y x1 x2).2.2 y2 (oSim y x1 x2).1 g w3) := c_simulate hi h.m (fun w3 h3 => ⟨rfl, h.mod h3⟩)
theorem si_simulate {x1 : Int64} {x2 : Int32} {T : Nat} (h : SI T y) (hT : 1080 ≤ T ∧ T + 2000 < 2 ^ 31) : SI (T + 30) (oSim y x1 x2).2.2 := by
  have e : (oSim y x1 x2).2.2 = y := by unfold oSim; (repeat' split) <;> rfl
  rw [e]; exact h.mono (by omega)
theorem oy_save {y : Sy} {x1 : Int32} : ¬ (oSave y x1).1 = 0 → (oSave y x1).2.2 = y := by
  unfold oSave
  (repeat' split) <;> (first | exact fun _ => rfl | exact fun z => absurd rfl z)
theorem m_save {x1 : Int32} (hi : Inj A) (h : CW A o9 s y y2 rf g w) : CX6_save G l [.ref (A 0), .int x1] w (fun r w3 => r = (oSave y x1).2.1 ∧ CW A o9 s (oSave y x1).2.2 y2 (oSave y x1).1 g w3) := c_save hi h.m (fun w3 h3 => ⟨rfl, h.mod h3⟩)
theorem si_save {x1 : Int32} {T : Nat} (h : SI T y) (hT : 1080 ≤ T ∧ T + 2000 < 2 ^ 31) : SI (T + 30) (oSave y x1).2.2 := by
  unfold oSave
  split
  · refine ⟨h.1.up, fun i hi => (h.2.1 i hi).up, fun k hk c hc => ?_, h.2.2.2⟩
    have hc : (if k = x1.toNatClampNeg then some (yC y) else yS y k) = some c := hc
    by_cases q : k = x1.toNatClampNeg
    · rw [if_pos q] at hc
      rw [← Option.some.inj hc]; exact h.1.up
    · rw [if_neg q] at hc
      exact (h.2.2.1 k hk c hc).up
  · exact h.mono (by omega)
theorem oy_restore {y : Sy} {x1 : Int32} : ¬ (oRest y x1).1 = 0 → (oRest y x1).2.2 = y := by
  unfold oRest
  (repeat' split) <;> (first | exact fun _ => rfl | exact fun z => absurd rfl z)
theorem m_restore {x1 : Int32} (hi : Inj A) (h : CW A o9 s y y2 rf g w) : CX6_restore G l [.ref (A 0), .int x1] w (fun r w3 => r = (oRest y x1).2.1 ∧ CW A o9 s (oRest y x1).2.2 y2 (oRest y x1).1 g w3) := c_restore hi h.m (fun w3 h3 => ⟨rfl, h.mod h3⟩)
theorem si_restore {x1 : Int32} {T : Nat} (h : SI T y) (hT : 1080 ≤ T ∧ T + 2000 < 2 ^ 31) : SI (T + 30) (oRest y x1).2.2 := by
  unfold oRest
  split
  · rename_i q
    obtain ⟨k1, k2, k3⟩ := rng_k (b := 1) q
    split
    · exact h.mono (by omega)
    · rename_i c hc
      exact ⟨(h.2.2.1 _ (by omega) c hc).up, fun i hi => absurd hi (Nat.not_lt_zero _), fun k hk c hc => (h.2.2.1 k hk c hc).up, h.2.2.2⟩
  · exact h.mono (by omega)
end ST
