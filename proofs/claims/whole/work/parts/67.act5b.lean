/-! THE CLASS'S ACTIONS -/
section AA
variable {G : GG} {l : Launch} {fr w : Wd} {s : Nat} {y : Sy}
theorem y_len (h : StW fr s y w) : (cPs (yC y)).length ≤ 6 ∧ (cSs (yC y)).length ≤ 16 := by
  obtain ⟨D, L, e0, ho, hw, -, -⟩ := h.pres
  exact ⟨hw.i.b0, hw.i.b1⟩
theorem af_hire {c : Cal} {x : Int32} : hireF c x = 0 ∨ hireF c x = 1 ∨ hireF c x = 2 ∨ hireF c x = 3 := by
  unfold hireF
  (repeat' split) <;> (first | exact Or.inl rfl | exact Or.inr (Or.inl rfl) | exact Or.inr (Or.inr (Or.inl rfl)) | exact Or.inr (Or.inr (Or.inr rfl)))
theorem ax_hire {x : Int32} {f : Int32} {E : String} (hf : f = hireF (yC y) x) (hE : (f = 1 ∧ E = SIO) ∨ (f = 2 ∧ E = SAE) ∨ (f = 3 ∧ E = SSE)) : (oHire y x).1 = 1 ∧ E = SAE ∨ (oHire y x).1 = 2 ∧ E = SSE ∨ (oHire y x).1 = 3 ∧ E = SSE := by
  unfold oHire
  unfold hireF at hf
  by_cases q1 : rngI x 1 20 = true
  case neg => rw [if_neg q1] at hf ⊢; subst hf; rcases hE with ⟨z, rfl⟩ | ⟨z, rfl⟩ | ⟨z, rfl⟩ <;> (first | exact absurd z (by decide) | exact Or.inl ⟨rfl, rfl⟩ | exact Or.inr (Or.inl ⟨rfl, rfl⟩) | exact Or.inr (Or.inr ⟨rfl, rfl⟩))
  rw [if_pos q1] at hf ⊢
  by_cases q2 : (cPs (yC y)).length < 6
  case neg => rw [if_neg q2] at hf ⊢; subst hf; rcases hE with ⟨z, rfl⟩ | ⟨z, rfl⟩ | ⟨z, rfl⟩ <;> (first | exact absurd z (by decide) | exact Or.inl ⟨rfl, rfl⟩ | exact Or.inr (Or.inl ⟨rfl, rfl⟩) | exact Or.inr (Or.inr ⟨rfl, rfl⟩))
  rw [if_pos q2] at hf ⊢
  subst hf; rcases hE with ⟨z, rfl⟩ | ⟨z, rfl⟩ | ⟨z, rfl⟩ <;> (first | exact absurd z (by decide) | exact Or.inl ⟨rfl, rfl⟩ | exact Or.inr (Or.inl ⟨rfl, rfl⟩) | exact Or.inr (Or.inr ⟨rfl, rfl⟩))
theorem az_hire {x : Int32} (hf : hireF (yC y) x = 0) : (rngI x 1 20 = true) ∧ ((cPs (yC y)).length < 6) := by
  unfold hireF at hf
  by_cases q1 : rngI x 1 20 = true
  case neg => rw [if_neg q1] at hf; exact absurd hf (by decide)
  rw [if_pos q1] at hf
  by_cases q2 : (cPs (yC y)).length < 6
  case neg => rw [if_neg q2] at hf; exact absurd hf (by decide)
  rw [if_pos q2] at hf
  exact ⟨q1, q2⟩
theorem ae_hire {x : Int32} (q1 : rngI x 1 20 = true) (q2 : (cPs (yC y)).length < 6) : oHire y x = (0, nI (cPs (yC y)).length, wC (wR y) (hireC (yC y) x)) := by
  unfold oHire
  rw [if_pos q1]; rw [if_pos q2]
theorem a_hire {x : Int32} {T : Nat} (h : StW fr s y w) (hI : Inv T (yC y)) (hT : T + 60 < 2 ^ 31) : CX5_hire G l 250 11400 [.ref s, .int x] w (RQ fr s (oHire y x)) (RX fr s y (oHire y x) SAE SSE SSE) := by
  have hb := y_len h
  obtain ⟨D, L, e0, ho, hw, hoc, hk⟩ := h.pres
  refine sX5_hire (bX5_hire_0 ho rfl hw.i.o (c_hireFault (Q := fun r w2 => r = hireF (yC y) x ∧ w = w2) hw.i ⟨rfl, rfl⟩) (by decide) (by decide) (fun rz w2 hr => ?_))
  obtain ⟨hr, rfl⟩ := hr
  refine bX5_hire_8 (c_refuse (by rw [hr]; exact af_hire (c := yC y))) (by decide) (by decide) (fun w2 hw2 => ?_) (fun E w2 hE => ?_)
  · obtain ⟨h0, rfl⟩ := hw2
    obtain ⟨q1, q2⟩ := az_hire (hr.symm.trans h0)
    have eo := ae_hire (y := y) q1 q2
    rw [eo]
    refine bX5_hire_11 ho (c_remember5 (Q := fun w2 => StW fr s (wR y) w2) h (fun w2 h2 => h2)) (by decide) (by decide) (fun w2 h2 => ?_)
    obtain ⟨D, L, e0, ho, hw, hoc, hk⟩ := h2.pres
    exact bX5_hire_15 ho rfl hw.i.o (c_addSten (Q := fun r w2 => r = nI (cPs (yC y)).length ∧ StW fr s (wC (wR y) (hireC (yC y) x)) w2) hw q2 (fun w3 h3 => ⟨rfl, hk _ _ _ _ rfl h3⟩)) (by decide) (by decide) (fun r w3 hr => bX5_hire_23 ⟨rfl, hr.1, hr.2⟩ (by decide) (by decide))
  · obtain ⟨rfl, hE⟩ := hE
    exact ⟨h, ax_hire hr hE⟩
theorem af_session {c : Cal} {r d f0 n t : Int32} : sessF c r d f0 n t = 0 ∨ sessF c r d f0 n t = 1 ∨ sessF c r d f0 n t = 2 ∨ sessF c r d f0 n t = 3 := by
  unfold sessF
  (repeat' split) <;> (first | exact Or.inl rfl | exact Or.inr (Or.inl rfl) | exact Or.inr (Or.inr (Or.inl rfl)) | exact Or.inr (Or.inr (Or.inr rfl)))
theorem ax_session {r d f0 n t : Int32} {f : Int32} {E : String} (hf : f = sessF (yC y) r d f0 n t) (hE : (f = 1 ∧ E = SIO) ∨ (f = 2 ∧ E = SAE) ∨ (f = 3 ∧ E = SSE)) : (oSess y r d f0 n t).1 = 1 ∧ E = SIO ∨ (oSess y r d f0 n t).1 = 2 ∧ E = SAE ∨ (oSess y r d f0 n t).1 = 3 ∧ E = SSE := by
  unfold oSess
  unfold sessF at hf
  by_cases q1 : rngI r 0 4 = true
  case neg => rw [if_neg q1] at hf ⊢; subst hf; rcases hE with ⟨z, rfl⟩ | ⟨z, rfl⟩ | ⟨z, rfl⟩ <;> (first | exact absurd z (by decide) | exact Or.inl ⟨rfl, rfl⟩ | exact Or.inr (Or.inl ⟨rfl, rfl⟩) | exact Or.inr (Or.inr ⟨rfl, rfl⟩))
  rw [if_pos q1] at hf ⊢
  by_cases q2 : isTm (yC y) d f0 n = true ∧ rngI t 1 9 = true
  case neg => rw [if_neg q2] at hf ⊢; subst hf; rcases hE with ⟨z, rfl⟩ | ⟨z, rfl⟩ | ⟨z, rfl⟩ <;> (first | exact absurd z (by decide) | exact Or.inl ⟨rfl, rfl⟩ | exact Or.inr (Or.inl ⟨rfl, rfl⟩) | exact Or.inr (Or.inr ⟨rfl, rfl⟩))
  rw [if_pos q2] at hf ⊢
  by_cases q3 : isNw (yC y) r d f0 n t = true
  case neg => rw [if_neg q3] at hf ⊢; subst hf; rcases hE with ⟨z, rfl⟩ | ⟨z, rfl⟩ | ⟨z, rfl⟩ <;> (first | exact absurd z (by decide) | exact Or.inl ⟨rfl, rfl⟩ | exact Or.inr (Or.inl ⟨rfl, rfl⟩) | exact Or.inr (Or.inr ⟨rfl, rfl⟩))
  rw [if_pos q3] at hf ⊢
  subst hf; rcases hE with ⟨z, rfl⟩ | ⟨z, rfl⟩ | ⟨z, rfl⟩ <;> (first | exact absurd z (by decide) | exact Or.inl ⟨rfl, rfl⟩ | exact Or.inr (Or.inl ⟨rfl, rfl⟩) | exact Or.inr (Or.inr ⟨rfl, rfl⟩))
theorem az_session {r d f0 n t : Int32} (hf : sessF (yC y) r d f0 n t = 0) : (rngI r 0 4 = true) ∧ (isTm (yC y) d f0 n = true ∧ rngI t 1 9 = true) ∧ (isNw (yC y) r d f0 n t = true) := by
  unfold sessF at hf
  by_cases q1 : rngI r 0 4 = true
  case neg => rw [if_neg q1] at hf; exact absurd hf (by decide)
  rw [if_pos q1] at hf
  by_cases q2 : isTm (yC y) d f0 n = true ∧ rngI t 1 9 = true
  case neg => rw [if_neg q2] at hf; exact absurd hf (by decide)
  rw [if_pos q2] at hf
  by_cases q3 : isNw (yC y) r d f0 n t = true
  case neg => rw [if_neg q3] at hf; exact absurd hf (by decide)
  rw [if_pos q3] at hf
  exact ⟨q1, q2, q3⟩
theorem ae_session {r d f0 n t : Int32} (q1 : rngI r 0 4 = true) (q2 : isTm (yC y) d f0 n = true ∧ rngI t 1 9 = true) (q3 : isNw (yC y) r d f0 n t = true) : oSess y r d f0 n t = (0, nI (insP (cSs (yC y)) (r, d, f0, n, t, -1)), wC (wR y) (insS (yC y) (r, d, f0, n, t, -1))) := by
  unfold oSess
  rw [if_pos q1]; rw [if_pos q2]; rw [if_pos q3]
theorem a_session {r d f0 n t : Int32} {T : Nat} (h : StW fr s y w) (hI : Inv T (yC y)) (hT : T + 60 < 2 ^ 31) : CX5_session G l 250 11400 [.ref s, .int r, .int d, .int f0, .int n, .int t] w (RQ fr s (oSess y r d f0 n t)) (RX fr s y (oSess y r d f0 n t) SIO SAE SSE) := by
  have hb := y_len h
  obtain ⟨D, L, e0, ho, hw, hoc, hk⟩ := h.pres
  refine sX5_session (bX5_session_0 ho rfl hw.i.o (c_sessionFault (Q := fun r9 w2 => r9 = sessF (yC y) r d f0 n t ∧ w = w2) hw.i ⟨rfl, rfl⟩) (by decide) (by decide) (fun rz w2 hr => ?_))
  obtain ⟨hr, rfl⟩ := hr
  refine bX5_session_14 (c_refuse (by rw [hr]; exact af_session (c := yC y))) (by decide) (by decide) (fun w2 hw2 => ?_) (fun E w2 hE => ?_)
  · obtain ⟨h0, rfl⟩ := hw2
    obtain ⟨q1, q2, q3⟩ := az_session (hr.symm.trans h0)
    have eo := ae_session (y := y) q1 q2 q3
    rw [eo]
    refine bX5_session_17 ho (c_remember5 (Q := fun w2 => StW fr s (wR y) w2) h (fun w2 h2 => h2)) (by decide) (by decide) (fun w2 h2 => ?_)
    obtain ⟨D, L, e0, ho, hw, hoc, hk⟩ := h2.pres
    exact bX5_session_21 ho rfl hw.i.o (c_addSession (Q := fun r9 w2 => r9 = nI (insP (cSs (yC y)) (r, d, f0, n, t, -1)) ∧ StW fr s (wC (wR y) (insS (yC y) (r, d, f0, n, t, -1))) w2) hw hI q3 (fun A' w3 hA h3 => ⟨rfl, hk _ _ _ _ hA h3⟩)) (by decide) (by decide) (fun r9 w3 hr => bX5_session_35 ⟨rfl, hr.1, hr.2⟩ (by decide) (by decide))
  · obtain ⟨rfl, hE⟩ := hE
    exact ⟨h, ax_session hr hE⟩
theorem af_cancel {c : Cal} {x : Int32} : bF (inN x (cSs c).length) 1 = 0 ∨ bF (inN x (cSs c).length) 1 = 1 ∨ bF (inN x (cSs c).length) 1 = 2 ∨ bF (inN x (cSs c).length) 1 = 3 := by
  unfold bF
  (repeat' split) <;> (first | exact Or.inl rfl | exact Or.inr (Or.inl rfl) | exact Or.inr (Or.inr (Or.inl rfl)) | exact Or.inr (Or.inr (Or.inr rfl)))
theorem ax_cancel {x : Int32} {f : Int32} {E : String} (hf : f = bF (inN x (cSs (yC y)).length) 1) (hE : (f = 1 ∧ E = SIO) ∨ (f = 2 ∧ E = SAE) ∨ (f = 3 ∧ E = SSE)) : (oCanc y x).1 = 1 ∧ E = SIO ∨ (oCanc y x).1 = 2 ∧ E = SAE ∨ (oCanc y x).1 = 3 ∧ E = SSE := by
  unfold oCanc
  unfold bF at hf
  by_cases q1 : inN x (cSs (yC y)).length = true
  case neg => rw [if_neg q1] at hf ⊢; subst hf; rcases hE with ⟨z, rfl⟩ | ⟨z, rfl⟩ | ⟨z, rfl⟩ <;> (first | exact absurd z (by decide) | exact Or.inl ⟨rfl, rfl⟩ | exact Or.inr (Or.inl ⟨rfl, rfl⟩) | exact Or.inr (Or.inr ⟨rfl, rfl⟩))
  rw [if_pos q1] at hf ⊢
  subst hf; rcases hE with ⟨z, rfl⟩ | ⟨z, rfl⟩ | ⟨z, rfl⟩ <;> (first | exact absurd z (by decide) | exact Or.inl ⟨rfl, rfl⟩ | exact Or.inr (Or.inl ⟨rfl, rfl⟩) | exact Or.inr (Or.inr ⟨rfl, rfl⟩))
theorem az_cancel {x : Int32} (hf : bF (inN x (cSs (yC y)).length) 1 = 0) : (inN x (cSs (yC y)).length = true) := by
  unfold bF at hf
  by_cases q1 : inN x (cSs (yC y)).length = true
  case neg => rw [if_neg q1] at hf; exact absurd hf (by decide)
  rw [if_pos q1] at hf
  exact q1
theorem ae_cancel {x : Int32} (q1 : inN x (cSs (yC y)).length = true) : oCanc y x = (0, nI ((cSs (yC y)).length - 1), wC (wR y) (delS (yC y) x.toNatClampNeg)) := by
  unfold oCanc
  rw [if_pos q1]
theorem a_cancel {x : Int32} {T : Nat} (h : StW fr s y w) (hI : Inv T (yC y)) (hT : T + 60 < 2 ^ 31) : CX5_cancel G l 250 11400 [.ref s, .int x] w (RQ fr s (oCanc y x)) (RX fr s y (oCanc y x) SIO SAE SSE) := by
  have hb := y_len h
  obtain ⟨D, L, e0, ho, hw, hoc, hk⟩ := h.pres
  refine sX5_cancel (bX5_cancel_0 ho rfl hw.i.o (c_numberFault (Q := fun r w2 => r = bF (inN x (cSs (yC y)).length) 1 ∧ w = w2) hw.i ⟨rfl, rfl⟩) (by decide) (by decide) (fun rz w2 hr => ?_))
  obtain ⟨hr, rfl⟩ := hr
  refine bX5_cancel_8 (c_refuse (by rw [hr]; exact af_cancel (c := yC y))) (by decide) (by decide) (fun w2 hw2 => ?_) (fun E w2 hE => ?_)
  · obtain ⟨h0, rfl⟩ := hw2
    obtain q1 := az_cancel (hr.symm.trans h0)
    have eo := ae_cancel (y := y) q1
    rw [eo]
    refine bX5_cancel_11 ho (c_remember5 (Q := fun w2 => StW fr s (wR y) w2) h (fun w2 h2 => h2)) (by decide) (by decide) (fun w2 h2 => ?_)
    obtain ⟨D, L, e0, ho, hw, hoc, hk⟩ := h2.pres
    obtain ⟨k1, k2⟩ := inN_k q1 (by omega)
    refine bX5_cancel_15 ho rfl hw.i.o (by
      have := c_removeSession (G := G) (l := l) (k := x.toNatClampNeg) (Q := fun w2 => StW fr s (wC (wR y) (delS (yC y) x.toNatClampNeg)) w2) hw k1 (fun A' w3 hA h3 _ => hk _ _ _ _ hA h3)
      rw [← k2] at this; exact this) (by decide) (by decide) (fun w3 h3 => ?_)
    obtain ⟨D, L, e0, ho, hw, hoc, hk⟩ := h3.pres
    have el : (cSs (yC (wC (wR y) (delS (yC y) x.toNatClampNeg)))).length = (cSs (yC y)).length - 1 := by
      show ((cSs (yC y)).eraseIdx x.toNatClampNeg).length = _
      rw [List.length_eraseIdx, if_pos k1]
    exact bX5_cancel_23 ho rfl hw.i.o rfl ⟨rfl, by rw [el], h3⟩ (by decide) (by decide)
  · obtain ⟨rfl, hE⟩ := hE
    exact ⟨h, ax_cancel hr hE⟩
theorem af_give {c : Cal} {x p : Int32} : giveF c x p = 0 ∨ giveF c x p = 1 ∨ giveF c x p = 2 ∨ giveF c x p = 3 := by
  unfold giveF
  (repeat' split) <;> (first | exact Or.inl rfl | exact Or.inr (Or.inl rfl) | exact Or.inr (Or.inr (Or.inl rfl)) | exact Or.inr (Or.inr (Or.inr rfl)))
theorem ax_give {x p : Int32} {f : Int32} {E : String} (hf : f = giveF (yC y) x p) (hE : (f = 1 ∧ E = SIO) ∨ (f = 2 ∧ E = SAE) ∨ (f = 3 ∧ E = SSE)) : (oGive y x p).1 = 1 ∧ E = SIO ∨ (oGive y x p).1 = 2 ∧ E = SSE ∨ (oGive y x p).1 = 3 ∧ E = SSE := by
  unfold oGive
  unfold giveF at hf
  by_cases q1 : inN x (cSs (yC y)).length = true ∧ (p = -1 ∨ inN p (cPs (yC y)).length = true)
  case neg => rw [if_neg q1] at hf ⊢; subst hf; rcases hE with ⟨z, rfl⟩ | ⟨z, rfl⟩ | ⟨z, rfl⟩ <;> (first | exact absurd z (by decide) | exact Or.inl ⟨rfl, rfl⟩ | exact Or.inr (Or.inl ⟨rfl, rfl⟩) | exact Or.inr (Or.inr ⟨rfl, rfl⟩))
  rw [if_pos q1] at hf ⊢
  by_cases q2 : p = -1 ∨ why (yC y) x.toNatClampNeg p.toNatClampNeg = 0
  case neg => rw [if_neg q2] at hf ⊢; subst hf; rcases hE with ⟨z, rfl⟩ | ⟨z, rfl⟩ | ⟨z, rfl⟩ <;> (first | exact absurd z (by decide) | exact Or.inl ⟨rfl, rfl⟩ | exact Or.inr (Or.inl ⟨rfl, rfl⟩) | exact Or.inr (Or.inr ⟨rfl, rfl⟩))
  rw [if_pos q2] at hf ⊢
  subst hf; rcases hE with ⟨z, rfl⟩ | ⟨z, rfl⟩ | ⟨z, rfl⟩ <;> (first | exact absurd z (by decide) | exact Or.inl ⟨rfl, rfl⟩ | exact Or.inr (Or.inl ⟨rfl, rfl⟩) | exact Or.inr (Or.inr ⟨rfl, rfl⟩))
theorem az_give {x p : Int32} (hf : giveF (yC y) x p = 0) : (inN x (cSs (yC y)).length = true ∧ (p = -1 ∨ inN p (cPs (yC y)).length = true)) ∧ (p = -1 ∨ why (yC y) x.toNatClampNeg p.toNatClampNeg = 0) := by
  unfold giveF at hf
  by_cases q1 : inN x (cSs (yC y)).length = true ∧ (p = -1 ∨ inN p (cPs (yC y)).length = true)
  case neg => rw [if_neg q1] at hf; exact absurd hf (by decide)
  rw [if_pos q1] at hf
  by_cases q2 : p = -1 ∨ why (yC y) x.toNatClampNeg p.toNatClampNeg = 0
  case neg => rw [if_neg q2] at hf; exact absurd hf (by decide)
  rw [if_pos q2] at hf
  exact ⟨q1, q2⟩
theorem ae_give {x p : Int32} (q1 : inN x (cSs (yC y)).length = true ∧ (p = -1 ∨ inN p (cPs (yC y)).length = true)) (q2 : p = -1 ∨ why (yC y) x.toNatClampNeg p.toNatClampNeg = 0) : oGive y x p = (0, sf (sg (cSs (yC y)) x.toNatClampNeg) 5, wC (wR y) (setS (yC y) x.toNatClampNeg 5 p)) := by
  unfold oGive
  rw [if_pos q1]; rw [if_pos q2]
theorem a_give {x p : Int32} {T : Nat} (h : StW fr s y w) (hI : Inv T (yC y)) (hT : T + 60 < 2 ^ 31) : CX5_give G l 250 11400 [.ref s, .int x, .int p] w (RQ fr s (oGive y x p)) (RX fr s y (oGive y x p) SIO SSE SSE) := by
  have hb := y_len h
  obtain ⟨D, L, e0, ho, hw, hoc, hk⟩ := h.pres
  refine sX5_give (bX5_give_0 ho rfl hw.i.o (c_giveFault (Q := fun r w2 => r = giveF (yC y) x p ∧ w = w2) hw.i (fun s hs => hI.s hs) ⟨rfl, rfl⟩) (by decide) (by decide) (fun rz w2 hr => ?_))
  obtain ⟨hr, rfl⟩ := hr
  refine bX5_give_9 (c_refuse (by rw [hr]; exact af_give (c := yC y))) (by decide) (by decide) (fun w2 hw2 => ?_) (fun E w2 hE => ?_)
  · obtain ⟨h0, rfl⟩ := hw2
    obtain ⟨q1, q2⟩ := az_give (hr.symm.trans h0)
    have eo := ae_give (y := y) q1 q2
    rw [eo]
    refine bX5_give_12 ho (c_remember5 (Q := fun w2 => StW fr s (wR y) w2) h (fun w2 h2 => h2)) (by decide) (by decide) (fun w2 h2 => ?_)
    obtain ⟨D, L, e0, ho, hw, hoc, hk⟩ := h2.pres
    obtain ⟨k1, k2⟩ := inN_k q1.1 (by omega)
    obtain ⟨g, eg, hg⟩ := hw.i.sa
    have b1 : x.toNatClampNeg < 16 := by omega
    exact bX5_give_16 ho rfl hw.i.o rfl eg (ix_of k2 b1 (by decide)) (hg _ b1) (hw.i.se k1) rfl (ix_of k2 b1 (by decide)) (hg _ b1) (hw.i.se k1) (ses_l (by decide)) (f11 := sesF (sfset (sg (cSs (yC y)) x.toNatClampNeg) 5 p)) rfl ⟨rfl, rfl, hk _ _ _ _ rfl (hw.sess (k := x.toNatClampNeg) b1 _)⟩ (by decide) (by decide)
  · obtain ⟨rfl, hE⟩ := hE
    exact ⟨h, ax_give hr hE⟩
theorem a_giveAll {T : Nat} (h : StW fr s y w) (hI : Inv T (yC y)) : CX5_giveAll G l 250 11400 [.ref s] w (RQ fr s (oGvA y)) := by
  obtain ⟨D, L, e0, ho, hw, hoc, hk⟩ := h.pres
  refine sX5_giveAll (bX5_giveAll_0 ho (c_remember5 (Q := fun w2 => StW fr s (wR y) w2) h (fun w2 h2 => h2)) (by decide) (by decide) (fun w2 h2 => ?_))
  obtain ⟨D, L, e0, ho, hw, hoc, hk⟩ := h2.pres
  exact bX5_giveAll_4 ho rfl hw.i.o (c_giveToBest (Q := fun r w2 => r = (gvAll (yC y)).2 ∧ StW fr s (wC (wR y) (gvAll (yC y)).1) w2) hw hI (fun w3 h3 => ⟨rfl, hk _ _ _ _ rfl h3⟩)) (by decide) (by decide) (fun r w3 hr => bX5_giveAll_11 ⟨rfl, hr.1, hr.2⟩ (by decide) (by decide))
theorem af_extend {c : Cal} {x n : Int32} : (if inN x (cSs c).length = true then rgF n 1 16 else 1) = 0 ∨ (if inN x (cSs c).length = true then rgF n 1 16 else 1) = 1 ∨ (if inN x (cSs c).length = true then rgF n 1 16 else 1) = 2 ∨ (if inN x (cSs c).length = true then rgF n 1 16 else 1) = 3 := by
  unfold rgF
  (repeat' split) <;> (first | exact Or.inl rfl | exact Or.inr (Or.inl rfl) | exact Or.inr (Or.inr (Or.inl rfl)) | exact Or.inr (Or.inr (Or.inr rfl)))
theorem ax_extend {x n : Int32} {f : Int32} {E : String} (hf : f = (if inN x (cSs (yC y)).length = true then rgF n 1 16 else 1)) (hE : (f = 1 ∧ E = SIO) ∨ (f = 2 ∧ E = SAE) ∨ (f = 3 ∧ E = SSE)) : (oExt y x n).1 = 1 ∧ E = SIO ∨ (oExt y x n).1 = 2 ∧ E = SAE ∨ (oExt y x n).1 = 3 ∧ E = SSE := by
  unfold oExt
  unfold rgF at hf
  by_cases q1 : inN x (cSs (yC y)).length = true
  case neg => rw [if_neg q1] at hf ⊢; subst hf; rcases hE with ⟨z, rfl⟩ | ⟨z, rfl⟩ | ⟨z, rfl⟩ <;> (first | exact absurd z (by decide) | exact Or.inl ⟨rfl, rfl⟩ | exact Or.inr (Or.inl ⟨rfl, rfl⟩) | exact Or.inr (Or.inr ⟨rfl, rfl⟩))
  rw [if_pos q1] at hf ⊢
  by_cases q2 : rngI n 1 16 = true
  case neg => rw [if_neg q2] at hf ⊢; subst hf; rcases hE with ⟨z, rfl⟩ | ⟨z, rfl⟩ | ⟨z, rfl⟩ <;> (first | exact absurd z (by decide) | exact Or.inl ⟨rfl, rfl⟩ | exact Or.inr (Or.inl ⟨rfl, rfl⟩) | exact Or.inr (Or.inr ⟨rfl, rfl⟩))
  rw [if_pos q2] at hf ⊢
  subst hf; rcases hE with ⟨z, rfl⟩ | ⟨z, rfl⟩ | ⟨z, rfl⟩ <;> (first | exact absurd z (by decide) | exact Or.inl ⟨rfl, rfl⟩ | exact Or.inr (Or.inl ⟨rfl, rfl⟩) | exact Or.inr (Or.inr ⟨rfl, rfl⟩))
theorem az_extend {x n : Int32} (hf : (if inN x (cSs (yC y)).length = true then rgF n 1 16 else 1) = 0) : (inN x (cSs (yC y)).length = true) ∧ (rngI n 1 16 = true) := by
  unfold rgF at hf
  by_cases q1 : inN x (cSs (yC y)).length = true
  case neg => rw [if_neg q1] at hf; exact absurd hf (by decide)
  rw [if_pos q1] at hf
  by_cases q2 : rngI n 1 16 = true
  case neg => rw [if_neg q2] at hf; exact absurd hf (by decide)
  rw [if_pos q2] at hf
  exact ⟨q1, q2⟩
theorem ae_extend {x n : Int32} (q1 : inN x (cSs (yC y)).length = true) (q2 : rngI n 1 16 = true) : oExt y x n = (0, extL (sg (cSs (yC y)) x.toNatClampNeg) n, wC (wR y) (extC (yC y) x.toNatClampNeg n)) := by
  unfold oExt
  rw [if_pos q1]; rw [if_pos q2]
theorem a_extend {x n : Int32} {T : Nat} (h : StW fr s y w) (hI : Inv T (yC y)) (hT : T + 60 < 2 ^ 31) : CX5_extend G l 250 11400 [.ref s, .int x, .int n] w (RQ fr s (oExt y x n)) (RX fr s y (oExt y x n) SIO SAE SSE) := by
  have hb := y_len h
  obtain ⟨D, L, e0, ho, hw, hoc, hk⟩ := h.pres
  refine sX5_extend (bX5_extend_0 ho rfl hw.i.o (c_extendFault (Q := fun r w2 => r = (if inN x (cSs (yC y)).length = true then rgF n 1 16 else 1) ∧ w = w2) hw.i ⟨rfl, rfl⟩) (by decide) (by decide) (fun rz w2 hr => ?_))
  obtain ⟨hr, rfl⟩ := hr
  refine bX5_extend_9 (c_refuse (by rw [hr]; exact af_extend (c := yC y))) (by decide) (by decide) (fun w2 hw2 => ?_) (fun E w2 hE => ?_)
  · obtain ⟨h0, rfl⟩ := hw2
    obtain ⟨q1, q2⟩ := az_extend (hr.symm.trans h0)
    have eo := ae_extend (y := y) q1 q2
    rw [eo]
    refine bX5_extend_12 ho (c_remember5 (Q := fun w2 => StW fr s (wR y) w2) h (fun w2 h2 => h2)) (by decide) (by decide) (fun w2 h2 => ?_)
    obtain ⟨D, L, e0, ho, hw, hoc, hk⟩ := h2.pres
    obtain ⟨k1, k2⟩ := inN_k q1 (by omega)
    obtain ⟨n1, n2⟩ := rngI_iff.mp q2
    exact bX5_extend_16 (Qc := fun r w2 => r = extL (sg (cSs (yC y)) x.toNatClampNeg) n ∧ StW fr s (wC (wR y) (extC (yC y) x.toNatClampNeg n)) w2) ho rfl hw.i.o (by
      have := c_lengthen (G := G) (l := l) (k := x.toNatClampNeg) (n := n) (Q := fun r w2 => r = extL (sg (cSs (yC y)) x.toNatClampNeg) n ∧ StW fr s (wC (wR y) (extC (yC y) x.toNatClampNeg n)) w2) hw hI k1 n1 n2 (fun A' w3 hA h3 => ⟨rfl, hk _ _ _ _ hA h3⟩)
      rw [← k2] at this; exact this) (by decide) (by decide) (fun r w3 hr => bX5_extend_25 ⟨rfl, hr.1, hr.2⟩ (by decide) (by decide))
  · obtain ⟨rfl, hE⟩ := hE
    exact ⟨h, ax_extend hr hE⟩
theorem af_leave {c : Cal} {x n : Int32} : (if inN x (cPs c).length = true then rgF n 0 30 else 1) = 0 ∨ (if inN x (cPs c).length = true then rgF n 0 30 else 1) = 1 ∨ (if inN x (cPs c).length = true then rgF n 0 30 else 1) = 2 ∨ (if inN x (cPs c).length = true then rgF n 0 30 else 1) = 3 := by
  unfold rgF
  (repeat' split) <;> (first | exact Or.inl rfl | exact Or.inr (Or.inl rfl) | exact Or.inr (Or.inr (Or.inl rfl)) | exact Or.inr (Or.inr (Or.inr rfl)))
theorem ax_leave {x n : Int32} {f : Int32} {E : String} (hf : f = (if inN x (cPs (yC y)).length = true then rgF n 0 30 else 1)) (hE : (f = 1 ∧ E = SIO) ∨ (f = 2 ∧ E = SAE) ∨ (f = 3 ∧ E = SSE)) : (oLeav y x n).1 = 1 ∧ E = SIO ∨ (oLeav y x n).1 = 2 ∧ E = SAE ∨ (oLeav y x n).1 = 3 ∧ E = SSE := by
  unfold oLeav
  unfold rgF at hf
  by_cases q1 : inN x (cPs (yC y)).length = true
  case neg => rw [if_neg q1] at hf ⊢; subst hf; rcases hE with ⟨z, rfl⟩ | ⟨z, rfl⟩ | ⟨z, rfl⟩ <;> (first | exact absurd z (by decide) | exact Or.inl ⟨rfl, rfl⟩ | exact Or.inr (Or.inl ⟨rfl, rfl⟩) | exact Or.inr (Or.inr ⟨rfl, rfl⟩))
  rw [if_pos q1] at hf ⊢
  by_cases q2 : rngI n 0 30 = true
  case neg => rw [if_neg q2] at hf ⊢; subst hf; rcases hE with ⟨z, rfl⟩ | ⟨z, rfl⟩ | ⟨z, rfl⟩ <;> (first | exact absurd z (by decide) | exact Or.inl ⟨rfl, rfl⟩ | exact Or.inr (Or.inl ⟨rfl, rfl⟩) | exact Or.inr (Or.inr ⟨rfl, rfl⟩))
  rw [if_pos q2] at hf ⊢
  subst hf; rcases hE with ⟨z, rfl⟩ | ⟨z, rfl⟩ | ⟨z, rfl⟩ <;> (first | exact absurd z (by decide) | exact Or.inl ⟨rfl, rfl⟩ | exact Or.inr (Or.inl ⟨rfl, rfl⟩) | exact Or.inr (Or.inr ⟨rfl, rfl⟩))
theorem az_leave {x n : Int32} (hf : (if inN x (cPs (yC y)).length = true then rgF n 0 30 else 1) = 0) : (inN x (cPs (yC y)).length = true) ∧ (rngI n 0 30 = true) := by
  unfold rgF at hf
  by_cases q1 : inN x (cPs (yC y)).length = true
  case neg => rw [if_neg q1] at hf; exact absurd hf (by decide)
  rw [if_pos q1] at hf
  by_cases q2 : rngI n 0 30 = true
  case neg => rw [if_neg q2] at hf; exact absurd hf (by decide)
  rw [if_pos q2] at hf
  exact ⟨q1, q2⟩
theorem ae_leave {x n : Int32} (q1 : inN x (cPs (yC y)).length = true) (q2 : rngI n 0 30 = true) : oLeav y x n = (0, (lvAll (yC y) x.toNatClampNeg n).2, wC (wR y) (lvAll (yC y) x.toNatClampNeg n).1) := by
  unfold oLeav
  rw [if_pos q1]; rw [if_pos q2]
theorem a_leave {x n : Int32} {T : Nat} (h : StW fr s y w) (hI : Inv T (yC y)) (hT : T + 60 < 2 ^ 31) : CX5_leave G l 250 11400 [.ref s, .int x, .int n] w (RQ fr s (oLeav y x n)) (RX fr s y (oLeav y x n) SIO SAE SSE) := by
  have hb := y_len h
  obtain ⟨D, L, e0, ho, hw, hoc, hk⟩ := h.pres
  refine sX5_leave (bX5_leave_0 ho rfl hw.i.o (c_leaveFault (Q := fun r w2 => r = (if inN x (cPs (yC y)).length = true then rgF n 0 30 else 1) ∧ w = w2) hw.i ⟨rfl, rfl⟩) (by decide) (by decide) (fun rz w2 hr => ?_))
  obtain ⟨hr, rfl⟩ := hr
  refine bX5_leave_9 (c_refuse (by rw [hr]; exact af_leave (c := yC y))) (by decide) (by decide) (fun w2 hw2 => ?_) (fun E w2 hE => ?_)
  · obtain ⟨h0, rfl⟩ := hw2
    obtain ⟨q1, q2⟩ := az_leave (hr.symm.trans h0)
    have eo := ae_leave (y := y) q1 q2
    rw [eo]
    refine bX5_leave_12 ho (c_remember5 (Q := fun w2 => StW fr s (wR y) w2) h (fun w2 h2 => h2)) (by decide) (by decide) (fun w2 h2 => ?_)
    obtain ⟨D, L, e0, ho, hw, hoc, hk⟩ := h2.pres
    obtain ⟨k1, k2⟩ := inN_k q1 (by omega)
    exact bX5_leave_16 (Qc := fun r w2 => r = (lvAll (yC y) x.toNatClampNeg n).2 ∧ StW fr s (wC (wR y) (lvAll (yC y) x.toNatClampNeg n).1) w2) ho rfl hw.i.o (by
      have := c_sendOnLeave (G := G) (l := l) (p := x.toNatClampNeg) (days := n) (Q := fun r w2 => r = (lvAll (yC y) x.toNatClampNeg n).2 ∧ StW fr s (wC (wR y) (lvAll (yC y) x.toNatClampNeg n).1) w2) hw k1 (fun w3 h3 => ⟨rfl, hk _ _ _ _ rfl h3⟩)
      rw [← k2] at this; exact this) (by decide) (by decide) (fun r w3 hr => bX5_leave_25 ⟨rfl, hr.1, hr.2⟩ (by decide) (by decide))
  · obtain ⟨rfl, hE⟩ := hE
    exact ⟨h, ax_leave hr hE⟩
theorem af_run {c : Cal} {n : Int32} : rgF n 1 30 = 0 ∨ rgF n 1 30 = 1 ∨ rgF n 1 30 = 2 ∨ rgF n 1 30 = 3 := by
  unfold rgF
  (repeat' split) <;> (first | exact Or.inl rfl | exact Or.inr (Or.inl rfl) | exact Or.inr (Or.inr (Or.inl rfl)) | exact Or.inr (Or.inr (Or.inr rfl)))
theorem ax_run {n : Int32} {f : Int32} {E : String} (hf : f = rgF n 1 30) (hE : (f = 1 ∧ E = SIO) ∨ (f = 2 ∧ E = SAE) ∨ (f = 3 ∧ E = SSE)) : (oRun y n).1 = 1 ∧ E = SAE ∨ (oRun y n).1 = 2 ∧ E = SAE ∨ (oRun y n).1 = 3 ∧ E = SAE := by
  unfold oRun
  unfold rgF at hf
  by_cases q1 : rngI n 1 30 = true
  case neg => rw [if_neg q1] at hf ⊢; subst hf; rcases hE with ⟨z, rfl⟩ | ⟨z, rfl⟩ | ⟨z, rfl⟩ <;> (first | exact absurd z (by decide) | exact Or.inl ⟨rfl, rfl⟩ | exact Or.inr (Or.inl ⟨rfl, rfl⟩) | exact Or.inr (Or.inr ⟨rfl, rfl⟩))
  rw [if_pos q1] at hf ⊢
  subst hf; rcases hE with ⟨z, rfl⟩ | ⟨z, rfl⟩ | ⟨z, rfl⟩ <;> (first | exact absurd z (by decide) | exact Or.inl ⟨rfl, rfl⟩ | exact Or.inr (Or.inl ⟨rfl, rfl⟩) | exact Or.inr (Or.inr ⟨rfl, rfl⟩))
theorem az_run {n : Int32} (hf : rgF n 1 30 = 0) : (rngI n 1 30 = true) := by
  unfold rgF at hf
  by_cases q1 : rngI n 1 30 = true
  case neg => rw [if_neg q1] at hf; exact absurd hf (by decide)
  rw [if_pos q1] at hf
  exact q1
theorem ae_run {n : Int32} (q1 : rngI n 1 30 = true) : oRun y n = (0, cSc (runTo (yC y) n.toNatClampNeg) 6 - cSc (yC y) 6, wC (wR y) (runTo (yC y) n.toNatClampNeg)) := by
  unfold oRun
  rw [if_pos q1]
theorem a_run {n : Int32} {T : Nat} (h : StW fr s y w) (hI : Inv T (yC y)) (hT : T + 60 < 2 ^ 31) : CX5_run G l 250 11400 [.ref s, .int n] w (RQ fr s (oRun y n)) (RX fr s y (oRun y n) SAE SAE SAE) := by
  have hb := y_len h
  obtain ⟨D, L, e0, ho, hw, hoc, hk⟩ := h.pres
  refine sX5_run (bX5_run_0 ho rfl hw.i.o (c_runFault (Q := fun r w2 => r = rgF n 1 30 ∧ w = w2) ⟨rfl, rfl⟩) (by decide) (by decide) (fun rz w2 hr => ?_))
  obtain ⟨hr, rfl⟩ := hr
  refine bX5_run_8 (c_refuse (by rw [hr]; exact af_run (c := yC y))) (by decide) (by decide) (fun w2 hw2 => ?_) (fun E w2 hE => ?_)
  · obtain ⟨h0, rfl⟩ := hw2
    obtain q1 := az_run (hr.symm.trans h0)
    have eo := ae_run (y := y) q1
    rw [eo]
    refine bX5_run_11 ho (c_remember5 (Q := fun w2 => StW fr s (wR y) w2) h (fun w2 h2 => h2)) (by decide) (by decide) (fun w2 h2 => ?_)
    obtain ⟨D, L, e0, ho, hw, hoc, hk⟩ := h2.pres
    obtain ⟨n1, n2⟩ := rng_nI q1 (by decide) (by decide)
    have n3 := rngI_iff.mp q1
    have hlb := hw.lb
    have b1 := pC_le hlb.1
    have b2 := pS_le hlb.1
    exact bX5_run_15 ho rfl hw.i.o (mcq := 120) (msq := 5664) (c_finesOfDays (n := n.toNatClampNeg) (Q := fun r w2 => r = cSc (runTo (yC y) n.toNatClampNeg) 6 - cSc (yC y) 6 ∧ StW fr s (wC (wR y) (runTo (yC y) n.toNatClampNeg)) w2) hw hI n1 (by omega) (by omega) (Nat.le_trans b1 (Nat.le_add_right _ _)) (Nat.le_trans b2 (Nat.le_add_right _ _)) (fun A' w3 hA h3 => ⟨rfl, hk _ _ _ _ hA h3⟩)) (by decide) (by decide) (fun r w3 hr => bX5_run_23 ⟨rfl, hr.1, hr.2⟩ (by decide) (by decide))
  · obtain ⟨rfl, hE⟩ := hE
    exact ⟨h, ax_run hr hE⟩
theorem af_set {c : Cal} {x v : Int32} : stgF x v = 0 ∨ stgF x v = 1 ∨ stgF x v = 2 ∨ stgF x v = 3 := by
  unfold stgF
  (repeat' split) <;> (first | exact Or.inl rfl | exact Or.inr (Or.inl rfl) | exact Or.inr (Or.inr (Or.inl rfl)) | exact Or.inr (Or.inr (Or.inr rfl)))
theorem ax_set {x v : Int32} {f : Int32} {E : String} (hf : f = stgF x v) (hE : (f = 1 ∧ E = SIO) ∨ (f = 2 ∧ E = SAE) ∨ (f = 3 ∧ E = SSE)) : (oSet y x v).1 = 1 ∧ E = SAE ∨ (oSet y x v).1 = 2 ∧ E = SAE ∨ (oSet y x v).1 = 3 ∧ E = SAE := by
  unfold oSet
  unfold stgF at hf
  by_cases q1 : isStg x v = true
  case neg => rw [if_neg q1] at hf ⊢; subst hf; rcases hE with ⟨z, rfl⟩ | ⟨z, rfl⟩ | ⟨z, rfl⟩ <;> (first | exact absurd z (by decide) | exact Or.inl ⟨rfl, rfl⟩ | exact Or.inr (Or.inl ⟨rfl, rfl⟩) | exact Or.inr (Or.inr ⟨rfl, rfl⟩))
  rw [if_pos q1] at hf ⊢
  subst hf; rcases hE with ⟨z, rfl⟩ | ⟨z, rfl⟩ | ⟨z, rfl⟩ <;> (first | exact absurd z (by decide) | exact Or.inl ⟨rfl, rfl⟩ | exact Or.inr (Or.inl ⟨rfl, rfl⟩) | exact Or.inr (Or.inr ⟨rfl, rfl⟩))
theorem az_set {x v : Int32} (hf : stgF x v = 0) : (isStg x v = true) := by
  unfold stgF at hf
  by_cases q1 : isStg x v = true
  case neg => rw [if_neg q1] at hf; exact absurd hf (by decide)
  rw [if_pos q1] at hf
  exact q1
theorem ae_set {x v : Int32} (q1 : isStg x v = true) : oSet y x v = (0, cSc (yC y) (9 + x.toNatClampNeg), wC (wR y) (setC (yC y) (9 + x.toNatClampNeg) v)) := by
  unfold oSet
  rw [if_pos q1]
theorem a_set {x v : Int32} {T : Nat} (h : StW fr s y w) (hI : Inv T (yC y)) (hT : T + 60 < 2 ^ 31) : CX5_set G l 250 11400 [.ref s, .int x, .int v] w (RQ fr s (oSet y x v)) (RX fr s y (oSet y x v) SAE SAE SAE) := by
  have hb := y_len h
  obtain ⟨D, L, e0, ho, hw, hoc, hk⟩ := h.pres
  refine sX5_set (bX5_set_0 ho rfl hw.i.o (c_setFault (Q := fun r w2 => r = stgF x v ∧ w = w2) ⟨rfl, rfl⟩) (by decide) (by decide) (fun rz w2 hr => ?_))
  obtain ⟨hr, rfl⟩ := hr
  refine bX5_set_9 (c_refuse (by rw [hr]; exact af_set (c := yC y))) (by decide) (by decide) (fun w2 hw2 => ?_) (fun E w2 hE => ?_)
  · obtain ⟨h0, rfl⟩ := hw2
    obtain q1 := az_set (hr.symm.trans h0)
    have eo := ae_set (y := y) q1
    rw [eo]
    refine bX5_set_12 ho (c_remember5 (Q := fun w2 => StW fr s (wR y) w2) h (fun w2 h2 => h2)) (by decide) (by decide) (fun w2 h2 => ?_)
    obtain ⟨D, L, e0, ho, hw, hoc, hk⟩ := h2.pres
    have q2 : rngI x 0 3 = true := by unfold isStg at q1; rw [Bool.and_eq_true] at q1; exact q1.1
    obtain ⟨n1, n2⟩ := rng_nI q2 (by decide) (by decide)
    have n3 := rngI_iff.mp q2
    obtain ⟨g, eg, hg⟩ := hw.i.st
    have b : x.toNatClampNeg < 4 := by omega
    exact bX5_set_16 ho rfl hw.i.o rfl eg (ix_of n1 b (by decide)) (ix_of n1 b (by decide)) ⟨rfl, hg _ b, hk _ _ _ _ rfl (hw.stg b eg v)⟩ (by decide) (by decide)
  · obtain ⟨rfl, hE⟩ := hE
    exact ⟨h, ax_set hr hE⟩
end AA
