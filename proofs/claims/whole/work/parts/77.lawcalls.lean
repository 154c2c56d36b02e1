/-! THE LAW'S OWN CALLS OF THE CLASS -/
theorem lkA : Cond.classLink "StenoRoomsLaw" 13 SAE ∈ Tg := tg_in (List.mem_append_right _ (List.mem_of_getElem? (i := 318) (by decide +kernel))) rfl
theorem lkS : Cond.classLink "StenoRoomsLaw" 15 SSE ∈ Tg := tg_in (List.mem_append_right _ (List.mem_of_getElem? (i := 319) (by decide +kernel))) rfl
theorem lkI : Cond.classLink "StenoRoomsLaw" 28 SIO ∈ Tg := tg_in (List.mem_append_right _ (List.mem_of_getElem? (i := 555) (by decide +kernel))) rfl
theorem csA : Cond.castable SAE SAE ∈ lw_tbl := List.mem_append_right _ (List.mem_of_getElem? (i := 326) (by decide +kernel))
theorem csS : Cond.castable SSE SSE ∈ lw_tbl := List.mem_append_right _ (List.mem_of_getElem? (i := 394) (by decide +kernel))
theorem csI : Cond.castable SIO SIO ∈ lw_tbl := List.mem_append_right _ (List.mem_of_getElem? (i := 566) (by decide +kernel))
abbrev lrow (g : Nat → Int64) : PE := .inr (2, 1, .inr (.inl g))
def LPo (fr : Wd) (s o9 : Nat) (y : Sy) (o : Int32 × Int32 × Sy) (k : Int32) (w2 : Wd) : Prop := k = o.1 ∧ ((o.1 = 0 ∧ ∃ w3 g, StW fr s o.2.2 w3 ∧ w3 o9 = some (lrow g) ∧ w2 = wset w3 o9 (lrow (vp_updL g (0 : Int32).toNatClampNeg o.2.1.toInt64))) ∨ (¬ o.1 = 0 ∧ StW fr s y w2))
section LW
variable {G : GG} {l : Launch} {fr w : Wd} {s o9 : Nat} {y : Sy} {g : Nat → Int64}
theorem StW.fq (h : StW fr s y w) {q : Nat} {e : PE} (hq : fr q = some e) : w q = some e := by
  obtain ⟨D, cs, Ls, e0, hR, -⟩ := h
  exact hR.f hq
theorem l_append {x1 : Int32} (h : StW fr s y w) (ho : fr o9 = some (lrow g)) : CL_append G l 250 11400 [.ref s, .int x1, .ref o9] w (LPo fr s o9 y (oApp y x1)) := by
  obtain ⟨D, L, e0, hob, -, -, -⟩ := h.pres
  refine sL_append (bL_append_0 (mcq := 250) (msq := 11400) hob (a_append h) (by decide) (by decide) (fun r w2 hr => ?_) (fun E w2 hE => ?_))
  · obtain ⟨h0, rfl, hs⟩ := hr
    have e := hs.fq ho
    exact bL_append_7 e (vlit rfl) (bL_append_18 ⟨h0.symm, Or.inl ⟨h0, w2, g, hs, e, rfl⟩⟩ (by decide) (by decide))
  · obtain ⟨hs, hE⟩ := hE
    rcases hE with ⟨h1, rfl⟩ | ⟨h1, rfl⟩ | ⟨h1, rfl⟩
    · exact xe_catch [] ⟨0, 9, 12, 13⟩ [⟨0, 9, 15, 15⟩] rfl (fun z hz => absurd hz (List.not_mem_nil)) rfl (by decide) lkA csA rfl (fun q => X.lsub lsub_nil (bL_append_12 ⟨h1.symm, Or.inr ⟨by rw [h1]; decide, hs⟩⟩ (by decide) (by decide)))
    · exact xe_catch [⟨0, 9, 12, 13⟩] ⟨0, 9, 15, 15⟩ [] rfl (fun z hz => by rcases List.mem_singleton.mp hz with rfl; exact ⟨by decide, _, lkA, by decide +kernel⟩) rfl (by decide) lkS csS rfl (fun q => X.lsub lsub_nil (bL_append_15 ⟨h1.symm, Or.inr ⟨by rw [h1]; decide, hs⟩⟩ (by decide) (by decide)))
    · exact absurd h1 (by unfold oApp; (repeat' split) <;> (first | exact (by decide : ¬ (0 : Int32) = 3) | exact (by decide : ¬ (1 : Int32) = 3) | exact (by decide : ¬ (2 : Int32) = 3)))
theorem l_load  (h : StW fr s y w) (ho : fr o9 = some (lrow g)) : CL_load G l 250 11400 [.ref s, .ref o9] w (LPo fr s o9 y (oLoad y)) := by
  obtain ⟨D, L, e0, hob, -, -, -⟩ := h.pres
  refine sL_load (bL_load_0 (mcq := 250) (msq := 11400) hob (a_load h) (by decide) (by decide) (fun r w2 hr => ?_) (fun E w2 hE => ?_))
  · obtain ⟨h0, rfl, hs⟩ := hr
    have e := hs.fq ho
    exact bL_load_6 e (vlit rfl) (bL_load_14 ⟨h0.symm, Or.inl ⟨h0, w2, g, hs, e, rfl⟩⟩ (by decide) (by decide))
  · obtain ⟨hs, hE⟩ := hE
    rcases hE with ⟨h1, rfl⟩ | ⟨h1, rfl⟩ | ⟨h1, rfl⟩
    · exact xe_catch [] ⟨0, 8, 11, 15⟩ [] rfl (fun z hz => absurd hz (List.not_mem_nil)) rfl (by decide) lkS csS rfl (fun q => X.lsub lsub_nil (bL_load_11 ⟨h1.symm, Or.inr ⟨by rw [h1]; decide, hs⟩⟩ (by decide) (by decide)))
    · exact absurd h1 (by unfold oLoad; (repeat' split) <;> (first | exact (by decide : ¬ (0 : Int32) = 2) | exact (by decide : ¬ (1 : Int32) = 2) | exact (by decide : ¬ (2 : Int32) = 2)))
    · exact absurd h1 (by unfold oLoad; (repeat' split) <;> (first | exact (by decide : ¬ (0 : Int32) = 3) | exact (by decide : ¬ (1 : Int32) = 3) | exact (by decide : ¬ (2 : Int32) = 3)))
theorem l_about {x1 : Int32} {T : Nat} (hI : Inv T (yC y)) (h : StW fr s y w) (ho : fr o9 = some (lrow g)) : CL_about G l 250 11400 [.ref s, .int x1, .ref o9] w (LPo fr s o9 y (oAbout y x1)) := by
  obtain ⟨D, L, e0, hob, -, -, -⟩ := h.pres
  refine sL_about (bL_about_0 (mcq := 250) (msq := 11400) hob (a_about h hI) (by decide) (by decide) (fun r w2 hr => ?_) (fun E w2 hE => ?_))
  · obtain ⟨h0, rfl, hs⟩ := hr
    have e := hs.fq ho
    exact bL_about_7 e (vlit rfl) (bL_about_15 ⟨h0.symm, Or.inl ⟨h0, w2, g, hs, e, rfl⟩⟩ (by decide) (by decide))
  · obtain ⟨hs, hE⟩ := hE
    rcases hE with ⟨h1, rfl⟩ | ⟨h1, rfl⟩ | ⟨h1, rfl⟩
    · exact xe_catch [] ⟨0, 9, 12, 13⟩ [] rfl (fun z hz => absurd hz (List.not_mem_nil)) rfl (by decide) lkA csA rfl (fun q => X.lsub lsub_nil (bL_about_12 ⟨h1.symm, Or.inr ⟨by rw [h1]; decide, hs⟩⟩ (by decide) (by decide)))
    · exact absurd h1 (by unfold oAbout; (repeat' split) <;> (first | exact (by decide : ¬ (0 : Int32) = 2) | exact (by decide : ¬ (1 : Int32) = 2) | exact (by decide : ¬ (2 : Int32) = 2)))
    · exact absurd h1 (by unfold oAbout; (repeat' split) <;> (first | exact (by decide : ¬ (0 : Int32) = 3) | exact (by decide : ¬ (1 : Int32) = 3) | exact (by decide : ¬ (2 : Int32) = 3)))
theorem l_stenographer {x1 : Int32} {x2 : Int32} {T : Nat} (hI : Inv T (yC y)) (h : StW fr s y w) (ho : fr o9 = some (lrow g)) : CL_stenographer G l 250 11400 [.ref s, .int x1, .int x2, .ref o9] w (LPo fr s o9 y (oSten y x1 x2)) := by
  obtain ⟨D, L, e0, hob, -, -, -⟩ := h.pres
  refine sL_stenographer (bL_stenographer_0 (mcq := 250) (msq := 11400) hob (a_stenographer h hI) (by decide) (by decide) (fun r w2 hr => ?_) (fun E w2 hE => ?_))
  · obtain ⟨h0, rfl, hs⟩ := hr
    have e := hs.fq ho
    exact bL_stenographer_8 e (vlit rfl) (bL_stenographer_21 ⟨h0.symm, Or.inl ⟨h0, w2, g, hs, e, rfl⟩⟩ (by decide) (by decide))
  · obtain ⟨hs, hE⟩ := hE
    rcases hE with ⟨h1, rfl⟩ | ⟨h1, rfl⟩ | ⟨h1, rfl⟩
    · exact xe_catch [] ⟨0, 10, 13, 28⟩ [⟨0, 10, 17, 13⟩] rfl (fun z hz => absurd hz (List.not_mem_nil)) rfl (by decide) lkI csI rfl (fun q => X.lsub lsub_nil (bL_stenographer_13 ⟨h1.symm, Or.inr ⟨by rw [h1]; decide, hs⟩⟩ (by decide) (by decide)))
    · exact xe_catch [⟨0, 10, 13, 28⟩] ⟨0, 10, 17, 13⟩ [] rfl (fun z hz => by rcases List.mem_singleton.mp hz with rfl; exact ⟨by decide, _, lkI, by decide +kernel⟩) rfl (by decide) lkA csA rfl (fun q => X.lsub lsub_nil (bL_stenographer_17 ⟨h1.symm, Or.inr ⟨by rw [h1]; decide, hs⟩⟩ (by decide) (by decide)))
    · exact absurd h1 (by unfold oSten; (repeat' split) <;> (first | exact (by decide : ¬ (0 : Int32) = 3) | exact (by decide : ¬ (1 : Int32) = 3) | exact (by decide : ¬ (2 : Int32) = 3)))
theorem l_sessionOf {x1 : Int32} {x2 : Int32} (h : StW fr s y w) (ho : fr o9 = some (lrow g)) : CL_sessionOf G l 250 11400 [.ref s, .int x1, .int x2, .ref o9] w (LPo fr s o9 y (oSesOf y x1 x2)) := by
  obtain ⟨D, L, e0, hob, -, -, -⟩ := h.pres
  refine sL_sessionOf (bL_sessionOf_0 (mcq := 250) (msq := 11400) hob (a_sessionOf h) (by decide) (by decide) (fun r w2 hr => ?_) (fun E w2 hE => ?_))
  · obtain ⟨h0, rfl, hs⟩ := hr
    have e := hs.fq ho
    exact bL_sessionOf_8 e (vlit rfl) (bL_sessionOf_21 ⟨h0.symm, Or.inl ⟨h0, w2, g, hs, e, rfl⟩⟩ (by decide) (by decide))
  · obtain ⟨hs, hE⟩ := hE
    rcases hE with ⟨h1, rfl⟩ | ⟨h1, rfl⟩ | ⟨h1, rfl⟩
    · exact xe_catch [] ⟨0, 10, 13, 28⟩ [⟨0, 10, 17, 13⟩] rfl (fun z hz => absurd hz (List.not_mem_nil)) rfl (by decide) lkI csI rfl (fun q => X.lsub lsub_nil (bL_sessionOf_13 ⟨h1.symm, Or.inr ⟨by rw [h1]; decide, hs⟩⟩ (by decide) (by decide)))
    · exact xe_catch [⟨0, 10, 13, 28⟩] ⟨0, 10, 17, 13⟩ [] rfl (fun z hz => by rcases List.mem_singleton.mp hz with rfl; exact ⟨by decide, _, lkI, by decide +kernel⟩) rfl (by decide) lkA csA rfl (fun q => X.lsub lsub_nil (bL_sessionOf_17 ⟨h1.symm, Or.inr ⟨by rw [h1]; decide, hs⟩⟩ (by decide) (by decide)))
    · exact absurd h1 (by unfold oSesOf; (repeat' split) <;> (first | exact (by decide : ¬ (0 : Int32) = 3) | exact (by decide : ¬ (1 : Int32) = 3) | exact (by decide : ¬ (2 : Int32) = 3)))
theorem l_transcript {x1 : Int32} {x2 : Int32} {x3 : Int32} (h : StW fr s y w) (ho : fr o9 = some (lrow g)) : CL_transcript G l 250 11400 [.ref s, .int x1, .int x2, .int x3, .ref o9] w (LPo fr s o9 y (oTrn y x1 x2 x3)) := by
  obtain ⟨D, L, e0, hob, -, -, -⟩ := h.pres
  refine sL_transcript (bL_transcript_0 (mcq := 250) (msq := 11400) hob (a_transcript h) (by decide) (by decide) (fun r w2 hr => ?_) (fun E w2 hE => ?_))
  · obtain ⟨h0, rfl, hs⟩ := hr
    have e := hs.fq ho
    exact bL_transcript_10 e (vlit rfl) (bL_transcript_23 ⟨h0.symm, Or.inl ⟨h0, w2, g, hs, e, rfl⟩⟩ (by decide) (by decide))
  · obtain ⟨hs, hE⟩ := hE
    rcases hE with ⟨h1, rfl⟩ | ⟨h1, rfl⟩ | ⟨h1, rfl⟩
    · exact xe_catch [] ⟨0, 12, 15, 28⟩ [⟨0, 12, 19, 13⟩] rfl (fun z hz => absurd hz (List.not_mem_nil)) rfl (by decide) lkI csI rfl (fun q => X.lsub lsub_nil (bL_transcript_15 ⟨h1.symm, Or.inr ⟨by rw [h1]; decide, hs⟩⟩ (by decide) (by decide)))
    · exact xe_catch [⟨0, 12, 15, 28⟩] ⟨0, 12, 19, 13⟩ [] rfl (fun z hz => by rcases List.mem_singleton.mp hz with rfl; exact ⟨by decide, _, lkI, by decide +kernel⟩) rfl (by decide) lkA csA rfl (fun q => X.lsub lsub_nil (bL_transcript_19 ⟨h1.symm, Or.inr ⟨by rw [h1]; decide, hs⟩⟩ (by decide) (by decide)))
    · exact absurd h1 (by unfold oTrn; (repeat' split) <;> (first | exact (by decide : ¬ (0 : Int32) = 3) | exact (by decide : ¬ (1 : Int32) = 3) | exact (by decide : ¬ (2 : Int32) = 3)))
theorem l_setting {x1 : Int32} (h : StW fr s y w) (ho : fr o9 = some (lrow g)) : CL_setting G l 250 11400 [.ref s, .int x1, .ref o9] w (LPo fr s o9 y (oSetg y x1)) := by
  obtain ⟨D, L, e0, hob, -, -, -⟩ := h.pres
  refine sL_setting (bL_setting_0 (mcq := 250) (msq := 11400) hob (a_setting h) (by decide) (by decide) (fun r w2 hr => ?_) (fun E w2 hE => ?_))
  · obtain ⟨h0, rfl, hs⟩ := hr
    have e := hs.fq ho
    exact bL_setting_7 e (vlit rfl) (bL_setting_15 ⟨h0.symm, Or.inl ⟨h0, w2, g, hs, e, rfl⟩⟩ (by decide) (by decide))
  · obtain ⟨hs, hE⟩ := hE
    rcases hE with ⟨h1, rfl⟩ | ⟨h1, rfl⟩ | ⟨h1, rfl⟩
    · exact xe_catch [] ⟨0, 9, 12, 13⟩ [] rfl (fun z hz => absurd hz (List.not_mem_nil)) rfl (by decide) lkA csA rfl (fun q => X.lsub lsub_nil (bL_setting_12 ⟨h1.symm, Or.inr ⟨by rw [h1]; decide, hs⟩⟩ (by decide) (by decide)))
    · exact absurd h1 (by unfold oSetg; (repeat' split) <;> (first | exact (by decide : ¬ (0 : Int32) = 2) | exact (by decide : ¬ (1 : Int32) = 2) | exact (by decide : ¬ (2 : Int32) = 2)))
    · exact absurd h1 (by unfold oSetg; (repeat' split) <;> (first | exact (by decide : ¬ (0 : Int32) = 3) | exact (by decide : ¬ (1 : Int32) = 3) | exact (by decide : ¬ (2 : Int32) = 3)))
theorem l_hire {x1 : Int32} {T : Nat} (hI : Inv T (yC y)) (hT : T + 200 < 2 ^ 31) (h : StW fr s y w) (ho : fr o9 = some (lrow g)) : CL_hire G l 250 11400 [.ref s, .int x1, .ref o9] w (LPo fr s o9 y (oHire y x1)) := by
  obtain ⟨D, L, e0, hob, -, -, -⟩ := h.pres
  refine sL_hire (bL_hire_0 (mcq := 250) (msq := 11400) hob (a_hire h hI (by omega)) (by decide) (by decide) (fun r w2 hr => ?_) (fun E w2 hE => ?_))
  · obtain ⟨h0, rfl, hs⟩ := hr
    have e := hs.fq ho
    exact bL_hire_7 e (vlit rfl) (bL_hire_18 ⟨h0.symm, Or.inl ⟨h0, w2, g, hs, e, rfl⟩⟩ (by decide) (by decide))
  · obtain ⟨hs, hE⟩ := hE
    rcases hE with ⟨h1, rfl⟩ | ⟨h1, rfl⟩ | ⟨h1, rfl⟩
    · exact xe_catch [] ⟨0, 9, 12, 13⟩ [⟨0, 9, 15, 15⟩] rfl (fun z hz => absurd hz (List.not_mem_nil)) rfl (by decide) lkA csA rfl (fun q => X.lsub lsub_nil (bL_hire_12 ⟨h1.symm, Or.inr ⟨by rw [h1]; decide, hs⟩⟩ (by decide) (by decide)))
    · exact xe_catch [⟨0, 9, 12, 13⟩] ⟨0, 9, 15, 15⟩ [] rfl (fun z hz => by rcases List.mem_singleton.mp hz with rfl; exact ⟨by decide, _, lkA, by decide +kernel⟩) rfl (by decide) lkS csS rfl (fun q => X.lsub lsub_nil (bL_hire_15 ⟨h1.symm, Or.inr ⟨by rw [h1]; decide, hs⟩⟩ (by decide) (by decide)))
    · exact absurd h1 (by unfold oHire; (repeat' split) <;> (first | exact (by decide : ¬ (0 : Int32) = 3) | exact (by decide : ¬ (1 : Int32) = 3) | exact (by decide : ¬ (2 : Int32) = 3)))
theorem l_session {x1 : Int32} {x2 : Int32} {x3 : Int32} {x4 : Int32} {x5 : Int32} {T : Nat} (hI : Inv T (yC y)) (hT : T + 200 < 2 ^ 31) (h : StW fr s y w) (ho : fr o9 = some (lrow g)) : CL_session G l 250 11400 [.ref s, .int x1, .int x2, .int x3, .int x4, .int x5, .ref o9] w (LPo fr s o9 y (oSess y x1 x2 x3 x4 x5)) := by
  obtain ⟨D, L, e0, hob, -, -, -⟩ := h.pres
  refine sL_session (bL_session_0 (mcq := 250) (msq := 11400) hob (a_session h hI (by omega)) (by decide) (by decide) (fun r w2 hr => ?_) (fun E w2 hE => ?_))
  · obtain ⟨h0, rfl, hs⟩ := hr
    have e := hs.fq ho
    exact bL_session_14 e (vlit rfl) (bL_session_31 ⟨h0.symm, Or.inl ⟨h0, w2, g, hs, e, rfl⟩⟩ (by decide) (by decide))
  · obtain ⟨hs, hE⟩ := hE
    rcases hE with ⟨h1, rfl⟩ | ⟨h1, rfl⟩ | ⟨h1, rfl⟩
    · exact xe_catch [] ⟨0, 16, 19, 28⟩ [⟨0, 16, 23, 13⟩, ⟨0, 16, 27, 15⟩] rfl (fun z hz => absurd hz (List.not_mem_nil)) rfl (by decide) lkI csI rfl (fun q => X.lsub lsub_nil (bL_session_19 ⟨h1.symm, Or.inr ⟨by rw [h1]; decide, hs⟩⟩ (by decide) (by decide)))
    · exact xe_catch [⟨0, 16, 19, 28⟩] ⟨0, 16, 23, 13⟩ [⟨0, 16, 27, 15⟩] rfl (fun z hz => by rcases List.mem_singleton.mp hz with rfl; exact ⟨by decide, _, lkI, by decide +kernel⟩) rfl (by decide) lkA csA rfl (fun q => X.lsub lsub_nil (bL_session_23 ⟨h1.symm, Or.inr ⟨by rw [h1]; decide, hs⟩⟩ (by decide) (by decide)))
    · exact xe_catch [⟨0, 16, 19, 28⟩, ⟨0, 16, 23, 13⟩] ⟨0, 16, 27, 15⟩ [] rfl (fun z hz => (List.mem_cons.mp hz).elim (fun e => by rw [e]; exact ⟨by decide, _, lkI, by decide +kernel⟩) (fun hz => by rw [List.mem_singleton.mp hz]; exact ⟨by decide, _, lkA, by decide +kernel⟩)) rfl (by decide) lkS csS rfl (fun q => X.lsub lsub_nil (bL_session_27 ⟨h1.symm, Or.inr ⟨by rw [h1]; decide, hs⟩⟩ (by decide) (by decide)))
theorem l_cancel {x1 : Int32} {T : Nat} (hI : Inv T (yC y)) (hT : T + 200 < 2 ^ 31) (h : StW fr s y w) (ho : fr o9 = some (lrow g)) : CL_cancel G l 250 11400 [.ref s, .int x1, .ref o9] w (LPo fr s o9 y (oCanc y x1)) := by
  obtain ⟨D, L, e0, hob, -, -, -⟩ := h.pres
  refine sL_cancel (bL_cancel_0 (mcq := 250) (msq := 11400) hob (a_cancel h hI (by omega)) (by decide) (by decide) (fun r w2 hr => ?_) (fun E w2 hE => ?_))
  · obtain ⟨h0, rfl, hs⟩ := hr
    have e := hs.fq ho
    exact bL_cancel_7 e (vlit rfl) (bL_cancel_15 ⟨h0.symm, Or.inl ⟨h0, w2, g, hs, e, rfl⟩⟩ (by decide) (by decide))
  · obtain ⟨hs, hE⟩ := hE
    rcases hE with ⟨h1, rfl⟩ | ⟨h1, rfl⟩ | ⟨h1, rfl⟩
    · exact xe_catch [] ⟨0, 9, 12, 28⟩ [] rfl (fun z hz => absurd hz (List.not_mem_nil)) rfl (by decide) lkI csI rfl (fun q => X.lsub lsub_nil (bL_cancel_12 ⟨h1.symm, Or.inr ⟨by rw [h1]; decide, hs⟩⟩ (by decide) (by decide)))
    · exact absurd h1 (by unfold oCanc; (repeat' split) <;> (first | exact (by decide : ¬ (0 : Int32) = 2) | exact (by decide : ¬ (1 : Int32) = 2) | exact (by decide : ¬ (2 : Int32) = 2)))
    · exact absurd h1 (by unfold oCanc; (repeat' split) <;> (first | exact (by decide : ¬ (0 : Int32) = 3) | exact (by decide : ¬ (1 : Int32) = 3) | exact (by decide : ¬ (2 : Int32) = 3)))
theorem l_give {x1 : Int32} {x2 : Int32} {T : Nat} (hI : Inv T (yC y)) (hT : T + 200 < 2 ^ 31) (h : StW fr s y w) (ho : fr o9 = some (lrow g)) : CL_give G l 250 11400 [.ref s, .int x1, .int x2, .ref o9] w (LPo fr s o9 y (oGive y x1 x2)) := by
  obtain ⟨D, L, e0, hob, -, -, -⟩ := h.pres
  refine sL_give (bL_give_0 (mcq := 250) (msq := 11400) hob (a_give h hI (by omega)) (by decide) (by decide) (fun r w2 hr => ?_) (fun E w2 hE => ?_))
  · obtain ⟨h0, rfl, hs⟩ := hr
    have e := hs.fq ho
    exact bL_give_8 e (vlit rfl) (bL_give_21 ⟨h0.symm, Or.inl ⟨h0, w2, g, hs, e, rfl⟩⟩ (by decide) (by decide))
  · obtain ⟨hs, hE⟩ := hE
    rcases hE with ⟨h1, rfl⟩ | ⟨h1, rfl⟩ | ⟨h1, rfl⟩
    · exact xe_catch [] ⟨0, 10, 13, 28⟩ [⟨0, 10, 17, 15⟩] rfl (fun z hz => absurd hz (List.not_mem_nil)) rfl (by decide) lkI csI rfl (fun q => X.lsub lsub_nil (bL_give_13 ⟨h1.symm, Or.inr ⟨by rw [h1]; decide, hs⟩⟩ (by decide) (by decide)))
    · exact xe_catch [⟨0, 10, 13, 28⟩] ⟨0, 10, 17, 15⟩ [] rfl (fun z hz => by rcases List.mem_singleton.mp hz with rfl; exact ⟨by decide, _, lkI, by decide +kernel⟩) rfl (by decide) lkS csS rfl (fun q => X.lsub lsub_nil (bL_give_17 ⟨h1.symm, Or.inr ⟨by rw [h1]; decide, hs⟩⟩ (by decide) (by decide)))
    · exact absurd h1 (by unfold oGive; (repeat' split) <;> (first | exact (by decide : ¬ (0 : Int32) = 3) | exact (by decide : ¬ (1 : Int32) = 3) | exact (by decide : ¬ (2 : Int32) = 3)))
theorem l_extend {x1 : Int32} {x2 : Int32} {T : Nat} (hI : Inv T (yC y)) (hT : T + 200 < 2 ^ 31) (h : StW fr s y w) (ho : fr o9 = some (lrow g)) : CL_extend G l 250 11400 [.ref s, .int x1, .int x2, .ref o9] w (LPo fr s o9 y (oExt y x1 x2)) := by
  obtain ⟨D, L, e0, hob, -, -, -⟩ := h.pres
  refine sL_extend (bL_extend_0 (mcq := 250) (msq := 11400) hob (a_extend h hI (by omega)) (by decide) (by decide) (fun r w2 hr => ?_) (fun E w2 hE => ?_))
  · obtain ⟨h0, rfl, hs⟩ := hr
    have e := hs.fq ho
    exact bL_extend_8 e (vlit rfl) (bL_extend_21 ⟨h0.symm, Or.inl ⟨h0, w2, g, hs, e, rfl⟩⟩ (by decide) (by decide))
  · obtain ⟨hs, hE⟩ := hE
    rcases hE with ⟨h1, rfl⟩ | ⟨h1, rfl⟩ | ⟨h1, rfl⟩
    · exact xe_catch [] ⟨0, 10, 13, 28⟩ [⟨0, 10, 17, 13⟩] rfl (fun z hz => absurd hz (List.not_mem_nil)) rfl (by decide) lkI csI rfl (fun q => X.lsub lsub_nil (bL_extend_13 ⟨h1.symm, Or.inr ⟨by rw [h1]; decide, hs⟩⟩ (by decide) (by decide)))
    · exact xe_catch [⟨0, 10, 13, 28⟩] ⟨0, 10, 17, 13⟩ [] rfl (fun z hz => by rcases List.mem_singleton.mp hz with rfl; exact ⟨by decide, _, lkI, by decide +kernel⟩) rfl (by decide) lkA csA rfl (fun q => X.lsub lsub_nil (bL_extend_17 ⟨h1.symm, Or.inr ⟨by rw [h1]; decide, hs⟩⟩ (by decide) (by decide)))
    · exact absurd h1 (by unfold oExt; (repeat' split) <;> (first | exact (by decide : ¬ (0 : Int32) = 3) | exact (by decide : ¬ (1 : Int32) = 3) | exact (by decide : ¬ (2 : Int32) = 3)))
theorem l_leave {x1 : Int32} {x2 : Int32} {T : Nat} (hI : Inv T (yC y)) (hT : T + 200 < 2 ^ 31) (h : StW fr s y w) (ho : fr o9 = some (lrow g)) : CL_leave G l 250 11400 [.ref s, .int x1, .int x2, .ref o9] w (LPo fr s o9 y (oLeav y x1 x2)) := by
  obtain ⟨D, L, e0, hob, -, -, -⟩ := h.pres
  refine sL_leave (bL_leave_0 (mcq := 250) (msq := 11400) hob (a_leave h hI (by omega)) (by decide) (by decide) (fun r w2 hr => ?_) (fun E w2 hE => ?_))
  · obtain ⟨h0, rfl, hs⟩ := hr
    have e := hs.fq ho
    exact bL_leave_8 e (vlit rfl) (bL_leave_21 ⟨h0.symm, Or.inl ⟨h0, w2, g, hs, e, rfl⟩⟩ (by decide) (by decide))
  · obtain ⟨hs, hE⟩ := hE
    rcases hE with ⟨h1, rfl⟩ | ⟨h1, rfl⟩ | ⟨h1, rfl⟩
    · exact xe_catch [] ⟨0, 10, 13, 28⟩ [⟨0, 10, 17, 13⟩] rfl (fun z hz => absurd hz (List.not_mem_nil)) rfl (by decide) lkI csI rfl (fun q => X.lsub lsub_nil (bL_leave_13 ⟨h1.symm, Or.inr ⟨by rw [h1]; decide, hs⟩⟩ (by decide) (by decide)))
    · exact xe_catch [⟨0, 10, 13, 28⟩] ⟨0, 10, 17, 13⟩ [] rfl (fun z hz => by rcases List.mem_singleton.mp hz with rfl; exact ⟨by decide, _, lkI, by decide +kernel⟩) rfl (by decide) lkA csA rfl (fun q => X.lsub lsub_nil (bL_leave_17 ⟨h1.symm, Or.inr ⟨by rw [h1]; decide, hs⟩⟩ (by decide) (by decide)))
    · exact absurd h1 (by unfold oLeav; (repeat' split) <;> (first | exact (by decide : ¬ (0 : Int32) = 3) | exact (by decide : ¬ (1 : Int32) = 3) | exact (by decide : ¬ (2 : Int32) = 3)))
theorem l_run {x1 : Int32} {T : Nat} (hI : Inv T (yC y)) (hT : T + 200 < 2 ^ 31) (h : StW fr s y w) (ho : fr o9 = some (lrow g)) : CL_run G l 250 11400 [.ref s, .int x1, .ref o9] w (LPo fr s o9 y (oRun y x1)) := by
  obtain ⟨D, L, e0, hob, -, -, -⟩ := h.pres
  refine sL_run (bL_run_0 (mcq := 250) (msq := 11400) hob (a_run h hI (by omega)) (by decide) (by decide) (fun r w2 hr => ?_) (fun E w2 hE => ?_))
  · obtain ⟨h0, rfl, hs⟩ := hr
    have e := hs.fq ho
    exact bL_run_7 e (vlit rfl) (bL_run_15 ⟨h0.symm, Or.inl ⟨h0, w2, g, hs, e, rfl⟩⟩ (by decide) (by decide))
  · obtain ⟨hs, hE⟩ := hE
    rcases hE with ⟨h1, rfl⟩ | ⟨h1, rfl⟩ | ⟨h1, rfl⟩
    · exact xe_catch [] ⟨0, 9, 12, 13⟩ [] rfl (fun z hz => absurd hz (List.not_mem_nil)) rfl (by decide) lkA csA rfl (fun q => X.lsub lsub_nil (bL_run_12 ⟨h1.symm, Or.inr ⟨by rw [h1]; decide, hs⟩⟩ (by decide) (by decide)))
    · exact absurd h1 (by unfold oRun; (repeat' split) <;> (first | exact (by decide : ¬ (0 : Int32) = 2) | exact (by decide : ¬ (1 : Int32) = 2) | exact (by decide : ¬ (2 : Int32) = 2)))
    · exact absurd h1 (by unfold oRun; (repeat' split) <;> (first | exact (by decide : ¬ (0 : Int32) = 3) | exact (by decide : ¬ (1 : Int32) = 3) | exact (by decide : ¬ (2 : Int32) = 3)))
theorem l_set {x1 : Int32} {x2 : Int32} {T : Nat} (hI : Inv T (yC y)) (hT : T + 200 < 2 ^ 31) (h : StW fr s y w) (ho : fr o9 = some (lrow g)) : CL_set G l 250 11400 [.ref s, .int x1, .int x2, .ref o9] w (LPo fr s o9 y (oSet y x1 x2)) := by
  obtain ⟨D, L, e0, hob, -, -, -⟩ := h.pres
  refine sL_set (bL_set_0 (mcq := 250) (msq := 11400) hob (a_set h hI (by omega)) (by decide) (by decide) (fun r w2 hr => ?_) (fun E w2 hE => ?_))
  · obtain ⟨h0, rfl, hs⟩ := hr
    have e := hs.fq ho
    exact bL_set_8 e (vlit rfl) (bL_set_17 ⟨h0.symm, Or.inl ⟨h0, w2, g, hs, e, rfl⟩⟩ (by decide) (by decide))
  · obtain ⟨hs, hE⟩ := hE
    rcases hE with ⟨h1, rfl⟩ | ⟨h1, rfl⟩ | ⟨h1, rfl⟩
    · exact xe_catch [] ⟨0, 10, 13, 13⟩ [] rfl (fun z hz => absurd hz (List.not_mem_nil)) rfl (by decide) lkA csA rfl (fun q => X.lsub lsub_nil (bL_set_13 ⟨h1.symm, Or.inr ⟨by rw [h1]; decide, hs⟩⟩ (by decide) (by decide)))
    · exact absurd h1 (by unfold oSet; (repeat' split) <;> (first | exact (by decide : ¬ (0 : Int32) = 2) | exact (by decide : ¬ (1 : Int32) = 2) | exact (by decide : ¬ (2 : Int32) = 2)))
    · exact absurd h1 (by unfold oSet; (repeat' split) <;> (first | exact (by decide : ¬ (0 : Int32) = 3) | exact (by decide : ¬ (1 : Int32) = 3) | exact (by decide : ¬ (2 : Int32) = 3)))
theorem l_undo  (h : StW fr s y w) (ho : fr o9 = some (lrow g)) : CL_undo G l 250 11400 [.ref s, .ref o9] w (LPo fr s o9 y (oUndo y)) := by
  obtain ⟨D, L, e0, hob, -, -, -⟩ := h.pres
  refine sL_undo (bL_undo_0 (mcq := 250) (msq := 11400) hob (a_undo h) (by decide) (by decide) (fun r w2 hr => ?_) (fun E w2 hE => ?_))
  · obtain ⟨h0, rfl, hs⟩ := hr
    have e := hs.fq ho
    exact bL_undo_6 e (vlit rfl) (bL_undo_14 ⟨h0.symm, Or.inl ⟨h0, w2, g, hs, e, rfl⟩⟩ (by decide) (by decide))
  · obtain ⟨hs, hE⟩ := hE
    rcases hE with ⟨h1, rfl⟩ | ⟨h1, rfl⟩ | ⟨h1, rfl⟩
    · exact xe_catch [] ⟨0, 8, 11, 15⟩ [] rfl (fun z hz => absurd hz (List.not_mem_nil)) rfl (by decide) lkS csS rfl (fun q => X.lsub lsub_nil (bL_undo_11 ⟨h1.symm, Or.inr ⟨by rw [h1]; decide, hs⟩⟩ (by decide) (by decide)))
    · exact absurd h1 (by unfold oUndo; (repeat' split) <;> (first | exact (by decide : ¬ (0 : Int32) = 2) | exact (by decide : ¬ (1 : Int32) = 2) | exact (by decide : ¬ (2 : Int32) = 2)))
    · exact absurd h1 (by unfold oUndo; (repeat' split) <;> (first | exact (by decide : ¬ (0 : Int32) = 3) | exact (by decide : ¬ (1 : Int32) = 3) | exact (by decide : ¬ (2 : Int32) = 3)))
theorem l_whyNot {x1 : Int32} {x2 : Int32} {T : Nat} (hI : Inv T (yC y)) (h : StW fr s y w) (ho : fr o9 = some (lrow g)) : CL_whyNot G l 250 11400 [.ref s, .int x1, .int x2, .ref o9] w (LPo fr s o9 y (oWhy y x1 x2)) := by
  obtain ⟨D, L, e0, hob, -, -, -⟩ := h.pres
  refine sL_whyNot (bL_whyNot_0 (mcq := 250) (msq := 11400) hob (a_whyNot h hI) (by decide) (by decide) (fun r w2 hr => ?_) (fun E w2 hE => ?_))
  · obtain ⟨h0, rfl, hs⟩ := hr
    have e := hs.fq ho
    exact bL_whyNot_8 e (vlit rfl) (bL_whyNot_17 ⟨h0.symm, Or.inl ⟨h0, w2, g, hs, e, rfl⟩⟩ (by decide) (by decide))
  · obtain ⟨hs, hE⟩ := hE
    rcases hE with ⟨h1, rfl⟩ | ⟨h1, rfl⟩ | ⟨h1, rfl⟩
    · exact xe_catch [] ⟨0, 10, 13, 28⟩ [] rfl (fun z hz => absurd hz (List.not_mem_nil)) rfl (by decide) lkI csI rfl (fun q => X.lsub lsub_nil (bL_whyNot_13 ⟨h1.symm, Or.inr ⟨by rw [h1]; decide, hs⟩⟩ (by decide) (by decide)))
    · exact absurd h1 (by unfold oWhy; (repeat' split) <;> (first | exact (by decide : ¬ (0 : Int32) = 2) | exact (by decide : ¬ (1 : Int32) = 2) | exact (by decide : ¬ (2 : Int32) = 2)))
    · exact absurd h1 (by unfold oWhy; (repeat' split) <;> (first | exact (by decide : ¬ (0 : Int32) = 3) | exact (by decide : ¬ (1 : Int32) = 3) | exact (by decide : ¬ (2 : Int32) = 3)))
theorem l_whom {x1 : Int32} {T : Nat} (hI : Inv T (yC y)) (h : StW fr s y w) (ho : fr o9 = some (lrow g)) : CL_whom G l 250 11400 [.ref s, .int x1, .ref o9] w (LPo fr s o9 y (oWhom y x1)) := by
  obtain ⟨D, L, e0, hob, -, -, -⟩ := h.pres
  refine sL_whom (bL_whom_0 (mcq := 250) (msq := 11400) hob (a_whom h hI) (by decide) (by decide) (fun r w2 hr => ?_) (fun E w2 hE => ?_))
  · obtain ⟨h0, rfl, hs⟩ := hr
    have e := hs.fq ho
    exact bL_whom_7 e (vlit rfl) (bL_whom_15 ⟨h0.symm, Or.inl ⟨h0, w2, g, hs, e, rfl⟩⟩ (by decide) (by decide))
  · obtain ⟨hs, hE⟩ := hE
    rcases hE with ⟨h1, rfl⟩ | ⟨h1, rfl⟩ | ⟨h1, rfl⟩
    · exact xe_catch [] ⟨0, 9, 12, 28⟩ [] rfl (fun z hz => absurd hz (List.not_mem_nil)) rfl (by decide) lkI csI rfl (fun q => X.lsub lsub_nil (bL_whom_12 ⟨h1.symm, Or.inr ⟨by rw [h1]; decide, hs⟩⟩ (by decide) (by decide)))
    · exact absurd h1 (by unfold oWhom; (repeat' split) <;> (first | exact (by decide : ¬ (0 : Int32) = 2) | exact (by decide : ¬ (1 : Int32) = 2) | exact (by decide : ¬ (2 : Int32) = 2)))
    · exact absurd h1 (by unfold oWhom; (repeat' split) <;> (first | exact (by decide : ¬ (0 : Int32) = 3) | exact (by decide : ¬ (1 : Int32) = 3) | exact (by decide : ¬ (2 : Int32) = 3)))
theorem l_coming {x1 : Int32} {x2 : Int32} {T : Nat} (hI : Inv T (yC y)) (hT : T + 200 < 2 ^ 31) (h : StW fr s y w) (ho : fr o9 = some (lrow g)) : CL_coming G l 250 11400 [.ref s, .int x1, .int x2, .ref o9] w (LPo fr s o9 y (oCom y x1 x2)) := by
  obtain ⟨D, L, e0, hob, -, -, -⟩ := h.pres
  refine sL_coming (bL_coming_0 (mcq := 250) (msq := 11400) hob (a_coming h hI (by omega)) (by decide) (by decide) (fun r w2 hr => ?_) (fun E w2 hE => ?_))
  · obtain ⟨h0, rfl, hs⟩ := hr
    have e := hs.fq ho
    exact bL_coming_8 e (vlit rfl) (bL_coming_17 ⟨h0.symm, Or.inl ⟨h0, w2, g, hs, e, rfl⟩⟩ (by decide) (by decide))
  · obtain ⟨hs, hE⟩ := hE
    rcases hE with ⟨h1, rfl⟩ | ⟨h1, rfl⟩ | ⟨h1, rfl⟩
    · exact xe_catch [] ⟨0, 10, 13, 13⟩ [] rfl (fun z hz => absurd hz (List.not_mem_nil)) rfl (by decide) lkA csA rfl (fun q => X.lsub lsub_nil (bL_coming_13 ⟨h1.symm, Or.inr ⟨by rw [h1]; decide, hs⟩⟩ (by decide) (by decide)))
    · exact absurd h1 (by unfold oCom; (repeat' split) <;> (first | exact (by decide : ¬ (0 : Int32) = 2) | exact (by decide : ¬ (1 : Int32) = 2) | exact (by decide : ¬ (2 : Int32) = 2)))
    · exact absurd h1 (by unfold oCom; (repeat' split) <;> (first | exact (by decide : ¬ (0 : Int32) = 3) | exact (by decide : ¬ (1 : Int32) = 3) | exact (by decide : ¬ (2 : Int32) = 3)))
theorem l_emptyIn {x1 : Int32} {T : Nat} (hI : Inv T (yC y)) (hT : T + 200 < 2 ^ 31) (h : StW fr s y w) (ho : fr o9 = some (lrow g)) : CL_emptyIn G l 250 11400 [.ref s, .int x1, .ref o9] w (LPo fr s o9 y (oEmp y x1)) := by
  obtain ⟨D, L, e0, hob, -, -, -⟩ := h.pres
  refine sL_emptyIn (bL_emptyIn_0 (mcq := 250) (msq := 11400) hob (a_emptyIn h hI (by omega)) (by decide) (by decide) (fun r w2 hr => ?_) (fun E w2 hE => ?_))
  · obtain ⟨h0, rfl, hs⟩ := hr
    have e := hs.fq ho
    exact bL_emptyIn_7 e (vlit rfl) (bL_emptyIn_15 ⟨h0.symm, Or.inl ⟨h0, w2, g, hs, e, rfl⟩⟩ (by decide) (by decide))
  · obtain ⟨hs, hE⟩ := hE
    rcases hE with ⟨h1, rfl⟩ | ⟨h1, rfl⟩ | ⟨h1, rfl⟩
    · exact xe_catch [] ⟨0, 9, 12, 28⟩ [] rfl (fun z hz => absurd hz (List.not_mem_nil)) rfl (by decide) lkI csI rfl (fun q => X.lsub lsub_nil (bL_emptyIn_12 ⟨h1.symm, Or.inr ⟨by rw [h1]; decide, hs⟩⟩ (by decide) (by decide)))
    · exact absurd h1 (by unfold oEmp; (repeat' split) <;> (first | exact (by decide : ¬ (0 : Int32) = 2) | exact (by decide : ¬ (1 : Int32) = 2) | exact (by decide : ¬ (2 : Int32) = 2)))
    · exact absurd h1 (by unfold oEmp; (repeat' split) <;> (first | exact (by decide : ¬ (0 : Int32) = 3) | exact (by decide : ¬ (1 : Int32) = 3) | exact (by decide : ¬ (2 : Int32) = 3)))
theorem l_ifHired {x1 : Int32} {x2 : Int32} {T : Nat} (hI : Inv T (yC y)) (hT : T + 200 < 2 ^ 31) (h : StW fr s y w) (ho : fr o9 = some (lrow g)) : CL_ifHired G l 250 11400 [.ref s, .int x1, .int x2, .ref o9] w (LPo fr s o9 y (oIfH y x1 x2)) := by
  obtain ⟨D, L, e0, hob, -, -, -⟩ := h.pres
  refine sL_ifHired (bL_ifHired_0 (mcq := 250) (msq := 11400) hob (a_ifHired h hI (by omega)) (by decide) (by decide) (fun r w2 hr => ?_) (fun E w2 hE => ?_))
  · obtain ⟨h0, rfl, hs⟩ := hr
    have e := hs.fq ho
    exact bL_ifHired_8 e (vlit rfl) (bL_ifHired_21 ⟨h0.symm, Or.inl ⟨h0, w2, g, hs, e, rfl⟩⟩ (by decide) (by decide))
  · obtain ⟨hs, hE⟩ := hE
    rcases hE with ⟨h1, rfl⟩ | ⟨h1, rfl⟩ | ⟨h1, rfl⟩
    · exact xe_catch [] ⟨0, 10, 13, 13⟩ [⟨0, 10, 17, 15⟩] rfl (fun z hz => absurd hz (List.not_mem_nil)) rfl (by decide) lkA csA rfl (fun q => X.lsub lsub_nil (bL_ifHired_13 ⟨h1.symm, Or.inr ⟨by rw [h1]; decide, hs⟩⟩ (by decide) (by decide)))
    · exact xe_catch [⟨0, 10, 13, 13⟩] ⟨0, 10, 17, 15⟩ [] rfl (fun z hz => by rcases List.mem_singleton.mp hz with rfl; exact ⟨by decide, _, lkA, by decide +kernel⟩) rfl (by decide) lkS csS rfl (fun q => X.lsub lsub_nil (bL_ifHired_17 ⟨h1.symm, Or.inr ⟨by rw [h1]; decide, hs⟩⟩ (by decide) (by decide)))
    · exact absurd h1 (by unfold oIfH; (repeat' split) <;> (first | exact (by decide : ¬ (0 : Int32) = 3) | exact (by decide : ¬ (1 : Int32) = 3) | exact (by decide : ¬ (2 : Int32) = 3)))
theorem l_freeRoom {x1 : Int32} {x2 : Int32} {x3 : Int32} (h : StW fr s y w) (ho : fr o9 = some (lrow g)) : CL_freeRoom G l 250 11400 [.ref s, .int x1, .int x2, .int x3, .ref o9] w (LPo fr s o9 y (oFre y x1 x2 x3)) := by
  obtain ⟨D, L, e0, hob, -, -, -⟩ := h.pres
  refine sL_freeRoom (bL_freeRoom_0 (mcq := 250) (msq := 11400) hob (a_freeRoom h) (by decide) (by decide) (fun r w2 hr => ?_) (fun E w2 hE => ?_))
  · obtain ⟨h0, rfl, hs⟩ := hr
    have e := hs.fq ho
    exact bL_freeRoom_10 e (vlit rfl) (bL_freeRoom_19 ⟨h0.symm, Or.inl ⟨h0, w2, g, hs, e, rfl⟩⟩ (by decide) (by decide))
  · obtain ⟨hs, hE⟩ := hE
    rcases hE with ⟨h1, rfl⟩ | ⟨h1, rfl⟩ | ⟨h1, rfl⟩
    · exact xe_catch [] ⟨0, 12, 15, 13⟩ [] rfl (fun z hz => absurd hz (List.not_mem_nil)) rfl (by decide) lkA csA rfl (fun q => X.lsub lsub_nil (bL_freeRoom_15 ⟨h1.symm, Or.inr ⟨by rw [h1]; decide, hs⟩⟩ (by decide) (by decide)))
    · exact absurd h1 (by unfold oFre; (repeat' split) <;> (first | exact (by decide : ¬ (0 : Int32) = 2) | exact (by decide : ¬ (1 : Int32) = 2) | exact (by decide : ¬ (2 : Int32) = 2)))
    · exact absurd h1 (by unfold oFre; (repeat' split) <;> (first | exact (by decide : ¬ (0 : Int32) = 3) | exact (by decide : ¬ (1 : Int32) = 3) | exact (by decide : ¬ (2 : Int32) = 3)))
theorem l_runScript {x1 : Int32} {x2 : Int64} {T : Nat} (hI : Inv T (yC y)) (hT : T + 200 < 2 ^ 31) (h : StW fr s y w) (ho : fr o9 = some (lrow g)) : CL_runScript G l 250 11400 [.ref s, .int x1, .long x2, .ref o9] w (LPo fr s o9 y (oScr y x1 x2)) := by
  obtain ⟨D, L, e0, hob, -, -, -⟩ := h.pres
  refine sL_runScript (bL_runScript_0 (mcq := 250) (msq := 11400) hob (a_runScript h hI (by omega)) (by decide) (by decide) (fun r w2 hr => ?_) (fun E w2 hE => ?_))
  · obtain ⟨h0, rfl, hs⟩ := hr
    have e := hs.fq ho
    exact bL_runScript_9 e (vlit rfl) (bL_runScript_18 ⟨h0.symm, Or.inl ⟨h0, w2, g, hs, e, rfl⟩⟩ (by decide) (by decide))
  · obtain ⟨hs, hE⟩ := hE
    rcases hE with ⟨h1, rfl⟩ | ⟨h1, rfl⟩ | ⟨h1, rfl⟩
    · exact xe_catch [] ⟨0, 11, 14, 13⟩ [] rfl (fun z hz => absurd hz (List.not_mem_nil)) rfl (by decide) lkA csA rfl (fun q => X.lsub lsub_nil (bL_runScript_14 ⟨h1.symm, Or.inr ⟨by rw [h1]; decide, hs⟩⟩ (by decide) (by decide)))
    · exact absurd h1 (by unfold oScr; (repeat' split) <;> (first | exact (by decide : ¬ (0 : Int32) = 2) | exact (by decide : ¬ (1 : Int32) = 2) | exact (by decide : ¬ (2 : Int32) = 2)))
    · exact absurd h1 (by unfold oScr; (repeat' split) <;> (first | exact (by decide : ¬ (0 : Int32) = 3) | exact (by decide : ¬ (1 : Int32) = 3) | exact (by decide : ¬ (2 : Int32) = 3)))
theorem l_simulate {x1 : Int64} {x2 : Int32} {T : Nat} (hI : Inv T (yC y)) (hT : T + 200 < 2 ^ 31) (h : StW fr s y w) (ho : fr o9 = some (lrow g)) : CL_simulate G l 250 11400 [.ref s, .long x1, .int x2, .ref o9] w (LPo fr s o9 y (oSim y x1 x2)) := by
  obtain ⟨D, L, e0, hob, -, -, -⟩ := h.pres
  refine sL_simulate (bL_simulate_0 (mcq := 250) (msq := 11400) hob (a_simulate h hI (by omega)) (by decide) (by decide) (fun r w2 hr => ?_) (fun E w2 hE => ?_))
  · obtain ⟨h0, rfl, hs⟩ := hr
    have e := hs.fq ho
    exact bL_simulate_9 e (vlit rfl) (bL_simulate_18 ⟨h0.symm, Or.inl ⟨h0, w2, g, hs, e, rfl⟩⟩ (by decide) (by decide))
  · obtain ⟨hs, hE⟩ := hE
    rcases hE with ⟨h1, rfl⟩ | ⟨h1, rfl⟩ | ⟨h1, rfl⟩
    · exact xe_catch [] ⟨0, 11, 14, 13⟩ [] rfl (fun z hz => absurd hz (List.not_mem_nil)) rfl (by decide) lkA csA rfl (fun q => X.lsub lsub_nil (bL_simulate_14 ⟨h1.symm, Or.inr ⟨by rw [h1]; decide, hs⟩⟩ (by decide) (by decide)))
    · exact absurd h1 (by unfold oSim; (repeat' split) <;> (first | exact (by decide : ¬ (0 : Int32) = 2) | exact (by decide : ¬ (1 : Int32) = 2) | exact (by decide : ¬ (2 : Int32) = 2)))
    · exact absurd h1 (by unfold oSim; (repeat' split) <;> (first | exact (by decide : ¬ (0 : Int32) = 3) | exact (by decide : ¬ (1 : Int32) = 3) | exact (by decide : ¬ (2 : Int32) = 3)))
theorem l_save {x1 : Int32} (h : StW fr s y w) (ho : fr o9 = some (lrow g)) : CL_save G l 250 11400 [.ref s, .int x1, .ref o9] w (LPo fr s o9 y (oSave y x1)) := by
  obtain ⟨D, L, e0, hob, -, -, -⟩ := h.pres
  refine sL_save (bL_save_0 (mcq := 250) (msq := 11400) hob (a_save h) (by decide) (by decide) (fun r w2 hr => ?_) (fun E w2 hE => ?_))
  · obtain ⟨h0, rfl, hs⟩ := hr
    have e := hs.fq ho
    exact bL_save_7 e (vlit rfl) (bL_save_15 ⟨h0.symm, Or.inl ⟨h0, w2, g, hs, e, rfl⟩⟩ (by decide) (by decide))
  · obtain ⟨hs, hE⟩ := hE
    rcases hE with ⟨h1, rfl⟩ | ⟨h1, rfl⟩ | ⟨h1, rfl⟩
    · exact xe_catch [] ⟨0, 9, 12, 28⟩ [] rfl (fun z hz => absurd hz (List.not_mem_nil)) rfl (by decide) lkI csI rfl (fun q => X.lsub lsub_nil (bL_save_12 ⟨h1.symm, Or.inr ⟨by rw [h1]; decide, hs⟩⟩ (by decide) (by decide)))
    · exact absurd h1 (by unfold oSave; (repeat' split) <;> (first | exact (by decide : ¬ (0 : Int32) = 2) | exact (by decide : ¬ (1 : Int32) = 2) | exact (by decide : ¬ (2 : Int32) = 2)))
    · exact absurd h1 (by unfold oSave; (repeat' split) <;> (first | exact (by decide : ¬ (0 : Int32) = 3) | exact (by decide : ¬ (1 : Int32) = 3) | exact (by decide : ¬ (2 : Int32) = 3)))
theorem l_restore {x1 : Int32} (h : StW fr s y w) (ho : fr o9 = some (lrow g)) : CL_restore G l 250 11400 [.ref s, .int x1, .ref o9] w (LPo fr s o9 y (oRest y x1)) := by
  obtain ⟨D, L, e0, hob, -, -, -⟩ := h.pres
  refine sL_restore (bL_restore_0 (mcq := 250) (msq := 11400) hob (a_restore h) (by decide) (by decide) (fun r w2 hr => ?_) (fun E w2 hE => ?_))
  · obtain ⟨h0, rfl, hs⟩ := hr
    have e := hs.fq ho
    exact bL_restore_7 e (vlit rfl) (bL_restore_18 ⟨h0.symm, Or.inl ⟨h0, w2, g, hs, e, rfl⟩⟩ (by decide) (by decide))
  · obtain ⟨hs, hE⟩ := hE
    rcases hE with ⟨h1, rfl⟩ | ⟨h1, rfl⟩ | ⟨h1, rfl⟩
    · exact xe_catch [] ⟨0, 9, 12, 28⟩ [⟨0, 9, 15, 15⟩] rfl (fun z hz => absurd hz (List.not_mem_nil)) rfl (by decide) lkI csI rfl (fun q => X.lsub lsub_nil (bL_restore_12 ⟨h1.symm, Or.inr ⟨by rw [h1]; decide, hs⟩⟩ (by decide) (by decide)))
    · exact xe_catch [⟨0, 9, 12, 28⟩] ⟨0, 9, 15, 15⟩ [] rfl (fun z hz => by rcases List.mem_singleton.mp hz with rfl; exact ⟨by decide, _, lkI, by decide +kernel⟩) rfl (by decide) lkS csS rfl (fun q => X.lsub lsub_nil (bL_restore_15 ⟨h1.symm, Or.inr ⟨by rw [h1]; decide, hs⟩⟩ (by decide) (by decide)))
    · exact absurd h1 (by unfold oRest; (repeat' split) <;> (first | exact (by decide : ¬ (0 : Int32) = 3) | exact (by decide : ¬ (1 : Int32) = 3) | exact (by decide : ¬ (2 : Int32) = 3)))
end LW
