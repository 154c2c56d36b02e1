/-! THE MODEL: a session lasts longer, the rest -/
theorem insS_len {c : Cal} (s : Ss) : (cSs (insS c s)).length = (cSs c).length + 1 := by
  show ((cSs c).insertIdx (insP (cSs c) s) s).length = _
  exact List.length_insertIdx_of_le_length (insTo_le _ _ _ _ _) _
theorem rl_len (ss : List Ss) (room day first : Int32) : (rst ss room day first).length + (lat ss room day first).length = ss.length := by
  unfold rst lat
  induction ss with
  | nil => rfl
  | cons s r ih =>
    rw [List.filter_cons, List.filter_cons]
    cases latP room day first s <;> simp <;> omega
theorem freTo_len (c : Cal) (room day who s9 : Int32) : ∀ i, (cSs (freTo c room day who s9 i)).length = (cSs c).length
  | 0 => rfl
  | i + 1 => by
    unfold freTo
    split
    · rw [setS_len]; exact freTo_len c room day who s9 i
    · exact freTo_len c room day who s9 i
section M9
variable {G : GG} {l : Launch} {w : Wd} {m r lf ll lt lw : Nat} {g : Nat → Int32} {c : Cal}
theorem c_extendOn {k : Nat} {f : List Value} {A0 B0 C0 D0 : Nat → Int32} {x2 n : Int32} {Q : Int32 → Wd → Prop} (hap : Ap5 m r lf ll lt lw) (hm : w m = some (.inl (5, f))) (e9 : f[9]? = some (.ref lf)) (e10 : f[10]? = some (.ref ll)) (e11 : f[11]? = some (.ref lt)) (e12 : f[12]? = some (.ref lw)) (hc : MRep g c) (h1 : x2 = nI k) (hk : k < (cSs c).length)
    (hq : ∀ g2 A B C D, MRep g2 (extC c k n) → Q (extL (sg (cSs c) k) n) (W5 w r lf ll lt lw g2 A B C D)) : CX6_extendOn G l [.ref m, .ref r, .int x2, .int n] (W5 w r lf ll lt lw g A0 B0 C0 D0) Q := by
  have hb := hc.b1
  refine sX6_extendOn (bX6_extendOn_0 (c_of (j := 0) W5_r h1 rfl (by omega) (by decide) ?_) (fun _ _ h => h))
  refine bX6_extendOn_6 (c_of (j := 1) W5_r h1 rfl (by omega) (by decide) ?_) (fun _ _ h => h)
  refine bX6_extendOn_14 (c_of (j := 2) W5_r h1 rfl (by omega) (by decide) ?_) (fun _ _ h => h)
  refine bX6_extendOn_22 (c_of (j := 5) W5_r h1 rfl (by omega) (by decide) ?_) (fun _ _ h => h)
  refine bX6_extendOn_30 (c_of (j := 3) W5_r h1 rfl (by omega) (by decide) ?_) (fun _ _ h => h)
  rw [hc.S hk]
  generalize hs : sg (cSs c) k = s at hq ⊢
  have j64 : KX6_extendOn G l (W5 w r lf ll lt lw g A0 B0 C0 D0) (ZI G 0 0 (W5 w r lf ll lt lw g A0 B0 C0 D0) Q) (W5 w r lf ll lt lw g A0 B0 C0 D0) 64 [(0, .ref m), (1, .ref r), (2, .int x2), (4, .int (sf s 0)), (5, .int (sf s 1)), (6, .int (sf s 2)), (7, .int (sf s 5))] [.int (extL s n)] := by
    refine bX6_extendOn_64 (c_lay W5_r h1 (j := 3) rfl (by omega) (by decide) ?_) (fun _ h => h)
    rw [W5_sr]
    have hA : MRep (upd g (31 + 6 * k + 3) (extL s n)) (extA c k n) := by
      unfold extA; rw [hs]; exact hc.setS (j := 3) _ hk (by decide)
    refine bX6_extendOn_74 (by rw [W5_m hap]; exact hm) (c_takeLater hap hm e9 e10 e11 e12 hA ?_) (fun _ _ h => h)
    intro g2 A B C D hg2 hL
    refine bX6_extendOn_85 ?_
    -- the loop over the sessions that give way
    have fin : ∀ g3 A B C D, MRep g3 (extB c k n) → KX6_extendOn G l (W5 w r lf ll lt lw g A0 B0 C0 D0) (ZI G 0 0 (W5 w r lf ll lt lw g A0 B0 C0 D0) Q) (W5 w r lf ll lt lw g3 A B C D) 228 [(1, .ref r), (4, .int (sf s 0)), (5, .int (sf s 1)), (6, .int (sf s 2)), (7, .int (sf s 5)), (8, .int (extL s n))] [] := by
      intro g3 A B C D hg3
      refine bX6_extendOn_228 ?_
      unfold extC at hq
      rw [hs] at hq
      generalize hset : ((1 <<< ((sf s 2 + extL s n) &&& 31)) - (1 <<< (sf s 2 &&& 31)) : Int32) = set9 at hq ⊢
      generalize extB c k n = cB at hq hg3
      have key : ∀ i, i ≤ (cSs cB).length → ∀ g4, MRep g4 (freTo cB (sf s 0) (sf s 1) (sf s 5) set9 i) → KX6_extendOn G l (W5 w r lf ll lt lw g A0 B0 C0 D0) (ZI G 0 0 (W5 w r lf ll lt lw g A0 B0 C0 D0) Q) (W5 w r lf ll lt lw g4 A B C D) 245 [(1, .ref r), (4, .int (sf s 0)), (5, .int (sf s 1)), (7, .int (sf s 5)), (8, .int (extL s n)), (11, .int set9), (12, .int (nI i))] [] := by
        refine upto (P := fun i => ∀ g4, MRep g4 (freTo cB (sf s 0) (sf s 1) (sf s 5) set9 i) → KX6_extendOn G l (W5 w r lf ll lt lw g A0 B0 C0 D0) (ZI G 0 0 (W5 w r lf ll lt lw g A0 B0 C0 D0) Q) (W5 w r lf ll lt lw g4 A B C D) 245 [(1, .ref r), (4, .int (sf s 0)), (5, .int (sf s 1)), (7, .int (sf s 5)), (8, .int (extL s n)), (11, .int set9), (12, .int (nI i))] []) (N := (cSs cB).length) (fun g4 hg4 => ?_) (fun i hi ih g4 hg4 => ?_)
        · have hl : (cSs (freTo cB (sf s 0) (sf s 1) (sf s 5) set9 (cSs cB).length)).length = (cSs cB).length := freTo_len _ _ _ _ _ _
          have hb4 := hg4.b1
          exact bX6_extendOn_245 W5_r (vlit rfl) (fun h => bX6_extendOn_321 (hq g4 A B C D hg4)) (fun h => absurd (by rw [hg4.n1, hl]; exact nI_le (Nat.le_refl _) (by omega)) h)
        · have hl : (cSs (freTo cB (sf s 0) (sf s 1) (sf s 5) set9 i)).length = (cSs cB).length := freTo_len _ _ _ _ _ _
          have hb4 := hg4.b1
          have hst : freTo cB (sf s 0) (sf s 1) (sf s 5) set9 (i + 1) = if ¬ sf s 5 = -1 ∧ ¬ sf (sg (cSs (freTo cB (sf s 0) (sf s 1) (sf s 5) set9 i)) i) 0 = sf s 0 ∧ sf (sg (cSs (freTo cB (sf s 0) (sf s 1) (sf s 5) set9 i)) i) 1 = sf s 1 ∧ sf (sg (cSs (freTo cB (sf s 0) (sf s 1) (sf s 5) set9 i)) i) 5 = sf s 5 ∧ ¬ (spn (sg (cSs (freTo cB (sf s 0) (sf s 1) (sf s 5) set9 i)) i) &&& set9) = 0 then setS (freTo cB (sf s 0) (sf s 1) (sf s 5) set9 i) i 5 (-1) else freTo cB (sf s 0) (sf s 1) (sf s 5) set9 i := rfl
          rw [hst] at ih
          generalize freTo cB (sf s 0) (sf s 1) (sf s 5) set9 i = d at hg4 hl ih hb4
          have hi' : i < (cSs d).length := by omega
          have hS : gS g4 i = sg (cSs d) i := hg4.S hi'
          generalize ht : sg (cSs d) i = t at ih hS
          have no : ¬ (¬ sf s 5 = -1 ∧ ¬ sf t 0 = sf s 0 ∧ sf t 1 = sf s 1 ∧ sf t 5 = sf s 5 ∧ ¬ (spn t &&& set9) = 0) → KX6_extendOn G l (W5 w r lf ll lt lw g A0 B0 C0 D0) (ZI G 0 0 (W5 w r lf ll lt lw g A0 B0 C0 D0) Q) (W5 w r lf ll lt lw g4 A B C D) 315 [(1, .ref r), (4, .int (sf s 0)), (5, .int (sf s 1)), (7, .int (sf s 5)), (8, .int (extL s n)), (11, .int set9), (12, .int (nI i))] [] := fun hn => by
            refine bX6_extendOn_315 ?_
            rw [nI_1]
            rw [if_neg hn] at ih
            exact ih g4 hg4
          refine bX6_extendOn_245 W5_r (vlit rfl) (fun h => absurd h (by rw [hg4.n1, hl]; exact nI_ge hi (by omega))) (fun _ => ?_)
          refine bX6_extendOn_253 (fun h => no (fun q => q.1 h)) (fun q1 => ?_)
          refine bX6_extendOn_259 (c_of (j := 0) W5_r rfl rfl (by omega) (by decide) ?_) (fun _ _ h => h)
          rw [hS]
          refine bX6_extendOn_266 (fun h => no (fun q => q.2.1 h)) (fun q2 => ?_)
          refine bX6_extendOn_271 (c_of (j := 1) W5_r rfl rfl (by omega) (by decide) ?_) (fun _ _ h => h)
          rw [hS]
          refine bX6_extendOn_278 (fun h => no (fun q => h q.2.2.1)) (fun q3 => ?_)
          refine bX6_extendOn_283 (c_of (j := 5) W5_r rfl rfl (by omega) (by decide) ?_) (fun _ _ h => h)
          rw [hS]
          refine bX6_extendOn_290 (fun h => no (fun q => h q.2.2.2.1)) (fun q4 => ?_)
          refine bX6_extendOn_295 (c_span W5_r rfl (by omega) ?_) (fun _ _ h => h)
          rw [hS]
          refine bX6_extendOn_301 (fun h => no (fun q => q.2.2.2.2 h)) (fun q5 => ?_)
          refine bX6_extendOn_307 (c_lay W5_r rfl (j := 5) rfl (by omega) (by decide) ?_) (fun _ h => h)
          rw [W5_sr]
          refine bX6_extendOn_315 ?_
          rw [nI_1]
          rw [if_pos ⟨q1, q2, q3, q4, q5⟩] at ih
          exact ih _ (hg4.setS (j := 5) (-1) hi' (by decide))
      exact key 0 (Nat.zero_le _) g3 hg3
    have hBeq : extB c k n = mvAll (wSs (extA c k n) (rst (cSs (extA c k n)) (sf s 0) (sf s 1) (sf s 2))) (sf s 0) (sf s 1) (sf s 2 + extL s n) (lat (cSs (extA c k n)) (sf s 0) (sf s 1) (sf s 2)) := by
      unfold extB; rw [hs]
    have hlen : (cSs (wSs (extA c k n) (rst (cSs (extA c k n)) (sf s 0) (sf s 1) (sf s 2)))).length + (lat (cSs (extA c k n)) (sf s 0) (sf s 1) (sf s 2)).length ≤ 16 := by
      have := rl_len (cSs (extA c k n)) (sf s 0) (sf s 1) (sf s 2)
      have hA1 := hA.b1
      show (rst (cSs (extA c k n)) (sf s 0) (sf s 1) (sf s 2)).length + _ ≤ _
      omega
    generalize lat (cSs (extA c k n)) (sf s 0) (sf s 1) (sf s 2) = L at hL hBeq hlen ⊢
    generalize wSs (extA c k n) (rst (cSs (extA c k n)) (sf s 0) (sf s 1) (sf s 2)) = c1 at hg2 hBeq hlen
    generalize sf s 2 + extL s n = bd at hBeq ⊢
    have key : ∀ (M dn : List Ss) (g3 : Nat → Int32) (c3 : Cal) (b3 : Int32), L = dn ++ M → MRep g3 c3 → (cSs c3).length + M.length ≤ 16 → extB c k n = mvAll c3 (sf s 0) (sf s 1) b3 M →
        KX6_extendOn G l (W5 w r lf ll lt lw g A0 B0 C0 D0) (ZI G 0 0 (W5 w r lf ll lt lw g A0 B0 C0 D0) Q) (W5 w r lf ll lt lw g3 A B C D) 97 [(0, .ref m), (1, .ref r), (4, .int (sf s 0)), (5, .int (sf s 1)), (6, .int (sf s 2)), (7, .int (sf s 5)), (8, .int (extL s n)), (9, .int (nI L.length)), (10, .int b3), (11, .int (nI dn.length))] [] := by
      intro M
      have hL16 : L.length ≤ 16 := by omega
      induction M with
      | nil =>
        intro dn g3 c3 b3 e1 hg3 _ e2
        rw [List.append_nil] at e1
        have hdl : L.length = dn.length := by rw [e1]
        refine bX6_extendOn_97 (fun _ => fin g3 A B C D (by rw [e2]; exact hg3)) (fun h => absurd (by rw [e1]; exact nI_le (Nat.le_refl _) (by omega)) h)
      | cons t M ih =>
        intro dn g3 c3 b3 e1 hg3 h16 e2
        have hlL : L.length = dn.length + (M.length + 1) := by rw [e1, List.length_append, List.length_cons]
        have hd : dn.length < L.length := by omega
        have ht : sg L dn.length = t := by rw [e1, sg_mid]
        obtain ⟨a1, a2, a3, a4⟩ := hL dn.length hd
        rw [ht] at a1 a2 a3 a4
        rw [List.length_cons] at h16
        have hix : vp_in (nI dn.length) 16 := vp_in_nI (by omega) (by omega)
        have hcl : (nI dn.length).toNatClampNeg = dn.length := nI_clamp (by omega)
        have e1' : L = (dn ++ [t]) ++ M := by rw [e1, List.append_assoc]; rfl
        have nx : ∀ g4 c4 b4, MRep g4 c4 → (cSs c4).length + M.length ≤ 16 → extB c k n = mvAll c4 (sf s 0) (sf s 1) b4 M → KX6_extendOn G l (W5 w r lf ll lt lw g A0 B0 C0 D0) (ZI G 0 0 (W5 w r lf ll lt lw g A0 B0 C0 D0) Q) (W5 w r lf ll lt lw g4 A B C D) 222 [(0, .ref m), (1, .ref r), (4, .int (sf s 0)), (5, .int (sf s 1)), (6, .int (sf s 2)), (7, .int (sf s 5)), (8, .int (extL s n)), (9, .int (nI L.length)), (10, .int b4), (11, .int (nI dn.length))] [] := by
          intro g4 c4 b4 hg4 h4 e4
          refine bX6_extendOn_222 ?_
          rw [nI_1]
          have := ih (dn ++ [t]) g4 c4 b4 e1' hg4 h4 e4
          rw [List.length_append] at this
          exact this
        have hmv : mvAll c3 (sf s 0) (sf s 1) b3 (t :: M) = if 0 < mvSpan t b3 then mvAll (insS c3 (mvNew t (sf s 0) (sf s 1) b3)) (sf s 0) (sf s 1) (mvFrom t b3 + mvSpan t b3) M else mvAll c3 (sf s 0) (sf s 1) b3 M := rfl
        rw [hmv] at e2
        -- from, the span and what follows
        have j211 : ∀ v : Int32, 0 < mvSpan t b3 → v = (if sf t 2 < b3 then -1 else sf t 5) → KX6_extendOn G l (W5 w r lf ll lt lw g A0 B0 C0 D0) (ZI G 0 0 (W5 w r lf ll lt lw g A0 B0 C0 D0) Q) (W5 w r lf ll lt lw g3 A B C D) 211 [(0, .ref m), (1, .ref r), (4, .int (sf s 0)), (5, .int (sf s 1)), (6, .int (sf s 2)), (7, .int (sf s 5)), (8, .int (extL s n)), (9, .int (nI L.length)), (11, .int (nI dn.length)), (13, .int (mvFrom t b3)), (14, .int (mvSpan t b3))] [.int v, .int (sf t 4), .int (mvSpan t b3), .int (mvFrom t b3), .int (sf s 1), .int (sf s 0), .ref r] := by
          intro v hp hv
          refine bX6_extendOn_211 (c_insert W5_r hg3 (by omega) (fun g4 hg4 => ?_)) (fun _ _ h => h)
          rw [W5_sr]
          refine bX6_extendOn_214 (nx g4 _ _ hg4 ?_ ?_)
          · rw [insS_len]; omega
          · rw [if_pos hp] at e2
            rw [e2, hv]; rfl
        have j172 : ∀ b : Int32, (b = 0 ↔ ¬ sf t 2 < b3) → KX6_extendOn G l (W5 w r lf ll lt lw g A0 B0 C0 D0) (ZI G 0 0 (W5 w r lf ll lt lw g A0 B0 C0 D0) Q) (W5 w r lf ll lt lw g3 A B C D) 172 [(0, .ref m), (1, .ref r), (4, .int (sf s 0)), (5, .int (sf s 1)), (6, .int (sf s 2)), (7, .int (sf s 5)), (8, .int (extL s n)), (9, .int (nI L.length)), (10, .int b3), (11, .int (nI dn.length)), (12, .int b), (13, .int (mvFrom t b3))] [.int (mvSpan t b3)] := by
          intro b hbb
          refine bX6_extendOn_172 (fun h => nx g3 c3 b3 hg3 (by omega) ?_) (fun h => ?_)
          · rw [if_neg (by rw [i32_lt]; rw [i32_le] at h; omega)] at e2
            exact e2
          · have hp : 0 < mvSpan t b3 := by rw [i32_lt]; rw [i32_le] at h; omega
            refine bX6_extendOn_179 (by rw [W5_m hap]; exact hm) e11 (W5_t hap) hix (fun hb0 => ?_) (fun hb0 => ?_)
            · rw [hcl, a3]
              refine bX6_extendOn_204 (by rw [W5_m hap]; exact hm) e12 (W5_w hap) hix (j211 _ hp ?_)
              rw [hcl, a4, if_neg (hbb.1 hb0)]
            · rw [hcl, a3]
              refine bX6_extendOn_200 (j211 _ hp ?_)
              rw [if_pos (Decidable.byContradiction fun q => hb0 (hbb.2 q))]
        have j140 : ∀ b : Int32, (b = 0 ↔ ¬ sf t 2 < b3) → KX6_extendOn G l (W5 w r lf ll lt lw g A0 B0 C0 D0) (ZI G 0 0 (W5 w r lf ll lt lw g A0 B0 C0 D0) Q) (W5 w r lf ll lt lw g3 A B C D) 140 [(0, .ref m), (1, .ref r), (4, .int (sf s 0)), (5, .int (sf s 1)), (6, .int (sf s 2)), (7, .int (sf s 5)), (8, .int (extL s n)), (9, .int (nI L.length)), (10, .int b3), (11, .int (nI dn.length)), (12, .int b)] [.int (mvFrom t b3)] := by
          intro b hbb
          refine bX6_extendOn_140 (by rw [W5_m hap]; exact hm) e10 (W5_l hap) hix (fun h => ?_) (fun h => ?_)
          · rw [hcl, a2] at h
            have e : mvSpan t b3 = 16 - mvFrom t b3 := if_neg (by rw [i32_lt]; rw [i32_le] at h; omega)
            have := j172 b hbb
            rw [e] at this
            exact bX6_extendOn_167 this
          · rw [hcl, a2] at h
            have e : mvSpan t b3 = sf t 3 := if_pos (by rw [i32_lt]; rw [i32_le] at h; omega)
            have := j172 b hbb
            rw [e] at this
            refine bX6_extendOn_157 (by rw [W5_m hap]; exact hm) e10 (W5_l hap) hix ?_
            rw [hcl, a2]
            exact this
        have hcd : nI L.length ≤ nI dn.length → False := fun h => absurd h (nI_ge hd (by omega))
        refine bX6_extendOn_97 (fun h => (hcd h).elim) (fun _ => ?_)
        refine bX6_extendOn_104 (by rw [W5_m hap]; exact hm) e9 (W5_f hap) hix (fun h => ?_) (fun h => ?_)
        · rw [hcl, a1] at h
          have hn : ¬ sf t 2 < b3 := by rw [i32_lt]; rw [i32_le] at h; omega
          have e : mvFrom t b3 = sf t 2 := if_neg hn
          have := j140 0 ⟨fun _ => hn, fun _ => rfl⟩
          rw [e] at this
          refine bX6_extendOn_120 (bX6_extendOn_121 (fun _ => ?_) (fun h => absurd rfl h))
          refine bX6_extendOn_133 (by rw [W5_m hap]; exact hm) e9 (W5_f hap) hix ?_
          rw [hcl, a1]
          exact this
        · rw [hcl, a1] at h
          have hn : sf t 2 < b3 := by rw [i32_lt]; rw [i32_le] at h; omega
          have e : mvFrom t b3 = b3 := if_pos hn
          have := j140 1 ⟨fun h => absurd h (by decide), fun h => absurd hn h⟩
          rw [e] at this
          exact bX6_extendOn_116 (bX6_extendOn_121 (fun h => absurd h (by decide)) (fun _ => bX6_extendOn_128 this))
    exact key L [] g2 c1 bd rfl hg2 hlen hBeq
  unfold extL at j64
  refine bX6_extendOn_38 (fun h => ?_) (fun h => ?_)
  · rw [if_neg (by rw [i32_lt]; rw [i32_le] at h; omega)] at j64
    exact bX6_extendOn_59 j64
  · rw [if_pos (by rw [i32_lt]; rw [i32_le] at h; omega)] at j64
    refine bX6_extendOn_48 (c_of (j := 3) W5_r h1 rfl (by omega) (by decide) ?_) (fun _ _ h => h)
    rw [hc.S hk, hs]
    exact bX6_extendOn_54 j64
end M9
