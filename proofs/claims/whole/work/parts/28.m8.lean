/-! THE MODEL: a session lasts longer -/
def W5 (w : Wd) (r lf ll lt lw : Nat) (g A B C D : Nat → Int32) : Wd := fun a => if a = r then some (irow 2047 g) else if a = lf then some (irow 16 A) else if a = ll then some (irow 16 B) else if a = lt then some (irow 16 C) else if a = lw then some (irow 16 D) else w a
/-- the addresses of the row, of the four later rows and of the object, all different -/
def Ap5 (m r lf ll lt lw : Nat) : Prop := m ≠ r ∧ m ≠ lf ∧ m ≠ ll ∧ m ≠ lt ∧ m ≠ lw ∧ r ≠ lf ∧ r ≠ ll ∧ r ≠ lt ∧ r ≠ lw ∧ lf ≠ ll ∧ lf ≠ lt ∧ lf ≠ lw ∧ ll ≠ lt ∧ ll ≠ lw ∧ lt ≠ lw
section W5
variable {w : Wd} {m r lf ll lt lw : Nat} {g A B C D : Nat → Int32}
theorem W5_r : W5 w r lf ll lt lw g A B C D r = some (irow 2047 g) := by simp [W5]
theorem W5_f (h : Ap5 m r lf ll lt lw) : W5 w r lf ll lt lw g A B C D lf = some (irow 16 A) := by
  obtain ⟨h1, h2, h3, h4, h5, h6, h7, h8, h9, h10, h11, h12, h13, h14, h15⟩ := h
  simp [W5, h6.symm]
theorem W5_l (h : Ap5 m r lf ll lt lw) : W5 w r lf ll lt lw g A B C D ll = some (irow 16 B) := by
  obtain ⟨h1, h2, h3, h4, h5, h6, h7, h8, h9, h10, h11, h12, h13, h14, h15⟩ := h
  simp [W5, h7.symm, h10.symm]
theorem W5_t (h : Ap5 m r lf ll lt lw) : W5 w r lf ll lt lw g A B C D lt = some (irow 16 C) := by
  obtain ⟨h1, h2, h3, h4, h5, h6, h7, h8, h9, h10, h11, h12, h13, h14, h15⟩ := h
  simp [W5, h8.symm, h11.symm, h13.symm]
theorem W5_w (h : Ap5 m r lf ll lt lw) : W5 w r lf ll lt lw g A B C D lw = some (irow 16 D) := by
  obtain ⟨h1, h2, h3, h4, h5, h6, h7, h8, h9, h10, h11, h12, h13, h14, h15⟩ := h
  simp [W5, h9.symm, h12.symm, h14.symm, h15.symm]
theorem W5_m (h : Ap5 m r lf ll lt lw) : W5 w r lf ll lt lw g A B C D m = w m := by
  obtain ⟨h1, h2, h3, h4, h5, -⟩ := h
  simp [W5, h1, h2, h3, h4, h5]
theorem W5_sr (g2 : Nat → Int32) : wset (W5 w r lf ll lt lw g A B C D) r (irow 2047 g2) = W5 w r lf ll lt lw g2 A B C D := by
  funext a
  by_cases e : a = r <;> simp [wset, W5, e]
theorem W5_sf (h : Ap5 m r lf ll lt lw) (A2 : Nat → Int32) : wset (W5 w r lf ll lt lw g A B C D) lf (irow 16 A2) = W5 w r lf ll lt lw g A2 B C D := by
  obtain ⟨h1, h2, h3, h4, h5, h6, h7, h8, h9, h10, h11, h12, h13, h14, h15⟩ := h
  funext a
  by_cases e : a = lf
  · subst e; simp [wset, W5, h6.symm]
  · simp [wset, W5, e]
theorem W5_sl (h : Ap5 m r lf ll lt lw) (B2 : Nat → Int32) : wset (W5 w r lf ll lt lw g A B C D) ll (irow 16 B2) = W5 w r lf ll lt lw g A B2 C D := by
  obtain ⟨h1, h2, h3, h4, h5, h6, h7, h8, h9, h10, h11, h12, h13, h14, h15⟩ := h
  funext a
  by_cases e : a = ll
  · subst e; simp [wset, W5, h7.symm, h10.symm]
  · simp [wset, W5, e]
theorem W5_st (h : Ap5 m r lf ll lt lw) (C2 : Nat → Int32) : wset (W5 w r lf ll lt lw g A B C D) lt (irow 16 C2) = W5 w r lf ll lt lw g A B C2 D := by
  obtain ⟨h1, h2, h3, h4, h5, h6, h7, h8, h9, h10, h11, h12, h13, h14, h15⟩ := h
  funext a
  by_cases e : a = lt
  · subst e; simp [wset, W5, h8.symm, h11.symm, h13.symm]
  · simp [wset, W5, e]
theorem W5_sw (h : Ap5 m r lf ll lt lw) (D2 : Nat → Int32) : wset (W5 w r lf ll lt lw g A B C D) lw (irow 16 D2) = W5 w r lf ll lt lw g A B C D2 := by
  obtain ⟨h1, h2, h3, h4, h5, h6, h7, h8, h9, h10, h11, h12, h13, h14, h15⟩ := h
  funext a
  by_cases e : a = lw
  · subst e; simp [wset, W5, h9.symm, h12.symm, h14.symm, h15.symm]
  · simp [wset, W5, e]
theorem W5_of (hr : w r = some (irow 2047 g)) (hf : w lf = some (irow 16 A)) (hl : w ll = some (irow 16 B)) (ht : w lt = some (irow 16 C)) (hw : w lw = some (irow 16 D)) : W5 w r lf ll lt lw g A B C D = w := by
  funext a
  unfold W5
  by_cases e1 : a = r
  · subst e1; rw [if_pos rfl, hr]
  · rw [if_neg e1]
    by_cases e2 : a = lf
    · subst e2; rw [if_pos rfl, hf]
    · rw [if_neg e2]
      by_cases e3 : a = ll
      · subst e3; rw [if_pos rfl, hl]
      · rw [if_neg e3]
        by_cases e4 : a = lt
        · subst e4; rw [if_pos rfl, ht]
        · rw [if_neg e4]
          by_cases e5 : a = lw
          · subst e5; rw [if_pos rfl, hw]
          · rw [if_neg e5]
end W5
/-- the four later rows hold a list of sessions -/
def Ltr (A B C D : Nat → Int32) (L : List Ss) : Prop := ∀ i, i < L.length → A i = sf (sg L i) 2 ∧ B i = sf (sg L i) 3 ∧ C i = sf (sg L i) 4 ∧ D i = sf (sg L i) 5
theorem sg_app1 (L : List Ss) (s : Ss) : sg (L ++ [s]) L.length = s := by simp [sg]
theorem sg_app2 (L M : List Ss) {i : Nat} (h : i < L.length) : sg (L ++ M) i = sg L i := by
  unfold sg
  rw [List.getD_eq_getElem?_getD, List.getElem?_append_left h, List.getD_eq_getElem?_getD]
theorem Ltr.add {A B C D : Nat → Int32} {L : List Ss} (h : Ltr A B C D L) (s : Ss) : Ltr (upd A L.length (sf s 2)) (upd B L.length (sf s 3)) (upd C L.length (sf s 4)) (upd D L.length (sf s 5)) (L ++ [s]) := by
  intro i hi
  rw [List.length_append] at hi
  have hi : i < L.length + 1 := hi
  by_cases e : i = L.length
  · subst e
    rw [sg_app1, upd_eq, upd_eq, upd_eq, upd_eq]
    exact ⟨rfl, rfl, rfl, rfl⟩
  · rw [sg_app2 _ _ (by omega), upd_ne _ _ e, upd_ne _ _ e, upd_ne _ _ e, upd_ne _ _ e]
    exact h i (by omega)
theorem erase_mid (A B : List Ss) (x : Ss) : (A ++ x :: B).eraseIdx A.length = A ++ B := by
  rw [List.eraseIdx_append_of_length_le (Nat.le_refl _)]
  simp
theorem sg_mid (A B : List Ss) (x : Ss) : sg (A ++ x :: B) A.length = x := by simp [sg]
section M8
variable {G : GG} {l : Launch} {w : Wd} {m r lf ll lt lw : Nat} {g : Nat → Int32} {c : Cal}
theorem c_takeLater {f : List Value} {A0 B0 C0 D0 : Nat → Int32} {x2 x3 x4 : Int32} {Q : Int32 → Wd → Prop} (hap : Ap5 m r lf ll lt lw) (hm : w m = some (.inl (5, f))) (e9 : f[9]? = some (.ref lf)) (e10 : f[10]? = some (.ref ll)) (e11 : f[11]? = some (.ref lt)) (e12 : f[12]? = some (.ref lw)) (hc : MRep g c)
    (hq : ∀ g2 A B C D, MRep g2 (wSs c (rst (cSs c) x2 x3 x4)) → Ltr A B C D (lat (cSs c) x2 x3 x4) → Q (nI (lat (cSs c) x2 x3 x4).length) (W5 w r lf ll lt lw g2 A B C D)) : CX6_takeLater G l [.ref m, .ref r, .int x2, .int x3, .int x4] (W5 w r lf ll lt lw g A0 B0 C0 D0) Q := by
  have hb := hc.b1
  refine sX6_takeLater (bX6_takeLater_0 ?_)
  have key : ∀ (B dn : List Ss) (g1 A1 B1 C1 D1 : Nat → Int32) (L : List Ss), MRep g1 (wSs c (dn ++ B)) → Ltr A1 B1 C1 D1 L → L.length + B.length ≤ 16 → L ++ lat B x2 x3 x4 = lat (cSs c) x2 x3 x4 → dn ++ rst B x2 x3 x4 = rst (cSs c) x2 x3 x4 →
      KX6_takeLater G l (W5 w r lf ll lt lw g A0 B0 C0 D0) (ZI G 0 0 (W5 w r lf ll lt lw g A0 B0 C0 D0) Q) (W5 w r lf ll lt lw g1 A1 B1 C1 D1) 6 [(0, .ref m), (1, .ref r), (2, .int x2), (3, .int x3), (4, .int x4), (5, .int (nI L.length)), (6, .int (nI dn.length))] [] := by
    intro B
    induction B with
    | nil =>
      intro dn g1 A1 B1 C1 D1 L hg hL h16 e1 e2
      have hl : (cSs (wSs c (dn ++ []))).length = dn.length := by simp [wSs, cSs]
      have hb1 := hg.b1
      refine bX6_takeLater_6 W5_r (vlit rfl) (fun _ => bX6_takeLater_123 ?_) (fun h => absurd (by rw [hg.n1, hl]; exact nI_le (Nat.le_refl _) (by omega)) h)
      have e1' : L = lat (cSs c) x2 x3 x4 := by rw [← e1]; simp [lat]
      have e2' : dn ++ [] = rst (cSs c) x2 x3 x4 := by rw [← e2]; simp [rst]
      rw [e1']
      rw [e2'] at hg
      rw [e1'] at hL
      exact hq g1 A1 B1 C1 D1 hg hL
    | cons x B ih =>
      intro dn g1 A1 B1 C1 D1 L hg hL h16 e1 e2
      have hss : cSs (wSs c (dn ++ x :: B)) = dn ++ x :: B := rfl
      have hb1 := hg.b1
      rw [hss, List.length_append, List.length_cons] at hb1
      have hl : (cSs (wSs c (dn ++ x :: B))).length = dn.length + (B.length + 1) := by rw [hss, List.length_append, List.length_cons]
      have hdn : dn.length < (cSs (wSs c (dn ++ x :: B))).length := by omega
      have hS : gS g1 dn.length = x := by rw [hg.S hdn, hss, sg_mid]
      rw [List.length_cons] at h16
      refine bX6_takeLater_6 W5_r (vlit rfl) (fun h => absurd h (by rw [hg.n1]; exact nI_ge hdn (by omega))) (fun _ => ?_)
      have no : latP x2 x3 x4 x = false → KX6_takeLater G l (W5 w r lf ll lt lw g A0 B0 C0 D0) (ZI G 0 0 (W5 w r lf ll lt lw g A0 B0 C0 D0) Q) (W5 w r lf ll lt lw g1 A1 B1 C1 D1) 117 [(0, .ref m), (1, .ref r), (2, .int x2), (3, .int x3), (4, .int x4), (5, .int (nI L.length)), (6, .int (nI dn.length))] [] := fun hn => by
        refine bX6_takeLater_117 ?_
        rw [nI_1]
        have := ih (dn ++ [x]) g1 A1 B1 C1 D1 L (by rw [List.append_assoc]; exact hg) hL (by omega) (by rw [← e1]; simp [lat, hn]) (by rw [← e2]; simp [rst, hn])
        rw [List.length_append] at this
        exact this
      unfold latP at no
      refine bX6_takeLater_14 (c_of (j := 0) W5_r rfl rfl (by omega) (by decide) ?_) (fun _ _ h => h)
      rw [hS]
      refine bX6_takeLater_21 (fun h => no (by rw [decide_eq_false h]; rfl)) (fun q1 => ?_)
      refine bX6_takeLater_25 (c_of (j := 1) W5_r rfl rfl (by omega) (by decide) ?_) (fun _ _ h => h)
      rw [hS]
      refine bX6_takeLater_32 (fun h => no (by rw [decide_eq_false h]; simp)) (fun q2 => ?_)
      refine bX6_takeLater_36 (c_of (j := 2) W5_r rfl rfl (by omega) (by decide) ?_) (fun _ _ h => h)
      rw [hS]
      refine bX6_takeLater_43 (fun h => no (by rw [dlt h]; simp)) (fun q3 => ?_)
      have yes : latP x2 x3 x4 x = true := by unfold latP; rw [decide_eq_true q1, decide_eq_true q2, dlt' q3]; rfl
      have hix : vp_in (nI L.length) 16 := vp_in_nI (by omega) (by omega)
      have hcl : (nI L.length).toNatClampNeg = L.length := nI_clamp (by omega)
      refine bX6_takeLater_48 (by rw [W5_m hap]; exact hm) e9 (c_of (j := 2) W5_r rfl rfl (by omega) (by decide) ?_) (fun _ _ h => h)
      refine bX6_takeLater_61 (W5_f hap) hix (by rw [W5_sf hap, W5_m hap]; exact hm) e10 ?_ (fun _ _ h => h)
      rw [W5_sf hap]
      refine c_of (j := 3) W5_r rfl rfl (by omega) (by decide) ?_
      refine bX6_takeLater_75 (W5_l hap) hix (by rw [W5_sl hap, W5_m hap]; exact hm) e11 ?_ (fun _ _ h => h)
      rw [W5_sl hap]
      refine c_of (j := 4) W5_r rfl rfl (by omega) (by decide) ?_
      refine bX6_takeLater_89 (W5_t hap) hix (by rw [W5_st hap, W5_m hap]; exact hm) e12 ?_ (fun _ _ h => h)
      rw [W5_st hap]
      refine c_of (j := 5) W5_r rfl rfl (by omega) (by decide) ?_
      refine bX6_takeLater_103 (W5_w hap) hix ?_ (fun _ _ h => h)
      rw [W5_sw hap]
      refine c_removeOn (i := dn.length) W5_r hg rfl hdn (fun g2 hg2 => ?_)
      rw [W5_sr]
      rw [show delS (wSs c (dn ++ x :: B)) dn.length = wSs c (dn ++ B) by unfold delS wSs; rw [show cSs (c.1, c.2.1, dn ++ x :: B, c.2.2.2) = dn ++ x :: B from rfl, erase_mid]] at hg2
      refine bX6_takeLater_113 ?_
      rw [hcl, hS, nI_1]
      have := ih dn g2 _ _ _ _ (L ++ [x]) hg2 (hL.add x) (by rw [List.length_append]; show L.length + 1 + _ ≤ _; omega) (by rw [← e1]; simp [lat, yes]) (by rw [← e2]; simp [rst, yes])
      rw [List.length_append] at this
      exact this
  have := key (cSs c) [] g A0 B0 C0 D0 [] hc (fun i h => absurd h (Nat.not_lt_zero _)) (by simpa using hb) rfl rfl
  exact this
end M8
