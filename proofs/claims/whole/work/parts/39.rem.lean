/-! WHAT IS REMEMBERED -/
theorem rg_app1 (L : List Cal) (c : Cal) : rg (L ++ [c]) L.length = c := by simp [rg]
theorem rg_app2 (L M : List Cal) {i : Nat} (h : i < L.length) : rg (L ++ M) i = rg L i := by
  unfold rg
  rw [List.getD_eq_getElem?_getD, List.getElem?_append_left h, List.getD_eq_getElem?_getD]
theorem rg_drop (L : List Cal) (i : Nat) : rg (L.drop 1) i = rg L (i + 1) := by
  unfold rg
  rw [List.getD_eq_getElem?_getD, List.getElem?_drop, List.getD_eq_getElem?_getD, Nat.add_comm]
theorem rg_take (L : List Cal) {i m : Nat} (h : i < m) : rg (L.take m) i = rg L i := by
  unfold rg
  rw [List.getD_eq_getElem?_getD, List.getElem?_take_of_lt h, List.getD_eq_getElem?_getD]
def wL (y : Sy) (L : List Cal) : Sy := (y.1, y.2.1, y.2.2.1, L, y.2.2.2.2)
section RM9
variable {G : GG} {l : Launch} {w0 w : Wd} {A : Nat → Nat} {rf : Int32} {y : Sy} {T : (Nat → Int32) → Prop} {sp ou : Int32}
theorem MG.rem (hi : Inj A) (h : MG w0 A rf y T sp ou w) {g : Nat → Int32} (hg : w (A 4) = some (irow 28658 g)) (L : List Cal) (hL : L.length ≤ 14) (hr : ∀ i, i < L.length → MRep (fun k => g (2047 * i + k)) (rg L i)) : MG w0 A rf (wL y L) T sp ou (wset w (A 0) (.inl (5, mf A rf (nI (yN y)) (nI L.length) sp ou))) := by
  obtain ⟨f, h0, h1, h2, h3, h4, h5, h6, h7, h8, h9, h10, hnb, hrb⟩ := h
  have rd : ∀ {i : Nat} (e : PE), i < 11 → ¬ i = 0 → ∀ w : Wd, wset w (A 0) e (A i) = w (A i) := fun e h11 he w => wset_ne _ _ (hi.ne h11 (by decide) he)
  refine ⟨fun a ha => (wset_ne _ _ (ha 0 (by decide))).trans (f a ha), wset_eq _ _ _, ?_, ?_, ?_, ⟨g, (rd _ (by decide) (by decide) _).trans hg, hr⟩, ?_, ?_, ?_, ?_, ?_, ?_, hnb, hL⟩
  · rw [rd _ (by decide) (by decide)]; exact h1
  · rw [rd _ (by decide) (by decide)]; exact h2
  · rw [rd _ (by decide) (by decide)]; exact h3
  · rw [rd _ (by decide) (by decide)]; exact h5
  · rw [rd _ (by decide) (by decide)]; exact h6
  · rw [rd _ (by decide) (by decide)]; exact h7
  · rw [rd _ (by decide) (by decide)]; exact h8
  · rw [rd _ (by decide) (by decide)]; exact h9
  · rw [rd _ (by decide) (by decide)]; exact h10
theorem MG.setD (hi : Inj A) (h : MG w0 A rf y T sp ou w) {g : Nat → Int32} (L : List Cal) (hL : L.length = (yR y).length) (hr : ∀ i, i < L.length → MRep (fun k => g (2047 * i + k)) (rg L i)) : MG w0 A rf (wL y L) T sp ou (wset w (A 4) (irow 28658 g)) :=
  h.chg hi (y2 := wL y L) (by decide) (by show some _ = some (Sum.inl (5, mf A rf (nI (yN y)) (nI L.length) sp ou)); rw [hL]) (fun g q => ⟨g, rfl, q⟩) (fun g q => ⟨g, rfl, q⟩) (fun g q => ⟨g, rfl, q⟩) (fun _ _ => ⟨g, rfl, hr⟩) (fun g q => ⟨g, rfl, q⟩) (fun g q => ⟨g, rfl, q⟩) (by decide) h.nb (by show L.length ≤ 14; rw [hL]; exact h.rb)
theorem c_remember {Q : Wd → Prop} (hi : Inj A) (h : MG w0 A rf y T sp ou w) (hq : ∀ w2, MG w0 A rf (wR y) T sp ou w2 → Q w2) : CX6_remember G l [.ref (A 0)] w Q := by
  have hrb := h.rb
  -- the last step: the state goes behind the list L
  have j56 : ∀ (L : List Cal) (w1 : Wd), L.length < 14 → wL y (L ++ [yC y]) = wR y → MG w0 A rf (wL y L) T sp ou w1 → KX6_remember G l w (ZV G 0 0 w Q) w1 56 [(0, .ref (A 0))] [] := fun L w1 hL he h1 => by
    obtain ⟨gn, hn, hc⟩ := h1.n
    obtain ⟨gd, hd, hdr⟩ := h1.d
    have e1 : (2047 : Int32) * nI L.length = nI (2047 * L.length) := by rw [show (2047 : Int32) = nI 2047 from rfl, nI_mul]
    refine bX6_remember_56 h1.o rfl rfl rfl (c_copyState (fa := 0) (ta := 2047 * L.length) (n := (cTs (yC y)).length) hn hd (Or.inl (hi.ne (by decide) (by decide) (by decide))) rfl e1 (by decide) (by omega) (by decide) (by decide) hc.n2 hc.b2 ?_) (fun _ h => h)
    have keep : ∀ i, i < L.length → MRep (fun k => cpyR gn gd 0 (2047 * L.length) (127 + 3 * (cTs (yC y)).length) (2047 * i + k)) (rg L i) := fun i hi2 => (hdr i hi2).keep hc.b2 (by omega)
    have h2 := h1.setD hi (g := cpyR gn gd 0 (2047 * L.length) (127 + 3 * (cTs (yC y)).length)) L rfl keep
    have h3 := h2.rem hi (wset_eq _ _ _) (L ++ [yC y]) (by rw [List.length_append]; show L.length + 1 ≤ 14; omega) (fun i hi2 => ?_)
    · refine bX6_remember_76 h2.o rfl (mf_l (by decide)) mf_6 (hq _ ?_)
      have e2 : nI L.length + 1 = nI (L ++ [yC y]).length := by rw [nI_1, List.length_append]; rfl
      have e3 : wL (wL (wL y L) L) (L ++ [yC y]) = wR y := he
      rw [e3] at h3
      rw [show nI (yR (wL (wL y L) L)).length + 1 = nI (L ++ [yC y]).length from e2]
      exact h3
    · rw [List.length_append] at hi2
      have hi2 : i < L.length + 1 := hi2
      by_cases q : i = L.length
      · subst q
        rw [rg_app1]
        exact hc.at0.cpy
      · rw [rg_app2 _ _ (by omega)]
        exact keep i (by omega)
  refine sX6_remember (bX6_remember_0 h.o rfl (fun z => ?_) (fun z => ?_))
  · have hl : ¬ (yR y).length = 14 := fun e => z (by rw [e]; rfl)
    refine j56 (yR y) w (by omega) ?_ h
    show (y.1, y.2.1, y.2.2.1, yR y ++ [yC y], y.2.2.2.2) = wR y
    unfold wR rmb
    rw [if_neg hl]
  · have hl : (yR y).length = 14 := by
      have := congrArg Int32.toInt z
      rw [nI_toInt (by omega), show (14 : Int32).toInt = 14 from rfl] at this
      omega
    refine bX6_remember_9 ?_
    have key : ∀ i, i ≤ 13 → ∀ (L : List Cal) (w1 : Wd), L.length = 14 → (∀ j, j < i → rg L j = rg (yR y) (j + 1)) → (∀ j, i < j → j < 14 → rg L j = rg (yR y) j) → MG w0 A rf (wL y L) T sp ou w1 →
        KX6_remember G l w (ZV G 0 0 w Q) w1 11 [(0, .ref (A 0)), (1, .int (nI (i + 1)))] [] := by
      refine upto (P := fun i => ∀ (L : List Cal) (w1 : Wd), L.length = 14 → (∀ j, j < i → rg L j = rg (yR y) (j + 1)) → (∀ j, i < j → j < 14 → rg L j = rg (yR y) j) → MG w0 A rf (wL y L) T sp ou w1 →
        KX6_remember G l w (ZV G 0 0 w Q) w1 11 [(0, .ref (A 0)), (1, .int (nI (i + 1)))] []) (N := 13) (fun L w1 hL h1 h2 hw => ?_) (fun i hi13 ih L w1 hL h1 h2 hw => ?_)
      · refine bX6_remember_11 (fun _ => ?_) (fun q => absurd (by decide) q)
        obtain ⟨gd, hd, hdr⟩ := hw.d
        have h3 := hw.rem hi hd (L.take 13) (by rw [List.length_take]; omega) (fun i hi2 => by
          rw [List.length_take] at hi2
          rw [rg_take _ (by omega)]
          exact hdr i (by show i < L.length; omega))
        have e1 : (L.take 13).length = 13 := by rw [List.length_take]; omega
        refine bX6_remember_46 hw.o rfl (mf_l (by decide)) mf_6 ?_
        have e2 : nI (yR (wL y L)).length - 1 = nI (L.take 13).length := by
          rw [e1, show yR (wL y L) = L from rfl, hL]; rfl
        rw [e2]
        refine j56 (L.take 13) _ (by omega) ?_ h3
        have e3 : L.take 13 = (yR y).drop 1 := by
          apply List.ext_getElem
          · rw [e1, List.length_drop, hl]
          · intro j j1 j2
            rw [e1] at j1
            have := h1 j j1
            unfold rg at this
            rw [List.getD_eq_getElem?_getD, List.getElem?_eq_getElem (by omega), List.getD_eq_getElem?_getD, List.getElem?_eq_getElem (by omega)] at this
            rw [List.getElem_take, List.getElem_drop]
            have e9 : (yR y)[1 + j] = (yR y)[j + 1] := by congr 1; omega
            rw [e9]; exact this
        rw [e3]
        show (y.1, y.2.1, y.2.2.1, (yR y).drop 1 ++ [yC y], y.2.2.2.2) = wR y
        unfold wR rmb
        rw [if_pos hl]
      · refine bX6_remember_11 (fun q => absurd q (nI_ge (b := 14) (by omega) (by decide))) (fun _ => ?_)
        obtain ⟨gd, hd, hdr⟩ := hw.d
        have hsrc : MRep (fun k => gd (2047 * (i + 1) + k)) (rg L (i + 1)) := hdr (i + 1) (by show i + 1 < L.length; omega)
        have e1 : (2047 : Int32) * nI (i + 1) = nI (2047 * (i + 1)) := by rw [show (2047 : Int32) = nI 2047 from rfl, nI_mul]
        have e2 : (2047 : Int32) * (nI (i + 1) - 1) = nI (2047 * i) := by rw [nI_pred, show (2047 : Int32) = nI 2047 from rfl, nI_mul]
        refine bX6_remember_17 hw.o rfl (c_copyState (fa := 2047 * (i + 1)) (ta := 2047 * i) (n := (cTs (rg L (i + 1))).length) hd hd (Or.inr ⟨rfl, by omega⟩) e1 e2 (by omega) (by omega) (by decide) (by decide) hsrc.n2 hsrc.b2 ?_) (fun _ h => h)
        have h3 := hw.setD hi (g := cpyR gd gd (2047 * (i + 1)) (2047 * i) (127 + 3 * (cTs (rg L (i + 1))).length)) (L.set i (rg L (i + 1))) (by rw [List.length_set]; rfl) (fun j hj => ?_)
        · refine bX6_remember_40 ?_
          rw [nI_1]
          refine ih (L.set i (rg L (i + 1))) _ (by rw [List.length_set]; exact hL) (fun j hj => ?_) (fun j hj1 hj2 => ?_) h3
          · by_cases q : j = i
            · subst q
              have : rg (L.set j (rg L (j + 1))) j = rg L (j + 1) := by
                unfold rg; rw [List.getD_eq_getElem?_getD, List.getElem?_set_self (by omega)]; rfl
              rw [this]
              exact h2 (j + 1) (by omega) (by omega)
            · have : rg (L.set i (rg L (i + 1))) j = rg L j := by
                unfold rg; rw [List.getD_eq_getElem?_getD, List.getElem?_set_ne (fun z => q z.symm), List.getD_eq_getElem?_getD]
              rw [this]; exact h1 j (by omega)
          · have : rg (L.set i (rg L (i + 1))) j = rg L j := by
              unfold rg; rw [List.getD_eq_getElem?_getD, List.getElem?_set_ne (by omega), List.getD_eq_getElem?_getD]
            rw [this]; exact h2 j (by omega) hj2
        · rw [List.length_set] at hj
          by_cases q : j = i
          · subst q
            have : rg (L.set j (rg L (j + 1))) j = rg L (j + 1) := by
              unfold rg; rw [List.getD_eq_getElem?_getD, List.getElem?_set_self (by omega)]; rfl
            rw [this]
            exact hsrc.cpy
          · have : rg (L.set i (rg L (i + 1))) j = rg L j := by
              unfold rg; rw [List.getD_eq_getElem?_getD, List.getElem?_set_ne (fun z => q z.symm), List.getD_eq_getElem?_getD]
            rw [this]
            exact (hdr j hj).keep hsrc.b2 (by omega)
    exact key 0 (Nat.zero_le _) (yR y) w hl (fun j hj => absurd hj (Nat.not_lt_zero _)) (fun j _ _ => rfl) h
end RM9
