/-! A DAY, AS THE CLASS DOES IT -/
def hldA (c : Cal) : Nat → Cal
  | 0 => c
  | k + 1 => if sf (sg (cSs c) k) 1 = cSc c 3 then (if sf (sg (cSs c) k) 5 = -1 then setC (hldA c k) 4 (cSc (hldA c k) 4 + 1) else addT (hldA c k) (sf (sg (cSs c) k) 5) (sf (sg (cSs c) k) 3 * sf (sg (cSs c) k) 4)) else hldA c k
/-- how long the desks' rows are behind a day -/
def dayL (c : Cal) (L : Nat) : Nat := grw L (min ((cTs c).length + (cSs c).length) 640)
theorem dayL_b (c : Cal) {L : Nat} (h : 16 ≤ L) (h2 : L ≤ 640) : L ≤ dayL c L ∧ min ((cTs c).length + (cSs c).length) 640 ≤ dayL c L ∧ dayL c L ≤ 640 := grw_b h h2 (by omega)
theorem dayL_m (c : Cal) {L : Nat} (h : 16 ≤ L) (h2 : L ≤ 640) : pC (dayL c L) ≤ pC L ∧ pS (dayL c L) ≤ pS L := grw_m h h2 (by omega)
theorem addT_tl (c : Cal) (p q : Int32) : (cTs (addT c p q)).length ≤ (cTs c).length + 1 := by
  unfold addT
  split
  · show ((cTs c) ++ [_]).length ≤ _
    rw [List.length_append]; exact Nat.le_refl _
  · omega
theorem hldA_tl (c : Cal) : ∀ k, (cTs (hldA c k)).length ≤ (cTs c).length + k
  | 0 => Nat.le_refl _
  | k + 1 => by
    have ih := hldA_tl c k
    unfold hldA
    split
    · split
      · show (cTs (hldA c k)).length ≤ _
        omega
      · have := addT_tl (hldA c k) (sf (sg (cSs c) k) 5) (sf (sg (cSs c) k) 3 * sf (sg (cSs c) k) 4)
        omega
    · omega
theorem hldA_ss (c : Cal) : ∀ k, cSs (hldA c k) = cSs c
  | 0 => rfl
  | k + 1 => by
    unfold hldA
    split
    · split
      · exact hldA_ss c k
      · rw [addT_ss]; exact hldA_ss c k
    · exact hldA_ss c k
theorem hldA_ps (c : Cal) : ∀ k, cPs (hldA c k) = cPs c
  | 0 => rfl
  | k + 1 => by
    unfold hldA
    split
    · split
      · exact hldA_ps c k
      · rw [addT_ps]; exact hldA_ps c k
    · exact hldA_ps c k
theorem hldA_sc (c : Cal) {j : Nat} (h4 : j ≠ 4) : ∀ k, cSc (hldA c k) j = cSc c j
  | 0 => rfl
  | k + 1 => by
    unfold hldA
    split
    · split
      · rw [setC_ne _ _ h4]; exact hldA_sc c h4 k
      · rw [addT_sc]; exact hldA_sc c h4 k
    · exact hldA_sc c h4 k
/-- only those of the day, which stand ahead, count -/
theorem hldA_eq {T : Nat} {c : Cal} (h : Inv T c) : hldA c (cSs c).length = hldTo c (ldg (cSs c) (cSc c 3)) := by
  have hle := ldg_le (cSs c) (cSc c 3)
  have h1 : ∀ k, k ≤ ldg (cSs c) (cSc c 3) → hldA c k = hldTo c k := by
    intro k
    induction k with
    | zero => intro _; rfl
    | succ k ih =>
      intro hk
      rw [hldA, hldTo, ih (by omega), if_pos (ldg_in _ _ (by omega))]
  have h2 : ∀ d, ldg (cSs c) (cSc c 3) + d ≤ (cSs c).length → hldA c (ldg (cSs c) (cSc c 3) + d) = hldTo c (ldg (cSs c) (cSc c 3)) := by
    intro d
    induction d with
    | zero => intro _; exact h1 _ (Nat.le_refl _)
    | succ d ih =>
      intro hd
      show hldA c (ldg (cSs c) (cSc c 3) + d + 1) = _
      rw [hldA, if_neg, ih (by omega)]
      intro z
      have hm : sg (cSs c) (ldg (cSs c) (cSc c 3) + d) ∈ (cSs c).drop (ldg (cSs c) (cSc c 3)) := by
        rw [sg_get (by omega)]
        rw [← List.getElem_drop]
        · exact List.getElem_mem _
        · rw [List.length_drop]; omega
      have := drop_day h hm
      rw [z] at this
      omega
  have := h2 ((cSs c).length - ldg (cSs c) (cSc c 3)) (by omega)
  rw [show ldg (cSs c) (cSc c 3) + ((cSs c).length - ldg (cSs c) (cSc c 3)) = (cSs c).length by omega] at this
  exact this
-- what a change of the pay alone leaves alone
def wP (u : Int32) (ps : List Pn) (c : Cal) : Cal := (upd c.1 5 u, ps, c.2.2)
theorem upd_swap (f : Nat → Int32) {i j : Nat} (x y : Int32) (h : i ≠ j) : upd (upd f i x) j y = upd (upd f j y) i x := by
  funext k
  unfold upd
  by_cases q : k = i
  · subst q; rw [if_neg h, if_pos rfl, if_pos rfl]
  · by_cases q2 : k = j
    · rw [if_pos q2, if_neg q, if_pos q2]
    · rw [if_neg q2, if_neg q, if_neg q, if_neg q2]
theorem wP_sc (u : Int32) (ps : List Pn) (c : Cal) {j : Nat} (h : j ≠ 5) : cSc (wP u ps c) j = cSc c j := upd_ne _ _ h
theorem wP_setC (u : Int32) (ps : List Pn) (c : Cal) (i : Nat) (v : Int32) (h : i ≠ 5) : setC (wP u ps c) i v = wP u ps (setC c i v) := by
  show (upd (upd c.1 5 u) i v, ps, c.2.2) = (upd (upd c.1 i v) 5 u, ps, c.2.2)
  rw [upd_swap _ _ _ (fun z => h z.symm)]
theorem wP_addT (u : Int32) (ps : List Pn) (c : Cal) (p q : Int32) : addT (wP u ps c) p q = wP u ps (addT c p q) := by
  unfold addT
  show (if (cTs c).length < 640 then _ else _) = _
  rw [wP_sc u ps c (by decide : (3 : Nat) ≠ 5), wP_sc u ps c (by decide : (11 : Nat) ≠ 5)]
  split <;> rfl
theorem wP_hld (u : Int32) (ps : List Pn) (c : Cal) : ∀ k, hldTo (wP u ps c) k = wP u ps (hldTo c k)
  | 0 => rfl
  | k + 1 => by
    rw [hldTo, hldTo, wP_hld u ps c k]
    show (if sf (sg (cSs c) k) 5 = -1 then _ else _) = _
    split
    · rw [wP_sc u ps _ (by decide : (4 : Nat) ≠ 5), wP_setC _ _ _ _ _ (by decide)]
    · exact wP_addT _ _ _ _ _
theorem wP_tyOne (u : Int32) (ps : List Pn) (c : Cal) (i : Nat) (n : Int32) : tyOne (wP u ps c) i n = wP u ps (tyOne c i n) := by
  unfold tyOne
  have e1 : setT (wP u ps c) i 1 (tf (tg (cTs c) i) 1 - n) = wP u ps (setT c i 1 (tf (tg (cTs c) i) 1 - n)) := rfl
  show (if tf (tg (cTs c) i) 1 - n = 0 then setC (delT (setC (setT (wP u ps c) i 1 (tf (tg (cTs c) i) 1 - n)) 8 (cSc (wP u ps c) 8 + n)) i) 7 (cSc (wP u ps c) 7 + 1) else setC (setT (wP u ps c) i 1 (tf (tg (cTs c) i) 1 - n)) 8 (cSc (wP u ps c) 8 + n)) = _
  rw [e1, wP_sc u ps c (by decide : (8 : Nat) ≠ 5), wP_sc u ps c (by decide : (7 : Nat) ≠ 5), wP_setC _ _ _ _ _ (by decide)]
  split
  · have e2 : ∀ x : Cal, delT (wP u ps x) i = wP u ps (delT x i) := fun _ => rfl
    rw [e2, wP_setC _ _ _ _ _ (by decide)]
  · rfl
theorem wP_tyTo (u : Int32) (ps : List Pn) (p : Int32) : ∀ (f : Nat) (c : Cal) (left : Int32), tyTo f (wP u ps c) p left = wP u ps (tyTo f c p left)
  | 0, c, left => rfl
  | f + 1, c, left => by
    rw [tyTo, tyTo]
    split
    · show (match urg (cTs c) p with | none => wP u ps c | some i => tyTo f (tyOne (wP u ps c) i (min32 left (tf (tg (cTs c) i) 1))) p (left - min32 left (tf (tg (cTs c) i) 1))) = _
      cases urg (cTs c) p with
      | none => rfl
      | some i =>
        show tyTo f (tyOne (wP u ps c) i _) p _ = wP u ps (tyTo f (tyOne c i _) p _)
        rw [wP_tyOne, wP_tyTo u ps p f]
    · rfl
theorem wP_typAl (u : Int32) (ps : List Pn) (t : Int32) (c : Cal) : ∀ n, (∀ q, q < n → tf (pg ps q) 0 = tf (pg (cPs c) q) 0 ∧ tf (pg ps q) 1 = tf (pg (cPs c) q) 1) → typAl (wP u ps c) t n = wP u ps (typAl c t n)
  | 0, _ => rfl
  | n + 1, h => by
    have ih := wP_typAl u ps t c n (fun q hq => h q (by omega))
    have hn := h n (by omega)
    rw [typAl, typAl, ih]
    show (if t < tf (pg ps n) 1 then _ else typ (wP u ps (typAl c t n)) (nI n) ((16 - cnt (bz (cSs c) (nI n) t (-1))) * tf (pg ps n) 0)) = _
    rw [hn.1, hn.2]
    split
    · rfl
    · unfold typ
      exact wP_tyTo _ _ _ _ _ _
/-- the stenographers one after the other: pay, then typing -/
def dyTo (c : Cal) (t : Int32) : Nat → Cal
  | 0 => c
  | p + 1 => if t < tf (pg (cPs (dyTo c t p)) p) 1 then setP (dyTo c t p) p 2 (tf (pg (cPs (dyTo c t p)) p) 2 + payOf (cnt (bz (cSs c) (nI p) t (-1))))
    else typ (setP (dyTo c t p) p 2 (tf (pg (cPs (dyTo c t p)) p) 2 + payOf (cnt (bz (cSs c) (nI p) t (-1))))) (nI p) ((16 - cnt (bz (cSs c) (nI p) t (-1))) * tf (pg (cPs (dyTo c t p)) p) 0)
def Eq5 (c d : Cal) : Prop := c.2 = d.2 ∧ ∀ j, j ≠ 5 → cSc c j = cSc d j
theorem Eq5.rf (c : Cal) : Eq5 c c := ⟨rfl, fun _ _ => rfl⟩
theorem Eq5.tr {a b c : Cal} (h : Eq5 a b) (h2 : Eq5 b c) : Eq5 a c := ⟨h.1.trans h2.1, fun j hj => (h.2 j hj).trans (h2.2 j hj)⟩
theorem Eq5.sy {a b : Cal} (h : Eq5 a b) : Eq5 b a := ⟨h.1.symm, fun j hj => (h.2 j hj).symm⟩
theorem Eq5.wP {c d : Cal} (h : Eq5 c d) : ∃ u, c = wP u (cPs d) d := by
  refine ⟨cSc c 5, ?_⟩
  obtain ⟨f, r⟩ := c
  obtain ⟨g, s⟩ := d
  have h1 : r = s := h.1
  subst h1
  show (f, r) = (upd g 5 (f 5), r.1, r.2)
  have : f = upd g 5 (f 5) := by
    funext j
    unfold upd
    by_cases q : j = 5
    · rw [if_pos q, q]
    · rw [if_neg q]; exact h.2 j q
  rw [← this]
theorem wP_e5 (u : Int32) (c : Cal) : Eq5 (wP u (cPs c) c) c := ⟨rfl, fun j hj => wP_sc u _ c hj⟩
theorem setP_wP (c : Cal) (p : Nat) (v u : Int32) : setC (setP c p 2 v) 5 u = wP u ((cPs c).set p (tfset (pg (cPs c) p) 2 v)) c := rfl
theorem typ_wP (u : Int32) (ps : List Pn) (c : Cal) (p x : Int32) : typ (wP u ps c) p x = wP u ps (typ c p x) := wP_tyTo _ _ _ _ _ _
theorem dyTo_eq (c : Cal) (t : Int32) (m : Nat) : ∀ p, p ≤ (cPs c).length → Eq5 (dyTo (hldTo c m) t p) (typAl (hldTo (payTo c t p) m) t p) ∧ cPs (dyTo (hldTo c m) t p) = cPs (payTo c t p) ∧ cSs (dyTo (hldTo c m) t p) = cSs c
  | 0, _ => ⟨Eq5.rf _, hldTo_ps c m, hldTo_ss c m⟩
  | p + 1, hp => by
    obtain ⟨ih, ihp, ihs⟩ := dyTo_eq c t m p (by omega)
    have hss : cSs (hldTo c m) = cSs c := hldTo_ss c m
    have hpl := payTo_len c t p
    have e1 : hldTo (payTo c t (p + 1)) m = wP (cSc (payTo c t p) 5 + payOf (cnt (bz (cSs c) (nI p) t (-1)))) ((cPs (payTo c t p)).set p (tfset (pg (cPs (payTo c t p)) p) 2 (tf (pg (cPs (payTo c t p)) p) 2 + payOf (cnt (bz (cSs c) (nI p) t (-1)))))) (hldTo (payTo c t p) m) := by
      show hldTo (setC (setP (payTo c t p) p 2 _) 5 _) m = _
      rw [setP_wP, wP_hld]
    generalize hP : (cPs (payTo c t p)).set p (tfset (pg (cPs (payTo c t p)) p) 2 (tf (pg (cPs (payTo c t p)) p) 2 + payOf (cnt (bz (cSs c) (nI p) t (-1))))) = P at e1
    generalize cSc (payTo c t p) 5 + payOf (cnt (bz (cSs c) (nI p) t (-1))) = U at e1
    have hps : cPs (hldTo (payTo c t p) m) = cPs (payTo c t p) := hldTo_ps _ _
    have col : ∀ q, tf (pg P q) 0 = tf (pg (cPs (payTo c t p)) q) 0 ∧ tf (pg P q) 1 = tf (pg (cPs (payTo c t p)) q) 1 := fun q => by
      rw [← hP, pg_set _ _ _ _ (by omega)]
      by_cases z : q = p
      · rw [if_pos z, z]; exact ⟨rfl, rfl⟩
      · rw [if_neg z]; exact ⟨rfl, rfl⟩
    have e2 : typAl (hldTo (payTo c t (p + 1)) m) t p = wP U P (typAl (hldTo (payTo c t p) m) t p) := by
      rw [e1]
      exact wP_typAl _ _ _ _ _ (fun q _ => by rw [hps]; exact col q)
    have e3 : cPs (hldTo (payTo c t (p + 1)) m) = P := by rw [e1]; rfl
    have e4 : cSs (hldTo (payTo c t (p + 1)) m) = cSs c := by rw [hldTo_ss, payTo_ss]
    have e5 : setP (dyTo (hldTo c m) t p) p 2 (tf (pg (cPs (dyTo (hldTo c m) t p)) p) 2 + payOf (cnt (bz (cSs (hldTo c m)) (nI p) t (-1)))) = ((dyTo (hldTo c m) t p).1, P, (dyTo (hldTo c m) t p).2.2) := by
      show ((dyTo (hldTo c m) t p).1, (cPs (dyTo (hldTo c m) t p)).set p _, (dyTo (hldTo c m) t p).2.2) = _
      rw [ihp, hss, hP]
    have e6 : Eq5 ((dyTo (hldTo c m) t p).1, P, (dyTo (hldTo c m) t p).2.2) (wP U P (typAl (hldTo (payTo c t p) m) t p)) := by
      refine ⟨?_, fun j hj => ?_⟩
      · show (P, (dyTo (hldTo c m) t p).2.2) = (P, (typAl (hldTo (payTo c t p) m) t p).2.2)
        rw [ih.1]
      · rw [wP_sc _ _ _ hj]; exact ih.2 j hj
    have e7 : cPs (payTo c t (p + 1)) = P := hP
    rw [dyTo, typAl, e2, e3, e5, e4, ihp, hss, (col p).1, (col p).2]
    by_cases z : t < tf (pg (cPs (payTo c t p)) p) 1
    · rw [if_pos z, if_pos z]
      exact ⟨e6, e7.symm, ihs⟩
    · rw [if_neg z, if_neg z]
      obtain ⟨u, hu⟩ := e6.wP
      rw [hu]
      have e8 : cPs (wP U P (typAl (hldTo (payTo c t p) m) t p)) = P := rfl
      rw [e8, typ_wP, typ_wP]
      refine ⟨⟨rfl, fun j hj => ?_⟩, e7.symm, ?_⟩
      · rw [wP_sc _ _ _ hj]
      · show cSs (typ _ _ _) = _
        unfold typ
        rw [tyTo_ss, typAl_ss, hldTo_ss, payTo_ss]
theorem finTo_due (c : Cal) (t : Int32) : ∀ i, cSc (finTo c t i) 6 = cSc c 6 + cSc c 12 * nI (dueTo (cTs c) t i)
  | 0 => by show cSc c 6 = cSc c 6 + cSc c 12 * 0; rw [Int32.mul_zero, Int32.add_zero]
  | i + 1 => by
    show cSc (setC (finTo c t i) 6 (cSc (finTo c t i) 6 + _)) 6 = _
    rw [setC_at, finTo_due c t i, dueTo]
    split
    · rw [← nI_1, Int32.mul_add, Int32.mul_one, Int32.add_assoc]
    · rw [Int32.add_zero, Nat.add_zero]
/-- a day: what the class makes of it -/
def dyC (c : Cal) : Cal :=
  setC (drpS (setC (dyTo (hldA c (cSs c).length) (cSc c 3) (cPs c).length) 6 (cSc (dyTo (hldA c (cSs c).length) (cSc c 3) (cPs c).length) 6 + cSc c 12 * nI (dueTo (cTs (dyTo (hldA c (cSs c).length) (cSc c 3) (cPs c).length)) (cSc c 3) (cTs (dyTo (hldA c (cSs c).length) (cSc c 3) (cPs c).length)).length))) (ldg (cSs c) (cSc c 3))) 3 (cSc c 3 + 1)
theorem dyC_eq {T : Nat} {c : Cal} (h : Inv T c) : Eq5 (dyC c) (dayC c) := by
  unfold dyC
  rw [hldA_eq h]
  have hd := (dyTo_eq c (cSc c 3) (ldg (cSs c) (cSc c 3)) (cPs c).length (Nat.le_refl _)).1
  generalize hX : dyTo (hldTo c (ldg (cSs c) (cSc c 3))) (cSc c 3) (cPs c).length = X at hd
  have hd : Eq5 X (dayA c) := hd
  have eB : cTs (dayB c) = cTs X := by show cTs (dayA c) = cTs X; unfold cTs; rw [hd.1]
  have sB : ∀ j, cSc (dayB c) j = cSc (dayA c) j := fun _ => rfl
  have e12 : cSc (dayA c) 12 = cSc c 12 := by
    unfold dayA
    rw [typAl_sc _ _ (by decide) (by decide), hldTo_sc _ (by decide), payTo_sc _ _ (by decide)]
  have f2 : (finTo (dayB c) (cSc c 3) (cTs (dayB c)).length).2 = (dayB c).2 := by
    generalize (cTs (dayB c)).length = n
    induction n with
    | zero => rfl
    | succ n ih => exact ih
  refine ⟨?_, fun j hj => ?_⟩
  · show (X.2.1, X.2.2.1.drop _, X.2.2.2) = (finTo (dayB c) (cSc c 3) (cTs (dayB c)).length).2
    rw [f2, hd.1]
    rfl
  · unfold dayC
    by_cases q3 : j = 3
    · subst q3; rw [setC_at, setC_at]
    · rw [setC_ne _ _ q3, setC_ne _ _ q3]
      by_cases q6 : j = 6
      · subst q6
        rw [finTo_due, eB, sB, sB, e12, ← hd.2 6 (by decide)]
        exact setC_at X 6 _
      · rw [finTo_sc _ _ q6]
        show cSc (setC X 6 _) j = cSc (dayA c) j
        rw [setC_ne _ _ q6, hd.2 j hj]
