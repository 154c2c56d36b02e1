/-! THE CLASS'S DESKS IN A WORLD -/
abbrev qrow (t n : Nat) (g : Nat → Option Nat) : PE := .inr (t, n, .inr (.inr (.inr (.inr g))))
abbrev dskF (D : Nat → Nat) (n : Nat) : List Value := [.ref (D 1), .ref (D 2), .ref (D 3), .int (nI n)]
theorem dsk_l {D : Nat → Nat} {n i : Nat} (h : i < 4) : i < (dskF D n).length := h
def Inj4 (D : Nat → Nat) : Prop := ∀ i j, i < 4 → j < 4 → D i = D j → i = j
theorem Inj4.ne {D : Nat → Nat} (h : Inj4 D) {i j : Nat} (hi : i < 4) (hj : j < 4) (e : i ≠ j) : D i ≠ D j := fun q => e (h i j hi hj q)
def DeskIn (w : Wd) (D : Nat → Nat) (ts : List Tr) (L : Nat) : Prop :=
  w (D 0) = some (.inl (1, dskF D ts.length)) ∧ (∃ g, w (D 1) = some (irow L g) ∧ ∀ i, i < ts.length → g i = tf (tg ts i) 0) ∧ (∃ g, w (D 2) = some (irow L g) ∧ ∀ i, i < ts.length → g i = tf (tg ts i) 1) ∧
  (∃ g, w (D 3) = some (irow L g) ∧ ∀ i, i < ts.length → g i = tf (tg ts i) 2) ∧ ts.length ≤ L ∧ 16 ≤ L ∧ L ≤ 640
def DeskW (fr : Wd) (D : Nat → Nat) (ts : List Tr) (L : Nat) (w : Wd) : Prop := (∀ q e, fr q = some e → w q = some e) ∧ (∀ i, i < 4 → fr (D i) = none) ∧ Inj4 D ∧ DeskIn w D ts L
theorem wn {w : Wd} {a b : Nat} {e : PE} {x : Option PE} (h : b ≠ a) (hx : w b = x) : wset w a e b = x := (wset_ne _ _ h).trans hx
theorem fr_ne {fr : Wd} {q a : Nat} {e : PE} (h : fr q = some e) (ha : fr a = none) : q ≠ a := fun z => by rw [z, ha] at h; cases h
section DK
variable {fr w : Wd} {D : Nat → Nat} {ts : List Tr} {L : Nat}
theorem DeskW.i (h : DeskW fr D ts L w) : DeskIn w D ts L := h.2.2.2
theorem DeskW.f (h : DeskW fr D ts L w) {q : Nat} {e : PE} (hq : fr q = some e) : w q = some e := h.1 q e hq
theorem DeskW.n (h : DeskW fr D ts L w) {i : Nat} (hi : i < 4) : fr (D i) = none := h.2.1 i hi
theorem DeskW.j (h : DeskW fr D ts L w) : Inj4 D := h.2.2.1
theorem DeskW.to (h : DeskW fr D ts L w) {w2 : Wd} {ts2 : List Tr} {g1 g2 g3 : Nat → Int32} (e0 : w2 (D 0) = some (.inl (1, dskF D ts2.length))) (e1 : w2 (D 1) = some (irow L g1)) (e2 : w2 (D 2) = some (irow L g2)) (e3 : w2 (D 3) = some (irow L g3))
    (c1 : ∀ i, i < ts2.length → g1 i = tf (tg ts2 i) 0) (c2 : ∀ i, i < ts2.length → g2 i = tf (tg ts2 i) 1) (c3 : ∀ i, i < ts2.length → g3 i = tf (tg ts2 i) 2) (hl : ts2.length ≤ L) (hf : ∀ q e, fr q = some e → w2 q = some e) : DeskW fr D ts2 L w2 :=
  ⟨hf, h.2.1, h.2.2.1, e0, ⟨g1, e1, c1⟩, ⟨g2, e2, c2⟩, ⟨g3, e3, c3⟩, hl, h.i.2.2.2.2.2⟩
/-- one number of a transcript changes -/
theorem DeskW.col (h : DeskW fr D ts L w) {m j : Nat} (hm : m < 3) (hj : j < ts.length) {g : Nat → Int32} (hg : w (D (m + 1)) = some (irow L g)) (v : Int32) : DeskW fr D (ts.set j (tfset (tg ts j) m v)) L (wset w (D (m + 1)) (irow L (upd g j v))) := by
  have h9 := h
  obtain ⟨f, n, inj, e0, ⟨g1, e1, c1⟩, ⟨g2, e2, c2⟩, ⟨g3, e3, c3⟩, b1, b2⟩ := h9
  have ne : ∀ {i : Nat}, i < 4 → i ≠ m + 1 → D i ≠ D (m + 1) := fun hi z => inj.ne hi (by omega) z
  have ff : ∀ q e, fr q = some e → wset w (D (m + 1)) (irow L (upd g j v)) q = some e := fun q e hq => wn (fr_ne hq (n (m + 1) (by omega))) (f q e hq)
  have hlen : (ts.set j (tfset (tg ts j) m v)).length = ts.length := List.length_set
  have col : ∀ (gg : Nat → Int32) (c : Nat), (∀ i, i < ts.length → gg i = tf (tg ts i) c) → (∀ x : Tr, tf (tfset x m v) c = tf x c) → ∀ i, i < (ts.set j (tfset (tg ts j) m v)).length → gg i = tf (tg (ts.set j (tfset (tg ts j) m v)) i) c := fun gg c hc hx i hi => by
    rw [hlen] at hi
    rw [hc i hi, tg_set _ _ _ _ hj]
    split
    · rename_i q; subst q; rw [hx]
    · rfl
  have own : ∀ (c : Nat), (∀ i, i < ts.length → g i = tf (tg ts i) c) → (∀ x : Tr, tf (tfset x m v) c = v) → ∀ i, i < (ts.set j (tfset (tg ts j) m v)).length → upd g j v i = tf (tg (ts.set j (tfset (tg ts j) m v)) i) c := fun c hc hx i hi => by
    rw [hlen] at hi
    rw [tg_set _ _ _ _ hj]
    by_cases q : i = j
    · subst q; rw [if_pos rfl, upd_eq, hx]
    · rw [if_neg q, upd_ne _ _ q, hc i hi]
  have hm3 : m = 0 ∨ m = 1 ∨ m = 2 := by omega
  rcases hm3 with rfl | rfl | rfl
  · have eg : g1 = g := by have := e1.symm.trans hg; injection this with this; injection this with this; injection this with _ this; injection this with _ this; injection this
    subst eg
    exact h.to (by rw [hlen]; exact wn (ne (by decide) (by decide)) e0) (wset_eq _ _ _) (wn (ne (by decide) (by decide)) e2) (wn (ne (by decide) (by decide)) e3) (own 0 c1 (fun _ => rfl)) (col g2 1 c2 (fun _ => rfl)) (col g3 2 c3 (fun _ => rfl)) (by rw [hlen]; exact b1) ff
  · have eg : g2 = g := by have := e2.symm.trans hg; injection this with this; injection this with this; injection this with _ this; injection this with _ this; injection this
    subst eg
    exact h.to (by rw [hlen]; exact wn (ne (by decide) (by decide)) e0) (wn (ne (by decide) (by decide)) e1) (wset_eq _ _ _) (wn (ne (by decide) (by decide)) e3) (col g1 0 c1 (fun _ => rfl)) (own 1 c2 (fun _ => rfl)) (col g3 2 c3 (fun _ => rfl)) (by rw [hlen]; exact b1) ff
  · have eg : g3 = g := by have := e3.symm.trans hg; injection this with this; injection this with this; injection this with _ this; injection this with _ this; injection this
    subst eg
    exact h.to (by rw [hlen]; exact wn (ne (by decide) (by decide)) e0) (wn (ne (by decide) (by decide)) e1) (wn (ne (by decide) (by decide)) e2) (wset_eq _ _ _) (col g1 0 c1 (fun _ => rfl)) (col g2 1 c2 (fun _ => rfl)) (own 2 c3 (fun _ => rfl)) (by rw [hlen]; exact b1) ff
theorem tg_take (ts : List Tr) {m i : Nat} (h : i < m) : tg (ts.take m) i = tg ts i := by
  unfold tg
  simp only [List.getD_eq_getElem?_getD, List.getElem?_take]
  rw [if_pos h]
/-- fewer transcripts -/
theorem DeskW.shr (h : DeskW fr D ts L w) {m : Nat} (hm : m ≤ ts.length) : DeskW fr D (ts.take m) L (wset w (D 0) (.inl (1, dskF D m))) := by
  have h9 := h
  obtain ⟨f, n, inj, e0, ⟨g1, e1, c1⟩, ⟨g2, e2, c2⟩, ⟨g3, e3, c3⟩, b1, b2⟩ := h9
  have hlen : (ts.take m).length = m := by rw [List.length_take]; omega
  refine h.to (by rw [hlen]; exact wset_eq _ _ _) (wn (inj.ne (by decide) (by decide) (by decide)) e1) (wn (inj.ne (by decide) (by decide) (by decide)) e2) (wn (inj.ne (by decide) (by decide) (by decide)) e3) (fun i hi => ?_) (fun i hi => ?_) (fun i hi => ?_) (by omega) (fun q e hq => wn (fr_ne hq (n 0 (by decide))) (f q e hq))
  all_goals rw [hlen] at hi; rw [tg_take _ hi]
  · exact c1 i (by omega)
  · exact c2 i (by omega)
  · exact c3 i (by omega)
end DK
section DC
variable {G : GG} {l : Launch} {w fr : Wd} {D : Nat → Nat} {ts : List Tr} {L : Nat}
theorem c_countOf {p : Int32} {Q : Int32 → Wd → Prop} (h : DeskIn w D ts L) (hp : ¬ p = -1) (hq : Q (dsk ts p 0) w) : CX2_countOf G l [.ref (D 0), .int p] w Q := by
  obtain ⟨h0, ⟨g, h1, hg⟩, -, -, hl, hL1, hL2⟩ := h
  refine sX2_countOf (bX2_countOf_0 ?_)
  refine upto (P := fun i => KX2_countOf G l w (ZI G 0 0 w Q) w 4 [(0, .ref (D 0)), (1, .int p), (2, .int (dskTo ts p 0 i)), (3, .int (nI i))] []) (N := ts.length) ?_ (fun i hi ih => ?_) 0 (Nat.zero_le _)
  · exact bX2_countOf_4 h0 rfl (fun _ => bX2_countOf_31 hq) (fun q => absurd (nI_le (Nat.le_refl _) (by omega)) q)
  · refine bX2_countOf_4 h0 rfl (fun q => absurd q (nI_ge hi (by omega))) (fun _ => ?_)
    have e : g (nI i).toNatClampNeg = tf (tg ts i) 0 := by rw [nI_clamp (by omega)]; exact hg i hi
    refine bX2_countOf_12 h0 rfl h1 (ix_of rfl (by omega) (by omega)) (fun q => bX2_countOf_25 ?_) (fun q => bX2_countOf_22 (bX2_countOf_25 ?_))
    · rw [e] at q
      rw [show dskTo ts p 0 (i + 1) = dskTo ts p 0 i + 0 by rw [dskTo, if_pos ⟨hp, q⟩], Int32.add_zero] at ih
      rw [nI_1]; exact ih
    · rw [e] at q
      rw [show dskTo ts p 0 (i + 1) = dskTo ts p 0 i + 1 by rw [dskTo, if_neg (fun z => z.2 q), if_pos rfl]] at ih
      rw [nI_1]; exact ih
theorem c_pagesOf {p : Int32} {Q : Int32 → Wd → Prop} (h : DeskIn w D ts L) (hp : ¬ p = -1) (hq : Q (dsk ts p 1) w) : CX2_pagesOf G l [.ref (D 0), .int p] w Q := by
  obtain ⟨h0, ⟨g, h1, hg⟩, ⟨g2, h2, hg2⟩, -, hl, hL1, hL2⟩ := h
  refine sX2_pagesOf (bX2_pagesOf_0 ?_)
  refine upto (P := fun i => KX2_pagesOf G l w (ZI G 0 0 w Q) w 4 [(0, .ref (D 0)), (1, .int p), (2, .int (dskTo ts p 1 i)), (3, .int (nI i))] []) (N := ts.length) ?_ (fun i hi ih => ?_) 0 (Nat.zero_le _)
  · exact bX2_pagesOf_4 h0 rfl (fun _ => bX2_pagesOf_37 hq) (fun q => absurd (nI_le (Nat.le_refl _) (by omega)) q)
  · refine bX2_pagesOf_4 h0 rfl (fun q => absurd q (nI_ge hi (by omega))) (fun _ => ?_)
    have e : g (nI i).toNatClampNeg = tf (tg ts i) 0 := by rw [nI_clamp (by omega)]; exact hg i hi
    have e2 : g2 (nI i).toNatClampNeg = tf (tg ts i) 1 := by rw [nI_clamp (by omega)]; exact hg2 i hi
    refine bX2_pagesOf_12 h0 rfl h1 (ix_of rfl (by omega) (by omega)) (fun q => bX2_pagesOf_31 ?_) (fun q => bX2_pagesOf_22 h0 rfl h2 (ix_of rfl (by omega) (by omega)) (bX2_pagesOf_31 ?_))
    · rw [e] at q
      rw [show dskTo ts p 1 (i + 1) = dskTo ts p 1 i + 0 by rw [dskTo, if_pos ⟨hp, q⟩], Int32.add_zero] at ih
      rw [nI_1]; exact ih
    · rw [e] at q
      rw [show dskTo ts p 1 (i + 1) = dskTo ts p 1 i + tf (tg ts i) 1 by rw [dskTo, if_neg (fun z => z.2 q), if_neg (by decide)]] at ih
      rw [nI_1, e2]; exact ih
theorem c_allPages {Q : Int32 → Wd → Prop} (h : DeskIn w D ts L) (hq : Q (dsk ts (-1) 1) w) : CX2_allPages G l [.ref (D 0)] w Q := by
  obtain ⟨h0, -, ⟨g2, h2, hg2⟩, -, hl, hL1, hL2⟩ := h
  refine sX2_allPages (bX2_allPages_0 ?_)
  refine upto (P := fun i => KX2_allPages G l w (ZI G 0 0 w Q) w 4 [(0, .ref (D 0)), (1, .int (dskTo ts (-1) 1 i)), (2, .int (nI i))] []) (N := ts.length) ?_ (fun i hi ih => ?_) 0 (Nat.zero_le _)
  · exact bX2_allPages_4 h0 rfl (fun _ => bX2_allPages_27 hq) (fun q => absurd (nI_le (Nat.le_refl _) (by omega)) q)
  · refine bX2_allPages_4 h0 rfl (fun q => absurd q (nI_ge hi (by omega))) (fun _ => ?_)
    have e2 : g2 (nI i).toNatClampNeg = tf (tg ts i) 1 := by rw [nI_clamp (by omega)]; exact hg2 i hi
    refine bX2_allPages_12 h0 rfl h2 (ix_of rfl (by omega) (by omega)) ?_
    rw [show dskTo ts (-1) 1 (i + 1) = dskTo ts (-1) 1 i + tf (tg ts i) 1 by rw [dskTo, if_neg (fun z => z.1 rfl), if_neg (by decide)]] at ih
    rw [nI_1, e2]; exact ih
/-- how many are due up to a day -/
def dueTo (ts : List Tr) (t : Int32) : Nat → Nat
  | 0 => 0
  | i + 1 => dueTo ts t i + if tf (tg ts i) 2 ≤ t then 1 else 0
theorem dueTo_le (ts : List Tr) (t : Int32) : ∀ n, dueTo ts t n ≤ n
  | 0 => Nat.le_refl _
  | n + 1 => by
    have := dueTo_le ts t n
    unfold dueTo
    split <;> omega
theorem c_dueUpTo {t : Int32} {Q : Int32 → Wd → Prop} (h : DeskIn w D ts L) (hq : Q (nI (dueTo ts t ts.length)) w) : CX2_dueUpTo G l [.ref (D 0), .int t] w Q := by
  obtain ⟨h0, -, -, ⟨g2, h2, hg2⟩, hl, hL1, hL2⟩ := h
  refine sX2_dueUpTo (bX2_dueUpTo_0 ?_)
  refine upto (P := fun i => KX2_dueUpTo G l w (ZI G 0 0 w Q) w 4 [(0, .ref (D 0)), (1, .int t), (2, .int (nI (dueTo ts t i))), (3, .int (nI i))] []) (N := ts.length) ?_ (fun i hi ih => ?_) 0 (Nat.zero_le _)
  · exact bX2_dueUpTo_4 h0 rfl (fun _ => bX2_dueUpTo_31 hq) (fun q => absurd (nI_le (Nat.le_refl _) (by omega)) q)
  · refine bX2_dueUpTo_4 h0 rfl (fun q => absurd q (nI_ge hi (by omega))) (fun _ => ?_)
    have e2 : g2 (nI i).toNatClampNeg = tf (tg ts i) 2 := by rw [nI_clamp (by omega)]; exact hg2 i hi
    refine bX2_dueUpTo_12 h0 rfl h2 (ix_of rfl (by omega) (by omega)) (fun q => bX2_dueUpTo_25 ?_) (fun q => bX2_dueUpTo_22 (bX2_dueUpTo_25 ?_))
    · rw [e2] at q
      rw [show dueTo ts t (i + 1) = dueTo ts t i by rw [dueTo, if_neg (by rw [i32_le]; rw [i32_lt] at q; omega)]; rfl] at ih
      rw [nI_1]; exact ih
    · rw [e2] at q
      rw [show dueTo ts t (i + 1) = dueTo ts t i + 1 by rw [dueTo, if_pos (by rw [i32_le]; rw [i32_lt] at q; omega)]] at ih
      rw [nI_1, nI_1]; exact ih
theorem c_nextOf {p : Int32} {Q : Int32 → Wd → Prop} (h : DeskIn w D ts L) (hq : Q (oI (urg ts p)) w) : CX2_nextOf G l [.ref (D 0), .int p] w Q := by
  obtain ⟨h0, ⟨g, h1, hg⟩, -, ⟨g2, h2, hg2⟩, hl, hL1, hL2⟩ := h
  refine sX2_nextOf (bX2_nextOf_0 ?_)
  refine upto (P := fun i => KX2_nextOf G l w (ZI G 0 0 w Q) w 4 [(0, .ref (D 0)), (1, .int p), (2, .int (oI (urgTo ts p i))), (3, .int (nI i))] []) (N := ts.length) ?_ (fun i hi ih => ?_) 0 (Nat.zero_le _)
  · exact bX2_nextOf_4 h0 rfl (fun _ => bX2_nextOf_50 hq) (fun q => absurd (nI_le (Nat.le_refl _) (by omega)) q)
  · refine bX2_nextOf_4 h0 rfl (fun q => absurd q (nI_ge hi (by omega))) (fun _ => ?_)
    have e : g (nI i).toNatClampNeg = tf (tg ts i) 0 := by rw [nI_clamp (by omega)]; exact hg i hi
    have e2 : ∀ j, j < ts.length → g2 (nI j).toNatClampNeg = tf (tg ts j) 2 := fun j hj => by rw [nI_clamp (by omega)]; exact hg2 j hj
    refine bX2_nextOf_12 h0 rfl h1 (ix_of rfl (by omega) (by omega)) (fun q => bX2_nextOf_44 ?_) (fun q => ?_)
    · rw [e] at q
      rw [show urgTo ts p (i + 1) = urgTo ts p i by
        rw [urgTo]
        cases urgTo ts p i with
        | none => exact if_neg q
        | some b => exact if_neg (fun z => q z.1)] at ih
      rw [nI_1]; exact ih
    · rw [e] at q
      have hb : ∀ b, urgTo ts p i = some b → b < i := fun b hb => (urgTo_lt ts p i b hb)
      cases hu : urgTo ts p i with
      | none =>
        rw [show urgTo ts p (i + 1) = some i by rw [urgTo, hu]; exact if_pos q] at ih
        refine bX2_nextOf_22 (fun _ => bX2_nextOf_42 (bX2_nextOf_44 ?_)) (fun z => absurd rfl z)
        rw [nI_1]; exact ih
      | some b =>
        have hb := hb b hu
        refine bX2_nextOf_22 (fun z => absurd z (nI_m1 (by omega))) (fun _ => ?_)
        refine bX2_nextOf_27 h0 rfl h2 (ix_of rfl (by omega) (by omega)) (ix_of (x := oI (some b)) rfl (by omega) (by omega)) (fun z => bX2_nextOf_44 ?_) (fun z => bX2_nextOf_42 (bX2_nextOf_44 ?_))
        · rw [e2 i hi, show g2 (oI (some b)).toNatClampNeg = tf (tg ts b) 2 from e2 b (by omega)] at z
          rw [show urgTo ts p (i + 1) = some b by rw [urgTo, hu]; exact if_neg (fun y => by have := y.2; rw [i32_lt] at this; rw [i32_le] at z; omega)] at ih
          rw [nI_1]; exact ih
        · rw [e2 i hi, show g2 (oI (some b)).toNatClampNeg = tf (tg ts b) 2 from e2 b (by omega)] at z
          rw [show urgTo ts p (i + 1) = some i by rw [urgTo, hu]; exact if_pos ⟨q, by rw [i32_lt]; rw [i32_le] at z; omega⟩] at ih
          rw [nI_1]; exact ih
/-- the place of the transcript number m on a desk -/
def plcTo (ts : List Tr) (p : Int32) (m : Nat) : Nat → Option Nat
  | 0 => none
  | i + 1 => match plcTo ts p m i with
    | some b => some b
    | none => if tf (tg ts i) 0 = p ∧ cntO ts p i = m then some i else none
theorem c_placeOf {p x : Int32} {Q : Int32 → Wd → Prop} (h : DeskIn w D ts L) (hq : Q (oI (if rngI x 0 640 = true then plcTo ts p x.toNatClampNeg ts.length else none)) w) : CX2_placeOf G l [.ref (D 0), .int p, .int x] w Q := by
  obtain ⟨h0, ⟨g, h1, hg⟩, -, -, hl, hL1, hL2⟩ := h
  refine sX2_placeOf (bX2_placeOf_0 ?_)
  have key : ∀ d i, i + d = ts.length → (rngI x 0 640 = true → plcTo ts p x.toNatClampNeg i = none) → KX2_placeOf G l w (ZI G 0 0 w Q) w 5 [(0, .ref (D 0)), (1, .int p), (2, .int x), (3, .int (nI (cntO ts p i))), (4, .int (nI i))] [] := by
    intro d
    induction d with
    | zero =>
      intro i hi hn
      have hi : i = ts.length := by omega
      subst hi
      refine bX2_placeOf_5 h0 rfl (fun _ => bX2_placeOf_42 ?_) (fun q => absurd (nI_le (Nat.le_refl _) (by omega)) q)
      by_cases hx : rngI x 0 640 = true
      · rw [if_pos hx, hn hx] at hq; exact hq
      · rw [if_neg hx] at hq; exact hq
    | succ d ih =>
      intro i hi hn
      refine bX2_placeOf_5 h0 rfl (fun q => absurd q (nI_ge (by omega) (by omega))) (fun _ => ?_)
      have e : g (nI i).toNatClampNeg = tf (tg ts i) 0 := by rw [nI_clamp (by omega)]; exact hg i (by omega)
      have hc := cntO_le ts p i
      refine bX2_placeOf_14 h0 rfl h1 (ix_of rfl (by omega) (by omega)) (fun q => bX2_placeOf_36 ?_) (fun q => ?_)
      · rw [e] at q
        have ih2 := ih (i + 1) (by omega) (fun hx => by rw [plcTo, hn hx]; exact if_neg (fun z => q z.1))
        rw [show cntO ts p (i + 1) = cntO ts p i by rw [cntO, if_neg q]; rfl] at ih2
        rw [nI_1]; exact ih2
      · rw [e] at q
        refine bX2_placeOf_25 (fun z => bX2_placeOf_33 (bX2_placeOf_36 ?_)) (fun z => bX2_placeOf_30 ?_)
        · have ih2 := ih (i + 1) (by omega) (fun hx => by
            rw [plcTo, hn hx]
            refine if_neg (fun y => z ?_)
            rw [y.2]; exact (rng_k hx).1.symm)
          rw [show cntO ts p (i + 1) = cntO ts p i + 1 by rw [cntO, if_pos q]] at ih2
          rw [nI_1, nI_1]; exact ih2
        · have hx : rngI x 0 640 = true := by
            rw [rngI_iff, ← z, nI_toInt (by omega)]; omega
          rw [if_pos hx] at hq
          have hm : x.toNatClampNeg = cntO ts p i := by rw [← z, nI_clamp (by omega)]
          have stay : ∀ k, i + 1 ≤ k → plcTo ts p x.toNatClampNeg k = some i := by
            intro k
            induction k with
            | zero => intro hk; omega
            | succ k ihk =>
              intro hk
              by_cases hk2 : k = i
              · subst hk2; rw [plcTo, hn hx]; exact if_pos ⟨q, hm.symm⟩
              · rw [plcTo, ihk (by omega)]
          rw [stay _ (by omega)] at hq
          exact hq
  exact key ts.length 0 (by omega) (fun _ => rfl)
end DC
