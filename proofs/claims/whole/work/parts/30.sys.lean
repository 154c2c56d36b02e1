/-! ALL STATE: the text, the calendar, what is remembered and saved; the model's object -/
abbrev Sy : Type := (Nat → Int32) × Nat × Cal × List Cal × (Nat → Option Cal)
def yT (y : Sy) : Nat → Int32 := y.1
def yN (y : Sy) : Nat := y.2.1
def yC (y : Sy) : Cal := y.2.2.1
def yR (y : Sy) : List Cal := y.2.2.2.1
def yS (y : Sy) : Nat → Option Cal := y.2.2.2.2
def rg (l : List Cal) (k : Nat) : Cal := l.getD k calN
def wC (y : Sy) (c : Cal) : Sy := (y.1, y.2.1, c, y.2.2.2)
/-- the states that are remembered behind one more -/
def rmb (l : List Cal) (c : Cal) : List Cal := if l.length = 14 then l.drop 1 ++ [c] else l ++ [c]
def wR (y : Sy) : Sy := (y.1, y.2.1, y.2.2.1, rmb (yR y) (yC y), y.2.2.2.2)
abbrev brow (n : Nat) (g : Nat → Int32) : PE := .inr (1, n, .inl g)
def mf (A : Nat → Nat) (rf sz ac sp ou : Int32) : List Value := [.int rf, .ref (A 1), .int sz, .ref (A 2), .ref (A 3), .ref (A 4), .int ac, .ref (A 5), .ref (A 6), .ref (A 7), .ref (A 8), .ref (A 9), .ref (A 10), .int sp, .int ou]
theorem mf_l {A : Nat → Nat} {rf sz ac sp ou : Int32} {i : Nat} (h : i < 15) : i < (mf A rf sz ac sp ou).length := h
section MF
variable {A : Nat → Nat} {rf sz ac sp ou x : Int32}
theorem mf_0 : (mf A rf sz ac sp ou).set 0 (.int x) = mf A x sz ac sp ou := rfl
theorem mf_2 : (mf A rf sz ac sp ou).set 2 (.int x) = mf A rf x ac sp ou := rfl
theorem mf_6 : (mf A rf sz ac sp ou).set 6 (.int x) = mf A rf sz x sp ou := rfl
theorem mf_13 : (mf A rf sz ac sp ou).set 13 (.int x) = mf A rf sz ac x ou := rfl
theorem mf_14 : (mf A rf sz ac sp ou).set 14 (.int x) = mf A rf sz ac sp x := rfl
end MF
/-- eleven addresses, all different -/
def Inj (A : Nat → Nat) : Prop := ∀ i j, i < 11 → j < 11 → A i = A j → i = j
theorem Inj.ne {A : Nat → Nat} (h : Inj A) {i j : Nat} (hi : i < 11) (hj : j < 11) (e : i ≠ j) : A i ≠ A j := fun q => e (h i j hi hj q)
theorem Inj.ap5 {A : Nat → Nat} (h : Inj A) {n : Nat} (hn : n = 2 ∨ n = 3) : Ap5 (A 0) (A n) (A 7) (A 8) (A 9) (A 10) := by
  have hn11 : n < 11 := by omega
  have d : ∀ {i j : Nat}, i < 11 → j < 11 → i ≠ j → A i ≠ A j := fun hi hj e => h.ne hi hj e
  exact ⟨d (by decide) hn11 (by omega), d (by decide) (by decide) (by decide), d (by decide) (by decide) (by decide), d (by decide) (by decide) (by decide), d (by decide) (by decide) (by decide), d hn11 (by decide) (by omega), d hn11 (by decide) (by omega), d hn11 (by decide) (by omega), d hn11 (by decide) (by omega), d (by decide) (by decide) (by decide), d (by decide) (by decide) (by decide), d (by decide) (by decide) (by decide), d (by decide) (by decide) (by decide), d (by decide) (by decide) (by decide), d (by decide) (by decide) (by decide)⟩
/-- the model's object in a world: its refusal, all state, what its trial row is, its spot and what it left out -/
def MG (w0 : Wd) (A : Nat → Nat) (rf : Int32) (y : Sy) (T : (Nat → Int32) → Prop) (sp ou : Int32) (w : Wd) : Prop :=
  (∀ a, (∀ i, i < 11 → a ≠ A i) → w a = w0 a) ∧
  w (A 0) = some (.inl (5, mf A rf (nI (yN y)) (nI (yR y).length) sp ou)) ∧
  (∃ g, w (A 1) = some (irow 120 g) ∧ ∀ i, i < yN y → g i = yT y i) ∧
  (∃ g, w (A 2) = some (irow 2047 g) ∧ MRep g (yC y)) ∧
  (∃ g, w (A 3) = some (irow 2047 g) ∧ T g) ∧
  (∃ g, w (A 4) = some (irow 28658 g) ∧ ∀ i, i < (yR y).length → MRep (fun k => g (2047 * i + k)) (rg (yR y) i)) ∧
  (∃ g, w (A 5) = some (irow 4094 g) ∧ ∀ i, i < 2 → ∀ c, yS y i = some c → MRep (fun k => g (2047 * i + k)) c) ∧
  (∃ g, w (A 6) = some (brow 2 g) ∧ ∀ i, i < 2 → g i = bI (yS y i).isSome) ∧
  (∃ g, w (A 7) = some (irow 16 g)) ∧ (∃ g, w (A 8) = some (irow 16 g)) ∧ (∃ g, w (A 9) = some (irow 16 g)) ∧ (∃ g, w (A 10) = some (irow 16 g)) ∧
  yN y ≤ 120 ∧ (yR y).length ≤ 14
theorem MRep.cgr {g g2 : Nat → Int32} {c : Cal} (h : MRep g c) (he : ∀ k, k < 127 + 3 * (cTs c).length → g2 k = g k) : MRep g2 c := by
  obtain ⟨h0, h1, h2, h3, h4, h5, h6, b0, b1, b2⟩ := h
  refine ⟨(he 0 (by omega)).trans h0, (he 1 (by omega)).trans h1, (he 2 (by omega)).trans h2, fun i i1 i2 => (he i (by omega)).trans (h3 i i1 i2), fun i hi => ?_, fun i hi => ?_, fun i hi => ?_, b0, b1, b2⟩
  · rw [← h4 i hi]; unfold gP; rw [he _ (by omega), he _ (by omega), he _ (by omega)]
  · rw [← h5 i hi]; unfold gS; rw [he _ (by omega), he _ (by omega), he _ (by omega), he _ (by omega), he _ (by omega), he _ (by omega)]
  · rw [← h6 i hi]; unfold gT; rw [he _ (by omega), he _ (by omega), he _ (by omega)]
theorem MRep.cpy {f g : Nat → Int32} {fa ta : Nat} {c : Cal} (h : MRep (fun k => f (fa + k)) c) : MRep (fun k => cpyR f g fa ta (127 + 3 * (cTs c).length) (ta + k)) c := by
  refine h.cgr (fun k hk => ?_)
  show cpyR f g fa ta _ (ta + k) = _
  unfold cpyR
  rw [if_pos ⟨by omega, by omega⟩, show ta + k - ta = k by omega]
theorem MRep.keep {f g : Nat → Int32} {fa ta at9 n : Nat} {c : Cal} (h : MRep (fun k => g (at9 + k)) c) (hn : n ≤ 640) (hd : at9 + 2047 ≤ ta ∨ ta + 2047 ≤ at9) : MRep (fun k => cpyR f g fa ta (127 + 3 * n) (at9 + k)) c := by
  have hb := h.b2
  refine h.cgr (fun k hk => ?_)
  show cpyR f g fa ta _ (at9 + k) = _
  unfold cpyR
  rw [if_neg (by omega)]
theorem MRep.at0 {g : Nat → Int32} {c : Cal} (h : MRep g c) : MRep (fun k => g (0 + k)) c := by
  have : (fun k => g (0 + k)) = g := by funext k; rw [Nat.zero_add]
  rw [this]; exact h
theorem MRep.of0 {g : Nat → Int32} {c : Cal} (h : MRep (fun k => g (0 + k)) c) : MRep g c := by
  have : (fun k => g (0 + k)) = g := by funext k; rw [Nat.zero_add]
  rw [this] at h; exact h
section MG
variable {w0 w : Wd} {A : Nat → Nat} {rf : Int32} {y : Sy} {T : (Nat → Int32) → Prop} {sp ou : Int32}
theorem MG.o (h : MG w0 A rf y T sp ou w) : w (A 0) = some (.inl (5, mf A rf (nI (yN y)) (nI (yR y).length) sp ou)) := h.2.1
theorem MG.n (h : MG w0 A rf y T sp ou w) : ∃ g, w (A 2) = some (irow 2047 g) ∧ MRep g (yC y) := h.2.2.2.1
theorem MG.t (h : MG w0 A rf y T sp ou w) : ∃ g, w (A 3) = some (irow 2047 g) ∧ T g := h.2.2.2.2.1
theorem MG.x (h : MG w0 A rf y T sp ou w) : ∃ g, w (A 1) = some (irow 120 g) ∧ ∀ i, i < yN y → g i = yT y i := h.2.2.1
theorem MG.d (h : MG w0 A rf y T sp ou w) : ∃ g, w (A 4) = some (irow 28658 g) ∧ ∀ i, i < (yR y).length → MRep (fun k => g (2047 * i + k)) (rg (yR y) i) := h.2.2.2.2.2.1
theorem MG.k (h : MG w0 A rf y T sp ou w) : ∃ g, w (A 5) = some (irow 4094 g) ∧ ∀ i, i < 2 → ∀ c, yS y i = some c → MRep (fun k => g (2047 * i + k)) c := h.2.2.2.2.2.2.1
theorem MG.b (h : MG w0 A rf y T sp ou w) : ∃ g, w (A 6) = some (brow 2 g) ∧ ∀ i, i < 2 → g i = bI (yS y i).isSome := h.2.2.2.2.2.2.2.1
theorem MG.nb (h : MG w0 A rf y T sp ou w) : yN y ≤ 120 := h.2.2.2.2.2.2.2.2.2.2.2.2.1
theorem MG.rb (h : MG w0 A rf y T sp ou w) : (yR y).length ≤ 14 := h.2.2.2.2.2.2.2.2.2.2.2.2.2
theorem MG.any (h : MG w0 A rf y T sp ou w) : MG w0 A rf y (fun _ => True) sp ou w := by
  obtain ⟨f, h0, h1, h2, ⟨g, h3, -⟩, hr⟩ := h
  exact ⟨f, h0, h1, h2, ⟨g, h3, trivial⟩, hr⟩
/-- one place of the footprint changes -/
theorem MG.chg (hi : Inj A) (h : MG w0 A rf y T sp ou w) {j : Nat} {e : PE} {rf2 sp2 ou2 : Int32} {y2 : Sy} {T2 : (Nat → Int32) → Prop} (hj : j < 11)
    (c0 : (if j = 0 then some e else some (.inl (5, mf A rf (nI (yN y)) (nI (yR y).length) sp ou))) = some (.inl (5, mf A rf2 (nI (yN y2)) (nI (yR y2).length) sp2 ou2)))
    (c1 : ∀ g, (∀ i, i < yN y → g i = yT y i) → ∃ g2, (if j = 1 then some e else some (irow 120 g)) = some (irow 120 g2) ∧ ∀ i, i < yN y2 → g2 i = yT y2 i)
    (c2 : ∀ g, MRep g (yC y) → ∃ g2, (if j = 2 then some e else some (irow 2047 g)) = some (irow 2047 g2) ∧ MRep g2 (yC y2))
    (c3 : ∀ g, T g → ∃ g2, (if j = 3 then some e else some (irow 2047 g)) = some (irow 2047 g2) ∧ T2 g2)
    (c4 : ∀ g, (∀ i, i < (yR y).length → MRep (fun k => g (2047 * i + k)) (rg (yR y) i)) → ∃ g2, (if j = 4 then some e else some (irow 28658 g)) = some (irow 28658 g2) ∧ ∀ i, i < (yR y2).length → MRep (fun k => g2 (2047 * i + k)) (rg (yR y2) i))
    (c5 : ∀ g, (∀ i, i < 2 → ∀ c, yS y i = some c → MRep (fun k => g (2047 * i + k)) c) → ∃ g2, (if j = 5 then some e else some (irow 4094 g)) = some (irow 4094 g2) ∧ ∀ i, i < 2 → ∀ c, yS y2 i = some c → MRep (fun k => g2 (2047 * i + k)) c)
    (c6 : ∀ g, (∀ i, i < 2 → g i = bI (yS y i).isSome) → ∃ g2, (if j = 6 then some e else some (brow 2 g)) = some (brow 2 g2) ∧ ∀ i, i < 2 → g2 i = bI (yS y2 i).isSome)
    (c7 : j < 7) (hn : yN y2 ≤ 120) (hr : (yR y2).length ≤ 14) : MG w0 A rf2 y2 T2 sp2 ou2 (wset w (A j) e) := by
  obtain ⟨f, h0, ⟨g1, e1, h1⟩, ⟨g2, e2, h2⟩, ⟨g3, e3, h3⟩, ⟨g4, e4, h4⟩, ⟨g5, e5, h5⟩, ⟨g6, e6, h6⟩, ⟨g7, e7⟩, ⟨g8, e8⟩, ⟨g9, e9⟩, ⟨g10, e10⟩, hnb, hrb⟩ := h
  have rd : ∀ {i : Nat} {e9 : PE}, i < 11 → w (A i) = some e9 → wset w (A j) e (A i) = if j = i then some e else some e9 := fun {i e9} h11 he => by
    by_cases q : j = i
    · subst q; rw [if_pos rfl, wset_eq]
    · rw [if_neg q, wset_ne _ _ (hi.ne h11 hj (fun z => q z.symm)), he]
  refine ⟨fun a ha => (wset_ne _ _ (ha j hj)).trans (f a ha), (rd (by decide) h0).trans c0, ?_, ?_, ?_, ?_, ?_, ?_, ⟨g7, ?_⟩, ⟨g8, ?_⟩, ⟨g9, ?_⟩, ⟨g10, ?_⟩, hn, hr⟩
  · obtain ⟨g, q, z⟩ := c1 g1 h1; exact ⟨g, (rd (by decide) e1).trans q, z⟩
  · obtain ⟨g, q, z⟩ := c2 g2 h2; exact ⟨g, (rd (by decide) e2).trans q, z⟩
  · obtain ⟨g, q, z⟩ := c3 g3 h3; exact ⟨g, (rd (by decide) e3).trans q, z⟩
  · obtain ⟨g, q, z⟩ := c4 g4 h4; exact ⟨g, (rd (by decide) e4).trans q, z⟩
  · obtain ⟨g, q, z⟩ := c5 g5 h5; exact ⟨g, (rd (by decide) e5).trans q, z⟩
  · obtain ⟨g, q, z⟩ := c6 g6 h6; exact ⟨g, (rd (by decide) e6).trans q, z⟩
  · rw [rd (by decide) e7, if_neg (by omega)]
  · rw [rd (by decide) e8, if_neg (by omega)]
  · rw [rd (by decide) e9, if_neg (by omega)]
  · rw [rd (by decide) e10, if_neg (by omega)]
theorem MG.setO (hi : Inj A) (h : MG w0 A rf y T sp ou w) (rf2 sp2 ou2 : Int32) : MG w0 A rf2 y T sp2 ou2 (wset w (A 0) (.inl (5, mf A rf2 (nI (yN y)) (nI (yR y).length) sp2 ou2))) :=
  h.chg hi (by decide) rfl (fun g q => ⟨g, rfl, q⟩) (fun g q => ⟨g, rfl, q⟩) (fun g q => ⟨g, rfl, q⟩) (fun g q => ⟨g, rfl, q⟩) (fun g q => ⟨g, rfl, q⟩) (fun g q => ⟨g, rfl, q⟩) (by decide) h.nb h.rb
theorem MG.setT (hi : Inj A) (h : MG w0 A rf y T sp ou w) {g2 : Nat → Int32} {T2 : (Nat → Int32) → Prop} (h2 : T2 g2) : MG w0 A rf y T2 sp ou (wset w (A 3) (irow 2047 g2)) :=
  h.chg hi (by decide) rfl (fun g q => ⟨g, rfl, q⟩) (fun g q => ⟨g, rfl, q⟩) (fun g q => ⟨g2, rfl, h2⟩) (fun g q => ⟨g, rfl, q⟩) (fun g q => ⟨g, rfl, q⟩) (fun g q => ⟨g, rfl, q⟩) (by decide) h.nb h.rb
theorem MG.setN (hi : Inj A) (h : MG w0 A rf y T sp ou w) {g2 : Nat → Int32} {c2 : Cal} (h2 : MRep g2 c2) : MG w0 A rf (wC y c2) T sp ou (wset w (A 2) (irow 2047 g2)) :=
  h.chg hi (y2 := wC y c2) (by decide) rfl (fun g q => ⟨g, rfl, q⟩) (fun g q => ⟨g2, rfl, h2⟩) (fun g q => ⟨g, rfl, q⟩) (fun g q => ⟨g, rfl, q⟩) (fun g q => ⟨g, rfl, q⟩) (fun g q => ⟨g, rfl, q⟩) (by decide) h.nb h.rb
end MG
section MI
variable {G : GG} {l : Launch} {w0 w : Wd} {A : Nat → Nat} {rf : Int32} {y : Sy} {T : (Nat → Int32) → Prop} {sp ou : Int32}
theorem c_thrown {Q : Int32 → Wd → Prop} (h : MG w0 A rf y T sp ou w) (hq : Q rf w) : CX6_thrown G l [.ref (A 0)] w Q := sX6_thrown (bX6_thrown_0 h.o rfl hq)
theorem c_refused {x : Int32} {Q : Int32 → Wd → Prop} (hi : Inj A) (h : MG w0 A rf y T sp ou w) (hq : ∀ w2, MG w0 A x y T sp ou w2 → Q (bI (decide (0 < x))) w2) : CX6_refused G l [.ref (A 0), .int x] w Q := by
  refine sX6_refused (bX6_refused_0 h.o (mf_l (by decide)) mf_0 (fun q => bX6_refused_13 (bX6_refused_14 ?_ rfl)) (fun q => bX6_refused_9 (bX6_refused_14 ?_ rfl)))
  · have := hq _ (h.setO hi x sp ou)
    rw [dlt q] at this; exact this
  · have := hq _ (h.setO hi x sp ou)
    rw [dlt' q] at this; exact this
end MI
