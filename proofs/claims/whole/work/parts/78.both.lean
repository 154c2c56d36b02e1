/-! THE CLASS AND ITS MODEL IN ONE WORLD -/
theorem StW.move {fr fr2 w w2 : Wd} {s : Nat} {y : Sy} (h : StW fr s y w) (hf : ∀ q e, fr2 q = some e → w2 q = some e) (hd : ∀ q e, fr q = none → w q = some e → fr2 q = none) (hw : ∀ q e, fr q = none → w q = some e → w2 q = some e) : StW fr2 s y w2 := by
  obtain ⟨D, cs, Ls, e0, hR, hr⟩ := h
  have kp : ∀ j i x, j < 20 → i < sz j → w (D j i) = some x → w2 (D j i) = some x := fun j i x hj hi hx => hw _ _ (hR.nn hj hi) hx
  refine ⟨D, cs, Ls, e0, ⟨hf, fun j i hj hi => ?_, hR.j, kp 18 0 _ (by decide) (by decide) hR.o, ?_, ?_, ?_, ?_, fun j hj => ?_, hR.nb⟩, hr⟩
  · obtain ⟨x, hx⟩ := hR.ex hj hi
    exact hd _ _ (hR.nn hj hi) hx
  · obtain ⟨g, e, hg⟩ := hR.a; exact ⟨g, kp 18 1 _ (by decide) (by decide) e, hg⟩
  · obtain ⟨g, e, hg⟩ := hR.b; exact ⟨g, kp 18 2 _ (by decide) (by decide) e, hg⟩
  · obtain ⟨g, e, hg⟩ := hR.r; exact ⟨g, kp 18 3 _ (by decide) (by decide) e, hg⟩
  · obtain ⟨a, er, lt, nu, x0, ⟨g, x1, hx⟩, x2, xb⟩ := hR.x
    exact ⟨a, er, lt, nu, kp 19 0 _ (by decide) (by decide) x0, ⟨g, kp 19 1 _ (by decide) (by decide) x1, hx⟩, kp 19 2 _ (by decide) (by decide) x2, xb⟩
  · refine (hR.c hj).cgr (fun i hi => ?_)
    obtain ⟨x, hx⟩ := (hR.c hj).ex hi
    rw [hx]
    exact kp j i _ (by omega) (by rw [sz_c hj]; exact hi) hx
theorem MW.move {w0 w0' w w2 : Wd} {A : Nat → Nat} {rf : Int32} {y : Sy} (h : MW w0 A rf y w) (h0 : ∀ a, (∀ i, i < 11 → a ≠ A i) → w2 a = w0' a) (hw : ∀ i, i < 11 → w2 (A i) = w (A i)) : MW w0' A rf y w2 := by
  obtain ⟨sp, ou, -, a0, ⟨g1, a1, b1⟩, ⟨g2, a2, b2⟩, ⟨g3, a3, b3⟩, ⟨g4, a4, b4⟩, ⟨g5, a5, b5⟩, ⟨g6, a6, b6⟩, ⟨g7, a7⟩, ⟨g8, a8⟩, ⟨g9, a9⟩, ⟨g10, a10⟩, b⟩ := h
  exact ⟨sp, ou, h0, (hw 0 (by decide)).trans a0, ⟨g1, (hw 1 (by decide)).trans a1, b1⟩, ⟨g2, (hw 2 (by decide)).trans a2, b2⟩, ⟨g3, (hw 3 (by decide)).trans a3, b3⟩, ⟨g4, (hw 4 (by decide)).trans a4, b4⟩, ⟨g5, (hw 5 (by decide)).trans a5, b5⟩, ⟨g6, (hw 6 (by decide)).trans a6, b6⟩, ⟨g7, (hw 7 (by decide)).trans a7⟩, ⟨g8, (hw 8 (by decide)).trans a8⟩, ⟨g9, (hw 9 (by decide)).trans a9⟩, ⟨g10, (hw 10 (by decide)).trans a10⟩, b⟩
theorem MW.ex {w0 w : Wd} {A : Nat → Nat} {rf : Int32} {y : Sy} (h : MW w0 A rf y w) {i : Nat} (hi : i < 11) : ∃ e, w (A i) = some e := by
  obtain ⟨sp, ou, -, a0, ⟨g1, a1, b1⟩, ⟨g2, a2, b2⟩, ⟨g3, a3, b3⟩, ⟨g4, a4, b4⟩, ⟨g5, a5, b5⟩, ⟨g6, a6, b6⟩, ⟨g7, a7⟩, ⟨g8, a8⟩, ⟨g9, a9⟩, ⟨g10, a10⟩, b⟩ := h
  have : i = 0 ∨ i = 1 ∨ i = 2 ∨ i = 3 ∨ i = 4 ∨ i = 5 ∨ i = 6 ∨ i = 7 ∨ i = 8 ∨ i = 9 ∨ i = 10 := by omega
  rcases this with rfl | rfl | rfl | rfl | rfl | rfl | rfl | rfl | rfl | rfl | rfl
  · exact ⟨_, a0⟩
  · exact ⟨_, a1⟩
  · exact ⟨_, a2⟩
  · exact ⟨_, a3⟩
  · exact ⟨_, a4⟩
  · exact ⟨_, a5⟩
  · exact ⟨_, a6⟩
  · exact ⟨_, a7⟩
  · exact ⟨_, a8⟩
  · exact ⟨_, a9⟩
  · exact ⟨_, a10⟩
def ownA (A : Nat → Nat) (o9 : Nat) (w : Wd) : Wd := fun q => if q = o9 ∨ (List.range 11).any (fun i => decide (q = A i)) = true then w q else none
theorem own_o {A : Nat → Nat} {o9 : Nat} {w : Wd} : ownA A o9 w o9 = w o9 := if_pos (Or.inl rfl)
theorem own_A {A : Nat → Nat} {o9 i : Nat} {w : Wd} (h : i < 11) : ownA A o9 w (A i) = w (A i) := if_pos (Or.inr (List.any_eq_true.mpr ⟨i, List.mem_range.mpr h, decide_eq_true rfl⟩))
theorem own_sub {A : Nat → Nat} {o9 q : Nat} {w : Wd} {e : PE} (h : ownA A o9 w q = some e) : w q = some e := by
  unfold ownA at h
  split at h
  · exact h
  · cases h
theorem own_out {A : Nat → Nat} {o9 q : Nat} {w : Wd} {e : PE} (h : ownA A o9 w q = none) (hq : w q = some e) : q ≠ o9 ∧ ∀ i, i < 11 → q ≠ A i :=
  ⟨fun z => (by rw [z] at h hq; rw [own_o, hq] at h; cases h), fun i hi z => (by rw [z] at h hq; rw [own_A hi, hq] at h; cases h)⟩
theorem own_n {A : Nat → Nat} {o9 q : Nat} {w : Wd} (h : q ≠ o9) (h2 : ∀ i, i < 11 → q ≠ A i) : ownA A o9 w q = none := by
  unfold ownA
  rw [if_neg]
  rintro (z | z)
  · exact h z
  · obtain ⟨i, hi, e⟩ := List.any_eq_true.mp z
    exact h2 i (List.mem_range.mp hi) (of_decide_eq_true e)
def CW (A : Nat → Nat) (o9 s : Nat) (y1 y2 : Sy) (rf : Int32) (g : Nat → Int64) (w : Wd) : Prop := (∀ i, i < 11 → A i ≠ o9) ∧ w o9 = some (lrow g) ∧ MW w A rf y1 w ∧ StW (ownA A o9 w) s y2 w
section CWs
variable {A : Nat → Nat} {o9 s : Nat} {y y2 : Sy} {rf : Int32} {g : Nat → Int64} {w w2 : Wd}
theorem CW.o (h : CW A o9 s y y2 rf g w) : ownA A o9 w o9 = some (lrow g) := own_o.trans h.2.1
theorem CW.l (h : CW A o9 s y y2 rf g w) : w o9 = some (lrow g) := h.2.1
theorem CW.m (h : CW A o9 s y y2 rf g w) : MW w A rf y w := h.2.2.1
theorem CW.ss (h : CW A o9 s y y2 rf g w) : StW (ownA A o9 w) s y2 w := h.2.2.2
/-- the class has answered, its state is another -/
theorem CW.st {y3 : Sy} (h : CW A o9 s y y2 rf g w) (h2 : StW (ownA A o9 w) s y3 w2) : CW A o9 s y y3 rf g w2 := by
  have hA : ∀ i, i < 11 → w2 (A i) = w (A i) := fun i hi => by
    obtain ⟨e, he⟩ := h.m.ex hi
    rw [he]; exact h2.fq ((own_A hi).trans he)
  refine ⟨h.1, h2.fq h.o, h.m.move (fun a _ => rfl) hA, h2.move (fun q e hq => own_sub hq) (fun q e hq he => ?_) (fun q e hq he => he)⟩
  have hq2 : q ≠ o9 := fun z => by rw [z, own_o, h.l] at hq; cases hq
  refine own_n hq2 (fun i hi z => ?_)
  obtain ⟨e9, he9⟩ := h.m.ex hi
  rw [z, own_A hi, he9] at hq; cases hq
theorem CW.out (h : CW A o9 s y y2 rf g w) (g2 : Nat → Int64) : CW A o9 s y y2 rf g2 (wset w o9 (lrow g2)) := by
  refine ⟨h.1, wset_eq _ _ _, h.m.move (fun a _ => rfl) (fun i hi => wset_ne _ _ (h.1 i hi)), h.ss.move (fun q e hq => own_sub hq) (fun q e hq he => ?_) (fun q e hq he => ?_)⟩
  · obtain ⟨a, b⟩ := own_out hq he
    exact own_n a b
  · exact wn (own_out hq he).1 he
theorem CW.cls {o : Int32 × Int32 × Sy} {k : Int32} (h : CW A o9 s y y2 rf g w) (hl : LPo (ownA A o9 w) s o9 y2 o k w2) (hy : ¬ o.1 = 0 → o.2.2 = y2) : k = o.1 ∧ ∃ g2, CW A o9 s y o.2.2 rf g2 w2 ∧ (o.1 = 0 → g2 (0 : Int32).toNatClampNeg = o.2.1.toInt64) := by
  obtain ⟨hk, hl⟩ := hl
  refine ⟨hk, ?_⟩
  rcases hl with ⟨h0, w3, g3, hs, e3, rfl⟩ | ⟨h0, hs⟩
  · exact ⟨_, (h.st hs).out _, fun _ => if_pos rfl⟩
  · rw [hy h0]
    exact ⟨g, h.st hs, fun z => absurd z h0⟩
theorem CW.mod {y3 : Sy} {rf3 : Int32} (h : CW A o9 s y y2 rf g w) (h2 : MW w A rf3 y3 w2) : CW A o9 s y3 y2 rf3 g w2 := by
  have ho : ∀ q, (∀ i, i < 11 → q ≠ A i) → w2 q = w q := by
    obtain ⟨sp, ou, f, -⟩ := h2
    exact f
  refine ⟨h.1, (ho _ (fun i hi z => h.1 i hi z.symm)).trans h.l, h2.move (fun a _ => rfl) (fun i hi => rfl), h.ss.move (fun q e hq => own_sub hq) (fun q e hq he => ?_) (fun q e hq he => ?_)⟩
  · obtain ⟨a, b⟩ := own_out hq he
    exact own_n a b
  · rw [ho q (own_out hq he).2]; exact he
theorem CW.mo (h : CW A o9 s y y2 rf g w) : ∃ f, w (A 0) = some (.inl (5, f)) := by
  obtain ⟨sp, ou, -, e, -⟩ := h.m
  exact ⟨_, e⟩
end CWs
/-! states that hold together -/
def SI (T : Nat) (y : Sy) : Prop := Inv T (yC y) ∧ (∀ i, i < (yR y).length → Inv T (rg (yR y) i)) ∧ (∀ k, k < 2 → ∀ c, yS y k = some c → Inv T c) ∧ yN y ≤ 120
section SIs
variable {T : Nat} {y : Sy}
theorem SI.mono (h : SI T y) {T2 : Nat} (h2 : T ≤ T2) : SI T2 y := ⟨h.1.mono h2, fun i hi => (h.2.1 i hi).mono h2, fun k hk c hc => (h.2.2.1 k hk c hc).mono h2, h.2.2.2⟩
theorem SI.act (h : SI T y) {c : Cal} (hc : Inv (T + 30) c) : SI (T + 30) (wC (wR y) c) := by
  refine ⟨hc, fun i hi => ?_, fun k hk c hc => (h.2.2.1 k hk c hc).mono (by omega), h.2.2.2⟩
  have hi : i < (rmb (yR y) (yC y)).length := hi
  show Inv (T + 30) (rg (rmb (yR y) (yC y)) i)
  unfold rmb at hi ⊢
  have ap : ∀ (l : List Cal), (∀ i, i < l.length → Inv T (rg l i)) → i < (l ++ [yC y]).length → Inv (T + 30) (rg (l ++ [yC y]) i) := fun l hl hi => by
    rw [List.length_append] at hi
    have hi : i < l.length + 1 := hi
    by_cases q : i = l.length
    · rw [q, rg_app1]; exact h.1.mono (by omega)
    · rw [rg_app2 _ _ (by omega)]; exact (hl i (by omega)).mono (by omega)
  split
  · rename_i q
    rw [if_pos q] at hi
    exact ap _ (fun i hi => by rw [rg_drop]; rw [List.length_drop] at hi; exact h.2.1 _ (by omega)) hi
  · rename_i q
    rw [if_neg q] at hi
    exact ap _ h.2.1 hi
end SIs
