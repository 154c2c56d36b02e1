/-! THE CLASS'S OBJECT IN A WORLD: eighteen calendars, the text, what leads to them -/
def sz (j : Nat) : Nat := if j < 18 then 26 else if j = 18 then 4 else 3
theorem sz_c {j : Nat} (h : j < 18) : sz j = 26 := if_pos h
def InjD (D : Nat → Nat → Nat) : Prop := ∀ j i j' i', j < 20 → i < sz j → j' < 20 → i' < sz j' → D j i = D j' i' → j = j' ∧ i = i'
def cutA (w : Wd) (A : Nat → Nat) (m : Nat) : Wd := fun q => if (List.range m).any (fun i => decide (q = A i)) = true then none else w q
theorem cutA_in {w : Wd} {A : Nat → Nat} {m i : Nat} (h : i < m) : cutA w A m (A i) = none := by
  unfold cutA
  rw [if_pos (List.any_eq_true.mpr ⟨i, List.mem_range.mpr h, decide_eq_true rfl⟩)]
theorem cutA_out {w : Wd} {A : Nat → Nat} {m q : Nat} (h : ∀ i, i < m → q ≠ A i) : cutA w A m q = w q := by
  unfold cutA
  rw [if_neg]
  intro z
  obtain ⟨i, hi, e⟩ := List.any_eq_true.mp z
  exact h i (List.mem_range.mp hi) (of_decide_eq_true e)
theorem cutA_sub {w : Wd} {A : Nat → Nat} {m q : Nat} {e : PE} (h : cutA w A m q = some e) : w q = some e := by
  unfold cutA at h
  split at h
  · cases h
  · exact h
abbrev stF (D : Nat → Nat → Nat) (n : Nat) : List Value := [.ref (D 19 0), .ref (D 0 0), .ref (D 1 0), .ref (D 18 1), .ref (D 18 2), .ref (D 18 3), .int (nI n)]
theorem st_l {D : Nat → Nat → Nat} {n i : Nat} (h : i < 7) : i < (stF D n).length := h
def TxIn (w : Wd) (E : Nat → Nat) (t : Nat → Int32) (n : Nat) : Prop := ∃ at9 err lt nu, w (E 0) = some (.inl (3, txF E n at9 err lt)) ∧ (∃ g, w (E 1) = some (irow 120 g) ∧ ∀ i, i < n → g i = t i) ∧ w (E 2) = some (irow 5 nu) ∧ n ≤ 120
def StR (fr : Wd) (D : Nat → Nat → Nat) (cs : Nat → Cal) (Ls : Nat → Nat) (t : Nat → Int32) (n nR : Nat) (sv : Nat → Bool) (w : Wd) : Prop :=
  (∀ q e, fr q = some e → w q = some e) ∧ (∀ j i, j < 20 → i < sz j → fr (D j i) = none) ∧ InjD D ∧
  w (D 18 0) = some (.inl (4, stF D nR)) ∧ (∃ g, w (D 18 1) = some (qrow 3 2 g) ∧ ∀ k, k < 2 → g k = some (D (2 + k) 0)) ∧ (∃ g, w (D 18 2) = some (brow 2 g) ∧ ∀ k, k < 2 → g k = bI (sv k)) ∧ (∃ g, w (D 18 3) = some (qrow 3 14 g) ∧ ∀ k, k < 14 → g k = some (D (4 + k) 0)) ∧
  TxIn w (D 19) t n ∧ (∀ j, j < 18 → CalIn w (D j) (cs j) (Ls j)) ∧ nR ≤ 14
def StW (fr : Wd) (s : Nat) (y : Sy) (w : Wd) : Prop := ∃ D cs Ls, D 18 0 = s ∧ StR fr D cs Ls (yT y) (yN y) (yR y).length (fun k => (yS y k).isSome) w ∧ cs 0 = yC y ∧ (∀ k, k < 2 → ∀ c, yS y k = some c → cs (2 + k) = c) ∧ (∀ k, k < (yR y).length → cs (4 + k) = rg (yR y) k)
section SR
variable {fr w : Wd} {D : Nat → Nat → Nat} {cs : Nat → Cal} {Ls : Nat → Nat} {t : Nat → Int32} {n nR : Nat} {sv : Nat → Bool}
theorem StR.f (h : StR fr D cs Ls t n nR sv w) {q : Nat} {e : PE} (hq : fr q = some e) : w q = some e := h.1 q e hq
theorem StR.nn (h : StR fr D cs Ls t n nR sv w) {j i : Nat} (hj : j < 20) (hi : i < sz j) : fr (D j i) = none := h.2.1 j i hj hi
theorem StR.j (h : StR fr D cs Ls t n nR sv w) : InjD D := h.2.2.1
theorem StR.o (h : StR fr D cs Ls t n nR sv w) : w (D 18 0) = some (.inl (4, stF D nR)) := h.2.2.2.1
theorem StR.a (h : StR fr D cs Ls t n nR sv w) : ∃ g, w (D 18 1) = some (qrow 3 2 g) ∧ ∀ k, k < 2 → g k = some (D (2 + k) 0) := h.2.2.2.2.1
theorem StR.b (h : StR fr D cs Ls t n nR sv w) : ∃ g, w (D 18 2) = some (brow 2 g) ∧ ∀ k, k < 2 → g k = bI (sv k) := h.2.2.2.2.2.1
theorem StR.r (h : StR fr D cs Ls t n nR sv w) : ∃ g, w (D 18 3) = some (qrow 3 14 g) ∧ ∀ k, k < 14 → g k = some (D (4 + k) 0) := h.2.2.2.2.2.2.1
theorem StR.x (h : StR fr D cs Ls t n nR sv w) : TxIn w (D 19) t n := h.2.2.2.2.2.2.2.1
theorem StR.c (h : StR fr D cs Ls t n nR sv w) {j : Nat} (hj : j < 18) : CalIn w (D j) (cs j) (Ls j) := h.2.2.2.2.2.2.2.2.1 j hj
theorem StR.nb (h : StR fr D cs Ls t n nR sv w) : nR ≤ 14 := h.2.2.2.2.2.2.2.2.2
theorem StR.ne (h : StR fr D cs Ls t n nR sv w) {j i j' i' : Nat} (hj : j < 20) (hi : i < sz j) (hj' : j' < 20) (hi' : i' < sz j') (e : ¬ (j = j' ∧ i = i')) : D j i ≠ D j' i' := fun z => e (h.j j i j' i' hj hi hj' hi' z)
theorem StR.ex (h : StR fr D cs Ls t n nR sv w) {j i : Nat} (hj : j < 20) (hi : i < sz j) : ∃ e, w (D j i) = some e := by
  by_cases q : j < 18
  · rw [sz_c q] at hi; exact (h.c q).ex hi
  · by_cases q2 : j = 18
    · subst q2
      have hi4 : i < 4 := hi
      have : i = 0 ∨ i = 1 ∨ i = 2 ∨ i = 3 := by omega
      rcases this with rfl | rfl | rfl | rfl
      · exact ⟨_, h.o⟩
      · obtain ⟨g, e, -⟩ := h.a; exact ⟨_, e⟩
      · obtain ⟨g, e, -⟩ := h.b; exact ⟨_, e⟩
      · obtain ⟨g, e, -⟩ := h.r; exact ⟨_, e⟩
    · have q3 : j = 19 := by omega
      subst q3
      have hi3 : i < 3 := hi
      obtain ⟨a, er, lt, nu, x0, ⟨g, x1, -⟩, x2, -⟩ := h.x
      have : i = 0 ∨ i = 1 ∨ i = 2 := by omega
      rcases this with rfl | rfl | rfl
      · exact ⟨_, x0⟩
      · exact ⟨_, x1⟩
      · exact ⟨_, x2⟩
/-- what a calendar's frame holds: all but that calendar -/
theorem StR.out (h : StR fr D cs Ls t n nR sv w) {k j i : Nat} (hk : k < 18) (hj : j < 20) (hi : i < sz j) (e : ¬ j = k) : cutA w (D k) 26 (D j i) = w (D j i) := cutA_out (fun m hm => h.ne hj hi (by omega) (by rw [sz_c hk]; exact hm) (fun z => e z.1))
theorem StR.cw (h : StR fr D cs Ls t n nR sv w) {j : Nat} (hj : j < 18) : CalW (cutA w (D j) 26) (D j) (cs j) (Ls j) w :=
  ⟨fun q e hq => cutA_sub hq, fun i hi => cutA_in hi, fun i k hi hk e => (h.j j i j k (by omega) (by rw [sz_c hj]; exact hi) (by omega) (by rw [sz_c hj]; exact hk) e).2, h.c hj⟩
theorem StR.oc (h : StR fr D cs Ls t n nR sv w) {k : Nat} (hk : k < 18) : cutA w (D k) 26 (D 18 0) = some (.inl (4, stF D nR)) := by rw [h.out hk (by decide) (by decide) (by omega)]; exact h.o
theorem StR.cc (h : StR fr D cs Ls t n nR sv w) {j k : Nat} (hk : k < 18) (hj : j < 18) (e : ¬ j = k) : CalIn (cutA w (D k) 26) (D j) (cs j) (Ls j) := (h.c hj).cgr (fun i hi => h.out hk (by omega) (by rw [sz_c hj]; exact hi) e)
def upD (D : Nat → Nat → Nat) (j : Nat) (A : Nat → Nat) : Nat → Nat → Nat := fun k => if k = j then A else D k
theorem upD_eq {D : Nat → Nat → Nat} {j : Nat} {A : Nat → Nat} : upD D j A j = A := if_pos rfl
theorem upD_ne {D : Nat → Nat → Nat} {j k : Nat} {A : Nat → Nat} (h : ¬ k = j) : upD D j A k = D k := if_neg h
def upF {α : Type} (f : Nat → α) (j : Nat) (x : α) : Nat → α := fun k => if k = j then x else f k
theorem upF_eq {α : Type} {f : Nat → α} {j : Nat} {x : α} : upF f j x j = x := if_pos rfl
theorem upF_ne {α : Type} {f : Nat → α} {j k : Nat} {x : α} (h : ¬ k = j) : upF f j x k = f k := if_neg h
/-- one calendar has changed -/
theorem StR.back (h : StR fr D cs Ls t n nR sv w) {j : Nat} (hj : j < 18) {A : Nat → Nat} {c : Cal} {L : Nat} {w2 : Wd} (h2 : CalW (cutA w (D j) 26) A c L w2) (h0 : A 0 = D j 0) : StR fr (upD D j A) (upF cs j c) (upF Ls j L) t n nR sv w2 := by
  have kp : ∀ {k i : Nat} {e : PE}, k < 20 → i < sz k → ¬ k = j → w (D k i) = some e → w2 (D k i) = some e := fun hk hi e he => h2.f (by rw [h.out hj hk hi e]; exact he)
  have e0 : ∀ k, upD D j A k 0 = D k 0 := fun k => by
    by_cases q : k = j
    · subst q; rw [upD_eq]; exact h0
    · rw [upD_ne q]
  have n18 : ¬ (18 : Nat) = j := by omega
  have n19 : ¬ (19 : Nat) = j := by omega
  have frA : ∀ i, i < 26 → fr (A i) = none := fun i hi => by
    cases hf : fr (A i) with
    | none => rfl
    | some e =>
      have z := h2.n hi
      rw [cutA_out (fun m hm => fr_ne hf (h.nn (by omega) (by rw [sz_c hj]; exact hm))), h.f hf] at z
      cases z
  have nA : ∀ {i k m : Nat}, i < 26 → k < 20 → m < sz k → ¬ k = j → D k m ≠ A i := fun {i k m} hi hk hm e z => by
    obtain ⟨x, hx⟩ := h.ex hk hm
    have y := h2.n hi
    rw [← z, h.out hj hk hm e, hx] at y
    cases y
  refine ⟨fun q e hq => ?_, fun k i hk hi => ?_, fun k i k' i' hk hi hk' hi' e => ?_, ?_, ?_, ?_, ?_, ?_, fun k hk => ?_, h.nb⟩
  · exact h2.f (by rw [cutA_out (fun m hm => fr_ne hq (h.nn (by omega) (by rw [sz_c hj]; exact hm)))]; exact h.f hq)
  · by_cases q : k = j
    · subst q; rw [upD_eq]; exact frA i (by rw [sz_c hj] at hi; exact hi)
    · rw [upD_ne q]; exact h.nn hk hi
  · by_cases q : k = j
    · subst q
      rw [upD_eq] at e
      rw [sz_c hj] at hi
      by_cases q' : k' = k
      · subst q'
        rw [upD_eq] at e
        rw [sz_c hj] at hi'
        exact ⟨rfl, h2.2.2.1 i i' hi hi' e⟩
      · rw [upD_ne q'] at e
        exact absurd e.symm (nA hi hk' hi' q')
    · rw [upD_ne q] at e
      by_cases q' : k' = j
      · subst q'
        rw [upD_eq] at e
        rw [sz_c hj] at hi'
        exact absurd e (nA hi' hk hi q)
      · rw [upD_ne q'] at e
        exact h.j k i k' i' hk hi hk' hi' e
  · have e : stF (upD D j A) nR = stF D nR := by
      show [Value.ref (upD D j A 19 0), Value.ref (upD D j A 0 0), Value.ref (upD D j A 1 0), Value.ref (upD D j A 18 1), Value.ref (upD D j A 18 2), Value.ref (upD D j A 18 3), _] = _
      rw [e0, e0, e0, upD_ne n18]
    rw [upD_ne n18, e]
    exact kp (by decide) (by decide) n18 h.o
  · obtain ⟨g, eg, hg⟩ := h.a
    rw [upD_ne n18]
    exact ⟨g, kp (by decide) (by decide) n18 eg, fun k hk => by rw [e0]; exact hg k hk⟩
  · obtain ⟨g, eg, hg⟩ := h.b
    rw [upD_ne n18]
    exact ⟨g, kp (by decide) (by decide) n18 eg, hg⟩
  · obtain ⟨g, eg, hg⟩ := h.r
    rw [upD_ne n18]
    exact ⟨g, kp (by decide) (by decide) n18 eg, fun k hk => by rw [e0]; exact hg k hk⟩
  · obtain ⟨a, er, lt, nu, x0, ⟨g, x1, hx⟩, x2, xb⟩ := h.x
    rw [upD_ne n19]
    exact ⟨a, er, lt, nu, kp (by decide) (by decide) n19 x0, ⟨g, kp (by decide) (by decide) n19 x1, hx⟩, kp (by decide) (by decide) n19 x2, xb⟩
  · by_cases q : k = j
    · subst q; rw [upD_eq, upF_eq, upF_eq]; exact h2.i
    · rw [upD_ne q, upF_ne q, upF_ne q]
      refine (h.c hk).cgr (fun i hi => ?_)
      obtain ⟨e, he⟩ := (h.c hk).ex hi
      rw [he]
      exact kp (by omega) (by rw [sz_c hk]; exact hi) q he
/-- the text alone -/
theorem StR.tw (h : StR fr D cs Ls t n nR sv w) : ∃ at9 err lt nu, TxW (cutA w (D 19) 3) (D 19) t n at9 err lt nu w := by
  obtain ⟨a, er, lt, nu, x0, x1, x2, xb⟩ := h.x
  exact ⟨a, er, lt, nu, fun q e hq => cutA_sub hq, fun i hi => cutA_in hi, ⟨h.ne (by decide) (by decide) (by decide) (by decide) (by decide), h.ne (by decide) (by decide) (by decide) (by decide) (by decide), h.ne (by decide) (by decide) (by decide) (by decide) (by decide)⟩, x0, x1, x2, xb⟩
theorem StR.tb (h : StR fr D cs Ls t n nR sv w) {t2 : Nat → Int32} {n2 : Nat} {a er lt : Int32} {nu : Nat → Int32} {w2 : Wd} (h2 : TxW (cutA w (D 19) 3) (D 19) t2 n2 a er lt nu w2) : StR fr D cs Ls t2 n2 nR sv w2 := by
  have kp : ∀ {k i : Nat} {e : PE}, k < 20 → i < sz k → ¬ k = 19 → w (D k i) = some e → w2 (D k i) = some e := fun {k i e} hk hi hn he => h2.1 _ _ (by rw [cutA_out (A := D 19) (m := 3) (fun m hm => h.ne hk hi (by decide) (show m < sz 19 from hm) (fun z => hn z.1))]; exact he)
  refine ⟨fun q e hq => h2.1 _ _ (by rw [cutA_out (A := D 19) (m := 3) (fun m hm => fr_ne hq (h.nn (by decide) (show m < sz 19 from hm)))]; exact h.f hq), h.2.1, h.j, kp (by decide) (by decide) (by decide) h.o, ?_, ?_, ?_, ⟨a, er, lt, nu, h2.2.2.2⟩, fun k hk => ?_, h.nb⟩
  · obtain ⟨g, eg, hg⟩ := h.a; exact ⟨g, kp (by decide) (by decide) (by decide) eg, hg⟩
  · obtain ⟨g, eg, hg⟩ := h.b; exact ⟨g, kp (by decide) (by decide) (by decide) eg, hg⟩
  · obtain ⟨g, eg, hg⟩ := h.r; exact ⟨g, kp (by decide) (by decide) (by decide) eg, hg⟩
  · refine (h.c hk).cgr (fun i hi => ?_)
    obtain ⟨e, he⟩ := (h.c hk).ex hi
    rw [he]
    exact kp (by omega) (by rw [sz_c hk]; exact hi) (by omega) he
/-- a place of the object itself, or of a row that it has, changes -/
theorem StR.keep18 (h : StR fr D cs Ls t n nR sv w) {m : Nat} (hm : m < 4) {e : PE} : (∀ q x, fr q = some x → wset w (D 18 m) e q = some x) ∧ (∀ k i, k < 20 → i < sz k → ¬ (k = 18 ∧ i = m) → wset w (D 18 m) e (D k i) = w (D k i)) ∧ TxIn (wset w (D 18 m) e) (D 19) t n ∧ ∀ k, k < 18 → CalIn (wset w (D 18 m) e) (D k) (cs k) (Ls k) := by
  have kp : ∀ k i, k < 20 → i < sz k → ¬ (k = 18 ∧ i = m) → wset w (D 18 m) e (D k i) = w (D k i) := fun k i hk hi hn => wset_ne _ _ (h.ne hk hi (by decide) hm hn)
  refine ⟨fun q x hq => wn (fr_ne hq (h.nn (by decide) hm)) (h.f hq), kp, ?_, fun k hk => (h.c hk).cgr (fun i hi => kp k i (by omega) (by rw [sz_c hk]; exact hi) (by omega))⟩
  obtain ⟨a, er, lt, nu, x0, ⟨g, x1, hx⟩, x2, xb⟩ := h.x
  exact ⟨a, er, lt, nu, (kp 19 0 (by decide) (by decide) (by omega)).trans x0, ⟨g, (kp 19 1 (by decide) (by decide) (by omega)).trans x1, hx⟩, (kp 19 2 (by decide) (by decide) (by omega)).trans x2, xb⟩
theorem StR.setR (h : StR fr D cs Ls t n nR sv w) {n2 : Nat} (hn : n2 ≤ 14) : StR fr D cs Ls t n n2 sv (wset w (D 18 0) (.inl (4, stF D n2))) := by
  obtain ⟨k1, k2, k3, k4⟩ := h.keep18 (m := 0) (by decide) (e := .inl (4, stF D n2))
  refine ⟨k1, h.2.1, h.j, wset_eq _ _ _, ?_, ?_, ?_, k3, k4, hn⟩
  · obtain ⟨g, eg, hg⟩ := h.a; exact ⟨g, (k2 18 1 (by decide) (by decide) (by decide)).trans eg, hg⟩
  · obtain ⟨g, eg, hg⟩ := h.b; exact ⟨g, (k2 18 2 (by decide) (by decide) (by decide)).trans eg, hg⟩
  · obtain ⟨g, eg, hg⟩ := h.r; exact ⟨g, (k2 18 3 (by decide) (by decide) (by decide)).trans eg, hg⟩
theorem StR.setB (h : StR fr D cs Ls t n nR sv w) {g2 : Nat → Int32} {sv2 : Nat → Bool} (hg2 : ∀ k, k < 2 → g2 k = bI (sv2 k)) : StR fr D cs Ls t n nR sv2 (wset w (D 18 2) (brow 2 g2)) := by
  obtain ⟨k1, k2, k3, k4⟩ := h.keep18 (m := 2) (by decide) (e := brow 2 g2)
  refine ⟨k1, h.2.1, h.j, (k2 18 0 (by decide) (by decide) (by decide)).trans h.o, ?_, ⟨g2, wset_eq _ _ _, hg2⟩, ?_, k3, k4, h.nb⟩
  · obtain ⟨g, eg, hg⟩ := h.a; exact ⟨g, (k2 18 1 (by decide) (by decide) (by decide)).trans eg, hg⟩
  · obtain ⟨g, eg, hg⟩ := h.r; exact ⟨g, (k2 18 3 (by decide) (by decide) (by decide)).trans eg, hg⟩
/-- the remembered ones move up by one -/
def rot (j : Nat) : Nat := if j < 4 then j else if j < 17 then j + 1 else if j = 17 then 4 else j
theorem rot_lo {j : Nat} (h : j < 4 ∨ 17 < j) : rot j = j := by unfold rot; split <;> (try split) <;> (try split) <;> omega
theorem rot_b {j : Nat} (h : j < 18) : rot j < 18 := by unfold rot; split <;> (try split) <;> (try split) <;> omega
theorem rot_20 {j : Nat} (h : j < 20) : rot j < 20 := by
  by_cases q : j < 18
  · have := rot_b q; omega
  · rw [rot_lo (by omega)]; exact h
theorem rot_inj {j k : Nat} (h : rot j = rot k) : j = k := by
  unfold rot at h
  by_cases a1 : j < 4
  · rw [if_pos a1] at h; split at h <;> (try split at h) <;> (try split at h) <;> omega
  · rw [if_neg a1] at h
    by_cases a2 : j < 17
    · rw [if_pos a2] at h; split at h <;> (try split at h) <;> (try split at h) <;> omega
    · rw [if_neg a2] at h
      by_cases a3 : j = 17
      · rw [if_pos a3] at h; split at h <;> (try split at h) <;> (try split at h) <;> omega
      · rw [if_neg a3] at h; split at h <;> (try split at h) <;> (try split at h) <;> omega
theorem rot_sz (j : Nat) : sz (rot j) = sz j := by
  by_cases q : j < 18
  · rw [sz_c q, sz_c (rot_b q)]
  · rw [rot_lo (by omega)]
theorem StR.turn (h : StR fr D cs Ls t n nR sv w) {g2 : Nat → Option Nat} {n2 : Nat} (hn : n2 ≤ 14) (hg2 : ∀ k, k < 14 → g2 k = some (D (rot (4 + k)) 0)) : StR fr (fun j => D (rot j)) (fun j => cs (rot j)) (fun j => Ls (rot j)) t n n2 sv (wset (wset w (D 18 3) (qrow 3 14 g2)) (D 18 0) (.inl (4, stF D n2))) := by
  obtain ⟨k1, k2, k3, k4⟩ := h.keep18 (m := 3) (by decide) (e := qrow 3 14 g2)
  have ne : ∀ {k i : Nat}, k < 20 → i < sz k → ¬ (k = 18 ∧ i = 0) → D k i ≠ D 18 0 := fun hk hi e => h.ne hk hi (by decide) (by decide) e
  have kp : ∀ k i, k < 20 → i < sz k → ¬ (k = 18 ∧ i = 3) → ¬ (k = 18 ∧ i = 0) → wset (wset w (D 18 3) (qrow 3 14 g2)) (D 18 0) (.inl (4, stF D n2)) (D k i) = w (D k i) := fun k i hk hi h3 h0 => (wset_ne _ _ (ne hk hi h0)).trans (k2 k i hk hi h3)
  have r18 : rot 18 = 18 := rfl
  have r19 : rot 19 = 19 := rfl
  refine ⟨fun q x hq => wn (fr_ne hq (h.nn (by decide) (by decide))) (k1 q x hq), fun j i hj hi => ?_, fun j i j' i' hj hi hj' hi' e => ?_, ?_, ?_, ?_, ?_, ?_, fun k hk => ?_, hn⟩
  · exact h.nn (rot_20 hj) (by rw [rot_sz]; exact hi)
  · have b1 : ∀ {j}, j < 20 → rot j < 20 := fun {j} hj => rot_20 hj
    obtain ⟨z1, z2⟩ := h.j _ _ _ _ (b1 hj) (by rw [rot_sz]; exact hi) (b1 hj') (by rw [rot_sz]; exact hi') e
    exact ⟨rot_inj z1, z2⟩
  · exact wset_eq _ _ _
  · obtain ⟨g, eg, hg⟩ := h.a
    refine ⟨g, (kp 18 1 (by decide) (by decide) (by decide) (by decide)).trans eg, fun k hk => ?_⟩
    show g k = some (D (rot (2 + k)) 0)
    rw [rot_lo (by omega)]; exact hg k hk
  · obtain ⟨g, eg, hg⟩ := h.b
    exact ⟨g, (kp 18 2 (by decide) (by decide) (by decide) (by decide)).trans eg, hg⟩
  · exact ⟨g2, wn (h.ne (by decide) (by decide) (by decide) (by decide) (by decide)) (wset_eq _ _ _), hg2⟩
  · obtain ⟨a, er, lt, nu, x0, ⟨g, x1, hx⟩, x2, xb⟩ := h.x
    exact ⟨a, er, lt, nu, (kp 19 0 (by decide) (by decide) (by omega) (by omega)).trans x0, ⟨g, (kp 19 1 (by decide) (by decide) (by omega) (by omega)).trans x1, hx⟩, (kp 19 2 (by decide) (by decide) (by omega) (by omega)).trans x2, xb⟩
  · have hk2 := rot_b hk
    exact (h.c hk2).cgr (fun i hi => kp (rot k) i (by omega) (by rw [sz_c hk2]; exact hi) (by omega) (by omega))
end SR
theorem pC_le {L : Nat} (h : 16 ≤ L) : pC L ≤ 120 := by unfold pC; split <;> omega
theorem pS_le {L : Nat} (h : 16 ≤ L) : pS L ≤ 5664 := by unfold pS; split <;> omega
