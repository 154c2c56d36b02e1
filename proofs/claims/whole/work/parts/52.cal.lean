/-! THE CLASS'S CALENDAR IN A WORLD -/
abbrev sesF (s : Ss) : List Value := [.int (sf s 0), .int (sf s 1), .int (sf s 2), .int (sf s 3), .int (sf s 4), .int (sf s 5)]
abbrev calF (A : Nat → Nat) (c : Cal) : List Value := [.int (cSc c 3), .int (nI (cPs c).length), .ref (A 1), .ref (A 2), .ref (A 3), .ref (A 4), .int (nI (cSs c).length), .ref (A 5), .ref (A 6), .int (cSc c 4), .int (cSc c 6), .int (cSc c 7), .int (cSc c 8)]
theorem ses_l {s : Ss} {i : Nat} (h : i < 6) : i < (sesF s).length := h
theorem cal_l {A : Nat → Nat} {c : Cal} {i : Nat} (h : i < 13) : i < (calF A c).length := h
def Inj26 (A : Nat → Nat) : Prop := ∀ i j, i < 26 → j < 26 → A i = A j → i = j
abbrev dA (A : Nat → Nat) : Nat → Nat := fun i => A (6 + i)
def CalIn (w : Wd) (A : Nat → Nat) (c : Cal) (L : Nat) : Prop :=
  w (A 0) = some (.inl (0, calF A c)) ∧ (∃ g, w (A 1) = some (irow 6 g) ∧ ∀ i, i < (cPs c).length → g i = tf (pg (cPs c) i) 0) ∧ (∃ g, w (A 2) = some (irow 6 g) ∧ ∀ i, i < (cPs c).length → g i = tf (pg (cPs c) i) 1) ∧ (∃ g, w (A 3) = some (irow 6 g) ∧ ∀ i, i < (cPs c).length → g i = tf (pg (cPs c) i) 2) ∧
  (∃ g, w (A 4) = some (irow 4 g) ∧ ∀ i, i < 4 → g i = cSc c (9 + i)) ∧ (∃ g, w (A 5) = some (qrow 4 16 g) ∧ ∀ k, k < 16 → g k = some (A (10 + k))) ∧ DeskIn w (dA A) (cTs c) L ∧
  (∀ k, k < 16 → ∃ s, w (A (10 + k)) = some (.inl (2, sesF s)) ∧ (k < (cSs c).length → s = sg (cSs c) k)) ∧ (cPs c).length ≤ 6 ∧ (cSs c).length ≤ 16
def CalW (fr : Wd) (A : Nat → Nat) (c : Cal) (L : Nat) (w : Wd) : Prop := (∀ q e, fr q = some e → w q = some e) ∧ (∀ i, i < 26 → fr (A i) = none) ∧ Inj26 A ∧ CalIn w A c L
/-- the calendar at an address, whatever else it consists of -/
def Cw (fr : Wd) (a : Nat) (c : Cal) (L : Nat) (w : Wd) : Prop := ∃ A, A 0 = a ∧ CalW fr A c L w
theorem DeskIn.keep {w : Wd} {D : Nat → Nat} {ts : List Tr} {L a : Nat} {e : PE} (h : DeskIn w D ts L) (ha : ∀ i, i < 4 → D i ≠ a) : DeskIn (wset w a e) D ts L := by
  obtain ⟨e0, ⟨g1, e1, c1⟩, ⟨g2, e2, c2⟩, ⟨g3, e3, c3⟩, b⟩ := h
  exact ⟨wn (ha 0 (by decide)) e0, ⟨g1, wn (ha 1 (by decide)) e1, c1⟩, ⟨g2, wn (ha 2 (by decide)) e2, c2⟩, ⟨g3, wn (ha 3 (by decide)) e3, c3⟩, b⟩
theorem DeskIn.cgr {w w2 : Wd} {D : Nat → Nat} {ts : List Tr} {L : Nat} (h : DeskIn w D ts L) (ha : ∀ i, i < 4 → w2 (D i) = w (D i)) : DeskIn w2 D ts L := by
  obtain ⟨e0, ⟨g1, e1, c1⟩, ⟨g2, e2, c2⟩, ⟨g3, e3, c3⟩, b⟩ := h
  exact ⟨(ha 0 (by decide)).trans e0, ⟨g1, (ha 1 (by decide)).trans e1, c1⟩, ⟨g2, (ha 2 (by decide)).trans e2, c2⟩, ⟨g3, (ha 3 (by decide)).trans e3, c3⟩, b⟩
theorem CalIn.cgr {w w2 : Wd} {A : Nat → Nat} {c : Cal} {L : Nat} (h : CalIn w A c L) (ha : ∀ i, i < 26 → w2 (A i) = w (A i)) : CalIn w2 A c L := by
  obtain ⟨e0, ⟨g1, e1, c1⟩, ⟨g2, e2, c2⟩, ⟨g3, e3, c3⟩, ⟨g4, e4, c4⟩, ⟨g5, e5, c5⟩, hd, hs, b⟩ := h
  exact ⟨(ha 0 (by decide)).trans e0, ⟨g1, (ha 1 (by decide)).trans e1, c1⟩, ⟨g2, (ha 2 (by decide)).trans e2, c2⟩, ⟨g3, (ha 3 (by decide)).trans e3, c3⟩, ⟨g4, (ha 4 (by decide)).trans e4, c4⟩, ⟨g5, (ha 5 (by decide)).trans e5, c5⟩,
    hd.cgr (fun i hi => ha (6 + i) (by omega)), fun k hk => by obtain ⟨s, e, z⟩ := hs k hk; exact ⟨s, (ha (10 + k) (by omega)).trans e, z⟩, b⟩
section CI
variable {w : Wd} {A : Nat → Nat} {c : Cal} {L : Nat}
theorem CalIn.o (h : CalIn w A c L) : w (A 0) = some (.inl (0, calF A c)) := h.1
theorem CalIn.r1 (h : CalIn w A c L) : ∃ g, w (A 1) = some (irow 6 g) ∧ ∀ i, i < (cPs c).length → g i = tf (pg (cPs c) i) 0 := h.2.1
theorem CalIn.r2 (h : CalIn w A c L) : ∃ g, w (A 2) = some (irow 6 g) ∧ ∀ i, i < (cPs c).length → g i = tf (pg (cPs c) i) 1 := h.2.2.1
theorem CalIn.r3 (h : CalIn w A c L) : ∃ g, w (A 3) = some (irow 6 g) ∧ ∀ i, i < (cPs c).length → g i = tf (pg (cPs c) i) 2 := h.2.2.2.1
theorem CalIn.st (h : CalIn w A c L) : ∃ g, w (A 4) = some (irow 4 g) ∧ ∀ i, i < 4 → g i = cSc c (9 + i) := h.2.2.2.2.1
theorem CalIn.sa (h : CalIn w A c L) : ∃ g, w (A 5) = some (qrow 4 16 g) ∧ ∀ k, k < 16 → g k = some (A (10 + k)) := h.2.2.2.2.2.1
theorem CalIn.dk (h : CalIn w A c L) : DeskIn w (dA A) (cTs c) L := h.2.2.2.2.2.2.1
theorem CalIn.sp (h : CalIn w A c L) {k : Nat} (hk : k < 16) : ∃ s, w (A (10 + k)) = some (.inl (2, sesF s)) ∧ (k < (cSs c).length → s = sg (cSs c) k) := h.2.2.2.2.2.2.2.1 k hk
theorem CalIn.b0 (h : CalIn w A c L) : (cPs c).length ≤ 6 := h.2.2.2.2.2.2.2.2.1
theorem CalIn.b1 (h : CalIn w A c L) : (cSs c).length ≤ 16 := h.2.2.2.2.2.2.2.2.2
theorem CalIn.se (h : CalIn w A c L) {k : Nat} (hk : k < (cSs c).length) : w (A (10 + k)) = some (.inl (2, sesF (sg (cSs c) k))) := by
  obtain ⟨s, e, z⟩ := h.sp (Nat.lt_of_lt_of_le hk h.b1)
  rw [← z hk]; exact e
end CI
section CW
variable {fr w : Wd} {A : Nat → Nat} {c : Cal} {L : Nat}
theorem CalW.i (h : CalW fr A c L w) : CalIn w A c L := h.2.2.2
theorem CalW.f (h : CalW fr A c L w) {q : Nat} {e : PE} (hq : fr q = some e) : w q = some e := h.1 q e hq
theorem CalW.n (h : CalW fr A c L w) {i : Nat} (hi : i < 26) : fr (A i) = none := h.2.1 i hi
theorem CalW.ne (h : CalW fr A c L w) {i j : Nat} (hi : i < 26) (hj : j < 26) (e : i ≠ j) : A i ≠ A j := fun q => e (h.2.2.1 i j hi hj q)
theorem CalW.cw (h : CalW fr A c L w) : Cw fr (A 0) c L w := ⟨A, rfl, h⟩
/-- the frame keeps when a place of the calendar changes -/
theorem CalW.ff (h : CalW fr A c L w) {j : Nat} (hj : j < 26) {e : PE} : ∀ q e9, fr q = some e9 → wset w (A j) e q = some e9 := fun q e9 hq => wn (fr_ne hq (h.n hj)) (h.f hq)
theorem CalW.dkeep (h : CalW fr A c L w) {j : Nat} (hj : j < 6 ∨ 10 ≤ j) (hj2 : j < 26) {e : PE} : DeskIn (wset w (A j) e) (dA A) (cTs c) L := h.i.dk.keep (fun i hi => h.ne (by omega) hj2 (by omega))
theorem CalW.skeep (h : CalW fr A c L w) {j : Nat} (hj : j < 10) {e : PE} : ∀ k, k < 16 → ∃ s, wset w (A j) e (A (10 + k)) = some (.inl (2, sesF s)) ∧ (k < (cSs c).length → s = sg (cSs c) k) := fun k hk => by
  obtain ⟨s, e, z⟩ := h.i.sp hk
  exact ⟨s, wn (h.ne (by omega) (by omega) (by omega)) e, z⟩
/-- a number of the object changes -/
theorem CalW.scal (h : CalW fr A c L w) (f : Nat → Int32) (hf : ∀ i, i < 4 → f (9 + i) = cSc c (9 + i)) : CalW fr A (f, c.2) L (wset w (A 0) (.inl (0, calF A (f, c.2)))) := by
  obtain ⟨-, n, inj, e0, ⟨g1, e1, c1⟩, ⟨g2, e2, c2⟩, ⟨g3, e3, c3⟩, ⟨g4, e4, c4⟩, ⟨g5, e5, c5⟩, hd, hs, b0, b1⟩ := id h
  have ne : ∀ {i : Nat}, i < 26 → i ≠ 0 → A i ≠ A 0 := fun hi z => h.ne hi (by decide) z
  exact ⟨h.ff (by decide), n, inj, wset_eq _ _ _, ⟨g1, wn (ne (by decide) (by decide)) e1, c1⟩, ⟨g2, wn (ne (by decide) (by decide)) e2, c2⟩, ⟨g3, wn (ne (by decide) (by decide)) e3, c3⟩, ⟨g4, wn (ne (by decide) (by decide)) e4, fun i hi => (c4 i hi).trans (hf i hi).symm⟩, ⟨g5, wn (ne (by decide) (by decide)) e5, c5⟩,
    h.dkeep (Or.inl (by decide)) (by decide), h.skeep (by decide), b0, b1⟩
/-- a session's numbers change, one that counts or a spare one -/
theorem CalW.sess (h : CalW fr A c L w) {k : Nat} (hk : k < 16) (s2 : Ss) : CalW fr A (wSs c ((cSs c).set k s2)) L (wset w (A (10 + k)) (.inl (2, sesF s2))) := by
  obtain ⟨-, n, inj, e0, ⟨g1, e1, c1⟩, ⟨g2, e2, c2⟩, ⟨g3, e3, c3⟩, ⟨g4, e4, c4⟩, ⟨g5, e5, c5⟩, hd, hs, b0, b1⟩ := id h
  have ne : ∀ {i : Nat}, i < 26 → i ≠ 10 + k → A i ≠ A (10 + k) := fun hi z => h.ne hi (by omega) z
  have hlen : (cSs (wSs c ((cSs c).set k s2))).length = (cSs c).length := List.length_set
  have ho : calF A (wSs c ((cSs c).set k s2)) = calF A c := by show [_, _, _, _, _, _, Value.int (nI (cSs (wSs c ((cSs c).set k s2))).length), _, _, _, _, _, _] = _; rw [hlen]; rfl
  refine ⟨h.ff (by omega), n, inj, ?_, ⟨g1, wn (ne (by omega) (by omega)) e1, c1⟩, ⟨g2, wn (ne (by omega) (by omega)) e2, c2⟩, ⟨g3, wn (ne (by omega) (by omega)) e3, c3⟩, ⟨g4, wn (ne (by omega) (by omega)) e4, c4⟩, ⟨g5, wn (ne (by omega) (by omega)) e5, c5⟩, h.dkeep (Or.inr (by omega)) (by omega), fun j hj => ?_, b0, by rw [hlen]; exact b1⟩
  · rw [ho]; exact wn (ne (by omega) (by omega)) e0
  · rw [hlen]
    by_cases q : j = k
    · subst q
      exact ⟨s2, wset_eq _ _ _, fun hj2 => by show s2 = sg ((cSs c).set j s2) j; rw [sg_set _ _ _ _ hj2, if_pos rfl]⟩
    · obtain ⟨s, e, z⟩ := hs j hj
      refine ⟨s, wn (ne (by omega) (by omega)) e, fun hj2 => ?_⟩
      rw [z hj2]
      show _ = sg ((cSs c).set k s2) j
      by_cases hk2 : k < (cSs c).length
      · rw [sg_set _ _ _ _ hk2, if_neg q]
      · rw [List.set_eq_of_length_le (by omega)]
/-- a number of a stenographer changes -/
theorem CalW.per (h : CalW fr A c L w) {m i : Nat} (hm : m < 3) (hi : i < 6) {g : Nat → Int32} (hg : w (A (m + 1)) = some (irow 6 g)) (v : Int32) : CalW fr A (setP c i m v) L (wset w (A (m + 1)) (irow 6 (upd g i v))) := by
  obtain ⟨-, n, inj, e0, ⟨g1, e1, c1⟩, ⟨g2, e2, c2⟩, ⟨g3, e3, c3⟩, ⟨g4, e4, c4⟩, ⟨g5, e5, c5⟩, hd, hs, b0, b1⟩ := id h
  have ne : ∀ {j : Nat}, j < 26 → j ≠ m + 1 → A j ≠ A (m + 1) := fun hj z => h.ne hj (by omega) z
  have hlen : (cPs (setP c i m v)).length = (cPs c).length := List.length_set
  have ho : calF A (setP c i m v) = calF A c := by show [_, Value.int (nI (cPs (setP c i m v)).length), _, _, _, _, _, _, _, _, _, _, _] = _; rw [hlen]; rfl
  have gp : ∀ j, pg (cPs (setP c i m v)) j = if j = i ∧ i < (cPs c).length then tfset (pg (cPs c) i) m v else pg (cPs c) j := fun j => by
    show pg ((cPs c).set i _) j = _
    by_cases hi2 : i < (cPs c).length
    · rw [pg_set _ _ _ _ hi2]
      by_cases q : j = i
      · rw [if_pos q, if_pos ⟨q, hi2⟩]
      · rw [if_neg q, if_neg (fun z => q z.1)]
    · rw [List.set_eq_of_length_le (by omega), if_neg (fun z => hi2 z.2)]
  have col : ∀ (gg : Nat → Int32) (cc : Nat), (∀ i, i < (cPs c).length → gg i = tf (pg (cPs c) i) cc) → (∀ x : Tr, tf (tfset x m v) cc = tf x cc) → ∀ j, j < (cPs (setP c i m v)).length → gg j = tf (pg (cPs (setP c i m v)) j) cc := fun gg cc hc hx j hj => by
    rw [hlen] at hj
    rw [hc j hj, gp]
    split
    · rename_i q; rw [hx, q.1]
    · rfl
  have own : ∀ (cc : Nat), (∀ i, i < (cPs c).length → g i = tf (pg (cPs c) i) cc) → (∀ x : Tr, tf (tfset x m v) cc = v) → ∀ j, j < (cPs (setP c i m v)).length → upd g i v j = tf (pg (cPs (setP c i m v)) j) cc := fun cc hc hx j hj => by
    rw [hlen] at hj
    rw [gp]
    by_cases q : j = i
    · subst q; rw [if_pos ⟨rfl, hj⟩, upd_eq, hx]
    · rw [if_neg (fun z => q z.1), upd_ne _ _ q, hc j hj]
  have hm3 : m = 0 ∨ m = 1 ∨ m = 2 := by omega
  rcases hm3 with rfl | rfl | rfl
  · have eg : g1 = g := by have := e1.symm.trans hg; injection this with this; injection this with this; injection this with _ this; injection this with _ this; injection this
    subst eg
    exact ⟨h.ff (by decide), n, inj, by rw [ho]; exact wn (ne (by decide) (by decide)) e0, ⟨_, wset_eq _ _ _, own 0 c1 (fun _ => rfl)⟩, ⟨g2, wn (ne (by decide) (by decide)) e2, col g2 1 c2 (fun _ => rfl)⟩, ⟨g3, wn (ne (by decide) (by decide)) e3, col g3 2 c3 (fun _ => rfl)⟩, ⟨g4, wn (ne (by decide) (by decide)) e4, c4⟩, ⟨g5, wn (ne (by decide) (by decide)) e5, c5⟩, h.dkeep (Or.inl (by decide)) (by decide), h.skeep (by decide), by rw [hlen]; exact b0, b1⟩
  · have eg : g2 = g := by have := e2.symm.trans hg; injection this with this; injection this with this; injection this with _ this; injection this with _ this; injection this
    subst eg
    exact ⟨h.ff (by decide), n, inj, by rw [ho]; exact wn (ne (by decide) (by decide)) e0, ⟨g1, wn (ne (by decide) (by decide)) e1, col g1 0 c1 (fun _ => rfl)⟩, ⟨_, wset_eq _ _ _, own 1 c2 (fun _ => rfl)⟩, ⟨g3, wn (ne (by decide) (by decide)) e3, col g3 2 c3 (fun _ => rfl)⟩, ⟨g4, wn (ne (by decide) (by decide)) e4, c4⟩, ⟨g5, wn (ne (by decide) (by decide)) e5, c5⟩, h.dkeep (Or.inl (by decide)) (by decide), h.skeep (by decide), by rw [hlen]; exact b0, b1⟩
  · have eg : g3 = g := by have := e3.symm.trans hg; injection this with this; injection this with this; injection this with _ this; injection this with _ this; injection this
    subst eg
    exact ⟨h.ff (by decide), n, inj, by rw [ho]; exact wn (ne (by decide) (by decide)) e0, ⟨g1, wn (ne (by decide) (by decide)) e1, col g1 0 c1 (fun _ => rfl)⟩, ⟨g2, wn (ne (by decide) (by decide)) e2, col g2 1 c2 (fun _ => rfl)⟩, ⟨_, wset_eq _ _ _, own 2 c3 (fun _ => rfl)⟩, ⟨g4, wn (ne (by decide) (by decide)) e4, c4⟩, ⟨g5, wn (ne (by decide) (by decide)) e5, c5⟩, h.dkeep (Or.inl (by decide)) (by decide), h.skeep (by decide), by rw [hlen]; exact b0, b1⟩
/-- a setting changes -/
theorem CalW.stg (h : CalW fr A c L w) {i : Nat} (hi : i < 4) {g : Nat → Int32} (hg : w (A 4) = some (irow 4 g)) (v : Int32) : CalW fr A (setC c (9 + i) v) L (wset w (A 4) (irow 4 (upd g i v))) := by
  obtain ⟨-, n, inj, e0, ⟨g1, e1, c1⟩, ⟨g2, e2, c2⟩, ⟨g3, e3, c3⟩, ⟨g4, e4, c4⟩, ⟨g5, e5, c5⟩, hd, hs, b0, b1⟩ := id h
  have ne : ∀ {j : Nat}, j < 26 → j ≠ 4 → A j ≠ A 4 := fun hj z => h.ne hj (by omega) z
  have lo : ∀ j, j < 9 → cSc (setC c (9 + i) v) j = cSc c j := fun j hj => by show upd (cSc c) (9 + i) v j = _; rw [upd_ne _ _ (by omega)]
  have ho : calF A (setC c (9 + i) v) = calF A c := by
    show [Value.int (cSc (setC c (9 + i) v) 3), _, _, _, _, _, _, _, _, Value.int (cSc (setC c (9 + i) v) 4), Value.int (cSc (setC c (9 + i) v) 6), Value.int (cSc (setC c (9 + i) v) 7), Value.int (cSc (setC c (9 + i) v) 8)] = _
    rw [lo 3 (by decide), lo 4 (by decide), lo 6 (by decide), lo 7 (by decide), lo 8 (by decide)]; rfl
  have eg : g4 = g := by have := e4.symm.trans hg; injection this with this; injection this with this; injection this with _ this; injection this with _ this; injection this
  subst eg
  refine ⟨h.ff (by decide), n, inj, by rw [ho]; exact wn (ne (by decide) (by decide)) e0, ⟨g1, wn (ne (by decide) (by decide)) e1, c1⟩, ⟨g2, wn (ne (by decide) (by decide)) e2, c2⟩, ⟨g3, wn (ne (by decide) (by decide)) e3, c3⟩, ⟨_, wset_eq _ _ _, fun j hj => ?_⟩, ⟨g5, wn (ne (by decide) (by decide)) e5, c5⟩, h.dkeep (Or.inl (by decide)) (by decide), h.skeep (by decide), b0, b1⟩
  show _ = upd (cSc c) (9 + i) v (9 + j)
  by_cases q : j = i
  · subst q; rw [upd_eq, upd_eq]
  · rw [upd_ne _ _ q, upd_ne _ _ (by omega)]; exact c4 j hj
/-- the sessions' order, or their number -/
theorem CalW.arr (h : CalW fr A c L w) {w2 : Wd} {A2 : Nat → Nat} {ss : List Ss} {g : Nat → Option Nat} (e0 : w2 (A 0) = some (.inl (0, calF A (wSs c ss)))) (e5 : w2 (A 5) = some (qrow 4 16 g)) (eo : ∀ q, q ≠ A 0 → q ≠ A 5 → w2 q = w q)
    (ha : ∀ i, i < 10 → A2 i = A i) (hp : ∀ k, k < 16 → ∃ j, j < 16 ∧ A2 (10 + k) = A (10 + j)) (hi : ∀ j k, j < 16 → k < 16 → A2 (10 + j) = A2 (10 + k) → j = k) (hg : ∀ k, k < 16 → g k = some (A2 (10 + k))) (hl : ss.length ≤ 16) (hse : ∀ k, k < ss.length → w (A2 (10 + k)) = some (.inl (2, sesF (sg ss k)))) : CalW fr A2 (wSs c ss) L w2 := by
  obtain ⟨f, n, inj, -, ⟨g1, e1, c1⟩, ⟨g2, e2, c2⟩, ⟨g3, e3, c3⟩, ⟨g4, e4, c4⟩, -, hd, hs, b0, b1⟩ := id h
  have kp : ∀ {i : Nat}, i < 26 → i ≠ 0 → i ≠ 5 → w2 (A i) = w (A i) := fun hi h0 h5 => eo _ (h.ne hi (by decide) h0) (h.ne hi (by decide) h5)
  have ho : calF A2 (wSs c ss) = calF A (wSs c ss) := by show [_, _, Value.ref (A2 1), Value.ref (A2 2), Value.ref (A2 3), Value.ref (A2 4), _, Value.ref (A2 5), Value.ref (A2 6), _, _, _, _] = _; rw [ha 1 (by decide), ha 2 (by decide), ha 3 (by decide), ha 4 (by decide), ha 5 (by decide), ha 6 (by decide)]
  refine ⟨fun q e hq => ?_, fun i hi9 => ?_, fun i j hi9 hj9 e => ?_, ?_, ⟨g1, ?_, c1⟩, ⟨g2, ?_, c2⟩, ⟨g3, ?_, c3⟩, ⟨g4, ?_, c4⟩, ⟨g, ?_, hg⟩, ?_, fun k hk => ?_, b0, hl⟩
  · rw [eo q (fr_ne hq (h.n (by decide))) (fr_ne hq (h.n (by decide)))]; exact f q e hq
  · by_cases q : i < 10
    · rw [ha i q]; exact n i hi9
    · obtain ⟨j, hj, e⟩ := hp (i - 10) (by omega)
      rw [show 10 + (i - 10) = i by omega] at e
      rw [e]; exact n _ (by omega)
  · by_cases qi : i < 10
    · by_cases qj : j < 10
      · rw [ha i qi, ha j qj] at e; exact inj i j hi9 hj9 e
      · obtain ⟨m, hm, e2⟩ := hp (j - 10) (by omega)
        rw [show 10 + (j - 10) = j by omega] at e2
        rw [ha i qi, e2] at e
        have := inj i (10 + m) hi9 (by omega) e
        omega
    · by_cases qj : j < 10
      · obtain ⟨m, hm, e2⟩ := hp (i - 10) (by omega)
        rw [show 10 + (i - 10) = i by omega] at e2
        rw [ha j qj, e2] at e
        have := inj (10 + m) j (by omega) hj9 e
        omega
      · have := hi (i - 10) (j - 10) (by omega) (by omega) (by rw [show 10 + (i - 10) = i by omega, show 10 + (j - 10) = j by omega]; exact e)
        omega
  · rw [ha 0 (by decide), ho]; exact e0
  · rw [ha 1 (by decide)]; exact (kp (by decide) (by decide) (by decide)).trans e1
  · rw [ha 2 (by decide)]; exact (kp (by decide) (by decide) (by decide)).trans e2
  · rw [ha 3 (by decide)]; exact (kp (by decide) (by decide) (by decide)).trans e3
  · rw [ha 4 (by decide)]; exact (kp (by decide) (by decide) (by decide)).trans e4
  · rw [ha 5 (by decide)]; exact e5
  · have hd2 := hd.cgr (w2 := w2) (fun i hi => kp (by omega) (by omega) (by omega))
    obtain ⟨d0, d1, d2, d3, db⟩ := hd2
    refine ⟨?_, ?_, ?_, ?_, db⟩
    · show w2 (A2 6) = some (.inl (1, [.ref (A2 7), .ref (A2 8), .ref (A2 9), _]))
      rw [ha 6 (by decide), ha 7 (by decide), ha 8 (by decide), ha 9 (by decide)]; exact d0
    · show ∃ g, w2 (A2 7) = _ ∧ _
      rw [ha 7 (by decide)]; exact d1
    · show ∃ g, w2 (A2 8) = _ ∧ _
      rw [ha 8 (by decide)]; exact d2
    · show ∃ g, w2 (A2 9) = _ ∧ _
      rw [ha 9 (by decide)]; exact d3
  · obtain ⟨j, hj, e⟩ := hp k hk
    by_cases q : k < ss.length
    · exact ⟨sg ss k, by rw [e, kp (by omega) (by omega) (by omega), ← e]; exact hse k q, fun _ => rfl⟩
    · obtain ⟨s, e2, -⟩ := hs j hj
      exact ⟨s, by rw [e, kp (by omega) (by omega) (by omega)]; exact e2, fun z => absurd z q⟩
/-- the desks alone -/
def cutD (w : Wd) (D : Nat → Nat) : Wd := fun q => if q = D 0 ∨ q = D 1 ∨ q = D 2 ∨ q = D 3 then none else w q
theorem cutD_in {w : Wd} {D : Nat → Nat} {i : Nat} (h : i < 4) : cutD w D (D i) = none := by
  unfold cutD
  have : i = 0 ∨ i = 1 ∨ i = 2 ∨ i = 3 := by omega
  rcases this with rfl | rfl | rfl | rfl <;> simp
theorem cutD_out {w : Wd} {D : Nat → Nat} {q : Nat} (h : ∀ i, i < 4 → q ≠ D i) : cutD w D q = w q := if_neg (fun z => by
  rcases z with z | z | z | z
  · exact h 0 (by decide) z
  · exact h 1 (by decide) z
  · exact h 2 (by decide) z
  · exact h 3 (by decide) z)
theorem cutD_sub {w : Wd} {D : Nat → Nat} {q : Nat} {e : PE} (h : cutD w D q = some e) : w q = some e := by
  unfold cutD at h
  split at h
  · cases h
  · exact h
theorem CalW.dk (h : CalW fr A c L w) : DeskW (cutD w (dA A)) (dA A) (cTs c) L w :=
  ⟨fun q e hq => cutD_sub hq, fun i hi => cutD_in hi, fun i j hi hj e => by have := h.2.2.1 (6 + i) (6 + j) (by omega) (by omega) e; omega, h.i.dk⟩
def wTs (c : Cal) (ts : List Tr) : Cal := (c.1, c.2.1, c.2.2.1, ts)
def dB (A D : Nat → Nat) : Nat → Nat := fun i => if 6 ≤ i ∧ i < 10 then D (i - 6) else A i
theorem CalW.dkb (h : CalW fr A c L w) {D : Nat → Nat} {ts : List Tr} {M : Nat} {w2 : Wd} (h2 : DeskW (cutD w (dA A)) D ts M w2) (h0 : D 0 = A 6) : CalW fr (dB A D) (wTs c ts) M w2 := by
  obtain ⟨f, n, inj, e0, ⟨g1, e1, c1⟩, ⟨g2, e2, c2⟩, ⟨g3, e3, c3⟩, ⟨g4, e4, c4⟩, ⟨g5, e5, c5⟩, hd, hs, b0, b1⟩ := id h
  have kp : ∀ {i : Nat} {e : PE}, i < 26 → (i < 6 ∨ 10 ≤ i) → w (A i) = some e → w2 (A i) = some e := fun {i e} hi hi2 he => h2.f (by
    rw [cutD_out (fun j hj => h.ne hi (by omega) (by omega))]; exact he)
  have ev : ∀ {i : Nat}, (i < 6 ∨ 10 ≤ i) → dB A D i = A i := fun hi => if_neg (by omega)
  have ed : ∀ {i : Nat}, i < 4 → dB A D (6 + i) = D i := fun {i} hi => by unfold dB; rw [if_pos (by omega), show 6 + i - 6 = i by omega]
  have ho : calF (dB A D) (wTs c ts) = calF A c := by
    show [_, _, Value.ref (dB A D 1), Value.ref (dB A D 2), Value.ref (dB A D 3), Value.ref (dB A D 4), _, Value.ref (dB A D 5), Value.ref (dB A D (6 + 0)), _, _, _, _] = _
    rw [ev (i := 1) (by decide), ev (i := 2) (by decide), ev (i := 3) (by decide), ev (i := 4) (by decide), ev (i := 5) (by decide), ed (by decide), h0]; rfl
  have nD : ∀ {i j : Nat}, i < 26 → (i < 6 ∨ 10 ≤ i) → j < 4 → A i ≠ D j := fun {i j} hi hi2 hj e => by
    have z := h2.n hj
    rw [← e, cutD_out (fun k hk => h.ne hi (by omega) (by omega))] at z
    by_cases q : i < 10
    · have hi6 : i = 0 ∨ i = 1 ∨ i = 2 ∨ i = 3 ∨ i = 4 ∨ i = 5 := by omega
      rcases hi6 with rfl | rfl | rfl | rfl | rfl | rfl
      · rw [z] at e0; cases e0
      · rw [z] at e1; cases e1
      · rw [z] at e2; cases e2
      · rw [z] at e3; cases e3
      · rw [z] at e4; cases e4
      · rw [z] at e5; cases e5
    · obtain ⟨s, es, -⟩ := hs (i - 10) (by omega)
      rw [show 10 + (i - 10) = i by omega, z] at es; cases es
  refine ⟨fun q e hq => ?_, fun i hi => ?_, fun i j hi hj e => ?_, ?_, ⟨g1, ?_, c1⟩, ⟨g2, ?_, c2⟩, ⟨g3, ?_, c3⟩, ⟨g4, ?_, c4⟩, ⟨g5, ?_, fun k hk => by rw [ev (Or.inr (by omega))]; exact c5 k hk⟩, ?_, fun k hk => ?_, b0, b1⟩
  · exact h2.f (by rw [cutD_out (fun j hj => fr_ne hq (n _ (by omega)))]; exact f q e hq)
  · by_cases q : 6 ≤ i ∧ i < 10
    · have z := h2.n (i := i - 6) (by omega)
      rw [show i = 6 + (i - 6) by omega, ed (by omega)]
      cases hfr : fr (D (i - 6)) with
      | none => rfl
      | some e => rw [cutD_out (fun j hj => fr_ne hfr (n _ (by omega))), f _ _ hfr] at z; cases z
    · rw [ev (by omega)]; exact n i hi
  · by_cases qi : 6 ≤ i ∧ i < 10
    · rw [show i = 6 + (i - 6) by omega, ed (by omega)] at e
      by_cases qj : 6 ≤ j ∧ j < 10
      · rw [show j = 6 + (j - 6) by omega, ed (by omega)] at e
        have := h2.j _ _ (by omega) (by omega) e
        omega
      · rw [ev (by omega)] at e
        exact absurd e.symm (nD hj (by omega) (by omega))
    · rw [ev (by omega)] at e
      by_cases qj : 6 ≤ j ∧ j < 10
      · rw [show j = 6 + (j - 6) by omega, ed (by omega)] at e
        exact absurd e (nD hi (by omega) (by omega))
      · rw [ev (i := j) (by omega)] at e
        exact inj i j hi hj e
  · rw [ho, ev (by decide)]; exact kp (by decide) (by decide) e0
  · rw [ev (by decide)]; exact kp (by decide) (by decide) e1
  · rw [ev (by decide)]; exact kp (by decide) (by decide) e2
  · rw [ev (by decide)]; exact kp (by decide) (by decide) e3
  · rw [ev (by decide)]; exact kp (by decide) (by decide) e4
  · rw [ev (by decide)]; exact kp (by decide) (by decide) e5
  · obtain ⟨d0, d1, d2, d3, db⟩ := h2.i
    refine ⟨?_, ?_, ?_, ?_, db⟩
    · show w2 (dB A D (6 + 0)) = some (.inl (1, [.ref (dB A D (6 + 1)), .ref (dB A D (6 + 2)), .ref (dB A D (6 + 3)), _]))
      rw [ed (by decide), ed (by decide), ed (by decide), ed (by decide)]; exact d0
    · show ∃ g, w2 (dB A D (6 + 1)) = _ ∧ _
      rw [ed (by decide)]; exact d1
    · show ∃ g, w2 (dB A D (6 + 2)) = _ ∧ _
      rw [ed (by decide)]; exact d2
    · show ∃ g, w2 (dB A D (6 + 3)) = _ ∧ _
      rw [ed (by decide)]; exact d3
  · obtain ⟨s, e, z⟩ := hs k hk
    refine ⟨s, ?_, z⟩
    rw [ev (by omega)]; exact kp (by omega) (by omega) e
theorem dB_0 {A D : Nat → Nat} : dB A D 0 = A 0 := rfl
end CW
