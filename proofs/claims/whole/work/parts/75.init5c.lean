/-! THE CLASS'S CONSTRUCTOR -/
def cp (j : Nat) : Nat := if j < 2 then 4 + 26 * j else if j < 4 then 58 + 26 * (j - 2) else 111 + 26 * (j - 4)
theorem cp_1 {j : Nat} (h : j < 2) : cp j = 4 + 26 * j := if_pos h
theorem cp_2 {j : Nat} (h : j < 2) : cp (2 + j) = 58 + 26 * j := by unfold cp; rw [if_neg (by omega), if_pos (by omega)]; omega
theorem cp_4 (j : Nat) : cp (4 + j) = 111 + 26 * j := by unfold cp; rw [if_neg (by omega), if_neg (by omega)]; omega
theorem cp_b {j : Nat} (h : j < 18) : 4 ≤ cp j ∧ cp j + 26 ≤ 475 ∧ (cp j + 26 ≤ 56 ∨ 58 ≤ cp j) ∧ (cp j + 26 ≤ 110 ∨ 111 ≤ cp j) := by
  unfold cp; split <;> (try split) <;> omega
theorem cp_m {j k : Nat} (h : j < k) : cp j + 26 ≤ cp k := by
  unfold cp; split <;> (try split) <;> (try split) <;> (try split) <;> omega
def ps (j i : Nat) : Nat := if j < 18 then cp j + i else if j = 18 then (if i = 0 then 0 else if i = 1 then 57 else if i = 2 then 56 else 110) else 1 + i
theorem ps_c {j i : Nat} (h : j < 18) : ps j i = cp j + i := if_pos h
theorem ps_18 {i : Nat} (h : i < 4) : ps 18 i = 0 ∧ i = 0 ∨ ps 18 i = 57 ∧ i = 1 ∨ ps 18 i = 56 ∧ i = 2 ∨ ps 18 i = 110 ∧ i = 3 := by
  have : i = 0 ∨ i = 1 ∨ i = 2 ∨ i = 3 := by omega
  rcases this with rfl | rfl | rfl | rfl
  · exact Or.inl ⟨rfl, rfl⟩
  · exact Or.inr (Or.inl ⟨rfl, rfl⟩)
  · exact Or.inr (Or.inr (Or.inl ⟨rfl, rfl⟩))
  · exact Or.inr (Or.inr (Or.inr ⟨rfl, rfl⟩))
theorem ps_19 (i : Nat) : ps 19 i = 1 + i := rfl
theorem ps_all {j i : Nat} (hj : j < 20) (hi : i < sz j) : (j < 18 ∧ i < 26 ∧ ps j i = cp j + i) ∨ (j = 18 ∧ (ps j i = 0 ∧ i = 0 ∨ ps j i = 57 ∧ i = 1 ∨ ps j i = 56 ∧ i = 2 ∨ ps j i = 110 ∧ i = 3)) ∨ (j = 19 ∧ i < 3 ∧ ps j i = 1 + i) := by
  by_cases q : j < 18
  · rw [sz_c q] at hi; exact Or.inl ⟨q, hi, ps_c q⟩
  · by_cases q2 : j = 18
    · subst q2; exact Or.inr (Or.inl ⟨rfl, ps_18 hi⟩)
    · have : j = 19 := by omega
      subst this; exact Or.inr (Or.inr ⟨rfl, hi, rfl⟩)
theorem ps_b {j i : Nat} (hj : j < 20) (hi : i < sz j) : ps j i < 475 := by
  rcases ps_all hj hi with ⟨h1, h2, h3⟩ | ⟨h1, h2⟩ | ⟨h1, h2, h3⟩
  · have := cp_b h1; omega
  · omega
  · omega
theorem ps_i {j i j' i' : Nat} (hj : j < 20) (hi : i < sz j) (hj' : j' < 20) (hi' : i' < sz j') (e : ps j i = ps j' i') : j = j' ∧ i = i' := by
  rcases ps_all hj hi with ⟨h1, h2, h3⟩ | ⟨h1, h2⟩ | ⟨h1, h2, h3⟩
  · have b := cp_b h1
    rcases ps_all hj' hi' with ⟨k1, k2, k3⟩ | ⟨k1, k2⟩ | ⟨k1, k2, k3⟩
    · rw [h3, k3] at e
      by_cases q : j < j'
      · have := cp_m q; omega
      · by_cases q2 : j' < j
        · have := cp_m q2; omega
        · have : j = j' := by omega
          subst this
          exact ⟨rfl, by omega⟩
    · omega
    · omega
  · rcases ps_all hj' hi' with ⟨k1, k2, k3⟩ | ⟨k1, k2⟩ | ⟨k1, k2, k3⟩
    · have b := cp_b k1; omega
    · omega
    · omega
  · rcases ps_all hj' hi' with ⟨k1, k2, k3⟩ | ⟨k1, k2⟩ | ⟨k1, k2, k3⟩
    · have b := cp_b k1; omega
    · omega
    · omega
theorem CalIn.cgA {w w2 : Wd} {A A' : Nat → Nat} {c : Cal} {L : Nat} (h : CalIn w A c L) (hA : ∀ i, i < 26 → A' i = A i) (hw : ∀ i, i < 26 → w2 (A i) = w (A i)) : CalIn w2 A' c L := by
  have h := h.cgr hw
  obtain ⟨e0, e1, e2, e3, e4, ⟨g5, e5, c5⟩, ⟨d0, d1, d2, d3, db⟩, es, b⟩ := h
  refine ⟨?_, ?_, ?_, ?_, ?_, ⟨g5, ?_, fun k hk => ?_⟩, ⟨?_, ?_, ?_, ?_, db⟩, fun k hk => ?_, b⟩
  · have : calF A' c = calF A c := by
      show [_, _, Value.ref (A' 1), Value.ref (A' 2), Value.ref (A' 3), Value.ref (A' 4), _, Value.ref (A' 5), Value.ref (A' 6), _, _, _, _] = _
      rw [hA 1 (by decide), hA 2 (by decide), hA 3 (by decide), hA 4 (by decide), hA 5 (by decide), hA 6 (by decide)]
    rw [hA 0 (by decide), this]; exact e0
  · rw [hA 1 (by decide)]; exact e1
  · rw [hA 2 (by decide)]; exact e2
  · rw [hA 3 (by decide)]; exact e3
  · rw [hA 4 (by decide)]; exact e4
  · rw [hA 5 (by decide)]; exact e5
  · rw [hA (10 + k) (by omega)]; exact c5 k hk
  · have : dskF (dA A') (cTs c).length = dskF (dA A) (cTs c).length := by
      show [Value.ref (A' 7), Value.ref (A' 8), Value.ref (A' 9), _] = _
      rw [hA 7 (by decide), hA 8 (by decide), hA 9 (by decide)]
    show w2 (A' 6) = _
    rw [hA 6 (by decide), this]; exact d0
  · show ∃ g, w2 (A' 7) = _ ∧ _
    rw [hA 7 (by decide)]; exact d1
  · show ∃ g, w2 (A' 8) = _ ∧ _
    rw [hA 8 (by decide)]; exact d2
  · show ∃ g, w2 (A' 9) = _ ∧ _
    rw [hA 9 (by decide)]; exact d3
  · rw [hA (10 + k) (by omega)]; exact es k hk
theorem TxIn.cgA {w w2 : Wd} {A A' : Nat → Nat} {t : Nat → Int32} {n : Nat} (h : TxIn w A t n) (hA : ∀ i, i < 3 → A' i = A i) (hw : ∀ i, i < 3 → w2 (A i) = w (A i)) : TxIn w2 A' t n := by
  obtain ⟨a, er, lt, nu, x0, x1, x2, xb⟩ := h
  refine ⟨a, er, lt, nu, ?_, ?_, ?_, xb⟩
  · have : txF A' n a er lt = txF A n a er lt := by
      show [Value.ref (A' 1), _, _, _, _, Value.ref (A' 2)] = _
      rw [hA 1 (by decide), hA 2 (by decide)]
    rw [hA 0 (by decide), this, hw 0 (by decide)]; exact x0
  · rw [hA 1 (by decide), hw 1 (by decide)]; exact x1
  · rw [hA 2 (by decide), hw 2 (by decide)]; exact x2
def IS (fr : Wd) (s : Nat) (n b : Nat) (F : List Value) (A : Nat → Nat) (w : Wd) : Prop := LayA fr n A w ∧ A 0 = s ∧ w s = some (.inl (4, F)) ∧ 4 ≤ n ∧ TxIn w (fun i => A (1 + i)) (fun _ => 0) 0 ∧ ∀ j, j < b → cp j + 26 ≤ n ∧ 4 ≤ cp j ∧ CalIn w (fun i => A (cp j + i)) calN 16
section IS
variable {fr w : Wd} {s n b : Nat} {F : List Value} {A : Nat → Nat}
/-- a place that is no calendar's and not the text's is written -/
theorem IS.put (h : IS fr s n b F A w) {m a : Nat} (hm : m < n) (hm4 : 4 ≤ m) (ea : A m = a) (hb : ∀ j, j < b → cp j + 26 ≤ m ∨ m < cp j) (e : PE) : IS fr s n b F A (wset w a e) := by
  obtain ⟨l, e0, o, h4, t, c⟩ := h
  subst ea
  refine ⟨l.set hm e, e0, wn (by rw [← e0]; exact l.ne (by omega) hm (by omega)) o, h4, t.cgA (fun i _ => rfl) (fun i hi => wset_ne _ _ (l.ne (by omega) hm (by omega))), fun j hj => ?_⟩
  have := hb j hj
  obtain ⟨c1, c2, c3⟩ := c j hj
  exact ⟨c1, c2, c3.cgA (fun i _ => rfl) (fun i hi => wset_ne _ _ (l.ne (by omega) hm (by omega)))⟩
theorem IS.obj (h : IS fr s n b F A w) (F2 : List Value) : IS fr s n b F2 A (wset w s (.inl (4, F2))) := by
  obtain ⟨l, e0, o, h4, t, c⟩ := h
  subst e0
  refine ⟨l.set (by omega) _, rfl, wset_eq _ _ _, h4, t.cgA (fun i _ => rfl) (fun i hi => wset_ne _ _ (l.ne (by omega) (by omega) (by omega))), fun j hj => ?_⟩
  obtain ⟨c1, c2, c3⟩ := c j hj
  exact ⟨c1, c2, c3.cgA (fun i _ => rfl) (fun i hi => wset_ne _ _ (l.ne (by omega) (by omega) (by omega)))⟩
theorem IS.blk (h : IS fr s n b F A w) {m : Nat} {E : Nat → Nat} {w2 : Wd} (hs : ∀ q e, w q = some e → w2 q = some e) (hn : ∀ j, j < m → w (E j) = none ∧ ∃ e, w2 (E j) = some e) (hi : ∀ i j, i < m → j < m → E i = E j → i = j) : IS fr s (n + m) b F (fun i => if i < n then A i else E (i - n)) w2 := by
  obtain ⟨l, e0, o, h4, t, c⟩ := h
  have kp : ∀ i, i < n → w2 (A i) = w (A i) := fun i hi => by
    obtain ⟨x, hx⟩ := (l.2.1 i hi).2
    rw [hx]; exact hs _ _ hx
  refine ⟨l.blk hs hn hi, (if_pos (by omega)).trans e0, hs _ _ o, by omega, t.cgA (fun i hi => if_pos (by omega)) (fun i hi => kp _ (by omega)), fun j hj => ?_⟩
  obtain ⟨c1, c2, c3⟩ := c j hj
  exact ⟨by omega, c2, c3.cgA (fun i hi => if_pos (by omega)) (fun i hi => kp _ (by omega))⟩
theorem IS.new (h : IS fr s n b F A w) {q : Nat} (hq : w q = none) (e : PE) : IS fr s (n + 1) b F (fun i => if i < n then A i else q) (wset w q e) :=
  h.blk (E := fun _ => q) (fun p x hx => wn (fr_ne hx hq) hx) (fun j _ => ⟨hq, e, wset_eq _ _ _⟩) (fun i j hi hj _ => by omega)
theorem IS.cal (h : IS fr s n b F A w) {E : Nat → Nat} {w2 : Wd} (hn : n = cp b) (hE : CalW w E calN 16 w2) : IS fr s (n + 26) (b + 1) F (fun i => if i < n then A i else E (i - n)) w2 := by
  obtain ⟨l, e0, o, h4, t, c⟩ := h.blk (m := 26) (E := E) hE.1 (fun j hj => ⟨hE.n hj, hE.i.ex hj⟩) hE.2.2.1
  refine ⟨l, e0, o, h4, t, fun j hj => ?_⟩
  by_cases q : j < b
  · exact c j q
  · have : j = b := by omega
    subst this
    have := h.2.2.2.1
    refine ⟨by omega, by omega, hE.i.cgA (fun i hi => ?_) (fun i hi => rfl)⟩
    show (if cp j + i < n then A (cp j + i) else E (cp j + i - n)) = E i
    rw [if_neg (by omega), hn, Nat.add_sub_cancel_left]
theorem IS.o (h : IS fr s n b F A w) : w s = some (.inl (4, F)) := h.2.2.1
theorem IS.kp (h : IS fr s n b F A w) {w2 : Wd} (hs : ∀ q e, w q = some e → w2 q = some e) {i : Nat} (hi : i < n) {x : PE} (hx : w (A i) = some x) : w2 (A i) = some x := hs _ _ hx
end IS
