/-! THE CLASS'S CALENDAR: sessions that move, come and go -/
theorem irow_inj {n : Nat} {g k : Nat → Int32} {x : Option PE} (h1 : x = some (irow n g)) (h2 : x = some (irow n k)) : g = k := by
  have := h1.symm.trans h2; injection this with this; injection this with this; injection this with _ this; injection this with _ this; injection this
theorem calF_len {A : Nat → Nat} {c : Cal} {ss : List Ss} (h : ss.length = (cSs c).length) : calF A (wSs c ss) = calF A c := by
  show [_, _, _, _, _, _, Value.int (nI ss.length), _, _, _, _, _, _] = _
  rw [h]; rfl
def odr (s : Ss) : Int32 := (sf s 1 * 17 + sf s 2) * 5 + sf s 0
def mvpTo (ss : List Ss) (o : Int32) : Nat → Nat
  | 0 => 0
  | p + 1 => if odr (sg ss p) ≤ o then p + 1 else mvpTo ss o p
def mvp (ss : List Ss) (k : Nat) : Nat := mvpTo ss (odr (sg ss k)) k
def mvd (ss : List Ss) (k : Nat) : List Ss := (ss.eraseIdx k).insertIdx (mvp ss k) (sg ss k)
theorem mvpTo_le (ss : List Ss) (o : Int32) : ∀ p, mvpTo ss o p ≤ p
  | 0 => Nat.le_refl _
  | p + 1 => by
    unfold mvpTo
    split
    · exact Nat.le_refl _
    · exact Nat.le_succ_of_le (mvpTo_le ss o p)
theorem mvd_len {ss : List Ss} {k : Nat} (hk : k < ss.length) : (mvd ss k).length = ss.length := by
  unfold mvd
  have h1 : (ss.eraseIdx k).length = ss.length - 1 := List.length_eraseIdx_of_lt hk
  have h2 := mvpTo_le ss (odr (sg ss k)) k
  have h3 : mvp ss k ≤ k := h2
  rw [List.length_insertIdx, if_pos (by omega)]
  omega
def sgm (p k j : Nat) : Nat := if j < p then j else if j = p then k else if j ≤ k then j - 1 else j
theorem mvd_sg {ss : List Ss} {k : Nat} (hk : k < ss.length) (j : Nat) : sg (mvd ss k) j = sg ss (sgm (mvp ss k) k j) := by
  have h1 : (ss.eraseIdx k).length = ss.length - 1 := List.length_eraseIdx_of_lt hk
  have h3 : mvp ss k ≤ k := mvpTo_le ss (odr (sg ss k)) k
  unfold mvd
  rw [sg_insert _ _ _ _ (by omega), sg_erase, sg_erase]
  unfold sgm
  by_cases q1 : j < mvp ss k
  · rw [if_pos q1, if_pos q1, if_pos (by omega)]
  · rw [if_neg q1, if_neg q1]
    by_cases q2 : j = mvp ss k
    · rw [if_pos q2, if_pos q2]
    · rw [if_neg q2, if_neg q2]
      by_cases q3 : j ≤ k
      · rw [if_pos q3, if_pos (by omega)]
      · rw [if_neg q3, if_neg (by omega), show j - 1 + 1 = j by omega]
section MV
variable {G : GG} {l : Launch} {fr w : Wd} {A : Nat → Nat} {c : Cal} {L : Nat}
theorem c_moveForward {k : Nat} {Q : Int32 → Wd → Prop} (h : CalW fr A c L w) (hk : k < (cSs c).length) (hq : ∀ A' w2, A' 0 = A 0 → CalW fr A' (wSs c (mvd (cSs c) k)) L w2 → (∀ q, q ≠ A 0 → q ≠ A 5 → w2 q = w q) → Q (nI (mvp (cSs c) k)) w2) : CX0_moveForward G l [.ref (A 0), .int (nI k)] w Q := by
  have b := h.i.b1
  obtain ⟨g, eg, hg⟩ := h.i.sa
  have n05 : A 0 ≠ A 5 := h.ne (by decide) (by decide) (by decide)
  have ns5 : ∀ {j : Nat}, j < 16 → A (10 + j) ≠ A 5 := fun hj => h.ne (by omega) (by decide) (by omega)
  have ek : g (nI k).toNatClampNeg = some (A (10 + k)) := by rw [nI_clamp (by omega)]; exact hg k (by omega)
  refine sX0_moveForward (bX0_moveForward_0 h.i.o rfl eg (ix_of rfl (by omega) (by omega)) ek ?_)
  have fin : ∀ p, p ≤ k → p = mvp (cSs c) k → ∀ gq : Nat → Option Nat, (∀ j, j < 16 → gq j = some (A (10 + (if p < j ∧ j ≤ k then j - 1 else j)))) → KX0_moveForward G l w (ZI G 0 0 w Q) (wset w (A 5) (qrow 4 16 gq)) 51 [(0, .ref (A 0)), (2, .ref (A (10 + k))), (3, .int (nI p))] [] := by
    intro p hpk hp gq hgq
    refine bX0_moveForward_51 (wn n05 h.i.o) rfl (wset_eq _ _ _) (ix_of rfl (by omega) (by omega)) (wn (ns5 (by omega)) (h.i.se hk)) ?_
    rw [nI_clamp (by omega), wset_wset]
    have hsl : ∀ j, j < 16 → sgm p k j < 16 := fun j hj => by unfold sgm; split <;> (try split) <;> (try split) <;> omega
    have hl := mvd_len hk
    rw [hp]
    rw [hp] at hsl hgq
    have hpk2 : mvp (cSs c) k ≤ k := by omega
    refine hq (fun i => if i < 10 then A i else A (10 + sgm (mvp (cSs c) k) k (i - 10))) _ rfl ?_ (fun q _ h5 => wset_ne _ _ h5)
    have ea : ∀ j, (if 10 + j < 10 then A (10 + j) else A (10 + sgm (mvp (cSs c) k) k (10 + j - 10))) = A (10 + sgm (mvp (cSs c) k) k j) := fun j => by rw [if_neg (by omega), show 10 + j - 10 = j by omega]
    refine h.arr (by rw [calF_len hl]; exact wn n05 h.i.o) (wset_eq _ _ _) (fun q _ h5 => wset_ne _ _ h5) (fun i hi => if_pos hi) (fun j hj => ⟨_, hsl j hj, ea j⟩) (fun j1 j2 h1 h2 e => ?_) (fun j hj => ?_) (by omega) (fun j hj => ?_)
    · rw [ea, ea] at e
      have e := h.2.2.1 _ _ (by have := hsl j1 h1; omega) (by have := hsl j2 h2; omega) e
      have e : sgm (mvp (cSs c) k) k j1 = sgm (mvp (cSs c) k) k j2 := by omega
      unfold sgm at e
      generalize mvp (cSs c) k = P at *
      by_cases a1 : j1 < P
      · rw [if_pos a1] at e
        by_cases a2 : j2 < P
        · rw [if_pos a2] at e; exact e
        · rw [if_neg a2] at e; split at e <;> (try split at e) <;> omega
      · rw [if_neg a1] at e
        by_cases a2 : j2 < P
        · rw [if_pos a2] at e; split at e <;> (try split at e) <;> omega
        · rw [if_neg a2] at e; split at e <;> (try split at e) <;> (try split at e) <;> (try split at e) <;> omega
    · rw [ea]
      show va_up gq (mvp (cSs c) k) (some (A (10 + k))) j = _
      unfold va_up sgm
      by_cases q1 : j = mvp (cSs c) k
      · rw [if_pos q1, if_neg (by omega), if_pos q1]
      · rw [if_neg q1, hgq j hj]
        by_cases q2 : j < mvp (cSs c) k
        · rw [if_pos q2, if_neg (by omega)]
        · rw [if_neg q2, if_neg q1]
          by_cases q3 : j ≤ k
          · rw [if_pos q3, if_pos (by omega)]
          · rw [if_neg q3, if_neg (by omega)]
    · rw [ea, mvd_sg hk]
      refine h.i.se ?_
      unfold sgm
      split <;> (try split) <;> (try split) <;> omega
  have key : ∀ p, p ≤ k → mvpTo (cSs c) (odr (sg (cSs c) k)) p = mvp (cSs c) k → ∀ gq : Nat → Option Nat, (∀ j, j < 16 → gq j = some (A (10 + (if p < j ∧ j ≤ k then j - 1 else j)))) → KX0_moveForward G l w (ZI G 0 0 w Q) (wset w (A 5) (qrow 4 16 gq)) 9 [(0, .ref (A 0)), (2, .ref (A (10 + k))), (3, .int (nI p))] [] := by
    intro p
    induction p with
    | zero =>
      intro _ hp gq hgq
      exact bX0_moveForward_9 (fun _ => fin 0 (Nat.zero_le _) hp gq hgq) (fun z => absurd (by decide) z)
    | succ p ih =>
      intro hpk hp gq hgq
      have e4 : gq (nI (p + 1) - 1).toNatClampNeg = some (A (10 + p)) := by
        rw [nI_pred, nI_clamp (by omega), hgq p (by omega), if_neg (by omega)]
      have ix1 : vp_in (nI (p + 1) - 1) 16 := by rw [nI_pred]; exact ix_of rfl (by omega) (by omega)
      refine bX0_moveForward_9 (fun z => absurd z (nI_nle (by omega) (by omega))) (fun _ => ?_)
      refine bX0_moveForward_13 (wn n05 h.i.o) rfl (wset_eq _ _ _) ix1 e4 (wn (ns5 (by omega)) (h.i.se (by omega))) (c_order (Q := fun r w2 => odr (sg (cSs c) p) = r ∧ wset w (A 5) (qrow 4 16 gq) = w2) (wn (ns5 (by omega)) (h.i.se (by omega))) ⟨rfl, rfl⟩) (fun r w2 hr => ?_)
      obtain ⟨rfl, rfl⟩ := hr
      refine bX0_moveForward_24 (wn (ns5 (by omega)) (h.i.se hk)) (c_order (Q := fun r w2 => odr (sg (cSs c) k) = r ∧ wset w (A 5) (qrow 4 16 gq) = w2) (wn (ns5 (by omega)) (h.i.se hk)) ⟨rfl, rfl⟩) (fun r w2 hr => ?_)
      obtain ⟨rfl, rfl⟩ := hr
      refine bX0_moveForward_28 (fun z => ?_) (fun z => ?_)
      · rw [mvpTo, if_pos z] at hp
        exact fin (p + 1) hpk hp gq hgq
      · rw [mvpTo, if_neg z] at hp
        refine bX0_moveForward_31 (wn n05 h.i.o) rfl (wset_eq _ _ _) ix1 e4 (ix_of rfl (by omega) (by omega)) (wn (ns5 (by omega)) (h.i.se (by omega))) ?_
        have em : nI (p + 1) + (-1) = nI p := by
          have := nI_pred p
          rw [← this, Int32.sub_eq_add_neg]
        rw [em, nI_clamp (by omega), wset_wset]
        refine ih (by omega) hp _ (fun j hj => ?_)
        show va_up gq (p + 1) (some (A (10 + p))) j = _
        unfold va_up
        by_cases q1 : j = p + 1
        · rw [if_pos q1, if_pos (by omega), q1]; rfl
        · rw [if_neg q1, hgq j hj]
          by_cases q2 : p + 1 < j ∧ j ≤ k
          · rw [if_pos q2, if_pos (by omega)]
          · rw [if_neg q2, if_neg (by omega)]
  have := key k (Nat.le_refl _) rfl g (fun j hj => by rw [if_neg (by omega)]; exact hg j hj)
  rw [wset_self w (A 5) _ eg] at this
  exact this
def sgr (n k j : Nat) : Nat := if j < k then j else if j + 1 < n then j + 1 else if j + 1 = n then k else j
theorem c_removeSession {k : Nat} {Q : Wd → Prop} (h : CalW fr A c L w) (hk : k < (cSs c).length) (hq : ∀ A' w2, A' 0 = A 0 → CalW fr A' (delS c k) L w2 → (∀ q, q ≠ A 0 → q ≠ A 5 → w2 q = w q) → Q w2) : CX0_removeSession G l [.ref (A 0), .int (nI k)] w Q := by
  have b := h.i.b1
  obtain ⟨g, eg, hg⟩ := h.i.sa
  have n05 : A 0 ≠ A 5 := h.ne (by decide) (by decide) (by decide)
  have ns5 : ∀ {j : Nat}, j < 16 → A (10 + j) ≠ A 5 := fun hj => h.ne (by omega) (by decide) (by omega)
  have ns0 : ∀ {j : Nat}, j < 16 → A (10 + j) ≠ A 0 := fun hj => h.ne (by omega) (by decide) (by omega)
  have ek : g (nI k).toNatClampNeg = some (A (10 + k)) := by rw [nI_clamp (by omega)]; exact hg k (by omega)
  refine sX0_removeSession (bX0_removeSession_0 h.i.o rfl eg (ix_of rfl (by omega) (by omega)) ek ?_)
  have fin : ∀ gq : Nat → Option Nat, (∀ j, j < 16 → gq j = some (A (10 + (if k ≤ j ∧ j + 1 < (cSs c).length then j + 1 else j)))) → KX0_removeSession G l w (ZV G 0 0 w Q) (wset w (A 5) (qrow 4 16 gq)) 39 [(0, .ref (A 0)), (2, .ref (A (10 + k)))] [] := by
    intro gq hgq
    have el : (cSs (delS c k)).length = (cSs c).length - 1 := List.length_eraseIdx_of_lt hk
    have er : nI (cSs c).length - 1 = nI ((cSs c).length - 1) := nI_sub1 (by omega)
    refine bX0_removeSession_39 (f3 := calF A (wSs c ((cSs c).eraseIdx k))) (wn n05 h.i.o) rfl (cal_l (by decide)) (by
      rw [er, ← el]; rfl) rfl rfl (wn n05.symm (wset_eq _ _ _)) (ix_of (n := (cSs c).length - 1) (by rw [← el]; rfl) (by omega) (by omega)) (wn (ns0 (by omega)) (wn (ns5 (by omega)) (h.i.se hk))) ?_
    have hsl : ∀ j, j < 16 → sgr (cSs c).length k j < 16 := fun j hj => by unfold sgr; split <;> (try split) <;> (try split) <;> omega
    have ecl : (nI (cSs (wSs c ((cSs c).eraseIdx k))).length).toNatClampNeg = (cSs c).length - 1 := by
      have : (cSs (wSs c ((cSs c).eraseIdx k))).length = (cSs c).length - 1 := el
      rw [this, nI_clamp (by omega)]
    rw [ecl]
    have ea : ∀ j, (if 10 + j < 10 then A (10 + j) else A (10 + sgr (cSs c).length k (10 + j - 10))) = A (10 + sgr (cSs c).length k j) := fun j => by rw [if_neg (by omega), show 10 + j - 10 = j by omega]
    have keep : ∀ q, q ≠ A 0 → q ≠ A 5 → wset (wset (wset w (A 5) (qrow 4 16 gq)) (A 0) (.inl (0, calF A (wSs c ((cSs c).eraseIdx k))))) (A 5) (qrow 4 16 (va_up gq ((cSs c).length - 1) (some (A (10 + k))))) q = w q := fun q h0 h5 => wn h5 (wn h0 (wset_ne _ _ h5))
    refine hq (fun i => if i < 10 then A i else A (10 + sgr (cSs c).length k (i - 10))) _ rfl ?_ keep
    refine h.arr (ss := (cSs c).eraseIdx k) (wn n05 (wset_eq _ _ _)) (wset_eq _ _ _) keep (fun i hi => if_pos hi) (fun j hj => ⟨_, hsl j hj, ea j⟩) (fun j1 j2 h1 h2 e => ?_) (fun j hj => ?_) (by show (cSs (delS c k)).length ≤ 16; omega) (fun j hj => ?_)
    · rw [ea, ea] at e
      have e := h.2.2.1 _ _ (by have := hsl j1 h1; omega) (by have := hsl j2 h2; omega) e
      have e : sgr (cSs c).length k j1 = sgr (cSs c).length k j2 := by omega
      unfold sgr at e
      generalize (cSs c).length = P at *
      by_cases a1 : j1 < k
      · rw [if_pos a1] at e
        by_cases a2 : j2 < k
        · rw [if_pos a2] at e; exact e
        · rw [if_neg a2] at e; split at e <;> (try split at e) <;> omega
      · rw [if_neg a1] at e
        by_cases a2 : j2 < k
        · rw [if_pos a2] at e; split at e <;> (try split at e) <;> omega
        · rw [if_neg a2] at e; split at e <;> (try split at e) <;> (try split at e) <;> (try split at e) <;> omega
    · rw [ea]
      show va_up gq ((cSs c).length - 1) (some (A (10 + k))) j = _
      unfold va_up sgr
      by_cases q1 : j = (cSs c).length - 1
      · rw [if_pos q1, if_neg (by omega), if_neg (by omega), if_pos (by omega)]
      · rw [if_neg q1, hgq j hj]
        by_cases q2 : j < k
        · rw [if_pos q2, if_neg (by omega)]
        · rw [if_neg q2]
          by_cases q3 : j + 1 < (cSs c).length
          · rw [if_pos q3, if_pos (by omega)]
          · rw [if_neg q3, if_neg (by omega), if_neg (by omega)]
    · have hj2 : j < (cSs c).length - 1 := by rw [← el]; exact hj
      rw [ea, sg_erase]
      unfold sgr
      by_cases q2 : j < k
      · rw [if_pos q2, if_pos q2]; exact h.i.se (by omega)
      · rw [if_neg q2, if_neg q2, if_pos (by omega)]; exact h.i.se (by omega)
  have key : ∀ d i, i + d + 1 = (cSs c).length → k ≤ i → ∀ gq : Nat → Option Nat, (∀ j, j < 16 → gq j = some (A (10 + (if k ≤ j ∧ j < i then j + 1 else j)))) → KX0_removeSession G l w (ZV G 0 0 w Q) (wset w (A 5) (qrow 4 16 gq)) 11 [(0, .ref (A 0)), (2, .ref (A (10 + k))), (3, .int (nI (i + 1)))] [] := by
    intro d
    induction d with
    | zero =>
      intro i hi hki gq hgq
      refine bX0_removeSession_11 (wn n05 h.i.o) rfl (fun _ => fin gq (fun j hj => ?_)) (fun z => absurd (nI_le (by omega) (by omega)) z)
      rw [hgq j hj]
      by_cases q : k ≤ j ∧ j < i
      · rw [if_pos q, if_pos (by omega)]
      · rw [if_neg q, if_neg (by omega)]
    | succ d ih =>
      intro i hi hki gq hgq
      have e4 : gq (nI (i + 1)).toNatClampNeg = some (A (10 + (i + 1))) := by rw [nI_clamp (by omega), hgq _ (by omega), if_neg (by omega)]
      refine bX0_removeSession_11 (wn n05 h.i.o) rfl (fun z => absurd z (nI_ge (by omega) (by omega))) (fun _ => ?_)
      refine bX0_removeSession_19 (wn n05 h.i.o) rfl (wset_eq _ _ _) (ix_of rfl (by omega) (by omega)) e4 (by rw [nI_pred]; exact ix_of rfl (by omega) (by omega)) (wn (ns5 (by omega)) (h.i.se (by omega))) ?_
      rw [nI_1, nI_pred, nI_clamp (by omega), wset_wset]
      refine ih (i + 1) (by omega) (by omega) _ (fun j hj => ?_)
      show va_up gq i (some (A (10 + (i + 1)))) j = _
      unfold va_up
      by_cases q1 : j = i
      · rw [if_pos q1, if_pos (by omega), q1]
      · rw [if_neg q1, hgq j hj]
        by_cases q2 : k ≤ j ∧ j < i
        · rw [if_pos q2, if_pos (by omega)]
        · rw [if_neg q2, if_neg (by omega)]
  have := key ((cSs c).length - k - 1) k (by omega) (Nat.le_refl _) g (fun j hj => by rw [if_neg (by omega)]; exact hg j hj)
  rw [wset_self w (A 5) _ eg] at this
  rw [nI_1]; exact this
end MV
