/-! THE MODEL: a session comes in its place; copies -/
theorem gS_ext {a b : Ss} (h : ∀ j, j < 6 → sf a j = sf b j) : a = b := by
  obtain ⟨a0, a1, a2, a3, a4, a5⟩ := a
  obtain ⟨b0, b1, b2, b3, b4, b5⟩ := b
  have h0 := h 0 (by decide)
  have h1 := h 1 (by decide)
  have h2 := h 2 (by decide)
  have h3 := h 3 (by decide)
  have h4 := h 4 (by decide)
  have h5 := h 5 (by decide)
  simp only [sf] at h0 h1 h2 h3 h4 h5
  rw [h0, h1, h2, h3, h4, h5]
theorem sf_sfset (s : Ss) {j i : Nat} (v : Int32) (hj : j < 6) (hi : i < 6) : sf (sfset s j v) i = if i = j then v else sf s i := by
  match j, hj with
  | 0, _ => match i, hi with
    | 0, _ => rfl
    | 1, _ => rfl
    | 2, _ => rfl
    | 3, _ => rfl
    | 4, _ => rfl
    | 5, _ => rfl
  | 1, _ => match i, hi with
    | 0, _ => rfl
    | 1, _ => rfl
    | 2, _ => rfl
    | 3, _ => rfl
    | 4, _ => rfl
    | 5, _ => rfl
  | 2, _ => match i, hi with
    | 0, _ => rfl
    | 1, _ => rfl
    | 2, _ => rfl
    | 3, _ => rfl
    | 4, _ => rfl
    | 5, _ => rfl
  | 3, _ => match i, hi with
    | 0, _ => rfl
    | 1, _ => rfl
    | 2, _ => rfl
    | 3, _ => rfl
    | 4, _ => rfl
    | 5, _ => rfl
  | 4, _ => match i, hi with
    | 0, _ => rfl
    | 1, _ => rfl
    | 2, _ => rfl
    | 3, _ => rfl
    | 4, _ => rfl
    | 5, _ => rfl
  | 5, _ => match i, hi with
    | 0, _ => rfl
    | 1, _ => rfl
    | 2, _ => rfl
    | 3, _ => rfl
    | 4, _ => rfl
    | 5, _ => rfl
/-- rows of sessions where the place p is open: those ahead of it as before, those behind it one further -/
def Opn (g g1 : Nat → Int32) (n p : Nat) : Prop := (∀ j, j < p → gS g1 j = gS g j) ∧ (∀ j, p ≤ j → j < n → gS g1 (j + 1) = gS g j) ∧ ∀ a, a < 31 ∨ 127 ≤ a → g1 a = g a
theorem insTo_same (ss ss2 : List Ss) (d f r : Int32) (n : Nat) (h : ∀ j, j < n → sg ss j = sg ss2 j) : insTo ss d f r n = insTo ss2 d f r n := by
  induction n with
  | zero => rfl
  | succ n ih =>
    unfold insTo
    rw [h n (Nat.lt_succ_self _), ih (fun j hj => h j (Nat.lt_succ_of_lt hj))]
theorem MRep.ins {g g1 : Nat → Int32} {c : Cal} {p : Nat} {s : Ss} (h : MRep g c) (hn : (cSs c).length < 16) (hp : p ≤ (cSs c).length) (ho : Opn g g1 (cSs c).length p) (hs : gS g1 p = s) : MRep (upd g1 1 (nI (cSs c).length + 1)) (c.1, c.2.1, (cSs c).insertIdx p s, c.2.2.2) := by
  obtain ⟨h0, h1, h2, h3, h4, h5, h6, b0, b1, b2⟩ := h
  obtain ⟨o1, o2, o3⟩ := ho
  have hlen : (cSs (c.1, c.2.1, (cSs c).insertIdx p s, c.2.2.2)).length = (cSs c).length + 1 := by
    show ((cSs c).insertIdx p s).length = _
    rw [List.length_insertIdx, if_pos hp]
  have lo : ∀ a, (a < 31 ∨ 127 ≤ a) → a ≠ 1 → upd g1 1 (nI (cSs c).length + 1) a = g a := fun a ha h1 => by
    rw [upd_ne _ _ h1]; exact o3 a ha
  refine ⟨by rw [lo _ (by omega) (by omega)]; exact h0, by rw [upd_eq, hlen, nI_1], by rw [lo _ (by omega) (by omega)]; exact h2, fun j j1 j2 => by rw [lo _ (by omega) (by omega)]; exact h3 j j1 j2, fun j hj => ?_, fun j hj => ?_, fun j hj => ?_, b0, by rw [hlen]; omega, b2⟩
  · have hj' : j < (cPs c).length := hj
    refine Eq.trans ?_ (h4 j hj')
    unfold gP
    rw [lo _ (by omega) (by omega), lo _ (by omega) (by omega), lo _ (by omega) (by omega)]
  · rw [hlen] at hj
    show _ = sg ((cSs c).insertIdx p s) j
    rw [sg_insert _ _ _ _ hp, gS_ne (by omega)]
    by_cases e : j < p
    · rw [if_pos e, o1 j e]; exact h5 j (by omega)
    · rw [if_neg e]
      by_cases e2 : j = p
      · rw [if_pos e2, e2]; exact hs
      · rw [if_neg e2]
        obtain ⟨i, rfl⟩ : ∃ i, j = i + 1 := ⟨j - 1, by omega⟩
        rw [o2 i (by omega) (by omega), h5 i (by omega)]
        rfl
  · have hj' : j < (cTs c).length := hj
    refine Eq.trans ?_ (h6 j hj')
    unfold gT
    rw [lo _ (by omega) (by omega), lo _ (by omega) (by omega), lo _ (by omega) (by omega)]
section M7
variable {G : GG} {l : Launch} {w : Wd} {r : Nat} {g : Nat → Int32} {c : Cal}
theorem c_insert {x1 x2 x3 x4 x5 x6 : Int32} {Q : Int32 → Wd → Prop} (hr : w r = some (irow 2047 g)) (hc : MRep g c) (hn : (cSs c).length < 16) (hq : ∀ g2, MRep g2 (insS c (x1, x2, x3, x4, x5, x6)) → Q (nI (insP (cSs c) (x1, x2, x3, x4, x5, x6))) (wset w r (irow 2047 g2))) : CX6_insert G l [.ref r, .int x1, .int x2, .int x3, .int x4, .int x5, .int x6] w Q := by
  refine sX6_insert (bX6_insert_0 hr (vlit rfl) ?_)
  rw [hc.n1]
  -- laying the six numbers at p
  have fin : ∀ p g1, p ≤ (cSs c).length → p = insP (cSs c) (x1, x2, x3, x4, x5, x6) → Opn g g1 (cSs c).length p → KX6_insert G l w (ZI G 0 0 w Q) (wset w r (irow 2047 g1)) 64 [(0, .ref r), (1, .int x1), (2, .int x2), (3, .int x3), (4, .int x4), (5, .int x5), (6, .int x6), (7, .int (nI p))] [] := by
    intro p g1 hp hpe ho
    refine bX6_insert_64 (c_lay wr_r rfl (j := 0) rfl (by omega) (by decide) ?_) (fun _ h => h)
    rw [wset_wset]
    refine bX6_insert_72 (c_lay wr_r rfl (j := 1) rfl (by omega) (by decide) ?_) (fun _ h => h)
    rw [wset_wset]
    refine bX6_insert_80 (c_lay wr_r rfl (j := 2) rfl (by omega) (by decide) ?_) (fun _ h => h)
    rw [wset_wset]
    refine bX6_insert_88 (c_lay wr_r rfl (j := 3) rfl (by omega) (by decide) ?_) (fun _ h => h)
    rw [wset_wset]
    refine bX6_insert_97 (c_lay wr_r rfl (j := 4) rfl (by omega) (by decide) ?_) (fun _ h => h)
    rw [wset_wset]
    refine bX6_insert_106 (c_lay wr_r rfl (j := 5) rfl (by omega) (by decide) ?_) (fun _ h => h)
    rw [wset_wset]
    refine bX6_insert_115 wr_r (vlit rfl) (vlit rfl) ?_
    rw [wset_wset, show (1 : Int32).toNatClampNeg = 1 from rfl]
    obtain ⟨o1, o2, o3⟩ := ho
    rw [upd_ne _ _ (by omega), upd_ne _ _ (by omega), upd_ne _ _ (by omega), upd_ne _ _ (by omega), upd_ne _ _ (by omega), upd_ne _ _ (by omega), o3 1 (by omega), hc.2.1]
    rw [hpe]
    refine hq _ ?_
    unfold insS
    rw [← hpe]
    refine hc.ins hn hp ⟨fun j hj => ?_, fun j h1 h2 => ?_, fun a ha => ?_⟩ ?_
    · rw [gS_ne (by omega), gS_ne (by omega), gS_ne (by omega), gS_ne (by omega), gS_ne (by omega), gS_ne (by omega)]; exact o1 j hj
    · rw [gS_ne (by omega), gS_ne (by omega), gS_ne (by omega), gS_ne (by omega), gS_ne (by omega), gS_ne (by omega)]; exact o2 j h1 h2
    · rw [upd_ne _ _ (by omega), upd_ne _ _ (by omega), upd_ne _ _ (by omega), upd_ne _ _ (by omega), upd_ne _ _ (by omega), upd_ne _ _ (by omega)]; exact o3 a ha
    · rw [gS_eq (by decide), gS_eq (by decide), gS_eq (by decide), gS_eq (by decide), gS_eq (by decide), gS_eq (by decide)]; rfl
  have key : ∀ p, p ≤ (cSs c).length → ∀ g1, insTo (cSs c) x2 x3 x1 p = insP (cSs c) (x1, x2, x3, x4, x5, x6) → Opn g g1 (cSs c).length p → KX6_insert G l w (ZI G 0 0 w Q) (wset w r (irow 2047 g1)) 5 [(0, .ref r), (1, .int x1), (2, .int x2), (3, .int x3), (4, .int x4), (5, .int x5), (6, .int x6), (7, .int (nI p))] [] := by
    intro p
    induction p with
    | zero =>
      intro hp g1 hi ho
      exact bX6_insert_5 (fun _ => fin 0 g1 hp hi ho) (fun h => absurd (by decide) h)
    | succ p ih =>
      intro hp g1 hi ho
      refine bX6_insert_5 (fun h => absurd h (nI_nle (by omega) (by omega))) (fun _ => ?_)
      have ep : nI (p + 1) - 1 = nI p := nI_pred p
      have hS : gS g1 p = sg (cSs c) p := by rw [ho.1 p (by omega)]; exact hc.S (by omega)
      refine bX6_insert_10 (c_isAhead wr_r ep (by omega) ?_) (fun _ _ h => h)
      rw [hS]
      unfold insTo at hi
      refine bX6_insert_21 (fun h => ?_) (fun h => ?_)
      · rw [bI_n0] at h
        rw [if_pos h] at hi
        exact fin (p + 1) g1 hp hi ho
      · rw [bI_0] at h
        rw [if_neg (by rw [h]; decide)] at hi
        refine bX6_insert_24 ?_
        have inn : ∀ t, t ≤ 6 → ∀ g2, (∀ j, j < t → sf (gS g2 (p + 1)) j = sf (gS g p) j) → (∀ j, j ≠ p + 1 → gS g2 j = gS g1 j) → (∀ a, a < 31 ∨ 127 ≤ a → g2 a = g a) → KX6_insert G l w (ZI G 0 0 w Q) (wset w r (irow 2047 g2)) 27 [(0, .ref r), (1, .int x1), (2, .int x2), (3, .int x3), (4, .int x4), (5, .int x5), (6, .int x6), (7, .int (nI (p + 1))), (8, .int (nI t))] [] := by
          refine upto (P := fun t => ∀ g2, (∀ j, j < t → sf (gS g2 (p + 1)) j = sf (gS g p) j) → (∀ j, j ≠ p + 1 → gS g2 j = gS g1 j) → (∀ a, a < 31 ∨ 127 ≤ a → g2 a = g a) → KX6_insert G l w (ZI G 0 0 w Q) (wset w r (irow 2047 g2)) 27 [(0, .ref r), (1, .int x1), (2, .int x2), (3, .int x3), (4, .int x4), (5, .int x5), (6, .int x6), (7, .int (nI (p + 1))), (8, .int (nI t))] []) (N := 6) (fun g2 q1 q2 q3 => ?_) (fun t ht ih2 g2 q1 q2 q3 => ?_)
          · refine bX6_insert_27 (fun _ => ?_) (fun h => absurd (by decide) h)
            refine bX6_insert_58 ?_
            rw [show nI (p + 1) + -1 = nI p from pk_m1 p]
            refine ih (by omega) g2 hi ⟨fun j hj => by rw [q2 j (by omega)]; exact ho.1 j (by omega), fun j j1 j2 => ?_, q3⟩
            by_cases e : j = p
            · subst e; exact gS_ext q1
            · rw [q2 _ (by omega)]; exact ho.2.1 j (by omega) j2
          · refine bX6_insert_27 (fun h => absurd h (nI_ge (b := 6) ht (by omega))) (fun _ => ?_)
            refine bX6_insert_34 (c_of wr_r ep rfl (by omega) ht ?_) (fun _ _ h => h)
            rw [q2 p (by omega), ho.1 p (by omega)]
            refine bX6_insert_49 (c_lay wr_r rfl rfl (by omega) ht ?_) (fun _ h => h)
            rw [wset_wset]
            refine bX6_insert_52 ?_
            rw [nI_1]
            refine ih2 _ (fun j hj => ?_) (fun j hj => ?_) (fun a ha => ?_)
            · rw [gS_eq ht, sf_sfset _ _ ht (by omega)]
              by_cases e : j = t
              · rw [if_pos e, e]
              · rw [if_neg e]; exact q1 j (by omega)
            · rw [gS_ne (by omega)]; exact q2 j hj
            · rw [upd_ne _ _ (by omega)]; exact q3 a ha
        exact inn 0 (Nat.zero_le _) g1 (fun j h => absurd h (Nat.not_lt_zero _)) (fun _ _ => rfl) ho.2.2
  have := key (cSs c).length (Nat.le_refl _) g rfl ⟨fun _ _ => rfl, fun j h1 h2 => absurd h2 (by omega), fun _ _ => rfl⟩
  rw [wset_self w r _ hr] at this
  exact this
/-- one row copied into another -/
def cpyR (f g : Nat → Int32) (fa ta n : Nat) : Nat → Int32 := fun a => if ta ≤ a ∧ a < ta + n then f (fa + (a - ta)) else g a
theorem cpyR_0 (f g : Nat → Int32) (fa ta : Nat) : cpyR f g fa ta 0 = g := by
  funext a; unfold cpyR; rw [if_neg (by omega)]
theorem cpyR_1 (f g : Nat → Int32) (fa ta n : Nat) : upd (cpyR f g fa ta n) (ta + n) (f (fa + n)) = cpyR f g fa ta (n + 1) := by
  funext a
  unfold upd cpyR
  by_cases e : a = ta + n
  · subst e; rw [if_pos rfl, if_pos (by omega)]; congr 1; omega
  · rw [if_neg e]
    by_cases e2 : ta ≤ a ∧ a < ta + n
    · rw [if_pos e2, if_pos (by omega)]
    · rw [if_neg e2, if_neg (by omega)]
theorem c_copyState {rf : Nat} {f : Nat → Int32} {Nf Nt fa ta n : Nat} {x1 x3 : Int32} {Q : Wd → Prop} (hf : w rf = some (irow Nf f)) (hr : w r = some (irow Nt g)) (hne : rf ≠ r ∨ (f = g ∧ (ta + 2047 ≤ fa ∨ fa + 2047 ≤ ta))) (h1 : x1 = nI fa) (h3 : x3 = nI ta) (hN1 : fa + 2047 ≤ Nf) (hN2 : ta + 2047 ≤ Nt) (hNf : Nf < 2 ^ 31) (hNt : Nt < 2 ^ 31) (hn : f (fa + 2) = nI n) (hn2 : n ≤ 640) (hq : Q (wset w r (irow Nt (cpyR f g fa ta (127 + 3 * n))))) : CX6_copyState G l [.ref rf, .int x1, .ref r, .int x3] w Q := by
  subst h1; subst h3
  have e2 : nI fa + 2 = nI (fa + 2) := by rw [show (2 : Int32) = nI 2 from rfl, nI_add]
  refine sX6_copyState (bX6_copyState_0 hf (ix_of e2 (by omega) (by omega)) ?_)
  rw [cl_of e2 (by omega), hn, show (127 : Int32) = nI 127 from rfl, show (3 : Int32) = nI 3 from rfl, nI_mul, nI_add]
  have key : ∀ i, i ≤ 127 + 3 * n → KX6_copyState G l w (ZV G 0 0 w Q) (wset w r (irow Nt (cpyR f g fa ta i))) 15 [(0, .ref rf), (1, .int (nI fa)), (2, .ref r), (3, .int (nI ta)), (4, .int (nI (127 + 3 * n))), (5, .int (nI i))] [] := by
    refine upto (P := fun i => KX6_copyState G l w (ZV G 0 0 w Q) (wset w r (irow Nt (cpyR f g fa ta i))) 15 [(0, .ref rf), (1, .int (nI fa)), (2, .ref r), (3, .int (nI ta)), (4, .int (nI (127 + 3 * n))), (5, .int (nI i))] []) (N := 127 + 3 * n) ?_ (fun i hi ih => ?_)
    · exact bX6_copyState_15 (fun _ => bX6_copyState_40 hq) (fun h => absurd (nI_le (Nat.le_refl _) (by omega)) h)
    · refine bX6_copyState_15 (fun h => absurd h (nI_ge hi (by omega))) (fun _ => ?_)
      obtain ⟨f1, hf1, hv⟩ : ∃ f1, (wset w r (irow Nt (cpyR f g fa ta i))) rf = some (irow Nf f1) ∧ f1 (fa + i) = f (fa + i) := by
        by_cases e : rf = r
        · subst e
          rcases hne with q | ⟨q1, q2⟩
          · exact absurd rfl q
          · have : Nf = Nt := by
              have := hf.symm.trans hr
              injection this with this
              injection this with this
              injection this with _ this
              injection this
            subst this
            refine ⟨_, wr_r, ?_⟩
            unfold cpyR
            rw [if_neg (by omega), q1]
        · exact ⟨f, by rw [wset_ne _ _ e]; exact hf, rfl⟩
      have q1 : nI fa + nI i = nI (fa + i) := nI_add _ _
      have q2 : nI ta + nI i = nI (ta + i) := nI_add _ _
      refine bX6_copyState_22 hf1 (ix_of q1 (by omega) (by omega)) wr_r (ix_of q2 (by omega) (by omega)) ?_
      rw [wset_wset, cl_of q1 (by omega), cl_of q2 (by omega), hv, cpyR_1, nI_1]
      exact ih
  have := key 0 (Nat.zero_le _)
  rw [cpyR_0, wset_self w r _ hr] at this
  exact this
/-- the row of a new object -/
def calN : Cal := (fun i => if i = 9 then 6 else if i = 10 then 10 else if i = 11 then 2 else if i = 12 then 5 else 0, [], [], [])
theorem c_begin {Q : Wd → Prop} (hr : w r = some (irow 2047 g)) (hq : ∀ g2, MRep g2 calN → Q (wset w r (irow 2047 g2))) : CX6_begin G l [.ref r] w Q := by
  refine sX6_begin (bX6_begin_0 ?_)
  have key : ∀ i, i ≤ 127 → ∀ g1, (∀ a, a < i → g1 a = 0) → KX6_begin G l w (ZV G 0 0 w Q) (wset w r (irow 2047 g1)) 2 [(0, .ref r), (1, .int (nI i))] [] := by
    refine upto (P := fun i => ∀ g1, (∀ a, a < i → g1 a = 0) → KX6_begin G l w (ZV G 0 0 w Q) (wset w r (irow 2047 g1)) 2 [(0, .ref r), (1, .int (nI i))] []) (N := 127) (fun g1 h0 => ?_) (fun i hi ih g1 h0 => ?_)
    · refine bX6_begin_2 (fun _ => ?_) (fun h => absurd (by decide) h)
      refine bX6_begin_18 wr_r (vlit rfl) wr_r (vlit rfl) wr_r (vlit rfl) wr_r (vlit rfl) ?_
      simp only [wset_wset]
      rw [show (9 : Int32).toNatClampNeg = 9 from rfl, show (10 : Int32).toNatClampNeg = 10 from rfl, show (11 : Int32).toNatClampNeg = 11 from rfl, show (12 : Int32).toNatClampNeg = 12 from rfl]
      refine hq _ ⟨?_, ?_, ?_, fun i h3 h13 => ?_, fun i h => absurd h (Nat.not_lt_zero _), fun i h => absurd h (Nat.not_lt_zero _), fun i h => absurd h (Nat.not_lt_zero _), by decide, by decide, by decide⟩
      · rw [upd_ne _ _ (by omega), upd_ne _ _ (by omega), upd_ne _ _ (by omega), upd_ne _ _ (by omega), h0 0 (by omega)]; rfl
      · rw [upd_ne _ _ (by omega), upd_ne _ _ (by omega), upd_ne _ _ (by omega), upd_ne _ _ (by omega), h0 1 (by omega)]; rfl
      · rw [upd_ne _ _ (by omega), upd_ne _ _ (by omega), upd_ne _ _ (by omega), upd_ne _ _ (by omega), h0 2 (by omega)]; rfl
      · show _ = (if i = 9 then 6 else if i = 10 then 10 else if i = 11 then 2 else if i = 12 then 5 else 0 : Int32)
        unfold upd
        by_cases e9 : i = 9
        · subst e9; rfl
        · by_cases e10 : i = 10
          · subst e10; rfl
          · by_cases e11 : i = 11
            · subst e11; rfl
            · by_cases e12 : i = 12
              · subst e12; rfl
              · simp only [e9, e10, e11, e12, if_false]
                exact h0 i (by omega)
    · refine bX6_begin_2 (fun h => absurd h (nI_ge (b := 127) hi (by omega))) (fun _ => ?_)
      refine bX6_begin_8 wr_r (vp_in_nI (by omega) (by omega)) ?_
      rw [wset_wset, nI_clamp (by omega), nI_1]
      refine ih _ (fun a ha => ?_)
      unfold upd
      by_cases e : a = i
      · rw [if_pos e]
      · rw [if_neg e]; exact h0 a (by omega)
  have := key 0 (Nat.zero_le _) g (fun a h => absurd h (Nat.not_lt_zero _))
  rw [wset_self w r _ hr] at this
  exact this
end M7
