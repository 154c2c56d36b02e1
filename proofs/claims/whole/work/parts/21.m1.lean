/-! THE MODEL: its row r of numbers holds a calendar -/
def gS (g : Nat → Int32) (k : Nat) : Ss := (g (31 + 6 * k), g (31 + 6 * k + 1), g (31 + 6 * k + 2), g (31 + 6 * k + 3), g (31 + 6 * k + 4), g (31 + 6 * k + 5))
def gT (g : Nat → Int32) (i : Nat) : Tr := (g (127 + 3 * i), g (127 + 3 * i + 1), g (127 + 3 * i + 2))
def gP (g : Nat → Int32) (i : Nat) : Pn := (g (13 + 3 * i), g (13 + 3 * i + 1), g (13 + 3 * i + 2))
theorem gS_sf (g : Nat → Int32) (k : Nat) {j : Nat} (hj : j < 6) : sf (gS g k) j = g (31 + 6 * k + j) := by
  match j, hj with
  | 0, _ => rfl
  | 1, _ => rfl
  | 2, _ => rfl
  | 3, _ => rfl
  | 4, _ => rfl
  | 5, _ => rfl
def MRep (g : Nat → Int32) (c : Cal) : Prop :=
  g 0 = nI (cPs c).length ∧ g 1 = nI (cSs c).length ∧ g 2 = nI (cTs c).length ∧ (∀ i, 3 ≤ i → i < 13 → g i = cSc c i) ∧
  (∀ i, i < (cPs c).length → gP g i = pg (cPs c) i) ∧ (∀ k, k < (cSs c).length → gS g k = sg (cSs c) k) ∧
  (∀ i, i < (cTs c).length → gT g i = tg (cTs c) i) ∧ (cPs c).length ≤ 6 ∧ (cSs c).length ≤ 16 ∧ (cTs c).length ≤ 640
theorem MRep.n0 {g : Nat → Int32} {c : Cal} (h : MRep g c) : g ((0 : Int32).toNatClampNeg) = nI (cPs c).length := h.1
theorem MRep.n1 {g : Nat → Int32} {c : Cal} (h : MRep g c) : g ((1 : Int32).toNatClampNeg) = nI (cSs c).length := h.2.1
theorem MRep.n2 {g : Nat → Int32} {c : Cal} (h : MRep g c) : g ((2 : Int32).toNatClampNeg) = nI (cTs c).length := h.2.2.1
theorem MRep.sc {g : Nat → Int32} {c : Cal} (h : MRep g c) (i : Nat) (h1 : 3 ≤ i) (h2 : i < 13) : g i = cSc c i := h.2.2.2.1 i h1 h2
theorem MRep.P {g : Nat → Int32} {c : Cal} (h : MRep g c) {i : Nat} (hi : i < (cPs c).length) : gP g i = pg (cPs c) i := h.2.2.2.2.1 i hi
theorem MRep.S {g : Nat → Int32} {c : Cal} (h : MRep g c) {i : Nat} (hi : i < (cSs c).length) : gS g i = sg (cSs c) i := h.2.2.2.2.2.1 i hi
theorem MRep.T {g : Nat → Int32} {c : Cal} (h : MRep g c) {i : Nat} (hi : i < (cTs c).length) : gT g i = tg (cTs c) i := h.2.2.2.2.2.2.1 i hi
theorem MRep.b0 {g : Nat → Int32} {c : Cal} (h : MRep g c) : (cPs c).length ≤ 6 := h.2.2.2.2.2.2.2.1
theorem MRep.b1 {g : Nat → Int32} {c : Cal} (h : MRep g c) : (cSs c).length ≤ 16 := h.2.2.2.2.2.2.2.2.1
theorem MRep.b2 {g : Nat → Int32} {c : Cal} (h : MRep g c) : (cTs c).length ≤ 640 := h.2.2.2.2.2.2.2.2.2
section M1
variable {G : GG} {l : Launch} {w : Wd} {r : Nat} {g : Nat → Int32} {c : Cal}
theorem c_in {a b d : Int64} {Q : Int32 → Wd → Prop} (hq : Q (bI (decide (b ≤ a) && decide (a ≤ d))) w) : CX6_in G l [.long a, .long b, .long d] w Q := by
  refine sX6_in (bX6_in_0 (fun h => bX6_in_17 (bX6_in_18 ?_ rfl)) (fun h => bX6_in_6 (fun h2 => bX6_in_17 (bX6_in_18 ?_ rfl)) (fun h2 => bX6_in_13 (bX6_in_18 ?_ rfl))))
  · rw [lgc_lt, i64_lt] at h
    rw [decide_eq_false (by rw [i64_le]; omega)] at hq; exact hq
  · rw [lgc_gt, i64_lt] at h2
    rw [decide_eq_false (p := a ≤ d) (by rw [i64_le]; omega), Bool.and_false] at hq; exact hq
  · rw [lgc_gt, i64_lt] at h2
    rw [lgc_lt, i64_lt] at h
    rw [decide_eq_true (by rw [i64_le]; omega), decide_eq_true (by rw [i64_le]; omega)] at hq; exact hq
/-- a number at a place of the row -/
def inN (p : Int32) (n : Nat) : Bool := decide (0 ≤ p.toInt) && decide (p.toInt < n)
theorem inN_of {p : Int32} {n : Nat} (h : inN p n = true) (hn : n < 2 ^ 31) : ∃ k, k < n ∧ p = nI k := by
  unfold inN at h
  simp only [Bool.and_eq_true, decide_eq_true_eq] at h
  refine ⟨p.toInt.toNat, by omega, ?_⟩
  rw [i32_eq, nI_toInt (by omega)]
  omega
theorem inN_nI {k n : Nat} (h : k < n) (hn : n < 2 ^ 31) : inN (nI k) n = true := by
  unfold inN
  rw [nI_toInt (by omega)]
  simp only [Bool.and_eq_true, decide_eq_true_eq]
  omega
theorem in_N {p : Int32} {n : Nat} (hn : n < 2 ^ 31) : (decide ((0 : Int64) ≤ p.toInt64) && decide (p.toInt64 ≤ (nI n - 1).toInt64)) = inN p n := by
  unfold inN
  congr 1
  · exact decide_eq_decide.mpr (by rw [i64_le, Int32.toInt_toInt64]; exact Iff.rfl)
  · exact decide_eq_decide.mpr (by rw [wide_le, i32_le, i32_sub1 hn]; omega)
theorem in_R {p : Int32} {lo hi : Int64} {a b : Int} (h1 : lo.toInt = a) (h2 : hi.toInt = b) : (decide (lo ≤ p.toInt64) && decide (p.toInt64 ≤ hi)) = rngI p a b := by
  unfold rngI
  congr 1
  · exact decide_eq_decide.mpr (by rw [i64_le, Int32.toInt_toInt64, h1])
  · exact decide_eq_decide.mpr (by rw [i64_le, Int32.toInt_toInt64, h2])
theorem c_isPerson {p : Int32} {Q : Int32 → Wd → Prop} (hr : w r = some (irow 2047 g)) (hc : MRep g c) (hq : Q (bI (inN p (cPs c).length)) w) : CX6_isPerson G l [.ref r, .int p] w Q := by
  refine sX6_isPerson (bX6_isPerson_0 hr (vlit rfl) (c_in ?_) (fun _ _ h => h))
  refine bX6_isPerson_12 ?_ (bI_nar _)
  rw [hc.n0, in_N (by have := hc.b0; omega)]
  exact hq
theorem c_isSession {p : Int32} {Q : Int32 → Wd → Prop} (hr : w r = some (irow 2047 g)) (hc : MRep g c) (hq : Q (bI (inN p (cSs c).length)) w) : CX6_isSession G l [.ref r, .int p] w Q := by
  refine sX6_isSession (bX6_isSession_0 hr (vlit rfl) (c_in ?_) (fun _ _ h => h))
  refine bX6_isSession_12 ?_ (bI_nar _)
  rw [hc.n1, in_N (by have := hc.b1; omega)]
  exact hq
theorem c_isRoom {p : Int32} {Q : Int32 → Wd → Prop} (hq : Q (bI (rngI p 0 4)) w) : CX6_isRoom G l [.int p] w Q := by
  refine sX6_isRoom (bX6_isRoom_0 (c_in ?_) (fun _ _ h => h))
  refine bX6_isRoom_9 ?_ (bI_nar _)
  rw [in_R (a := 0) (b := 4) rfl rfl]
  exact hq
theorem ix_s {k j : Nat} {x1 x2 : Int32} (h1 : x1 = nI k) (h2 : x2 = nI j) : 31 + 6 * x1 + x2 = nI (31 + 6 * k + j) := by
  rw [h1, h2, show (31 : Int32) = nI 31 from rfl, show (6 : Int32) = nI 6 from rfl, nI_mul, nI_add, nI_add]
theorem c_of {k j : Nat} {x1 x2 : Int32} {Q : Int32 → Wd → Prop} (hr : w r = some (irow 2047 g)) (h1 : x1 = nI k) (h2 : x2 = nI j) (hk : k < 16) (hj : j < 6) (hq : Q (sf (gS g k) j) w) : CX6_of G l [.ref r, .int x1, .int x2] w Q := by
  have e := ix_s h1 h2
  refine sX6_of (bX6_of_0 hr (ix_of e (by omega) (by omega)) ?_)
  rw [cl_of e (by omega), ← gS_sf g k hj]
  exact hq
theorem c_lay {k j : Nat} {x1 x2 v : Int32} {Q : Wd → Prop} (hr : w r = some (irow 2047 g)) (h1 : x1 = nI k) (h2 : x2 = nI j) (hk : k < 16) (hj : j < 6) (hq : Q (wset w r (irow 2047 (upd g (31 + 6 * k + j) v)))) : CX6_lay G l [.ref r, .int x1, .int x2, .int v] w Q := by
  have e := ix_s h1 h2
  refine sX6_lay (bX6_lay_0 hr (ix_of e (by omega) (by omega)) ?_)
  rw [cl_of e (by omega)]
  exact hq
theorem c_end {k : Nat} {x1 : Int32} {Q : Int32 → Wd → Prop} (hr : w r = some (irow 2047 g)) (h1 : x1 = nI k) (hk : k < 16) (hq : Q (sf (gS g k) 2 + sf (gS g k) 3) w) : CX6_end G l [.ref r, .int x1] w Q := by
  refine sX6_end (bX6_end_0 (c_of (j := 2) hr h1 rfl hk (by decide) ?_) (fun _ _ h => h))
  refine bX6_end_6 (c_of (j := 3) hr h1 rfl hk (by decide) ?_) (fun _ _ h => h)
  exact bX6_end_12 hq
theorem dlt {a b : Int32} (h : b ≤ a) : decide (a < b) = false := decide_eq_false (by rw [i32_lt]; rw [i32_le] at h; omega)
theorem dlt' {a b : Int32} (h : ¬ b ≤ a) : decide (a < b) = true := decide_eq_true (by rw [i32_lt]; rw [i32_le] at h; omega)
theorem c_isAhead {k : Nat} {x1 x2 x3 x4 : Int32} {Q : Int32 → Wd → Prop} (hr : w r = some (irow 2047 g)) (h1 : x1 = nI k) (hk : k < 16) (hq : Q (bI (ahd (gS g k) x2 x3 x4)) w) : CX6_isAhead G l [.ref r, .int x1, .int x2, .int x3, .int x4] w Q := by
  unfold ahd at hq
  refine sX6_isAhead (bX6_isAhead_0 (c_of (j := 1) hr h1 rfl hk (by decide) ?_) (fun _ _ h => h))
  refine bX6_isAhead_6 (fun h => ?_) (fun h => ?_)
  · rw [if_pos h] at hq
    refine bX6_isAhead_26 (c_of (j := 2) hr h1 rfl hk (by decide) ?_) (fun _ _ h => h)
    refine bX6_isAhead_32 (fun h => ?_) (fun h => ?_)
    · rw [if_pos h] at hq
      refine bX6_isAhead_54 (c_of (j := 0) hr h1 rfl hk (by decide) ?_) (fun _ _ h => h)
      refine bX6_isAhead_60 (fun h => bX6_isAhead_69 (bX6_isAhead_70 ?_ rfl)) (fun h => bX6_isAhead_65 (bX6_isAhead_70 ?_ rfl))
      · rw [dlt h] at hq; exact hq
      · rw [dlt' h] at hq; exact hq
    · rw [if_neg h] at hq
      refine bX6_isAhead_36 (c_of (j := 2) hr h1 rfl hk (by decide) ?_) (fun _ _ h => h)
      refine bX6_isAhead_42 (fun h => bX6_isAhead_50 (bX6_isAhead_70 ?_ rfl)) (fun h => bX6_isAhead_46 (bX6_isAhead_70 ?_ rfl))
      · rw [dlt h] at hq; exact hq
      · rw [dlt' h] at hq; exact hq
  · rw [if_neg h] at hq
    refine bX6_isAhead_10 (c_of (j := 1) hr h1 rfl hk (by decide) ?_) (fun _ _ h => h)
    refine bX6_isAhead_16 (fun h => bX6_isAhead_24 (bX6_isAhead_25 ?_ rfl)) (fun h => bX6_isAhead_20 (bX6_isAhead_25 ?_ rfl))
    · rw [dlt h] at hq; exact hq
    · rw [dlt' h] at hq; exact hq
theorem c_span {k : Nat} {x1 : Int32} {Q : Int32 → Wd → Prop} (hr : w r = some (irow 2047 g)) (h1 : x1 = nI k) (hk : k < 16) (hq : Q (spn (gS g k)) w) : CX6_span G l [.ref r, .int x1] w Q := by
  refine sX6_span (bX6_span_0 (c_end hr h1 hk ?_) (fun _ _ h => h))
  refine bX6_span_6 (c_of (j := 2) hr h1 rfl hk (by decide) ?_) (fun _ _ h => h)
  exact bX6_span_14 hq
theorem c_slots {x1 x2 x3 : Int32} {Q : Int32 → Wd → Prop} (hr : w r = some (irow 2047 g)) (hc : MRep g c) (hq : Q (bz (cSs c) x1 x2 x3) w) : CX6_slots G l [.ref r, .int x1, .int x2, .int x3] w Q := by
  have hb := hc.b1
  refine sX6_slots (bX6_slots_0 ?_)
  refine upto (P := fun i => KX6_slots G l w (ZI G 0 0 w Q) w 6 [(0, .ref r), (1, .int x1), (2, .int x2), (3, .int x3), (4, .int (bzTo (cSs c) x1 x2 x3 i)), (5, .int (nI i))] []) (N := (cSs c).length) ?_ (fun i hi ih => ?_) 0 (Nat.zero_le _)
  · exact bX6_slots_6 hr (vlit rfl) (fun h => bX6_slots_59 hq) (fun h => absurd (by rw [hc.n1]; exact nI_le (Nat.le_refl _) (by omega)) h)
  · refine bX6_slots_6 hr (vlit rfl) (fun h => absurd h (by rw [hc.n1]; exact nI_ge hi (by omega))) (fun h => ?_)
    have ih0 : ¬ (¬ nI i = x3 ∧ sf (sg (cSs c) i) 5 = x1 ∧ sf (sg (cSs c) i) 1 = x2) → KX6_slots G l w (ZI G 0 0 w Q) w 53 [(0, .ref r), (1, .int x1), (2, .int x2), (3, .int x3), (4, .int (bzTo (cSs c) x1 x2 x3 i)), (5, .int (nI i))] [] := fun hn => by
      refine bX6_slots_53 ?_
      rw [nI_1]
      rw [show bzTo (cSs c) x1 x2 x3 (i + 1) = bzTo (cSs c) x1 x2 x3 i from if_neg hn] at ih
      exact ih
    refine bX6_slots_14 (fun h => ih0 (fun q => q.1 h)) (fun h1 => ?_)
    refine bX6_slots_20 (c_of (j := 5) hr rfl rfl (by omega) (by decide) ?_) (fun _ _ h => h)
    rw [hc.S hi]
    refine bX6_slots_27 (fun h => ih0 (fun q => h q.2.1)) (fun h2 => ?_)
    refine bX6_slots_31 (c_of (j := 1) hr rfl rfl (by omega) (by decide) ?_) (fun _ _ h => h)
    rw [hc.S hi]
    refine bX6_slots_38 (fun h => ih0 (fun q => h q.2.2)) (fun h3 => ?_)
    refine bX6_slots_42 (c_span hr rfl (by omega) ?_) (fun _ _ h => h)
    rw [hc.S hi]
    refine bX6_slots_50 (bX6_slots_53 ?_)
    rw [nI_1]
    rw [show bzTo (cSs c) x1 x2 x3 (i + 1) = bzTo (cSs c) x1 x2 x3 i ||| spn (sg (cSs c) i) from if_pos ⟨h1, h2, h3⟩] at ih
    exact ih
theorem c_count {x : Int32} {Q : Int32 → Wd → Prop} (hq : Q (cnt x) w) : CX6_count G l [.int x] w Q := by
  refine sX6_count (bX6_count_0 ?_)
  refine upto (P := fun i => KX6_count G l w (ZI G 0 0 w Q) w 4 [(0, .int x), (1, .int (cntTo x i)), (2, .int (nI i))] []) (N := 16) ?_ (fun i hi ih => ?_) 0 (Nat.zero_le _)
  · exact bX6_count_4 (fun h => bX6_count_24 hq) (fun h => absurd (show (16 : Int32) ≤ nI 16 by decide) h)
  · refine bX6_count_4 (fun h => absurd h (nI_ge (b := 16) hi (by omega))) (fun h => bX6_count_10 ?_)
    rw [nI_1]
    exact ih
theorem c_longest {x : Int32} {Q : Int32 → Wd → Prop} (hq : Q (lng x) w) : CX6_longest G l [.int x] w Q := by
  refine sX6_longest (bX6_longest_0 ?_)
  refine upto (P := fun i => KX6_longest G l w (ZI G 0 0 w Q) w 6 [(0, .int x), (1, .int (lngTo x i).1), (2, .int (lngTo x i).2), (3, .int (nI i))] []) (N := 16) ?_ (fun i hi ih => ?_) 0 (Nat.zero_le _)
  · exact bX6_longest_6 (fun h => bX6_longest_46 hq) (fun h => absurd (show (16 : Int32) ≤ nI 16 by decide) h)
  · refine bX6_longest_6 (fun h => absurd h (nI_ge (b := 16) hi (by omega))) (fun h => ?_)
    refine bX6_longest_12 (fun h => bX6_longest_27 ?_) (fun h => bX6_longest_21 ?_)
    · rw [show lngTo x (i + 1) = (if (lngTo x i).1 < 0 then 0 else (lngTo x i).1, 0) from if_neg h] at ih
      refine bX6_longest_28 (fun h => bX6_longest_38 (bX6_longest_39 ?_)) (fun h => bX6_longest_34 (bX6_longest_39 ?_))
      · rw [nI_1]
        rw [if_neg (by rw [i32_lt]; rw [i32_le] at h; omega)] at ih
        exact ih
      · rw [nI_1]
        rw [if_pos (by rw [i32_lt]; rw [i32_le] at h; omega)] at ih
        exact ih
    · rw [show lngTo x (i + 1) = (if (lngTo x i).1 < (lngTo x i).2 + 1 then (lngTo x i).2 + 1 else (lngTo x i).1, (lngTo x i).2 + 1) from if_pos h] at ih
      refine bX6_longest_28 (fun h => bX6_longest_38 (bX6_longest_39 ?_)) (fun h => bX6_longest_34 (bX6_longest_39 ?_))
      · rw [nI_1]
        rw [if_neg (by rw [i32_lt]; rw [i32_le] at h; omega)] at ih
        exact ih
      · rw [nI_1]
        rw [if_pos (by rw [i32_lt]; rw [i32_le] at h; omega)] at ih
        exact ih
theorem c_leaveOf {p : Nat} {x1 : Int32} {Q : Int32 → Wd → Prop} (hr : w r = some (irow 2047 g)) (h1 : x1 = nI p) (hp : p < 6) (hq : Q (tf (gP g p) 1) w) : CX6_leaveOf G l [.ref r, .int x1] w Q := by
  have e : 13 + 3 * x1 + 1 = nI (13 + 3 * p + 1) := by
    rw [h1, show (13 : Int32) = nI 13 from rfl, show (3 : Int32) = nI 3 from rfl, nI_mul, nI_add, nI_1]
  refine sX6_leaveOf (bX6_leaveOf_0 hr (ix_of e (by omega) (by omega)) ?_)
  rw [cl_of e (by omega)]
  exact hq
theorem c_why {k p : Nat} {x1 x2 : Int32} {Q : Int32 → Wd → Prop} (hr : w r = some (irow 2047 g)) (hc : MRep g c) (h1 : x1 = nI k) (h2 : x2 = nI p) (hk : k < (cSs c).length) (hp : p < (cPs c).length) (hq : Q (why c k p) w) : CX6_why G l [.ref r, .int x1, .int x2] w Q := by
  have hb := hc.b1
  have hb0 := hc.b0
  have hk16 : k < 16 := by omega
  subst h1; subst h2
  unfold why at hq
  refine sX6_why (bX6_why_0 (c_of (j := 5) hr rfl rfl hk16 (by decide) ?_) (fun _ _ h => h))
  rw [hc.S hk]
  refine bX6_why_6 (fun h => ?_) (fun h => bX6_why_10 (by rw [if_pos h] at hq; exact hq))
  rw [if_neg h] at hq
  unfold rsn at hq
  refine bX6_why_12 (c_of (j := 1) hr rfl rfl hk16 (by decide) ?_) (fun _ _ h => h)
  rw [hc.S hk]
  refine bX6_why_18 (c_slots hr hc ?_) (fun _ _ h => h)
  refine bX6_why_26 (c_span hr rfl hk16 ?_) (fun _ _ h => h)
  rw [hc.S hk]
  refine bX6_why_35 (c_leaveOf hr rfl (by omega) ?_) (fun _ _ h => h)
  rw [hc.P hp]
  refine bX6_why_44 (fun h => ?_) (fun h => bX6_why_47 (by rw [if_pos (by rw [i32_lt]; rw [i32_le] at h; omega)] at hq; exact hq))
  rw [if_neg (by rw [i32_lt]; rw [i32_le] at h; omega)] at hq
  refine bX6_why_49 (c_span hr rfl hk16 ?_) (fun _ _ h => h)
  rw [hc.S hk]
  refine bX6_why_56 (fun h => ?_) (fun h => bX6_why_60 (by rw [if_pos h] at hq; exact hq))
  rw [if_neg (fun q => q h)] at hq
  refine bX6_why_62 (c_longest ?_) (fun _ _ h => h)
  refine bX6_why_67 hr (vlit rfl) (fun h => ?_) (fun h => bX6_why_74 (bX6_why_95 ?_))
  · rw [show g ((9 : Int32).toNatClampNeg) = cSc c 9 from hc.sc 9 (by decide) (by decide)] at h
    rw [if_neg (by rw [i32_lt]; rw [i32_le] at h; omega)] at hq
    refine bX6_why_78 (c_count ?_) (fun _ _ h => h)
    refine bX6_why_83 hr (vlit rfl) (fun h => bX6_why_94 (bX6_why_95 ?_)) (fun h => bX6_why_90 (bX6_why_95 ?_))
    · rw [show g ((10 : Int32).toNatClampNeg) = cSc c 10 from hc.sc 10 (by decide) (by decide)] at h
      rw [if_neg (by rw [i32_lt]; rw [i32_le] at h; omega)] at hq
      exact hq
    · rw [show g ((10 : Int32).toNatClampNeg) = cSc c 10 from hc.sc 10 (by decide) (by decide)] at h
      rw [if_pos (by rw [i32_lt]; rw [i32_le] at h; omega)] at hq
      exact hq
  · rw [show g ((9 : Int32).toNatClampNeg) = cSc c 9 from hc.sc 9 (by decide) (by decide)] at h
    rw [if_pos (by rw [i32_lt]; rw [i32_le] at h; omega)] at hq
    exact hq
end M1
