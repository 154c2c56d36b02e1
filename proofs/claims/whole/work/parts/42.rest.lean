/-! THE OTHER CALLS -/
def cntO (ts : List Tr) (p : Int32) : Nat → Nat
  | 0 => 0
  | j + 1 => cntO ts p j + if tf (tg ts j) 0 = p then 1 else 0
theorem cntO_le (ts : List Tr) (p : Int32) : ∀ n, cntO ts p n ≤ n
  | 0 => Nat.le_refl _
  | n + 1 => by
    have := cntO_le ts p n
    unfold cntO
    split <;> omega
theorem dsk_cnt (ts : List Tr) {p : Int32} (hp : ¬ p = -1) : ∀ n, dskTo ts p 0 n = nI (cntO ts p n)
  | 0 => rfl
  | n + 1 => by
    unfold dskTo cntO
    rw [dsk_cnt ts hp n]
    by_cases q : tf (tg ts n) 0 = p
    · rw [if_neg (fun z => z.2 q), if_pos rfl, if_pos q, ← nI_add]; rfl
    · rw [if_pos ⟨hp, q⟩, if_neg q]; exact Int32.add_zero _
def trF (ts : List Tr) (p : Int32) : Nat → Nat → Nat → Nat
  | 0, _, j => j
  | f + 1, left, j => if tf (tg ts j) 0 = p then (if left = 0 then j else trF ts p f (left - 1) (j + 1)) else trF ts p f left (j + 1)
def oTrn (y : Sy) (p i x : Int32) : Int32 × Int32 × Sy := if inN p (cPs (yC y)).length = true ∧ rngI i 0 (dsk (cTs (yC y)) p 0 - 1).toInt = true then (if rngI x 0 1 = true then (0, tf (tg (cTs (yC y)) (trF (cTs (yC y)) p (cTs (yC y)).length i.toNatClampNeg 0)) (1 + x.toNatClampNeg), y) else (2, 0, y)) else (1, 0, y)
def oExt (y : Sy) (k n : Int32) : Int32 × Int32 × Sy := if inN k (cSs (yC y)).length = true then (if rngI n 1 16 = true then (0, extL (sg (cSs (yC y)) k.toNatClampNeg) n, wC (wR y) (extC (yC y) k.toNatClampNeg n)) else (2, 0, y)) else (1, 0, y)
def isStg (x v : Int32) : Bool := rngI x 0 3 && (if x < 2 then rngI v 1 16 else if x = 2 then rngI v 0 30 else rngI v 0 99)
def oSet (y : Sy) (x v : Int32) : Int32 × Int32 × Sy := if isStg x v = true then (0, cSc (yC y) (9 + x.toNatClampNeg), wC (wR y) (setC (yC y) (9 + x.toNatClampNeg) v)) else (1, 0, y)
def oUndo (y : Sy) : Int32 × Int32 × Sy := if (yR y).length = 0 then (1, 0, y) else (0, nI ((yR y).length - 1), (y.1, y.2.1, rg (yR y) ((yR y).length - 1), (yR y).take ((yR y).length - 1), y.2.2.2.2))
def oSave (y : Sy) (s : Int32) : Int32 × Int32 × Sy := if rngI s 0 1 = true then (0, cSc (yC y) 3, wS y s.toNatClampNeg (some (yC y))) else (1, 0, y)
def oRest (y : Sy) (s : Int32) : Int32 × Int32 × Sy := if rngI s 0 1 = true then (match yS y s.toNatClampNeg with | none => (2, 0, y) | some c => (0, cSc c 3, (y.1, y.2.1, c, [], y.2.2.2.2))) else (1, 0, y)
section RE
variable {G : GG} {l : Launch} {w0 w : Wd} {A : Nat → Nat} {rf : Int32} {y : Sy}
theorem c_transcript {p i x : Int32} {Q : Int32 → Wd → Prop} (hi : Inj A) (h : MW w0 A rf y w) (hq : ∀ w2, MW w0 A (oTrn y p i x).1 (oTrn y p i x).2.2 w2 → Q (oTrn y p i x).2.1 w2) : CX6_transcript G l [.ref (A 0), .int p, .int i, .int x] w Q := by
  obtain ⟨sp, ou, h⟩ := h
  unfold oTrn at hq
  obtain ⟨g, hg, hc⟩ := h.n
  have hb0 := hc.b0
  have hb2 := hc.b2
  have bad : ∀ v : Int32, 0 < v → (∀ w2, MW w0 A v y w2 → Q 0 w2) → KX6_transcript G l w (ZI G 0 0 w Q) w 52 [(0, .ref (A 0)), (1, .int p), (2, .int i), (3, .int x)] [.int v, .ref (A 0)] := fun v hv hq => by
    refine bX6_transcript_52 h.o (c_refused hi h (fun w3 h3 => ?_)) (fun _ _ h => h)
    rw [decide_eq_true hv]
    exact bX6_transcript_55 (fun z => absurd z (by decide)) (fun _ => bX6_transcript_58 (hq w3 h3.mw))
  refine sX6_transcript (bX6_transcript_0 h.o rfl (c_isPerson hg hc ?_) (fun _ _ h => h))
  by_cases q1 : inN p (cPs (yC y)).length = true
  · rw [q1]
    refine bX6_transcript_9 (fun z => absurd z (by decide)) (fun _ => ?_)
    refine bX6_transcript_12 h.o rfl (c_onDesk hg hc ?_) (fun _ _ h => h)
    refine bX6_transcript_24 (c_in ?_) (fun _ _ h => h)
    rw [in_R (a := 0) (b := (dsk (cTs (yC y)) p 0 - 1).toInt) rfl (Int32.toInt_toInt64 _)]
    by_cases q2 : rngI i 0 (dsk (cTs (yC y)) p 0 - 1).toInt = true
    · rw [if_pos ⟨q1, q2⟩] at hq
      rw [q2]
      refine bX6_transcript_30 (fun _ => ?_) (fun z => absurd z (by decide))
      refine bX6_transcript_37 (c_in ?_) (fun _ _ h => h)
      rw [in_R (a := 0) (b := 1) rfl rfl]
      by_cases q3 : rngI x 0 1 = true
      · rw [if_pos q3] at hq
        rw [q3]
        refine bX6_transcript_44 (fun z => absurd z (by decide)) (fun _ => bX6_transcript_47 ?_)
        refine bX6_transcript_52 h.o (c_refused hi h (fun w3 h3 => ?_)) (fun _ _ h => h)
        refine bX6_transcript_55 (fun _ => ?_) (fun z => absurd rfl z)
        have hq := hq _ h3.mw
        obtain ⟨g, hg, hc⟩ := h3.n
        obtain ⟨p1, p2⟩ := inN_k q1 (by omega)
        have hp : ¬ p = -1 := by rw [p2]; exact nI_m1 (by omega)
        have hcn : dsk (cTs (yC y)) p 0 = nI (cntO (cTs (yC y)) p (cTs (yC y)).length) := dsk_cnt _ hp _
        have hcl := cntO_le (cTs (yC y)) p (cTs (yC y)).length
        have q4 := rngI_iff.mp q2
        rw [hcn, i32_sub1 (by omega)] at q4
        have ei : i = nI i.toNatClampNeg := by
          have e : i.toNatClampNeg = i.toInt.toNat := rfl
          rw [e]; exact nI_toN (by omega)
        have hi9 : i.toNatClampNeg < cntO (cTs (yC y)) p (cTs (yC y)).length := by
          have e : i.toNatClampNeg = i.toInt.toNat := rfl
          rw [e]; omega
        obtain ⟨ex, hkx, eix⟩ := rng_k (b := 1) q3
        refine bX6_transcript_60 ?_
        generalize i.toNatClampNeg = i9 at ei hi9 hq
        rw [ei]
        have key : ∀ f j left, f + j = (cTs (yC y)).length → left + cntO (cTs (yC y)) p j < cntO (cTs (yC y)) p (cTs (yC y)).length → trF (cTs (yC y)) p f left j = trF (cTs (yC y)) p (cTs (yC y)).length i9 0 →
            KX6_transcript G l w (ZI G 0 0 w Q) w3 67 [(0, .ref (A 0)), (1, .int p), (3, .int x), (4, .int (nI left)), (5, .int (nI (127 + 3 * j)))] [] := by
          intro f
          induction f with
          | zero =>
            intro j left hj hl e
            have hj : j = (cTs (yC y)).length := by omega
            rw [hj] at hl
            omega
          | succ f ih =>
            intro j left hj hl e
            have hj2 : j < (cTs (yC y)).length := by omega
            have hT := hc.T hj2
            have e0 : g (nI (127 + 3 * j)).toNatClampNeg = tf (tg (cTs (yC y)) j) 0 := by
              rw [nI_clamp (by omega), ← hT]; rfl
            have e1 : trF (cTs (yC y)) p (f + 1) left j = if tf (tg (cTs (yC y)) j) 0 = p then (if left = 0 then j else trF (cTs (yC y)) p f (left - 1) (j + 1)) else trF (cTs (yC y)) p f left (j + 1) := rfl
            have e2 : cntO (cTs (yC y)) p (j + 1) = cntO (cTs (yC y)) p j + if tf (tg (cTs (yC y)) j) 0 = p then 1 else 0 := rfl
            have e3 : nI (127 + 3 * j) + 3 = nI (127 + 3 * (j + 1)) := by rw [show (3 : Int32) = nI 3 from rfl, nI_add]; rfl
            have hix : vp_in (nI (127 + 3 * j)) 2047 := vp_in_nI (by omega) (by decide)
            refine bX6_transcript_67 h3.o rfl hg hix (fun z => ?_) (fun z => ?_)
            · rw [e0] at z
              rw [if_neg z] at e1 e2
              refine bX6_transcript_83 h3.o rfl hg hix (fun _ => ?_) (fun z2 => absurd (e0.symm.trans z2) z)
              refine bX6_transcript_100 (bX6_transcript_101 ?_)
              rw [e3, show nI left - 0 = nI left from Int32.sub_zero _]
              exact ih (j + 1) left (by omega) (by omega) (e1.symm.trans e)
            · rw [e0] at z
              rw [if_pos z] at e1 e2
              by_cases hl0 : left = 0
              · rw [if_pos hl0] at e1
                refine bX6_transcript_78 (fun _ => ?_) (fun z2 => absurd (by rw [hl0]; decide) z2)
                have e9 : nI (127 + 3 * j) + 1 + x = nI (127 + 3 * j + 1 + x.toNatClampNeg) := by
                  rw [nI_1]
                  have : x = nI x.toNatClampNeg := ex
                  generalize x.toNatClampNeg = x9 at this
                  rw [this, nI_add]
                refine bX6_transcript_110 h3.o rfl hg (ix_of e9 (by omega) (by decide)) ?_
                rw [cl_of e9 (by omega)]
                have e8 : g (127 + 3 * j + 1 + x.toNatClampNeg) = tf (tg (cTs (yC y)) j) (1 + x.toNatClampNeg) := by
                  rw [← hT]
                  have : x.toNatClampNeg = 0 ∨ x.toNatClampNeg = 1 := by omega
                  rcases this with z9 | z9
                  · rw [z9]; rfl
                  · rw [z9]; rfl
                rw [e8, ← e1, e]
                exact hq
              · rw [if_neg hl0] at e1
                refine bX6_transcript_78 (fun z2 => absurd z2 (nI_ge (a := 0) (by omega) (by omega))) (fun _ => ?_)
                refine bX6_transcript_83 h3.o rfl hg hix (fun z2 => absurd (e0.trans z) z2) (fun _ => ?_)
                refine bX6_transcript_96 (bX6_transcript_101 ?_)
                rw [e3, nI_sub1 (by omega)]
                exact ih (j + 1) (left - 1) (by omega) (by omega) (e1.symm.trans e)
        exact key (cTs (yC y)).length 0 i9 rfl (by show i9 + 0 < _; omega) rfl
      · rw [if_neg q3] at hq
        rw [Bool.eq_false_iff.mpr q3]
        exact bX6_transcript_44 (fun _ => bX6_transcript_51 (bad 2 (by decide) hq)) (fun z => absurd rfl z)
    · rw [if_neg (fun z => q2 z.2)] at hq
      rw [Bool.eq_false_iff.mpr q2]
      exact bX6_transcript_30 (fun z => absurd rfl z) (fun _ => bX6_transcript_33 (bad 1 (by decide) hq))
  · rw [if_neg (fun z => q1 z.1)] at hq
    rw [Bool.eq_false_iff.mpr q1]
    exact bX6_transcript_9 (fun _ => bX6_transcript_33 (bad 1 (by decide) hq)) (fun z => absurd rfl z)
theorem c_isSetting {x v : Int32} {Q : Int32 → Wd → Prop} (hq : Q (bI (isStg x v)) w) : CX6_isSetting G l [.int x, .int v] w Q := by
  unfold isStg at hq
  refine sX6_isSetting (bX6_isSetting_0 (c_in ?_) (fun _ _ h => h))
  rw [in_R (a := 0) (b := 3) rfl rfl]
  by_cases q1 : rngI x 0 3 = true
  · rw [q1] at hq ⊢
    refine bX6_isSetting_9 (fun z => absurd z (by decide)) (fun _ => ?_)
    have j52 : ∀ b : Bool, Q (bI b) w → KX6_isSetting G l w (ZI G 0 0 w Q) w 52 [] [.int (bI b)] := fun b hb => by
      refine bX6_isSetting_52 (fun z => bX6_isSetting_59 ?_) (fun z => bX6_isSetting_55 ?_)
      · rw [bI_0.mp z] at hb; exact bX6_isSetting_60 hb rfl
      · rw [bI_n0.mp z] at hb; exact bX6_isSetting_60 hb rfl
    refine bX6_isSetting_12 (fun z => ?_) (fun z => ?_)
    · have z1 : ¬ x < 2 := by rw [i32_lt]; rw [i32_le] at z; omega
      rw [if_neg z1] at hq
      refine bX6_isSetting_23 (bX6_isSetting_24 (fun _ => ?_) (fun z2 => absurd z z2))
      refine bX6_isSetting_35 (fun z2 => ?_) (fun z2 => ?_)
      · rw [if_neg z2] at hq
        refine bX6_isSetting_46 (bX6_isSetting_49 (c_in ?_) (fun _ _ h => h))
        rw [in_R (a := 0) (b := 99) rfl rfl]
        exact j52 _ hq
      · rw [if_pos z2] at hq
        refine bX6_isSetting_40 (bX6_isSetting_49 (c_in ?_) (fun _ _ h => h))
        rw [in_R (a := 0) (b := 30) rfl rfl]
        exact j52 _ hq
    · have z1 : x < 2 := by rw [i32_lt]; rw [i32_le] at z; omega
      rw [if_pos z1] at hq
      refine bX6_isSetting_19 (bX6_isSetting_24 (fun z2 => absurd z2 z) (fun _ => ?_))
      refine bX6_isSetting_29 (bX6_isSetting_49 (c_in ?_) (fun _ _ h => h))
      rw [in_R (a := 1) (b := 16) rfl rfl]
      exact j52 _ hq
  · rw [Bool.eq_false_iff.mpr q1] at hq ⊢
    exact bX6_isSetting_9 (fun _ => bX6_isSetting_59 (bX6_isSetting_60 hq rfl)) (fun z => absurd rfl z)
theorem c_set {x u : Int32} {Q : Int32 → Wd → Prop} (hi : Inj A) (h : MW w0 A rf y w) (hq : ∀ w2, MW w0 A (oSet y x u).1 (oSet y x u).2.2 w2 → Q (oSet y x u).2.1 w2) : CX6_set G l [.ref (A 0), .int x, .int u] w Q := by
  obtain ⟨sp, ou, h⟩ := h
  unfold oSet at hq
  have bad : ∀ v : Int32, 0 < v → (∀ w2, MW w0 A v y w2 → Q 0 w2) → KX6_set G l w (ZI G 0 0 w Q) w 14 [(0, .ref (A 0)), (1, .int x), (2, .int u)] [.int v, .ref (A 0)] := fun v hv hq => by
    refine bX6_set_14 h.o (c_refused hi h (fun w3 h3 => ?_)) (fun _ _ h => h)
    rw [decide_eq_true hv]
    exact bX6_set_17 (fun z => absurd z (by decide)) (fun _ => bX6_set_20 (hq w3 h3.mw))
  refine sX6_set (bX6_set_0 (c_isSetting ?_) (fun _ _ h => h))
  by_cases q1 : isStg x u = true
  · rw [if_pos q1] at hq
    rw [q1]
    have q2 : rngI x 0 3 = true := by unfold isStg at q1; rw [Bool.and_eq_true] at q1; exact q1.1
    obtain ⟨e, hk, ei⟩ := rng_k (b := 3) q2
    refine bX6_set_6 (fun z => absurd z (by decide)) (fun _ => bX6_set_9 ?_)
    refine bX6_set_14 h.o (c_refused hi h (fun w3 h3 => ?_)) (fun _ _ h => h)
    refine bX6_set_17 (fun _ => ?_) (fun z => absurd rfl z)
    refine bX6_set_22 h3.o (c_remember hi h3 (fun w4 h4 => ?_)) (fun _ h => h)
    obtain ⟨g, hg, hc⟩ := h4.n
    have e9 : 9 + x = nI (9 + x.toNatClampNeg) := by rw [← nI_add, ← e]; rfl
    refine bX6_set_26 h4.o rfl hg (ix_of e9 (by omega) (by decide)) (ix_of e9 (by omega) (by decide)) ?_
    rw [cl_of e9 (by omega), hc.sc _ (by omega) (by omega)]
    exact hq _ (h4.setN hi (hc.setC u (by omega) (by omega))).mw
  · rw [if_neg q1] at hq
    rw [Bool.eq_false_iff.mpr q1]
    exact bX6_set_6 (fun _ => bX6_set_13 (bad 1 (by decide) hq)) (fun z => absurd rfl z)
end RE
