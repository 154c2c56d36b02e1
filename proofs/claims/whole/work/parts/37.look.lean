/-! WHAT THERE IS -/
def sesTo (ss : List Ss) (p : Int32) : Nat → Int32
  | 0 => 0
  | k + 1 => sesTo ss p k + if sf (sg ss k) 5 = p then 1 else 0
def sesOf (ss : List Ss) (p : Int32) : Int32 := sesTo ss p ss.length
def oApp (y : Sy) (x : Int32) : Int32 × Int32 × Sy := if rngI x 0 255 = true then (if yN y = 120 then (2, 0, y) else (0, nI (yN y + 1), (upd (yT y) (yN y) x, yN y + 1, y.2.2))) else (1, 0, y)
def oClr (y : Sy) : Int32 × Int32 × Sy := (0, nI (yN y), (y.1, 0, y.2.2))
def abt (c : Cal) : Nat → Int32
  | 0 => nI (cPs c).length
  | 1 => nI (cSs c).length
  | 2 => cSc c 3
  | 3 => sesOf (cSs c) (-1)
  | 4 => nI (cTs c).length
  | 5 => dsk (cTs c) (-1) 1
  | k => cSc c (k - 2)
def oAbout (y : Sy) (x : Int32) : Int32 × Int32 × Sy := if rngI x 0 10 = true then (0, abt (yC y) x.toNatClampNeg, y) else (1, 0, y)
def stn (c : Cal) (p : Nat) : Nat → Int32
  | 0 => tf (pg (cPs c) p) 0
  | 1 => tf (pg (cPs c) p) 1
  | 2 => sesOf (cSs c) (nI p)
  | 3 => dsk (cTs c) (nI p) 0
  | 4 => dsk (cTs c) (nI p) 1
  | 5 => cnt (bz (cSs c) (nI p) (cSc c 3) (-1))
  | _ => tf (pg (cPs c) p) 2
def oSten (y : Sy) (p x : Int32) : Int32 × Int32 × Sy := if inN p (cPs (yC y)).length = true then (if rngI x 0 6 = true then (0, stn (yC y) p.toNatClampNeg x.toNatClampNeg, y) else (2, 0, y)) else (1, 0, y)
def oSesOf (y : Sy) (k x : Int32) : Int32 × Int32 × Sy := if inN k (cSs (yC y)).length = true then (if rngI x 0 5 = true then (0, sf (sg (cSs (yC y)) k.toNatClampNeg) x.toNatClampNeg, y) else (2, 0, y)) else (1, 0, y)
def oSetg (y : Sy) (x : Int32) : Int32 × Int32 × Sy := if rngI x 0 3 = true then (0, cSc (yC y) (9 + x.toNatClampNeg), y) else (1, 0, y)
def MW (w0 : Wd) (A : Nat → Nat) (rf : Int32) (y : Sy) (w : Wd) : Prop := ∃ sp ou, MG w0 A rf y (fun _ => True) sp ou w
theorem rng_k {x : Int32} {b : Nat} (h : rngI x 0 b = true) : x = nI x.toNatClampNeg ∧ x.toNatClampNeg ≤ b ∧ x.toInt = x.toNatClampNeg := by
  obtain ⟨h1, h2⟩ := rngI_iff.mp h
  have e : x.toNatClampNeg = x.toInt.toNat := rfl
  exact ⟨by rw [e]; exact nI_toN (by omega), by rw [e]; omega, by rw [e]; omega⟩
section LK
variable {G : GG} {l : Launch} {w0 w : Wd} {A : Nat → Nat} {rf : Int32} {y : Sy} {T : (Nat → Int32) → Prop} {sp ou : Int32}
theorem MG.mw (h : MG w0 A rf y T sp ou w) : MW w0 A rf y w := ⟨sp, ou, h.any⟩
theorem MG.add (hi : Inj A) (h : MG w0 A rf y T sp ou w) {g : Nat → Int32} (hx : w (A 1) = some (irow 120 g)) (hg : ∀ i, i < yN y → g i = yT y i) (x : Int32) (hn : yN y < 120) : MG w0 A rf (upd (yT y) (yN y) x, yN y + 1, y.2.2) T sp ou (wset (wset w (A 1) (irow 120 (upd g (yN y) x))) (A 0) (.inl (5, mf A rf (nI (yN y + 1)) (nI (yR y).length) sp ou))) := by
  have h1 : MG w0 A rf (upd (yT y) (yN y) x, yN y, y.2.2) T sp ou (wset w (A 1) (irow 120 (upd g (yN y) x))) := by
    refine h.chg hi (y2 := (upd (yT y) (yN y) x, yN y, y.2.2)) (by decide) rfl (fun _ _ => ⟨_, rfl, fun i hi => ?_⟩) (fun g q => ⟨g, rfl, q⟩) (fun g q => ⟨g, rfl, q⟩) (fun g q => ⟨g, rfl, q⟩) (fun g q => ⟨g, rfl, q⟩) (fun g q => ⟨g, rfl, q⟩) (by decide) h.nb h.rb
    have hi : i < yN y := hi
    show upd g (yN y) x i = upd (yT y) (yN y) x i
    rw [upd_ne _ _ (by omega), upd_ne _ _ (by omega), hg i hi]
  have e1 : wset w (A 1) (irow 120 (upd g (yN y) x)) (A 1) = some (irow 120 (upd g (yN y) x)) := wset_eq _ _ _
  obtain ⟨f, h0, -, h2, h3, h4, h5, h6, h7, h8, h9, h10, hnb, hrb⟩ := h1
  have rd : ∀ {i : Nat} (e : PE), i < 11 → ¬ i = 0 → ∀ w : Wd, wset w (A 0) e (A i) = w (A i) := fun e h11 he w => wset_ne _ _ (hi.ne h11 (by decide) he)
  refine ⟨fun a ha => (wset_ne _ _ (ha 0 (by decide))).trans (f a ha), wset_eq _ _ _, ⟨upd g (yN y) x, (rd _ (by decide) (by decide) _).trans e1, fun i hi => ?_⟩, ?_, ?_, ?_, ?_, ?_, ?_, ?_, ?_, ?_, show yN y + 1 ≤ 120 from hn, hrb⟩
  · have hi : i < yN y + 1 := hi
    show upd g (yN y) x i = upd (yT y) (yN y) x i
    by_cases q : i = yN y
    · subst q; rw [upd_eq, upd_eq]
    · rw [upd_ne _ _ q, upd_ne _ _ q, hg i (by omega)]
  · rw [rd _ (by decide) (by decide)]; exact h2
  · rw [rd _ (by decide) (by decide)]; exact h3
  · rw [rd _ (by decide) (by decide)]; exact h4
  · rw [rd _ (by decide) (by decide)]; exact h5
  · rw [rd _ (by decide) (by decide)]; exact h6
  · rw [rd _ (by decide) (by decide)]; exact h7
  · rw [rd _ (by decide) (by decide)]; exact h8
  · rw [rd _ (by decide) (by decide)]; exact h9
  · rw [rd _ (by decide) (by decide)]; exact h10
theorem c_append {x : Int32} {Q : Int32 → Wd → Prop} (hi : Inj A) (h : MW w0 A rf y w) (hq : ∀ w2, MW w0 A (oApp y x).1 (oApp y x).2.2 w2 → Q (oApp y x).2.1 w2) : CX6_append G l [.ref (A 0), .int x] w Q := by
  obtain ⟨sp, ou, h⟩ := h
  have hnb := h.nb
  unfold oApp at hq
  refine sX6_append (bX6_append_0 (c_in ?_) (fun _ _ h => h))
  rw [in_R (a := 0) (b := 255) rfl rfl]
  have bad : ∀ v : Int32, 0 < v → (∀ w2, MW w0 A v y w2 → Q 0 w2) → KX6_append G l w (ZI G 0 0 w Q) w 31 [(0, .ref (A 0)), (1, .int x)] [.int v, .ref (A 0)] := fun v hv hq => by
    refine bX6_append_31 h.o (c_refused hi h (fun w3 h3 => ?_)) (fun _ _ h => h)
    rw [decide_eq_true hv]
    exact bX6_append_34 (fun z => absurd z (by decide)) (fun _ => bX6_append_37 (hq w3 h3.mw))
  by_cases q1 : rngI x 0 255 = true
  · rw [if_pos q1] at hq
    rw [q1]
    refine bX6_append_10 (fun _ => ?_) (fun z => absurd z (by decide))
    by_cases q2 : yN y = 120
    · rw [if_pos q2] at hq
      exact bX6_append_17 h.o rfl (fun z => absurd (show nI (yN y) = 120 by rw [q2]; rfl) z) (fun _ => bX6_append_26 (bad 2 (by decide) hq))
    · rw [if_neg q2] at hq
      refine bX6_append_17 h.o rfl (fun _ => bX6_append_30 ?_) (fun z => absurd z (fun z => q2 ?_))
      · refine bX6_append_31 h.o (c_refused hi h (fun w3 h3 => ?_)) (fun _ _ h => h)
        refine bX6_append_34 (fun _ => ?_) (fun z => absurd rfl z)
        obtain ⟨g, hx, hg⟩ := h3.x
        have hcl : (nI (yN y)).toNatClampNeg = yN y := nI_clamp (by omega)
        have h4 := h3.add hi hx hg x (by omega)
        have e6 : (wset w3 (A 1) (irow 120 (upd g (nI (yN y)).toNatClampNeg x))) (A 0) = some (.inl (5, mf A 0 (nI (yN y)) (nI (yR y).length) sp ou)) := (wset_ne _ _ (hi.ne (by decide) (by decide) (by decide))).trans h3.o
        refine bX6_append_39 h3.o rfl rfl hx (vp_in_nI (by omega) (by omega)) e6 rfl (mf_l (by decide)) mf_2 rfl ?_
        rw [hcl, nI_1]; exact hq _ h4.mw
      · have := congrArg Int32.toInt z
        rw [nI_toInt (by omega), show (120 : Int32).toInt = 120 from rfl] at this
        omega
  · rw [if_neg q1] at hq
    rw [Bool.eq_false_iff.mpr q1]
    exact bX6_append_10 (fun z => absurd rfl z) (fun _ => bX6_append_13 (bad 1 (by decide) hq))
theorem MG.clr (hi : Inj A) (h : MG w0 A rf y T sp ou w) : MG w0 A rf (y.1, 0, y.2.2) T sp ou (wset w (A 0) (.inl (5, mf A rf 0 (nI (yR y).length) sp ou))) :=
  h.chg hi (y2 := (y.1, 0, y.2.2)) (by decide) rfl (fun g q => ⟨g, rfl, fun i hi => absurd hi (Nat.not_lt_zero _)⟩) (fun g q => ⟨g, rfl, q⟩) (fun g q => ⟨g, rfl, q⟩) (fun g q => ⟨g, rfl, q⟩) (fun g q => ⟨g, rfl, q⟩) (fun g q => ⟨g, rfl, q⟩) (by decide) (Nat.zero_le _) h.rb
theorem c_clearText {Q : Int32 → Wd → Prop} (hi : Inj A) (h : MW w0 A rf y w) (hq : ∀ w2, MW w0 A (oClr y).1 (oClr y).2.2 w2 → Q (oClr y).2.1 w2) : CX6_clearText G l [.ref (A 0)] w Q := by
  obtain ⟨sp, ou, h⟩ := h
  have h1 := h.setO hi 0 sp ou
  exact sX6_clearText (bX6_clearText_0 h.o (mf_l (by decide)) mf_0 rfl (mf_l (by decide)) mf_2 (hq _ (h1.clr hi).mw))
theorem c_sessionsOf {r : Nat} {g : Nat → Int32} {c : Cal} {x : Int32} {Q : Int32 → Wd → Prop} (hr : w r = some (irow 2047 g)) (hc : MRep g c) (hq : Q (sesOf (cSs c) x) w) : CX6_sessionsOf G l [.ref r, .int x] w Q := by
  have hb := hc.b1
  refine sX6_sessionsOf (bX6_sessionsOf_0 ?_)
  have key : ∀ i, i ≤ (cSs c).length → KX6_sessionsOf G l w (ZI G 0 0 w Q) w 4 [(0, .ref r), (1, .int x), (2, .int (sesTo (cSs c) x i)), (3, .int (nI i))] [] := by
    refine upto (P := fun i => KX6_sessionsOf G l w (ZI G 0 0 w Q) w 4 [(0, .ref r), (1, .int x), (2, .int (sesTo (cSs c) x i)), (3, .int (nI i))] []) (N := (cSs c).length) ?_ (fun i hi ih => ?_)
    · exact bX6_sessionsOf_4 hr (vlit rfl) (fun _ => bX6_sessionsOf_35 hq) (fun h => absurd (by rw [hc.n1]; exact nI_le (Nat.le_refl _) (by omega)) h)
    · refine bX6_sessionsOf_4 hr (vlit rfl) (fun h => absurd h (by rw [hc.n1]; exact nI_ge hi (by omega))) (fun _ => ?_)
      refine bX6_sessionsOf_11 (c_of (j := 5) hr rfl rfl (by omega) (by decide) ?_) (fun _ _ h => h)
      rw [hc.S hi]
      have e : sesTo (cSs c) x (i + 1) = sesTo (cSs c) x i + if sf (sg (cSs c) i) 5 = x then 1 else 0 := rfl
      rw [e] at ih
      refine bX6_sessionsOf_18 (fun q => bX6_sessionsOf_26 (bX6_sessionsOf_27 ?_)) (fun q => bX6_sessionsOf_22 (bX6_sessionsOf_27 ?_))
      · rw [if_neg q] at ih; rw [nI_1]; exact ih
      · rw [if_pos q] at ih; rw [nI_1]; exact ih
  exact key 0 (Nat.zero_le _)
end LK
