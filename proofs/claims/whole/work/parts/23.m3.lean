/-! THE MODEL: giving, leave, desks -/
section M3
variable {G : GG} {l : Launch} {w : Wd} {r : Nat} {g : Nat → Int32} {c : Cal}
theorem c_best {k : Nat} {x1 : Int32} {Q : Int32 → Wd → Prop} (hr : w r = some (irow 2047 g)) (hc : MRep g c) (h1 : x1 = nI k) (hk : k < (cSs c).length) (hq : Q (bes c k) w) : CX6_best G l [.ref r, .int x1] w Q := by
  subst h1
  have hb := hc.b1
  have hb0 := hc.b0
  have hk16 : k < 16 := by omega
  refine sX6_best (bX6_best_0 ?_)
  refine upto (P := fun i => KX6_best G l w (ZI G 0 0 w Q) w 4 [(0, .ref r), (1, .int (nI k)), (2, .int (besTo c k i)), (3, .int (nI i))] []) (N := (cPs c).length) ?_ (fun i hi ih => ?_) 0 (Nat.zero_le _)
  · exact bX6_best_4 hr (vlit rfl) (fun h => bX6_best_99 hq) (fun h => absurd (by rw [hc.n0]; exact nI_le (Nat.le_refl _) (by omega)) h)
  · refine bX6_best_4 hr (vlit rfl) (fun h => absurd h (by rw [hc.n0]; exact nI_ge hi (by omega))) (fun h => ?_)
    have no : ¬ (why c k i = 0 ∧ bet c k i (besTo c k i) = true) → KX6_best G l w (ZI G 0 0 w Q) w 93 [(0, .ref r), (1, .int (nI k)), (2, .int (besTo c k i)), (3, .int (nI i))] [] := fun hn => by
      refine bX6_best_93 ?_
      rw [nI_1]
      rw [show besTo c k (i + 1) = besTo c k i from if_neg hn] at ih
      exact ih
    refine bX6_best_11 (c_why hr hc rfl rfl hk hi ?_) (fun _ _ h => h)
    refine bX6_best_17 (fun h => no (fun q => h q.1)) (fun hw => ?_)
    have fin : ∀ v : Int32, v = (if bet c k i (besTo c k i) = true then nI i else besTo c k i) → KX6_best G l w (ZI G 0 0 w Q) w 92 [(0, .ref r), (1, .int (nI k)), (3, .int (nI i))] [.int v] := fun v hv => by
      refine bX6_best_92 (bX6_best_93 ?_)
      rw [nI_1]
      have e : besTo c k (i + 1) = v := by
        rw [hv]
        by_cases hbt : bet c k i (besTo c k i) = true
        · rw [if_pos hbt]; exact if_pos ⟨hw, hbt⟩
        · rw [if_neg hbt]; exact if_neg (fun q => hbt q.2)
      rw [e] at ih
      exact ih
    have cmp : ∀ b : Int32, b = byv c k i (besTo c k i) → KX6_best G l w (ZI G 0 0 w Q) w 60 [(0, .ref r), (1, .int (nI k)), (2, .int (besTo c k i)), (3, .int (nI i))] [.int b] := fun b hbv => by
      unfold bet at fin
      rw [← hbv] at fin
      refine bX6_best_60 (fun h => bX6_best_87 (fin _ ?_)) (fun h => ?_)
      · rw [decide_eq_true h]; rfl
      · rw [decide_eq_false h] at fin
        refine bX6_best_67 (fun h2 => bX6_best_91 (fin _ ?_)) (fun h2 => ?_)
        · rw [decide_eq_false h2]; rfl
        · rw [decide_eq_true h2] at fin
          refine bX6_best_72 (c_onDesk hr hc ?_) (fun _ _ h => h)
          refine bX6_best_78 (c_onDesk hr hc ?_) (fun _ _ h => h)
          refine bX6_best_84 (fun h3 => bX6_best_91 (fin _ ?_)) (fun h3 => bX6_best_87 (fin _ ?_))
          · rw [dlt h3]; rfl
          · rw [dlt' h3]; rfl
    unfold byv at cmp
    refine bX6_best_20 (fun h => ?_) (fun h => bX6_best_25 (cmp _ (by rw [if_pos h])))
    rw [if_neg h] at cmp
    refine bX6_best_29 (c_of (j := 1) hr rfl rfl hk16 (by decide) ?_) (fun _ _ h => h)
    rw [hc.S hk]
    refine bX6_best_37 (c_slots hr hc ?_) (fun _ _ h => h)
    refine bX6_best_41 (c_count ?_) (fun _ _ h => h)
    refine bX6_best_44 (c_of (j := 1) hr rfl rfl hk16 (by decide) ?_) (fun _ _ h => h)
    rw [hc.S hk]
    refine bX6_best_52 (c_slots hr hc ?_) (fun _ _ h => h)
    refine bX6_best_56 (c_count ?_) (fun _ _ h => h)
    exact bX6_best_59 (cmp _ rfl)
theorem wr_r {w : Wd} {r : Nat} {e : PE} : wset w r e r = some e := wset_eq w r e
theorem gvTo_len (c : Cal) : ∀ k, (cSs (gvTo c k).1).length = (cSs c).length
  | 0 => rfl
  | k + 1 => by
    unfold gvTo
    split
    · rw [setS_len]; exact gvTo_len c k
    · exact gvTo_len c k
theorem lvTo_len (c : Cal) (p till : Int32) : ∀ k, (cSs (lvTo c p till k).1).length = (cSs c).length
  | 0 => rfl
  | k + 1 => by
    unfold lvTo
    split
    · rw [setS_len]; exact lvTo_len c p till k
    · exact lvTo_len c p till k
theorem c_giveAllOn {Q : Int32 → Wd → Prop} (hr : w r = some (irow 2047 g)) (hc : MRep g c) (hq : ∀ g2, MRep g2 (gvAll c).1 → Q (gvAll c).2 (wset w r (irow 2047 g2))) : CX6_giveAllOn G l [.ref r] w Q := by
  have hb := hc.b1
  refine sX6_giveAllOn (bX6_giveAllOn_0 ?_)
  have key : ∀ i, i ≤ (cSs c).length → ∀ g1, MRep g1 (gvTo c i).1 → KX6_giveAllOn G l w (ZI G 0 0 w Q) (wset w r (irow 2047 g1)) 4 [(0, .ref r), (1, .int (gvTo c i).2), (2, .int (nI i))] [] := by
    refine upto (P := fun i => ∀ g1, MRep g1 (gvTo c i).1 → KX6_giveAllOn G l w (ZI G 0 0 w Q) (wset w r (irow 2047 g1)) 4 [(0, .ref r), (1, .int (gvTo c i).2), (2, .int (nI i))] []) (N := (cSs c).length) (fun g1 hg => ?_) (fun i hi ih g1 hg => ?_)
    · exact bX6_giveAllOn_4 wr_r (vlit rfl) (fun h => bX6_giveAllOn_56 (hq g1 hg)) (fun h => absurd (by rw [hg.n1, gvTo_len]; exact nI_le (Nat.le_refl _) (by omega)) h)
    · have hl := gvTo_len c i
      have hi' : i < (cSs (gvTo c i).1).length := by omega
      refine bX6_giveAllOn_4 wr_r (vlit rfl) (fun h => absurd h (by rw [hg.n1, hl]; exact nI_ge hi (by omega))) (fun h => ?_)
      refine bX6_giveAllOn_11 (c_of (j := 5) wr_r rfl rfl (by omega) (by decide) ?_) (fun _ _ h => h)
      rw [hg.S hi']
      refine bX6_giveAllOn_17 (fun h => ?_) (fun h => ?_)
      · refine bX6_giveAllOn_50 ?_
        rw [nI_1]
        rw [show gvTo c (i + 1) = gvTo c i from if_neg h] at ih
        exact ih g1 hg
      · refine bX6_giveAllOn_21 (c_best wr_r hg rfl hi' ?_) (fun _ _ h => h)
        refine bX6_giveAllOn_29 (c_lay wr_r rfl (j := 5) rfl (by omega) (by decide) ?_) (fun _ h => h)
        rw [wset_wset]
        have hg2 := hg.setS (j := 5) (bes (gvTo c i).1 i) hi' (by decide)
        refine bX6_giveAllOn_32 (c_of (j := 5) wr_r rfl rfl (by omega) (by decide) ?_) (fun _ _ h => h)
        rw [gS_eq (by decide)]
        have e1 : sf (sfset (gS g1 i) 5 (bes (gvTo c i).1 i)) 5 = bes (gvTo c i).1 i := rfl
        rw [e1]
        rw [show gvTo c (i + 1) = (setS (gvTo c i).1 i 5 (bes (gvTo c i).1 i), (gvTo c i).2 + (if bes (gvTo c i).1 i = -1 then 0 else 1)) from if_pos h] at ih
        refine bX6_giveAllOn_39 (fun h2 => bX6_giveAllOn_47 (bX6_giveAllOn_48 (bX6_giveAllOn_50 ?_))) (fun h2 => bX6_giveAllOn_43 (bX6_giveAllOn_48 (bX6_giveAllOn_50 ?_)))
        · rw [if_neg h2] at ih
          rw [nI_1]; exact ih _ hg2
        · rw [if_pos h2] at ih
          rw [nI_1]; exact ih _ hg2
  have := key 0 (Nat.zero_le _) g hc
  rw [wset_self w r _ hr] at this
  exact this
theorem c_canGive {k : Nat} {x1 x2 : Int32} {Q : Int32 → Wd → Prop} (hr : w r = some (irow 2047 g)) (hc : MRep g c) (h1 : x1 = nI k) (hk : k < (cSs c).length) (hp : x2 = -1 ∨ ∃ p, p < (cPs c).length ∧ x2 = nI p) (hq : ∀ b : Bool, (b = true ↔ (x2 = -1 ∨ ∃ p, p < (cPs c).length ∧ x2 = nI p ∧ why c k p = 0)) → Q (bI b) w) : CX6_canGive G l [.ref r, .int x1, .int x2] w Q := by
  refine sX6_canGive (bX6_canGive_0 (fun h => bX6_canGive_14 (bX6_canGive_19 (hq true ⟨fun _ => Or.inl h, fun _ => rfl⟩) rfl)) (fun h => ?_))
  rcases hp with hp | ⟨p, hp, rfl⟩
  · exact absurd hp h
  have hb := hc.b0
  refine bX6_canGive_5 (c_why hr hc h1 rfl hk hp ?_) (fun _ _ h => h)
  refine bX6_canGive_11 (fun h2 => bX6_canGive_18 (bX6_canGive_19 (hq false ⟨(fun q => by cases q), (fun q => ?_)⟩) rfl)) (fun h2 => bX6_canGive_14 (bX6_canGive_19 (hq true ⟨fun _ => Or.inr ⟨p, hp, rfl, h2⟩, fun _ => rfl⟩) rfl))
  rcases q with q | ⟨p', hp', e, q⟩
  · exact absurd q h
  · rw [nI_eq (by omega) (by omega)] at e
    subst e
    exact absurd q h2
theorem c_giveOn {k : Nat} {x1 x2 : Int32} {Q : Int32 → Wd → Prop} (hr : w r = some (irow 2047 g)) (hc : MRep g c) (h1 : x1 = nI k) (hk : k < (cSs c).length) (hq : ∀ g2, MRep g2 (setS c k 5 x2) → Q (sf (sg (cSs c) k) 5) (wset w r (irow 2047 g2))) : CX6_giveOn G l [.ref r, .int x1, .int x2] w Q := by
  have hb := hc.b1
  refine sX6_giveOn (bX6_giveOn_0 (c_of (j := 5) hr h1 rfl (by omega) (by decide) ?_) (fun _ _ h => h))
  rw [hc.S hk]
  refine bX6_giveOn_6 (c_lay hr h1 (j := 5) rfl (by omega) (by decide) ?_) (fun _ h => h)
  exact bX6_giveOn_14 (hq _ (hc.setS (j := 5) x2 hk (by decide)))
theorem lvTo_sc (c : Cal) (p till : Int32) : ∀ k, cSc (lvTo c p till k).1 = cSc c
  | 0 => rfl
  | k + 1 => by
    unfold lvTo
    split
    · exact lvTo_sc c p till k
    · exact lvTo_sc c p till k
theorem c_leaveOn {p : Nat} {x1 x2 : Int32} {Q : Int32 → Wd → Prop} (hr : w r = some (irow 2047 g)) (hc : MRep g c) (h1 : x1 = nI p) (hp : p < (cPs c).length) (hq : ∀ g2, MRep g2 (lvAll c p x2).1 → Q (lvAll c p x2).2 (wset w r (irow 2047 g2))) : CX6_leaveOn G l [.ref r, .int x1, .int x2] w Q := by
  subst h1
  have hb := hc.b1
  have hb0 := hc.b0
  have e : 13 + 3 * nI p + 1 = nI (13 + 3 * p + 1) := by
    rw [show (13 : Int32) = nI 13 from rfl, show (3 : Int32) = nI 3 from rfl, nI_mul, nI_add, nI_1]
  have e3 : ∀ {g : Nat → Int32} {c : Cal}, MRep g c → g ((3 : Int32).toNatClampNeg) = cSc c 3 := fun h => h.sc 3 (by decide) (by decide)
  refine sX6_leaveOn (bX6_leaveOn_0 hr (vlit rfl) (ix_of e (by omega) (by omega)) ?_)
  rw [cl_of e (by omega), e3 hc]
  have hc1 := hc.setP (j := 1) (cSc c 3 + x2) hp (by decide)
  unfold lvAll at hq
  have key : ∀ i, i ≤ (cSs c).length → ∀ g1, MRep g1 (lvTo (setP c p 1 (cSc c 3 + x2)) (nI p) (cSc c 3 + x2) i).1 → KX6_leaveOn G l w (ZI G 0 0 w Q) (wset w r (irow 2047 g1)) 20 [(0, .ref r), (1, .int (nI p)), (2, .int x2), (3, .int (lvTo (setP c p 1 (cSc c 3 + x2)) (nI p) (cSc c 3 + x2) i).2), (4, .int (nI i))] [] := by
    refine upto (P := fun i => ∀ g1, MRep g1 (lvTo (setP c p 1 (cSc c 3 + x2)) (nI p) (cSc c 3 + x2) i).1 → KX6_leaveOn G l w (ZI G 0 0 w Q) (wset w r (irow 2047 g1)) 20 [(0, .ref r), (1, .int (nI p)), (2, .int x2), (3, .int (lvTo (setP c p 1 (cSc c 3 + x2)) (nI p) (cSc c 3 + x2) i).2), (4, .int (nI i))] []) (N := (cSs c).length) (fun g1 hg => ?_) (fun i hi ih g1 hg => ?_)
    · have hl : (cSs (lvTo (setP c p 1 (cSc c 3 + x2)) (nI p) (cSc c 3 + x2) (cSs c).length).1).length = (cSs c).length := lvTo_len _ _ _ _
      exact bX6_leaveOn_20 wr_r (vlit rfl) (fun h => bX6_leaveOn_71 (hq g1 hg)) (fun h => absurd (by rw [hg.n1, hl]; exact nI_le (Nat.le_refl _) (by omega)) h)
    · have hl : (cSs (lvTo (setP c p 1 (cSc c 3 + x2)) (nI p) (cSc c 3 + x2) i).1).length = (cSs c).length := lvTo_len _ _ _ _
      have hsc : cSc (lvTo (setP c p 1 (cSc c 3 + x2)) (nI p) (cSc c 3 + x2) i).1 = cSc c := lvTo_sc _ _ _ _
      generalize hd : lvTo (setP c p 1 (cSc c 3 + x2)) (nI p) (cSc c 3 + x2) i = d at hg hl hsc ⊢
      have hi' : i < (cSs d.1).length := by omega
      refine bX6_leaveOn_20 wr_r (vlit rfl) (fun h => absurd h (by rw [hg.n1, hl]; exact nI_ge hi (by omega))) (fun h => ?_)
      have no : ¬ (sf (sg (cSs d.1) i) 5 = nI p ∧ sf (sg (cSs d.1) i) 1 < cSc c 3 + x2) → KX6_leaveOn G l w (ZI G 0 0 w Q) (wset w r (irow 2047 g1)) 65 [(0, .ref r), (1, .int (nI p)), (2, .int x2), (3, .int d.2), (4, .int (nI i))] [] := fun hn => by
        refine bX6_leaveOn_65 ?_
        rw [nI_1]
        rw [show lvTo (setP c p 1 (cSc c 3 + x2)) (nI p) (cSc c 3 + x2) (i + 1) = d by rw [← hd] at hn ⊢; exact if_neg hn] at ih
        exact ih g1 hg
      refine bX6_leaveOn_28 (c_of (j := 5) wr_r rfl rfl (by omega) (by decide) ?_) (fun _ _ h => h)
      rw [hg.S hi']
      refine bX6_leaveOn_35 (fun h => no (fun q => h q.1)) (fun h1 => ?_)
      refine bX6_leaveOn_39 (c_of (j := 1) wr_r rfl rfl (by omega) (by decide) ?_) (fun _ _ h => h)
      rw [hg.S hi']
      refine bX6_leaveOn_46 wr_r (vlit rfl) (fun h => no (fun q => ?_)) (fun h2 => ?_)
      · rw [e3 hg, hsc] at h
        have q2 := q.2
        rw [i32_lt] at q2; rw [i32_le] at h; omega
      · rw [e3 hg, hsc] at h2
        refine bX6_leaveOn_54 (c_lay wr_r rfl (j := 5) rfl (by omega) (by decide) ?_) (fun _ h => h)
        rw [wset_wset]
        refine bX6_leaveOn_62 (bX6_leaveOn_65 ?_)
        rw [nI_1]
        rw [show lvTo (setP c p 1 (cSc c 3 + x2)) (nI p) (cSc c 3 + x2) (i + 1) = (setS d.1 i 5 (-1), d.2 + 1) by
          rw [← hd] at h1 h2 ⊢
          exact if_pos ⟨h1, by rw [i32_lt]; rw [i32_le] at h2; omega⟩] at ih
        exact ih _ (hg.setS (j := 5) (-1) hi' (by decide))
  exact key 0 (Nat.zero_le _) _ hc1
end M3
