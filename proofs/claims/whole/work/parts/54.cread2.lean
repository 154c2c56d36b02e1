/-! THE CLASS'S CALENDAR, READ: who, how many, what hinders -/
theorem setS_sg {c : Cal} {k : Nat} (hk : k < (cSs c).length) (v : Int32) (j : Nat) : sg (cSs (setS c k 5 v)) j = if j = k then sfset (sg (cSs c) k) 5 v else sg (cSs c) j := sg_set _ _ _ _ hk
theorem setS_same {c : Cal} {k : Nat} (h : sf (sg (cSs c) k) 5 = -1) : setS c k 5 (-1) = c := by
  have e : sfset (sg (cSs c) k) 5 (-1) = sg (cSs c) k := by rw [← h]; rfl
  show (c.1, c.2.1, (cSs c).set k (sfset (sg (cSs c) k) 5 (-1)), c.2.2.2) = c
  rw [e]
  have : (cSs c).set k (sg (cSs c) k) = cSs c := by
    apply List.ext_getElem
    · simp
    · intro i h1 h2
      rw [List.getElem_set]
      split
      · rename_i q; subst q; exact sg_get h2
      · rfl
  rw [this]; rfl
theorem bz_free {c : Cal} {k p : Nat} (hk : k < (cSs c).length) (hb : (cSs c).length ≤ 16) (hp : p < 6) (d wo : Int32) (hw : wo = nI k ∨ wo = -1) : bz (cSs (setS c k 5 (-1))) (nI p) d wo = bz (cSs c) (nI p) d (nI k) := by
  have hl : (cSs (setS c k 5 (-1))).length = (cSs c).length := setS_len _ _ _ _
  unfold bz
  rw [hl]
  have key : ∀ n, n ≤ (cSs c).length → bzTo (cSs (setS c k 5 (-1))) (nI p) d wo n = bzTo (cSs c) (nI p) d (nI k) n := by
    intro n
    induction n with
    | zero => intro _; rfl
    | succ n ih =>
      intro hn
      rw [bzTo, bzTo, ih (by omega), setS_sg hk]
      by_cases q : n = k
      · subst q
        rw [if_pos rfl, if_neg (fun z => nI_m1 (n := p) (by omega) z.2.1.symm), if_neg (fun z => z.1 rfl)]
      · rw [if_neg q]
        have h1 : ¬ nI n = nI k := fun z => q ((nI_eq (by omega) (by omega)).mp z)
        have h2 : ¬ nI n = wo := by
          rcases hw with hw | hw
          · rw [hw]; exact h1
          · rw [hw]; exact nI_m1 (by omega)
        by_cases z : sf (sg (cSs c) n) 5 = nI p ∧ sf (sg (cSs c) n) 1 = d
        · rw [if_pos ⟨h2, z⟩, if_pos ⟨h1, z⟩]
        · rw [if_neg (fun y => z y.2), if_neg (fun y => z y.2)]
  exact key _ (Nat.le_refl _)
theorem rsn_free {c : Cal} {k p : Nat} (hk : k < (cSs c).length) (hb : (cSs c).length ≤ 16) (hp : p < 6) : rsn (setS c k 5 (-1)) k p = rsn c k p := by
  have e : sg (cSs (setS c k 5 (-1))) k = sfset (sg (cSs c) k) 5 (-1) := by rw [setS_sg hk, if_pos rfl]
  have e1 : sf (sfset (sg (cSs c) k) 5 (-1)) 1 = sf (sg (cSs c) k) 1 := rfl
  have e2 : spn (sfset (sg (cSs c) k) 5 (-1)) = spn (sg (cSs c) k) := rfl
  unfold rsn
  rw [e, e1, e2, bz_free hk hb hp _ _ (Or.inl rfl)]
  rfl
theorem why_free {c : Cal} {k p : Nat} (hk : k < (cSs c).length) (hb : (cSs c).length ≤ 16) (hp : p < 6) : why (setS c k 5 (-1)) k p = rsn c k p := by
  have e : sg (cSs (setS c k 5 (-1))) k = sfset (sg (cSs c) k) 5 (-1) := by rw [setS_sg hk, if_pos rfl]
  unfold why
  rw [if_neg (by rw [e]; exact fun z => nI_m1 (n := p) (by omega) z.symm)]
  exact rsn_free hk hb hp
section RE
variable {G : GG} {l : Launch} {w : Wd} {A : Nat → Nat} {c : Cal} {L : Nat}
theorem c_bestFor {k : Nat} {Q : Int32 → Wd → Prop} (h : CalIn w A c L) (hs : ∀ s, s ∈ cSs c → okR s) (hk : k < (cSs c).length) (hq : Q (bes (setS c k 5 (-1)) k) w) : CX0_bestFor G l [.ref (A 0), .int (nI k)] w Q := by
  have b := h.b1
  have b0 := h.b0
  obtain ⟨g, eg, hg⟩ := h.sa
  have e4 : g (nI k).toNatClampNeg = some (A (10 + k)) := by rw [nI_clamp (by omega)]; exact hg k (by omega)
  have hday : sf (sg (cSs (setS c k 5 (-1))) k) 1 = sf (sg (cSs c) k) 1 := by rw [setS_sg hk, if_pos rfl]; rfl
  have hcn : ∀ p, p < 6 → ∃ m, m ≤ 16 ∧ cnt (bz (cSs c) (nI p) (sf (sg (cSs c) k) 1) (nI k)) = nI m := fun p _ => by
    obtain ⟨m, hm, e⟩ := bz_nat hs (nI p) (sf (sg (cSs c) k) 1) (nI k)
    rw [e]; exact cnt_nat hm
  refine sX0_bestFor (bX0_bestFor_0 ?_)
  have key : ∀ p, p ≤ (cPs c).length → ∀ s t : Int32, (∀ b : Nat, b < 6 → besTo (setS c k 5 (-1)) k p = nI b → s = cnt (bz (cSs c) (nI b) (sf (sg (cSs c) k) 1) (nI k)) ∧ t = dsk (cTs c) (nI b) 1) → KX0_bestFor G l w (ZI G 0 0 w Q) w 10 [(0, .ref (A 0)), (1, .int (nI k)), (2, .int (besTo (setS c k 5 (-1)) k p)), (3, .int s), (4, .int t), (5, .int (nI p))] [] := by
    refine upto (P := fun p => ∀ s t : Int32, (∀ b : Nat, b < 6 → besTo (setS c k 5 (-1)) k p = nI b → s = cnt (bz (cSs c) (nI b) (sf (sg (cSs c) k) 1) (nI k)) ∧ t = dsk (cTs c) (nI b) 1) → KX0_bestFor G l w (ZI G 0 0 w Q) w 10 [(0, .ref (A 0)), (1, .int (nI k)), (2, .int (besTo (setS c k 5 (-1)) k p)), (3, .int s), (4, .int t), (5, .int (nI p))] []) (N := (cPs c).length) (fun s t _ => ?_) (fun p hp ih s t hst => ?_)
    · exact bX0_bestFor_10 h.o rfl (fun _ => bX0_bestFor_101 hq) (fun z => absurd (nI_le (Nat.le_refl _) (by omega)) z)
    · have hp6 : p < 6 := by omega
      have hw := why_free hk b hp6
      have hor := besTo_or (setS c k 5 (-1)) k p
      refine bX0_bestFor_10 h.o rfl (fun z => absurd z (nI_ge hp (by omega))) (fun _ => ?_)
      refine bX0_bestFor_19 h.o (c_reasonAgainst (Q := fun r w2 => rsn c k p = r ∧ w = w2) h hs hk hp ⟨rfl, rfl⟩) (fun r w2 hr => ?_)
      obtain ⟨rfl, rfl⟩ := hr
      have no : ¬ (why (setS c k 5 (-1)) k p = 0 ∧ bet (setS c k 5 (-1)) k p (besTo (setS c k 5 (-1)) k p) = true) → KX0_bestFor G l w (ZI G 0 0 w Q) w 95 [(0, .ref (A 0)), (1, .int (nI k)), (2, .int (besTo (setS c k 5 (-1)) k p)), (3, .int s), (4, .int t), (5, .int (nI p))] [] := fun z => by
        have e : besTo (setS c k 5 (-1)) k (p + 1) = besTo (setS c k 5 (-1)) k p := if_neg z
        rw [e] at ih
        refine bX0_bestFor_95 ?_
        rw [nI_1]
        exact ih s t hst
      have yes : why (setS c k 5 (-1)) k p = 0 ∧ bet (setS c k 5 (-1)) k p (besTo (setS c k 5 (-1)) k p) = true → ∀ u v : Int32, u = cnt (bz (cSs c) (nI p) (sf (sg (cSs c) k) 1) (nI k)) → v = dsk (cTs c) (nI p) 1 → KX0_bestFor G l w (ZI G 0 0 w Q) w 85 [(0, .ref (A 0)), (1, .int (nI k)), (5, .int (nI p)), (6, .int u), (7, .int v)] [] := fun z u v hu hv => by
        have e : besTo (setS c k 5 (-1)) k (p + 1) = nI p := if_pos z
        rw [e] at ih
        refine bX0_bestFor_85 (bX0_bestFor_95 ?_)
        rw [nI_1]
        refine ih u v (fun b hb hbe => ?_)
        have : p = b := (nI_eq (by omega) (by omega)).mp hbe
        subst this
        exact ⟨hu, hv⟩
      refine bX0_bestFor_26 (fun z => no (fun y => z (by rw [← hw]; exact y.1))) (fun z => ?_)
      rw [← hw] at z
      refine bX0_bestFor_29 h.o rfl eg (ix_of rfl (by omega) (by omega)) e4 (h.se hk) rfl (c_busyBits (Q := fun r w2 => bz (cSs c) (nI p) (sf (sg (cSs c) k) 1) (nI k) = r ∧ w = w2) h hs ⟨rfl, rfl⟩) (fun r w2 hr => ?_)
      obtain ⟨rfl, rfl⟩ := hr
      obtain ⟨m, hm, em⟩ := bz_nat hs (nI p) (sf (sg (cSs c) k) 1) (nI k)
      refine bX0_bestFor_45 (c_bitCount (n := m) (Q := fun r w2 => cnt (bz (cSs c) (nI p) (sf (sg (cSs c) k) 1) (nI k)) = r ∧ w = w2) em hm ⟨rfl, rfl⟩) (fun r w2 hr => ?_)
      obtain ⟨rfl, rfl⟩ := hr
      refine bX0_bestFor_48 h.o rfl h.dk.1 (c_pagesOf (Q := fun r w2 => dsk (cTs c) (nI p) 1 = r ∧ w = w2) h.dk (nI_m1 (by omega)) ⟨rfl, rfl⟩) (fun r w2 hr => ?_)
      obtain ⟨rfl, rfl⟩ := hr
      rcases hor with hor | ⟨b9, hb9, hor⟩
      · refine bX0_bestFor_59 (fun _ => yes ⟨z, ?_⟩ _ _ rfl rfl) (fun y => absurd hor y)
        unfold bet byv
        rw [if_pos hor]; rfl
      · obtain ⟨hs1, ht1⟩ := hst b9 (by omega) hor
        have hby : byv (setS c k 5 (-1)) k p (besTo (setS c k 5 (-1)) k p) = cnt (bz (cSs c) (nI p) (sf (sg (cSs c) k) 1) (nI k)) - s := by
          unfold byv
          rw [if_neg (by rw [hor]; exact nI_m1 (by omega)), hor, hday, bz_free hk b hp6 _ _ (Or.inr rfl), bz_free hk b (by omega) _ _ (Or.inr rfl), ← hs1]
        obtain ⟨m1, hm1, e1⟩ := hcn p hp6
        obtain ⟨m2, hm2, e2⟩ := hcn b9 (by omega)
        rw [← hs1] at e2
        have hbet : bet (setS c k 5 (-1)) k p (besTo (setS c k 5 (-1)) k p) = (decide (cnt (bz (cSs c) (nI p) (sf (sg (cSs c) k) 1) (nI k)) < s) || (decide (cnt (bz (cSs c) (nI p) (sf (sg (cSs c) k) 1) (nI k)) = s) && decide (dsk (cTs c) (nI p) 1 < t))) := by
          unfold bet
          rw [hby, hor, ht1]
          have hd : (nI m1 - nI m2).toInt = (m1 : Int) - m2 := by rw [i32_dif (by rw [nI_toInt (by omega)]; omega) (by rw [nI_toInt (by omega)]; omega) (by rw [nI_toInt (by omega)]; omega) (by rw [nI_toInt (by omega)]; omega), nI_toInt (by omega), nI_toInt (by omega)]
          rw [e1, e2]
          congr 1
          · exact decide_eq_decide.mpr (by rw [i32_lt, hd, nI_ltI (by omega) (by omega), show (0 : Int32).toInt = 0 from rfl]; omega)
          · congr 1
            exact decide_eq_decide.mpr (by rw [i32_eq, hd, nI_eq (by omega) (by omega), show (0 : Int32).toInt = 0 from rfl]; omega)
        refine bX0_bestFor_59 (fun y => absurd (hor.symm.trans y) (nI_m1 (by omega))) (fun _ => ?_)
        refine bX0_bestFor_66 (fun y => yes ⟨z, ?_⟩ _ _ rfl rfl) (fun y1 => ?_)
        · rw [hbet, decide_eq_true y]; rfl
        refine bX0_bestFor_72 (fun y => no (fun x => ?_)) (fun y2 => ?_)
        · have := x.2; rw [hbet, decide_eq_false y1, decide_eq_false y] at this; cases this
        refine bX0_bestFor_78 (fun y => no (fun x => ?_)) (fun y => yes ⟨z, ?_⟩ _ _ rfl rfl)
        · have := x.2; rw [hbet, decide_eq_false y1, dlt y, Bool.and_false] at this; cases this
        · rw [hbet, decide_eq_true y2, dlt' y, Bool.and_true, Bool.or_true]
  exact key 0 (Nat.zero_le _) 0 0 (fun b hb he => absurd he.symm (nI_m1 (by omega)))
theorem c_giveToBest {fr : Wd} {T : Nat} {Q : Int32 → Wd → Prop} (h : CalW fr A c L w) (hI : Inv T c) (hq : ∀ w2, CalW fr A (gvAll c).1 L w2 → Q (gvAll c).2 w2) : CX0_giveToBest G l [.ref (A 0)] w Q := by
  have b := h.i.b1
  have hlen : ∀ k, (cSs (gvTo c k).1).length = (cSs c).length := fun k => by
    induction k with
    | zero => rfl
    | succ k ih =>
      rw [gvTo]
      split
      · rw [setS_len]; exact ih
      · exact ih
  refine sX0_giveToBest (bX0_giveToBest_0 ?_)
  have key : ∀ k, k ≤ (cSs c).length → ∀ w1, CalW fr A (gvTo c k).1 L w1 → KX0_giveToBest G l w (ZI G 0 0 w Q) w1 4 [(0, .ref (A 0)), (1, .int (gvTo c k).2), (2, .int (nI k))] [] := by
    refine upto (P := fun k => ∀ w1, CalW fr A (gvTo c k).1 L w1 → KX0_giveToBest G l w (ZI G 0 0 w Q) w1 4 [(0, .ref (A 0)), (1, .int (gvTo c k).2), (2, .int (nI k))] []) (N := (cSs c).length) (fun w1 hw => ?_) (fun k hk ih w1 hw => ?_)
    · exact bX0_giveToBest_4 hw.i.o rfl (fun _ => bX0_giveToBest_66 (hq _ hw)) (fun z => absurd (by rw [hlen]; exact nI_le (Nat.le_refl _) (by omega)) z)
    · refine bX0_giveToBest_4 hw.i.o rfl (fun z => absurd z (by rw [hlen]; exact nI_ge hk (by omega))) (fun _ => ?_)
      have hkl : k < (cSs (gvTo c k).1).length := by rw [hlen]; exact hk
      obtain ⟨g, eg, hg⟩ := hw.i.sa
      have e4 : g (nI k).toNatClampNeg = some (A (10 + k)) := by rw [nI_clamp (by omega)]; exact hg k (by omega)
      refine bX0_giveToBest_12 hw.i.o rfl eg (ix_of rfl (by omega) (by omega)) e4 (hw.i.se hkl) rfl (fun z => bX0_giveToBest_60 ?_) (fun z => ?_)
      · rw [show gvTo c (k + 1) = gvTo c k from if_neg z] at ih
        rw [nI_1]; exact ih w1 hw
      · have eb : setS (gvTo c k).1 k 5 (-1) = (gvTo c k).1 := setS_same z
        refine bX0_giveToBest_25 hw.i.o rfl eg (ix_of rfl (by omega) (by omega)) e4 (c_bestFor (Q := fun r w2 => bes (gvTo c k).1 k = r ∧ w1 = w2) hw.i (fun s hs => (hI.gv k).s hs) hkl ⟨by rw [eb], rfl⟩) (fun r w2 hr => ?_)
        obtain ⟨rfl, rfl⟩ := hr
        have h2 := hw.sess (k := k) (by omega) (sfset (sg (cSs (gvTo c k).1) k) 5 (bes (gvTo c k).1 k))
        have h2 : CalW fr A (setS (gvTo c k).1 k 5 (bes (gvTo c k).1 k)) L _ := h2
        have hkl2 : k < (cSs (setS (gvTo c k).1 k 5 (bes (gvTo c k).1 k))).length := by rw [setS_len]; exact hkl
        obtain ⟨g2, eg2, hg2⟩ := h2.i.sa
        have e5 : g2 (nI k).toNatClampNeg = some (A (10 + k)) := by rw [nI_clamp (by omega)]; exact hg2 k (by omega)
        have ih2 := ih
        rw [show gvTo c (k + 1) = (setS (gvTo c k).1 k 5 (bes (gvTo c k).1 k), (gvTo c k).2 + (if bes (gvTo c k).1 k = -1 then 0 else 1)) from if_pos z] at ih2
        refine bX0_giveToBest_36 (hw.i.se hkl) (ses_l (by decide)) rfl h2.i.o rfl eg2 (ix_of rfl (by omega) (by omega)) e5 (wset_eq _ _ _) rfl (fun y => bX0_giveToBest_57 (bX0_giveToBest_58 (bX0_giveToBest_60 ?_))) (fun y => bX0_giveToBest_53 (bX0_giveToBest_58 (bX0_giveToBest_60 ?_)))
        · rw [if_neg y] at ih2
          rw [nI_1]; exact ih2 _ h2
        · rw [if_pos y] at ih2
          rw [nI_1]; exact ih2 _ h2
  exact key 0 (Nat.zero_le _) w h
theorem c_sesOf {p : Int32} {Q : Int32 → Wd → Prop} (h : CalIn w A c L) (hq : Q (sesOf (cSs c) p) w) : CX0_sessionsOf G l [.ref (A 0), .int p] w Q := by
  have b := h.b1
  obtain ⟨g, eg, hg⟩ := h.sa
  refine sX0_sessionsOf (bX0_sessionsOf_0 ?_)
  refine upto (P := fun i => KX0_sessionsOf G l w (ZI G 0 0 w Q) w 4 [(0, .ref (A 0)), (1, .int p), (2, .int (sesTo (cSs c) p i)), (3, .int (nI i))] []) (N := (cSs c).length) ?_ (fun i hi ih => ?_) 0 (Nat.zero_le _)
  · exact bX0_sessionsOf_4 h.o rfl (fun _ => bX0_sessionsOf_34 hq) (fun z => absurd (nI_le (Nat.le_refl _) (by omega)) z)
  · refine bX0_sessionsOf_4 h.o rfl (fun z => absurd z (nI_ge hi (by omega))) (fun _ => ?_)
    have e4 : g (nI i).toNatClampNeg = some (A (10 + i)) := by rw [nI_clamp (by omega)]; exact hg i (by omega)
    refine bX0_sessionsOf_12 h.o rfl eg (ix_of rfl (by omega) (by omega)) e4 (h.se hi) rfl (fun z => bX0_sessionsOf_28 ?_) (fun z => bX0_sessionsOf_25 (bX0_sessionsOf_28 ?_))
    · rw [show sesTo (cSs c) p (i + 1) = sesTo (cSs c) p i by rw [sesTo, if_neg z, Int32.add_zero]] at ih
      rw [nI_1]; exact ih
    · rw [show sesTo (cSs c) p (i + 1) = sesTo (cSs c) p i + 1 by rw [sesTo, if_pos z]] at ih
      rw [nI_1]; exact ih
theorem pg_get {l : List Pn} {k : Nat} (h : k < l.length) : pg l k = l[k] := by
  unfold pg
  rw [List.getD_eq_getElem?_getD, List.getElem?_eq_getElem h]; rfl
theorem c_allPay {Q : Int32 → Wd → Prop} (h : CalIn w A c L) (hq : Q (pyS (cPs c)) w) : CX0_allPay G l [.ref (A 0)] w Q := by
  have b := h.b0
  obtain ⟨g, eg, hg⟩ := h.r3
  refine sX0_allPay (bX0_allPay_0 ?_)
  refine upto (P := fun i => KX0_allPay G l w (ZI G 0 0 w Q) w 4 [(0, .ref (A 0)), (1, .int (pyS ((cPs c).take i))), (2, .int (nI i))] []) (N := (cPs c).length) ?_ (fun i hi ih => ?_) 0 (Nat.zero_le _)
  · refine bX0_allPay_4 h.o rfl (fun _ => bX0_allPay_27 ?_) (fun z => absurd (nI_le (Nat.le_refl _) (by omega)) z)
    rw [List.take_length]; exact hq
  · refine bX0_allPay_4 h.o rfl (fun z => absurd z (nI_ge hi (by omega))) (fun _ => ?_)
    have e : g (nI i).toNatClampNeg = tf (pg (cPs c) i) 2 := by rw [nI_clamp (by omega)]; exact hg i hi
    refine bX0_allPay_12 h.o rfl eg (ix_of rfl (by omega) (by omega)) ?_
    rw [List.take_succ_eq_append_getElem hi, pyS_app, ← pg_get hi] at ih
    rw [e, nI_1]; exact ih
theorem payOf_all : ∀ m, m ≤ 16 → (2 * nI m) + (if 0 < nI m - 8 then nI m - 8 else 0) = payOf (nI m) := by decide +kernel
theorem c_payFor0 {m : Nat} {x : Int32} {Q : Int32 → Wd → Prop} (hx : x = nI m) (hm : m ≤ 16) (hq : Q (payOf x) w) : CX0_payFor G l [.int x] w Q := by
  subst hx
  refine sX0_payFor (bX0_payFor_0 ?_)
  rw [payOf_all m hm]; exact hq
def sessF (c : Cal) (r d f n t : Int32) : Int32 := if rngI r 0 4 = true then (if isTm c d f n = true ∧ rngI t 1 9 = true then (if isNw c r d f n t = true then 0 else 3) else 2) else 1
theorem c_sessionFault {r d f n t : Int32} {Q : Int32 → Wd → Prop} (h : CalIn w A c L) (hq : Q (sessF c r d f n t) w) : CX0_sessionFault G l [.ref (A 0), .int r, .int d, .int f, .int n, .int t] w Q := by
  have b := h.b1
  unfold sessF at hq
  refine sX0_sessionFault (bX0_sessionFault_0 (fun z => bX0_sessionFault_9 ?_) (fun z => bX0_sessionFault_4 (fun z2 => ?_) (fun z2 => bX0_sessionFault_9 ?_)))
  · rw [rng_lo (a := 0) rfl z] at hq; exact hq
  · have hr : rngI r 0 4 = true := by
      rw [rngI_iff]
      rw [i32_lt, show (0 : Int32).toInt = 0 from rfl] at z
      rw [i32_lt, show (5 : Int32).toInt = 5 from rfl] at z2
      omega
    rw [if_pos hr] at hq
    refine bX0_sessionFault_11 h.o (c_isPlace (Q := fun v w2 => bI (isTm c d f n) = v ∧ w = w2) h ⟨rfl, rfl⟩) (fun v w2 hv => ?_)
    obtain ⟨rfl, rfl⟩ := hv
    refine bX0_sessionFault_19 (fun y => bX0_sessionFault_35 ?_) (fun y => ?_)
    · rw [bI_0] at y
      rw [if_neg (fun x => by rw [y] at x; cases x.1)] at hq; exact hq
    · rw [bI_n0] at y
      refine bX0_sessionFault_22 (fun x => bX0_sessionFault_35 ?_) (fun x => bX0_sessionFault_28 (fun x2 => ?_) (fun x2 => bX0_sessionFault_35 ?_))
      · rw [if_neg (fun u => by rw [rng_lo (a := 1) rfl x] at u; cases u.2)] at hq; exact hq
      · have ht := rng_ok (a := 1) (b := 9) rfl rfl x x2
        rw [if_pos ⟨y, ht⟩] at hq
        refine bX0_sessionFault_37 h.o rfl (fun u => bX0_sessionFault_58 (bX0_sessionFault_63 ?_)) (fun u => ?_)
        · rw [if_neg (fun v => by
            unfold isNw at v
            simp only [Bool.and_eq_true, decide_eq_true_eq] at v
            exact absurd u (nI_ge (b := 16) v.2.2.2.1 (by decide)))] at hq; exact hq
        · have hl : (cSs c).length < 16 := by
            by_cases q : (cSs c).length < 16
            · exact q
            · exact absurd (nI_le (a := 16) (b := (cSs c).length) (by omega) (by omega)) u
          have e : isNw c r d f n t = isFr (cSs c) r d f n := by
            unfold isNw
            rw [hr, y, ht, decide_eq_true hl]; rfl
          rw [e] at hq
          refine bX0_sessionFault_46 h.o (c_isTaken (Q := fun v w2 => bI (!isFr (cSs c) r d f n) = v ∧ w = w2) h ⟨rfl, rfl⟩) (fun v w2 hv => ?_)
          obtain ⟨rfl, rfl⟩ := hv
          refine bX0_sessionFault_55 (fun v => bX0_sessionFault_62 (bX0_sessionFault_63 ?_)) (fun v => bX0_sessionFault_58 (bX0_sessionFault_63 ?_))
          · rw [bI_0] at v
            rw [if_pos (by simpa using v)] at hq; exact hq
          · rw [bI_n0] at v
            rw [if_neg (by simpa using v)] at hq; exact hq
      · rw [if_neg (fun u => by rw [rng_hi (b := 9) rfl (nle_lt x2)] at u; cases u.2)] at hq; exact hq
  · have hr : rngI r 0 4 = false := rng_hi2 (hi := 5) rfl (nlt_le z2)
    rw [hr] at hq; exact hq
def giveF (c : Cal) (k p : Int32) : Int32 := if inN k (cSs c).length = true ∧ (p = -1 ∨ inN p (cPs c).length = true) then (if p = -1 ∨ why c k.toNatClampNeg p.toNatClampNeg = 0 then 0 else 3) else 1
theorem c_giveFault {k p : Int32} {Q : Int32 → Wd → Prop} (h : CalIn w A c L) (hs : ∀ s, s ∈ cSs c → okR s) (hq : Q (giveF c k p) w) : CX0_giveFault G l [.ref (A 0), .int k, .int p] w Q := by
  have b := h.b1
  have b0 := h.b0
  obtain ⟨g, eg, hg⟩ := h.sa
  unfold giveF at hq
  refine sX0_giveFault (bX0_giveFault_0 h.o (c_numberFault (Q := fun r w2 => bF (inN k (cSs c).length) 1 = r ∧ w = w2) h ⟨rfl, rfl⟩) (fun r w2 hr => ?_))
  obtain ⟨rfl, rfl⟩ := hr
  by_cases qk : inN k (cSs c).length = true
  · rw [qk]
    refine bX0_giveFault_5 (fun z => absurd rfl z) (fun _ => ?_)
    by_cases qp : p = -1
    · rw [if_pos ⟨qk, Or.inl qp⟩, if_pos (Or.inl qp)] at hq
      exact bX0_giveFault_8 (fun z => bX0_giveFault_23 (fun _ => bX0_giveFault_41 hq) (fun z => absurd qp z)) (fun z => absurd qp z)
    · refine bX0_giveFault_8 (fun z => absurd z qp) (fun _ => ?_)
      refine bX0_giveFault_13 h.o (c_staffFault (Q := fun r w2 => bF (inN p (cPs c).length) 1 = r ∧ w = w2) h ⟨rfl, rfl⟩) (fun r w2 hr => ?_)
      obtain ⟨rfl, rfl⟩ := hr
      by_cases qi : inN p (cPs c).length = true
      · rw [qi]
        rw [if_pos ⟨qk, Or.inr qi⟩] at hq
        refine bX0_giveFault_18 (fun _ => ?_) (fun z => absurd rfl z)
        obtain ⟨hk1, hk2⟩ := inN_k qk (by omega)
        obtain ⟨hp1, hp2⟩ := inN_k qi (by omega)
        have ek : g k.toNatClampNeg = some (A (10 + k.toNatClampNeg)) := hg _ (by omega)
        have eor : (p = -1 ∨ why c k.toNatClampNeg p.toNatClampNeg = 0) ↔ why c k.toNatClampNeg p.toNatClampNeg = 0 := ⟨fun z => z.resolve_left qp, Or.inr⟩
        simp only [eor] at hq
        refine bX0_giveFault_23 (fun z => absurd z qp) (fun _ => bX0_giveFault_28 h.o rfl eg (ix_of hk2 (by omega) (by omega)) ek (h.se hk1) rfl (fun z => ?_) (fun z => bX0_giveFault_41 ?_))
        · rw [show why c k.toNatClampNeg p.toNatClampNeg = rsn c k.toNatClampNeg p.toNatClampNeg from if_neg (by rw [← hp2]; exact z)] at hq
          refine bX0_giveFault_43 h.o (by rw [hk2, hp2]; exact c_reasonAgainst (Q := fun r w2 => rsn c k.toNatClampNeg p.toNatClampNeg = r ∧ w = w2) h hs hk1 hp1 ⟨rfl, rfl⟩) (fun r w2 hr => ?_)
          obtain ⟨rfl, rfl⟩ := hr
          refine bX0_giveFault_49 (fun y => bX0_giveFault_56 (bX0_giveFault_57 ?_)) (fun y => bX0_giveFault_52 (bX0_giveFault_57 ?_))
          · rw [if_pos y] at hq; exact hq
          · rw [if_neg y] at hq; exact hq
        · rw [if_pos (show why c k.toNatClampNeg p.toNatClampNeg = 0 from if_pos (by rw [← hp2]; exact z))] at hq; exact hq
      · rw [Bool.eq_false_iff.mpr qi]
        rw [if_neg (fun z => z.2.elim qp qi)] at hq
        exact bX0_giveFault_18 (fun z => absurd z (by decide)) (fun _ => bX0_giveFault_21 hq)
  · rw [Bool.eq_false_iff.mpr qk]
    rw [if_neg (fun z => qk z.1)] at hq
    exact bX0_giveFault_5 (fun _ => bX0_giveFault_21 hq) (fun z => absurd z (by decide))
end RE
