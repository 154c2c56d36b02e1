/-! THE CLASS'S CALENDAR: changes -/
theorem imul_int {a b : Int32} (h : -2147483648 ≤ a.toInt * b.toInt) (h2 : a.toInt * b.toInt < 2147483648) : (a * b).toInt = a.toInt * b.toInt := by
  rw [Int32.toInt_mul]; exact Int.bmod_eq_of_le (by omega) (by omega)
theorem iadd_int {a b : Int32} (h : -2147483648 ≤ a.toInt + b.toInt) (h2 : a.toInt + b.toInt < 2147483648) : (a + b).toInt = a.toInt + b.toInt := by
  rw [Int32.toInt_add]; exact Int.bmod_eq_of_le (by omega) (by omega)
def okO (s : Ss) : Prop := 0 ≤ (sf s 0).toInt ∧ (sf s 0).toInt ≤ 4 ∧ 0 ≤ (sf s 1).toInt ∧ (sf s 1).toInt ≤ 999 ∧ 0 ≤ (sf s 2).toInt ∧ (sf s 2).toInt ≤ 16
theorem okR.o {s : Ss} (h : okR s) : okO s := by
  obtain ⟨s1, s2, s3, s4, s5, s6, s7⟩ := h
  exact ⟨s1, s2, s3, s4, s5, by omega⟩
theorem odr_ky {s : Ss} (h : okO s) : (odr s).toInt = ky s := by
  obtain ⟨s1, s2, s3, s4, s5, s6⟩ := h
  unfold odr ky
  have h17 : (17 : Int32).toInt = 17 := rfl
  have h5 : (5 : Int32).toInt = 5 := rfl
  have e1 : (sf s 1 * 17).toInt = (sf s 1).toInt * 17 := by rw [imul_int (by rw [h17]; omega) (by rw [h17]; omega), h17]
  have e2 : (sf s 1 * 17 + sf s 2).toInt = (sf s 1).toInt * 17 + (sf s 2).toInt := by rw [iadd_int (by rw [e1]; omega) (by rw [e1]; omega), e1]
  have e3 : ((sf s 1 * 17 + sf s 2) * 5).toInt = ((sf s 1).toInt * 17 + (sf s 2).toInt) * 5 := by rw [imul_int (by rw [h5, e2]; omega) (by rw [h5, e2]; omega), h5, e2]
  rw [iadd_int (by rw [e3]; omega) (by rw [e3]; omega), e3]
theorem mvp_ins {ss : List Ss} {s : Ss} (ho : ∀ x, x ∈ ss → okR x) (hs : okR s) (hne : ∀ x, x ∈ ss → ¬ ky s = ky x) : mvp (ss ++ [s]) ss.length = insP ss s ∧ mvd (ss ++ [s]) ss.length = ss.insertIdx (insP ss s) s := by
  have e0 : sg (ss ++ [s]) ss.length = s := sg_app1 ss s
  have key : ∀ p, p ≤ ss.length → mvpTo (ss ++ [s]) (odr s) p = insTo ss (sf s 1) (sf s 2) (sf s 0) p := by
    intro p
    induction p with
    | zero => intro _; rfl
    | succ p ih =>
      intro hp
      rw [mvpTo, insTo, ih (by omega), sg_app2 ss [s] (by omega : p < ss.length)]
      have hm := sg_mem (by omega : p < ss.length)
      rw [ahd_ky (ho _ hm) hs]
      have hk := hne _ hm
      by_cases q : ky (sg ss p) < ky s
      · rw [if_pos (by rw [i32_le, odr_ky (ho _ hm).o, odr_ky hs.o]; omega), if_pos (decide_eq_true q)]
      · rw [if_neg (by rw [i32_le, odr_ky (ho _ hm).o, odr_ky hs.o]; omega), if_neg (by rw [decide_eq_false q]; exact Bool.false_ne_true)]
  have e1 : mvp (ss ++ [s]) ss.length = insP ss s := by
    unfold mvp insP
    rw [e0]
    exact key _ (Nat.le_refl _)
  refine ⟨e1, ?_⟩
  unfold mvd
  rw [e1, e0]
  congr 1
  rw [List.eraseIdx_append_of_length_le (Nat.le_refl _), Nat.sub_self]
  show ss ++ [] = ss
  rw [List.append_nil]
section CH
variable {G : GG} {l : Launch} {fr w : Wd} {A : Nat → Nat} {c : Cal} {L : Nat}
theorem CalW.stf (h : CalW fr A c L w) (ps : List Pn) (hl : ps.length ≤ 6) (h1 : ∀ g, w (A 1) = some (irow 6 g) → ∀ i, i < ps.length → g i = tf (pg ps i) 0) (h2 : ∀ g, w (A 2) = some (irow 6 g) → ∀ i, i < ps.length → g i = tf (pg ps i) 1) (h3 : ∀ g, w (A 3) = some (irow 6 g) → ∀ i, i < ps.length → g i = tf (pg ps i) 2) : CalW fr A (c.1, ps, c.2.2) L (wset w (A 0) (.inl (0, calF A (c.1, ps, c.2.2)))) := by
  obtain ⟨-, n, inj, e0, ⟨g1, e1, c1⟩, ⟨g2, e2, c2⟩, ⟨g3, e3, c3⟩, ⟨g4, e4, c4⟩, ⟨g5, e5, c5⟩, hd, hs, b0, b1⟩ := id h
  have ne : ∀ {i : Nat}, i < 26 → i ≠ 0 → A i ≠ A 0 := fun hi z => h.ne hi (by decide) z
  exact ⟨h.ff (by decide), n, inj, wset_eq _ _ _, ⟨g1, wn (ne (by decide) (by decide)) e1, h1 g1 e1⟩, ⟨g2, wn (ne (by decide) (by decide)) e2, h2 g2 e2⟩, ⟨g3, wn (ne (by decide) (by decide)) e3, h3 g3 e3⟩, ⟨g4, wn (ne (by decide) (by decide)) e4, c4⟩, ⟨g5, wn (ne (by decide) (by decide)) e5, c5⟩,
    h.dkeep (Or.inl (by decide)) (by decide), h.skeep (by decide), hl, b1⟩
theorem CalW.cnt (h : CalW fr A c L w) (ss : List Ss) (hl : ss.length ≤ 16) (hs : ∀ k, k < ss.length → w (A (10 + k)) = some (.inl (2, sesF (sg ss k)))) : CalW fr A (wSs c ss) L (wset w (A 0) (.inl (0, calF A (wSs c ss)))) := by
  obtain ⟨g, eg, hg⟩ := h.i.sa
  exact h.arr (wset_eq _ _ _) (wn (h.ne (by decide) (by decide) (by decide)) eg) (fun q h0 _ => wset_ne _ _ h0) (fun _ _ => rfl) (fun k hk => ⟨k, hk, rfl⟩) (fun j k hj hk e => by have := h.2.2.1 _ _ (by omega) (by omega) e; omega) hg hl hs
theorem pg_app (ps : List Pn) (t : Pn) (i : Nat) (hi : i < ps.length + 1) : pg (ps ++ [t]) i = if i = ps.length then t else pg ps i := tg_app ps t i hi
theorem c_addSten {x : Int32} {Q : Int32 → Wd → Prop} (h : CalW fr A c L w) (hl : (cPs c).length < 6) (hq : ∀ w2, CalW fr A (hireC c x) L w2 → Q (nI (cPs c).length) w2) : CX0_addStenographer G l [.ref (A 0), .int x] w Q := by
  obtain ⟨g1, e1, c1⟩ := h.i.r1
  have k1 := h.per (m := 0) (i := (cPs c).length) (by decide) hl e1 x
  obtain ⟨g2, e2, c2⟩ := k1.i.r2
  have k2 := k1.per (m := 1) (i := (cPs c).length) (by decide) hl e2 0
  obtain ⟨g3, e3, c3⟩ := k2.i.r3
  have k3 := k2.per (m := 2) (i := (cPs c).length) (by decide) hl e3 0
  have s0 : ∀ (c : Cal) (i m : Nat) (v : Int32), (cPs c).length ≤ i → setP c i m v = c := fun c i m v hi => by
    show (c.1, (cPs c).set i _, c.2.2) = c
    rw [List.set_eq_of_length_le hi]; rfl
  rw [s0 c _ _ _ (Nat.le_refl _)] at k1 k2 k3 c2 c3
  rw [s0 c _ _ _ (Nat.le_refl _)] at k2 k3 c3
  rw [s0 c _ _ _ (Nat.le_refl _)] at k3
  have n12 : A 1 ≠ A 2 := h.ne (by decide) (by decide) (by decide)
  have n13 : A 1 ≠ A 3 := h.ne (by decide) (by decide) (by decide)
  have n23 : A 2 ≠ A 3 := h.ne (by decide) (by decide) (by decide)
  have ec : (nI (cPs c).length).toNatClampNeg = (cPs c).length := nI_clamp (by omega)
  have ix : vp_in (nI (cPs c).length) 6 := ix_of rfl hl (by decide)
  have h4 := k3.stf (cPs c ++ [(x, 0, 0)]) (by rw [List.length_append]; show _ + 1 ≤ 6; omega) (fun g hg i hi => ?_) (fun g hg i hi => ?_) (fun g hg i hi => ?_)
  · refine sX0_addStenographer (bX0_addStenographer_0 h.i.o rfl rfl e1 ix (by rw [ec]; exact k1.i.o) rfl (by rw [ec]; exact e2) ix (by rw [ec]; exact k2.i.o) rfl (by rw [ec]; exact e3) ix (by rw [ec]; exact k3.i.o) rfl (cal_l (by decide)) (f16 := calF A (hireC c x)) ?_ ?_)
    · have e : (cPs (hireC c x)).length = (cPs c).length + 1 := by show (cPs c ++ [_]).length = _; simp
      show _ = [_, Value.int (nI (cPs (hireC c x)).length), _, _, _, _, _, _, _, _, _, _, _]
      rw [e, ← nI_1]; rfl
    · rw [ec]; exact hq _ h4
  · have hi : i < (cPs c).length + 1 := by simpa using hi
    rw [pg_app _ _ _ hi]
    have := irow_inj hg (wn n13 (wn n12 (wset_eq _ _ _)))
    subst this
    by_cases q : i = (cPs c).length
    · subst q; rw [if_pos rfl, upd_eq]; rfl
    · rw [if_neg q, upd_ne _ _ q]; exact c1 i (by omega)
  · have hi : i < (cPs c).length + 1 := by simpa using hi
    rw [pg_app _ _ _ hi]
    have := irow_inj hg (wn n23 (wset_eq _ _ _))
    subst this
    by_cases q : i = (cPs c).length
    · subst q; rw [if_pos rfl, upd_eq]; rfl
    · rw [if_neg q, upd_ne _ _ q]; exact c2 i (by omega)
  · have hi : i < (cPs c).length + 1 := by simpa using hi
    rw [pg_app _ _ _ hi]
    have := irow_inj hg (wset_eq _ _ _)
    subst this
    by_cases q : i = (cPs c).length
    · subst q; rw [if_pos rfl, upd_eq]; rfl
    · rw [if_neg q, upd_ne _ _ q]; exact c3 i (by omega)
theorem c_addSession0 {r d f n t : Int32} {Q : Int32 → Wd → Prop} (h : CalW fr A c L w) (hl : (cSs c).length < 16) (hq : ∀ A' w2, A' 0 = A 0 → CalW fr A' (wSs c (mvd (cSs c ++ [(r, d, f, n, t, -1)]) (cSs c).length)) L w2 → Q (nI (mvp (cSs c ++ [(r, d, f, n, t, -1)]) (cSs c).length)) w2) : CX0_addSession G l [.ref (A 0), .int r, .int d, .int f, .int n, .int t] w Q := by
  obtain ⟨g, eg, hg⟩ := h.i.sa
  obtain ⟨s, es, -⟩ := h.i.sp hl
  have ek : g (nI (cSs c).length).toNatClampNeg = some (A (10 + (cSs c).length)) := by rw [nI_clamp (by omega)]; exact hg _ hl
  have n0 : A 0 ≠ A (10 + (cSs c).length) := h.ne (by decide) (by omega) (by omega)
  have k1 := h.sess (k := (cSs c).length) hl (r, d, f, n, t, -1)
  have s0 : wSs c ((cSs c).set (cSs c).length (r, d, f, n, t, -1)) = c := by
    show (c.1, c.2.1, (cSs c).set _ _, c.2.2.2) = c
    rw [List.set_eq_of_length_le (Nat.le_refl _)]; rfl
  rw [s0] at k1
  have el : (cSs c ++ [(r, d, f, n, t, (-1 : Int32))]).length = (cSs c).length + 1 := by simp
  have k2 := k1.cnt (cSs c ++ [(r, d, f, n, t, -1)]) (by rw [el]; omega) (fun k hk => by
    rw [el] at hk
    by_cases q : k = (cSs c).length
    · subst q; rw [sg_app1]; exact wset_eq _ _ _
    · rw [sg_app2 _ _ (by omega)]
      exact k1.i.se (by omega))
  refine sX0_addSession (bX0_addSession_0 h.i.o rfl rfl eg (ix_of rfl hl (by decide)) ek es (lt_n (n := 6) (by decide)) rfl (lt_n (n := 6) (by decide)) rfl (lt_n (n := 6) (by decide)) rfl (lt_n (n := 6) (by decide)) rfl (lt_n (n := 6) (by decide)) rfl (lt_n (n := 6) (by decide)) rfl
    (by rw [wset_wset, wset_wset, wset_wset, wset_wset, wset_wset]; exact wn n0 h.i.o) rfl (cal_l (by decide)) (f15 := calF A (wSs c (cSs c ++ [(r, d, f, n, t, -1)]))) ?_ ?_ (fun v w2 hv => bX0_addSession_69 hv))
  · have e : (cSs (wSs c (cSs c ++ [(r, d, f, n, t, -1)]))).length = (cSs c).length + 1 := el
    show _ = [_, _, _, _, _, _, Value.int (nI (cSs (wSs c (cSs c ++ [(r, d, f, n, t, -1)]))).length), _, _, _, _, _, _]
    rw [e, ← nI_1]; rfl
  · rw [wset_wset, wset_wset, wset_wset, wset_wset, wset_wset]
    exact c_moveForward (k := (cSs c).length) k2 (by show _ < (cSs c ++ [_]).length; rw [el]; omega) (fun A' w2 e0 hw _ => hq A' w2 e0 hw)
theorem ss_ne {ss : List Ss} {s : Ss} (ho : ∀ x, x ∈ ss → okR x) (hs : okR s) (hd : ∀ x, x ∈ ss → dsj s x) : ∀ x, x ∈ ss → ¬ ky s = ky x := fun x hx q => by
  have hx1 := ho x hx
  have hd1 := hd x hx
  obtain ⟨x1, x2, x3, x4, x5, x6, x7⟩ := hx1
  obtain ⟨s1, s2, s3, s4, s5, s6, s7⟩ := hs
  unfold ky at q
  unfold dsj at hd1
  rw [i32_eq, i32_eq] at hd1
  omega
/-- a session that can be held goes to its place -/
theorem c_addSession {T : Nat} {r d f n t : Int32} {Q : Int32 → Wd → Prop} (h : CalW fr A c L w) (hI : Inv T c) (hn : isNw c r d f n t = true) (hq : ∀ A' w2, A' 0 = A 0 → CalW fr A' (insS c (r, d, f, n, t, -1)) L w2 → Q (nI (insP (cSs c) (r, d, f, n, t, -1))) w2) : CX0_addSession G l [.ref (A 0), .int r, .int d, .int f, .int n, .int t] w Q := by
  obtain ⟨h1, h2, h3, h4⟩ := isNw_ok hI hn
  obtain ⟨m1, m2⟩ := mvp_ins (fun x hx => hI.s hx) h1 (ss_ne (fun x hx => hI.s hx) h1 h4)
  refine c_addSession0 h h3 (fun A' w2 e0 hw => ?_)
  rw [m1]
  rw [m2] at hw
  exact hq A' w2 e0 hw
theorem lvTo_ps (c : Cal) (p t : Int32) : ∀ k, cPs (lvTo c p t k).1 = cPs c
  | 0 => rfl
  | k + 1 => by
    unfold lvTo
    split
    · exact lvTo_ps c p t k
    · exact lvTo_ps c p t k
theorem c_sendOnLeave {p : Nat} {days : Int32} {Q : Int32 → Wd → Prop} (h : CalW fr A c L w) (hp : p < (cPs c).length) (hq : ∀ w2, CalW fr A (lvAll c p days).1 L w2 → Q (lvAll c p days).2 w2) : CX0_sendOnLeave G l [.ref (A 0), .int (nI p), .int days] w Q := by
  have b := h.i.b1
  have b0 := h.i.b0
  obtain ⟨g2, e2, c2⟩ := h.i.r2
  have k1 := h.per (m := 1) (i := p) (by decide) (by omega) e2 (cSc c 3 + days)
  refine sX0_sendOnLeave (bX0_sendOnLeave_0 h.i.o rfl rfl e2 (ix_of rfl (by omega) (by decide)) ?_)
  rw [nI_clamp (by omega)]
  unfold lvAll at hq
  have hpl : (cPs (setP c p 1 (cSc c 3 + days))).length = (cPs c).length := List.length_set
  have htl : tf (pg (cPs (setP c p 1 (cSc c 3 + days))) p) 1 = cSc c 3 + days := by
    show tf (pg ((cPs c).set p _) p) 1 = _
    rw [pg_set _ _ _ _ hp, if_pos rfl]; rfl
  have hss : (cSs (setP c p 1 (cSc c 3 + days))).length = (cSs c).length := rfl
  rw [← hss] at hq b
  generalize cSc c 3 + days = till at *
  generalize setP c p 1 till = c1 at *
  have key : ∀ k, k ≤ (cSs c1).length → ∀ w1, CalW fr A (lvTo c1 (nI p) till k).1 L w1 → KX0_sendOnLeave G l w (ZI G 0 0 w Q) w1 17 [(0, .ref (A 0)), (1, .int (nI p)), (3, .int (lvTo c1 (nI p) till k).2), (4, .int (nI k))] [] := by
    refine upto (P := fun k => ∀ w1, CalW fr A (lvTo c1 (nI p) till k).1 L w1 → KX0_sendOnLeave G l w (ZI G 0 0 w Q) w1 17 [(0, .ref (A 0)), (1, .int (nI p)), (3, .int (lvTo c1 (nI p) till k).2), (4, .int (nI k))] []) (N := (cSs c1).length) (fun w1 hw => ?_) (fun k hk ih w1 hw => ?_)
    · exact bX0_sendOnLeave_17 hw.i.o rfl (fun _ => bX0_sendOnLeave_73 (hq _ hw)) (fun z => absurd (by rw [lvTo_len]; exact nI_le (Nat.le_refl _) (by omega)) z)
    · have hkl : k < (cSs (lvTo c1 (nI p) till k).1).length := by rw [lvTo_len]; exact hk
      obtain ⟨g, eg, hg⟩ := hw.i.sa
      obtain ⟨gl, el, cl⟩ := hw.i.r2
      have e4 : g (nI k).toNatClampNeg = some (A (10 + k)) := by rw [nI_clamp (by omega)]; exact hg k (by omega)
      have el2 : gl (nI p).toNatClampNeg = till := by rw [nI_clamp (by omega), cl p (by rw [lvTo_ps, hpl]; exact hp), lvTo_ps]; exact htl
      have no : ¬ (sf (sg (cSs (lvTo c1 (nI p) till k).1) k) 5 = nI p ∧ sf (sg (cSs (lvTo c1 (nI p) till k).1) k) 1 < till) → KX0_sendOnLeave G l w (ZI G 0 0 w Q) w1 67 [(0, .ref (A 0)), (1, .int (nI p)), (3, .int (lvTo c1 (nI p) till k).2), (4, .int (nI k))] [] := fun z => by
        rw [show lvTo c1 (nI p) till (k + 1) = lvTo c1 (nI p) till k from if_neg z] at ih
        refine bX0_sendOnLeave_67 ?_
        rw [nI_1]; exact ih w1 hw
      refine bX0_sendOnLeave_17 hw.i.o rfl (fun z => absurd z (by rw [lvTo_len]; exact nI_ge hk (by omega))) (fun _ => ?_)
      refine bX0_sendOnLeave_26 hw.i.o rfl eg (ix_of rfl (by omega) (by decide)) e4 (hw.i.se hkl) rfl (fun z => no (fun y => z y.1)) (fun z1 => ?_)
      refine bX0_sendOnLeave_44 (hw.i.se hkl) rfl hw.i.o rfl el (ix_of rfl (by omega) (by decide)) (fun z => no (fun y => ?_)) (fun z2 => ?_)
      · rw [el2] at z
        have := y.2
        rw [i32_lt] at this; rw [i32_le] at z; omega
      · rw [el2] at z2
        have h2 := hw.sess (k := k) (by omega) (sfset (sg (cSs (lvTo c1 (nI p) till k).1) k) 5 (-1))
        have h2 : CalW fr A (setS (lvTo c1 (nI p) till k).1 k 5 (-1)) L _ := h2
        rw [show lvTo c1 (nI p) till (k + 1) = (setS (lvTo c1 (nI p) till k).1 k 5 (-1), (lvTo c1 (nI p) till k).2 + 1) from if_pos ⟨z1, nle_lt z2⟩] at ih
        refine bX0_sendOnLeave_58 (hw.i.se hkl) (ses_l (by decide)) rfl (bX0_sendOnLeave_67 ?_)
        rw [nI_1]; exact ih _ h2
  exact key 0 (Nat.zero_le _) _ k1
def stgF (x v : Int32) : Int32 := if isStg x v = true then 0 else 2
theorem c_setFault {a : Nat} {x v : Int32} {Q : Int32 → Wd → Prop} (hq : Q (stgF x v) w) : CX0_setFault G l [.ref a, .int x, .int v] w Q := by
  unfold stgF isStg at hq
  by_cases hx : x.toInt < 0 ∨ 3 < x.toInt
  · refine sX0_setFault (bX0_setFault_0_d hx (bX0_setFault_81 ?_))
    have : rngI x 0 3 = false := by rw [Bool.eq_false_iff]; intro z; rw [rngI_iff] at z; omega
    rw [this] at hq; exact hq
  · have h4 : x.toInt = 0 ∨ x.toInt = 1 ∨ x.toInt = 2 ∨ x.toInt = 3 := by omega
    have h0 : ∀ {m : Int32}, x.toInt = m.toInt → x = m := fun e => (i32_eq _ _).mpr e
    rcases h4 with e | e | e | e
    · have ex : x = 0 := h0 e
      subst ex
      have hq : Q (if rngI v 1 16 = true then 0 else 2) w := hq
      refine sX0_setFault (bX0_setFault_0_0 e (bX0_setFault_32 (fun z => bX0_setFault_43 (bX0_setFault_48 ?_)) (fun z => bX0_setFault_37 (fun z2 => bX0_setFault_47 (bX0_setFault_48 ?_)) (fun z2 => bX0_setFault_43 (bX0_setFault_48 ?_)))))
      · rw [rng_lo (a := 1) rfl z] at hq; exact hq
      · rw [rng_ok (a := 1) (b := 16) rfl rfl z z2] at hq; exact hq
      · rw [rng_hi (b := 16) rfl (nle_lt z2)] at hq; exact hq
    · have ex : x = 1 := h0 e
      subst ex
      have hq : Q (if rngI v 1 16 = true then 0 else 2) w := hq
      refine sX0_setFault (bX0_setFault_0_1 e (bX0_setFault_32 (fun z => bX0_setFault_43 (bX0_setFault_48 ?_)) (fun z => bX0_setFault_37 (fun z2 => bX0_setFault_47 (bX0_setFault_48 ?_)) (fun z2 => bX0_setFault_43 (bX0_setFault_48 ?_)))))
      · rw [rng_lo (a := 1) rfl z] at hq; exact hq
      · rw [rng_ok (a := 1) (b := 16) rfl rfl z z2] at hq; exact hq
      · rw [rng_hi (b := 16) rfl (nle_lt z2)] at hq; exact hq
    · have ex : x = 2 := h0 e
      subst ex
      have hq : Q (if rngI v 0 30 = true then 0 else 2) w := hq
      refine sX0_setFault (bX0_setFault_0_2 e (bX0_setFault_49 (fun z => bX0_setFault_59 (bX0_setFault_64 ?_)) (fun z => bX0_setFault_53 (fun z2 => bX0_setFault_63 (bX0_setFault_64 ?_)) (fun z2 => bX0_setFault_59 (bX0_setFault_64 ?_)))))
      · rw [rng_lo (a := 0) rfl z] at hq; exact hq
      · rw [rng_ok (a := 0) (b := 30) rfl rfl z z2] at hq; exact hq
      · rw [rng_hi (b := 30) rfl (nle_lt z2)] at hq; exact hq
    · have ex : x = 3 := h0 e
      subst ex
      have hq : Q (if rngI v 0 99 = true then 0 else 2) w := hq
      refine sX0_setFault (bX0_setFault_0_3 e (bX0_setFault_65 (fun z => bX0_setFault_75 (bX0_setFault_80 ?_)) (fun z => bX0_setFault_69 (fun z2 => bX0_setFault_79 (bX0_setFault_80 ?_)) (fun z2 => bX0_setFault_75 (bX0_setFault_80 ?_)))))
      · rw [rng_lo (a := 0) rfl z] at hq; exact hq
      · rw [rng_ok (a := 0) (b := 99) rfl rfl z z2] at hq; exact hq
      · rw [rng_hi (b := 99) rfl (nle_lt z2)] at hq; exact hq
theorem keep12 {w : Wd} {a0 a4 a6 q : Nat} {x1 x2 x3 x4 x5 x6 x7 x8 x9 x10 x11 x12 : PE} {x : Option PE} (h0 : q ≠ a0) (h4 : q ≠ a4) (h6 : q ≠ a6) (hx : w q = x) : (wset (wset (wset (wset (wset (wset (wset (wset (wset (wset (wset (wset w a0 x1) a0 x2) a0 x3) a6 x4) a0 x5) a0 x6) a0 x7) a0 x8) a4 x9) a4 x10) a4 x11) a4 x12) q = x := wn h4 (wn h4 (wn h4 (wn h4 (wn h0 (wn h0 (wn h0 (wn h0 (wn h6 (wn h0 (wn h0 (wn h0 hx)))))))))))
theorem c_makeNew {Q : Wd → Prop} (h : CalW fr A c L w) (hq : ∀ w2, CalW fr A calN L w2 → Q w2) : CX0_makeNew G l [.ref (A 0)] w Q := by
  obtain ⟨-, n, inj, e0, ⟨g1, e1, c1⟩, ⟨g2, e2, c2⟩, ⟨g3, e3, c3⟩, ⟨g4, e4, c4⟩, ⟨g5, e5, c5⟩, hd, hs, b0, b1⟩ := id h
  have n04 : A 0 ≠ A 4 := h.ne (by decide) (by decide) (by decide)
  have n06 : A 0 ≠ A 6 := h.ne (by decide) (by decide) (by decide)
  have n46 : A 4 ≠ A 6 := h.ne (by decide) (by decide) (by decide)
  have o6 : w (A 6) = some (.inl (1, dskF (dA A) (cTs c).length)) := hd.1
  refine sX0_makeNew (bX0_makeNew_0 e0 (lt_n (n := 13) (by decide)) rfl (lt_n (n := 13) (by decide)) rfl (lt_n (n := 13) (by decide)) rfl rfl (wn n06.symm (wn n06.symm (wn n06.symm o6))) (lt_n (n := 4) (by decide)) rfl (wn n06 (wset_eq _ _ _)) (lt_n (n := 13) (by decide)) rfl (lt_n (n := 13) (by decide)) rfl (lt_n (n := 13) (by decide)) rfl (lt_n (n := 13) (by decide)) rfl rfl
    (wn n04.symm (wn n04.symm (wn n04.symm (wn n04.symm (wn n46 (wn n04.symm (wn n04.symm (wn n04.symm e4)))))))) (vlit rfl) (wn n04 (wset_eq _ _ _)) rfl (wset_eq _ _ _) (vlit rfl) (wn n04 (wn n04 (wset_eq _ _ _))) rfl (wset_eq _ _ _) (vlit rfl) (wn n04 (wn n04 (wn n04 (wset_eq _ _ _)))) rfl (wset_eq _ _ _) (vlit rfl) (hq _ ?_))
  refine ⟨fun q e hqe => keep12 (fr_ne hqe (n 0 (by decide))) (fr_ne hqe (n 4 (by decide))) (fr_ne hqe (n 6 (by decide))) (h.f hqe), n, inj, wn n04 (wn n04 (wn n04 (wn n04 (wset_eq _ _ _)))), ⟨g1, keep12 (h.ne (by decide) (by decide) (by decide)) (h.ne (by decide) (by decide) (by decide)) (h.ne (by decide) (by decide) (by decide)) e1, fun i hi => absurd hi (Nat.not_lt_zero _)⟩, ⟨g2, keep12 (h.ne (by decide) (by decide) (by decide)) (h.ne (by decide) (by decide) (by decide)) (h.ne (by decide) (by decide) (by decide)) e2, fun i hi => absurd hi (Nat.not_lt_zero _)⟩, ⟨g3, keep12 (h.ne (by decide) (by decide) (by decide)) (h.ne (by decide) (by decide) (by decide)) (h.ne (by decide) (by decide) (by decide)) e3, fun i hi => absurd hi (Nat.not_lt_zero _)⟩,
    ⟨_, wset_eq _ _ _, fun i hi => ?_⟩, ⟨g5, keep12 (h.ne (by decide) (by decide) (by decide)) (h.ne (by decide) (by decide) (by decide)) (h.ne (by decide) (by decide) (by decide)) e5, c5⟩, ?_, fun k hk => ?_, Nat.zero_le _, Nat.zero_le _⟩
  · have hi4 : i = 0 ∨ i = 1 ∨ i = 2 ∨ i = 3 := by omega
    rcases hi4 with rfl | rfl | rfl | rfl <;> rfl
  · obtain ⟨d0, ⟨t1, d1, -⟩, ⟨t2, d2, -⟩, ⟨t3, d3, -⟩, dl, db⟩ := hd
    refine ⟨wn n46.symm (wn n46.symm (wn n46.symm (wn n46.symm (wn n06.symm (wn n06.symm (wn n06.symm (wn n06.symm (wset_eq _ _ _)))))))), ⟨t1, keep12 (h.ne (i := 7) (by decide) (by decide) (by decide)) (h.ne (i := 7) (by decide) (by decide) (by decide)) (h.ne (i := 7) (by decide) (by decide) (by decide)) d1, fun i hi => absurd hi (Nat.not_lt_zero _)⟩, ⟨t2, keep12 (h.ne (i := 8) (by decide) (by decide) (by decide)) (h.ne (i := 8) (by decide) (by decide) (by decide)) (h.ne (i := 8) (by decide) (by decide) (by decide)) d2, fun i hi => absurd hi (Nat.not_lt_zero _)⟩, ⟨t3, keep12 (h.ne (i := 9) (by decide) (by decide) (by decide)) (h.ne (i := 9) (by decide) (by decide) (by decide)) (h.ne (i := 9) (by decide) (by decide) (by decide)) d3, fun i hi => absurd hi (Nat.not_lt_zero _)⟩, Nat.zero_le _, db⟩
  · obtain ⟨s, es, -⟩ := hs k hk
    exact ⟨s, keep12 (h.ne (by omega) (by decide) (by omega)) (h.ne (by omega) (by decide) (by omega)) (h.ne (by omega) (by decide) (by omega)) es, fun z => absurd z (Nat.not_lt_zero _)⟩
theorem c_scopy {a b : Nat} {s t : Ss} {Q : Wd → Prop} (h1 : w a = some (.inl (2, sesF s))) (h2 : w b = some (.inl (2, sesF t))) (hne : b ≠ a) (hq : Q (wset w a (.inl (2, sesF t)))) : CX3_copyFrom G l [.ref a, .ref b] w Q := by
  refine sX3_copyFrom (bX3_copyFrom_0 h2 rfl h1 (lt_n (n := 6) (by decide)) rfl (wn hne h2) rfl (lt_n (n := 6) (by decide)) rfl (wn hne (wn hne h2)) rfl (lt_n (n := 6) (by decide)) rfl (wn hne (wn hne (wn hne h2))) rfl (lt_n (n := 6) (by decide)) rfl (wn hne (wn hne (wn hne (wn hne h2)))) rfl (lt_n (n := 6) (by decide)) rfl (wn hne (wn hne (wn hne (wn hne (wn hne h2))))) rfl (lt_n (n := 6) (by decide)) rfl ?_)
  rw [wset_wset, wset_wset, wset_wset, wset_wset, wset_wset]
  exact hq
end CH
