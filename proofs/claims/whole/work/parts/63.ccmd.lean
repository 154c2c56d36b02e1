/-! THE CLASS'S COMMANDS -/
theorem bF_0 {b : Bool} {n : Int32} (hn : ¬ n = 0) : bF b n = 0 ↔ b = true := by
  unfold bF
  cases b
  · exact ⟨fun h => absurd h hn, fun h => by cases h⟩
  · exact ⟨fun _ => rfl, fun _ => rfl⟩
section CC
variable {G : GG} {l : Launch} {fr w : Wd} {A : Nat → Nat} {c : Cal} {L : Nat} {mc ms : Nat}
theorem c_tryHire {x : Int32} {Q : Int32 → Wd → Prop} (h : CalW fr A c L w) (hq1 : rngI x 1 20 = true → (cPs c).length < 6 → ∀ w2, CalW fr A (hireC c x) L w2 → Q 1 w2) (hq0 : ¬ (rngI x 1 20 = true ∧ (cPs c).length < 6) → Q 0 w) : CX1_tryHire G l [.ref (A 0), .int x] w Q := by
  refine sX1_tryHire (bX1_tryHire_0 h.i.o (c_hireFault (Q := fun r w2 => hireF c x = r ∧ w = w2) h.i ⟨rfl, rfl⟩) (fun r w2 hr => ?_))
  obtain ⟨rfl, rfl⟩ := hr
  by_cases q : rngI x 1 20 = true ∧ (cPs c).length < 6
  · have e : hireF c x = 0 := by unfold hireF; rw [if_pos q.1, if_pos q.2]
    exact bX1_tryHire_5 (fun _ => bX1_tryHire_10 h.i.o (c_addSten (Q := fun _ w3 => CalW fr A (hireC c x) L w3) h q.2 (fun w3 hw3 => hw3)) (fun r w3 hw3 => bX1_tryHire_15 (hq1 q.1 q.2 w3 hw3))) (fun z => absurd e z)
  · have e : ¬ hireF c x = 0 := by
      unfold hireF
      by_cases q1 : rngI x 1 20 = true
      · rw [if_pos q1, if_neg (fun z => q ⟨q1, z⟩)]; decide
      · rw [if_neg q1]; decide
    exact bX1_tryHire_5 (fun z => absurd z e) (fun _ => bX1_tryHire_8 (hq0 q))
theorem isNw_parts {c : Cal} {r d f n t : Int32} (h : isNw c r d f n t = true) : rngI r 0 4 = true ∧ isTm c d f n = true ∧ rngI t 1 9 = true := by
  unfold isNw at h
  simp only [Bool.and_eq_true] at h
  exact ⟨h.1, h.2.1, h.2.2.1⟩
theorem sessF_0 {c : Cal} {r d f n t : Int32} : sessF c r d f n t = 0 ↔ isNw c r d f n t = true := by
  unfold sessF
  by_cases q : isNw c r d f n t = true
  · obtain ⟨h1, h2, h3⟩ := isNw_parts q
    rw [if_pos h1, if_pos ⟨h2, h3⟩, if_pos q]
    exact ⟨fun _ => q, fun _ => rfl⟩
  · refine ⟨fun z => ?_, fun z => absurd z q⟩
    rw [if_neg q] at z
    split at z
    · split at z <;> exact absurd z (by decide)
    · exact absurd z (by decide)
theorem c_trySession {T : Nat} {r d f n t : Int32} {Q : Int32 → Wd → Prop} (h : CalW fr A c L w) (hI : Inv T c) (hq1 : isNw c r d f n t = true → ∀ A' w2, A' 0 = A 0 → CalW fr A' (insS c (r, d, f, n, t, -1)) L w2 → Q 1 w2) (hq0 : ¬ isNw c r d f n t = true → Q 0 w) : CX1_trySession G l [.ref (A 0), .int r, .int d, .int f, .int n, .int t] w Q := by
  refine sX1_trySession (bX1_trySession_0 h.i.o (c_sessionFault (Q := fun v w2 => sessF c r d f n t = v ∧ w = w2) h.i ⟨rfl, rfl⟩) (fun v w2 hr => ?_))
  obtain ⟨rfl, rfl⟩ := hr
  by_cases q : isNw c r d f n t = true
  · refine bX1_trySession_11 (fun _ => bX1_trySession_16 h.i.o (c_addSession (Q := fun _ w3 => ∃ A', A' 0 = A 0 ∧ CalW fr A' (insS c (r, d, f, n, t, -1)) L w3) h hI q (fun A' w3 e0 hw3 => ⟨A', e0, hw3⟩)) (fun v w3 hw3 => bX1_trySession_27 ?_)) (fun z => absurd (sessF_0.mpr q) z)
    obtain ⟨A', e0, hw3⟩ := hw3
    exact hq1 q A' w3 e0 hw3
  · exact bX1_trySession_11 (fun z => absurd (sessF_0.mp z) q) (fun _ => bX1_trySession_14 (hq0 q))
theorem giveF_0 {c : Cal} {k p : Int32} (hp : ¬ p = -1) : giveF c k p = 0 ↔ gvOk c k p = true := by
  unfold giveF gvOk
  simp only [hp, false_or, Bool.and_eq_true, decide_eq_true_eq]
  by_cases q : inN k (cSs c).length = true ∧ inN p (cPs c).length = true
  · rw [if_pos q]
    by_cases q2 : why c k.toNatClampNeg p.toNatClampNeg = 0
    · rw [if_pos q2]; exact ⟨fun _ => ⟨q.1, q.2, q2⟩, fun _ => rfl⟩
    · rw [if_neg q2]; exact ⟨fun z => absurd z (by decide), fun z => absurd z.2.2 q2⟩
  · rw [if_neg q]; exact ⟨fun z => absurd z (by decide), fun z => absurd ⟨z.1, z.2.1⟩ q⟩
theorem c_tryGive {k p : Int32} {Q : Int32 → Wd → Prop} (h : CalW fr A c L w) (hs : ∀ s, s ∈ cSs c → okR s) (hp : ¬ p = -1) (hq1 : gvOk c k p = true → ∀ w2, CalW fr A (setS c k.toNatClampNeg 5 p) L w2 → Q 1 w2) (hq0 : ¬ gvOk c k p = true → Q 0 w) : CX1_tryGive G l [.ref (A 0), .int k, .int p] w Q := by
  have b := h.i.b1
  refine sX1_tryGive (bX1_tryGive_0 h.i.o (c_giveFault (Q := fun v w2 => giveF c k p = v ∧ w = w2) h.i hs ⟨rfl, rfl⟩) (fun v w2 hr => ?_))
  obtain ⟨rfl, rfl⟩ := hr
  by_cases q : gvOk c k p = true
  · obtain ⟨q1, q2, q3⟩ := gvOk_of q
    obtain ⟨k1, k2⟩ := inN_k q1 (by omega)
    obtain ⟨g, eg, hg⟩ := h.i.sa
    refine bX1_tryGive_6 (fun _ => bX1_tryGive_11 h.i.o rfl eg (ix_of k2 (by omega) (by decide)) (hg _ (by omega)) (h.i.se k1) (ses_l (by decide)) (f6 := sesF (sfset (sg (cSs c) k.toNatClampNeg) 5 p)) rfl (hq1 q _ (h.sess (k := k.toNatClampNeg) (by omega) _))) (fun z => absurd ((giveF_0 hp).mpr q) z)
  · exact bX1_tryGive_6 (fun z => absurd ((giveF_0 hp).mp z) q) (fun _ => bX1_tryGive_9 (hq0 q))
theorem c_tryExtend {T : Nat} {k n : Int32} {Q : Int32 → Wd → Prop} (h : CalW fr A c L w) (hI : Inv T c) (hq1 : inN k (cSs c).length = true → rngI n 1 16 = true → ∀ A' w2, A' 0 = A 0 → CalW fr A' (extC c k.toNatClampNeg n) L w2 → Q 1 w2) (hq0 : ¬ (inN k (cSs c).length = true ∧ rngI n 1 16 = true) → Q 0 w) : CX1_tryExtend G l [.ref (A 0), .int k, .int n] w Q := by
  have b := h.i.b1
  refine sX1_tryExtend (bX1_tryExtend_0 h.i.o (c_extendFault (Q := fun v w2 => (if inN k (cSs c).length = true then rgF n 1 16 else 1) = v ∧ w = w2) h.i ⟨rfl, rfl⟩) (fun v w2 hr => ?_))
  obtain ⟨rfl, rfl⟩ := hr
  by_cases q : inN k (cSs c).length = true ∧ rngI n 1 16 = true
  · have e : (if inN k (cSs c).length = true then rgF n 1 16 else 1) = 0 := by rw [if_pos q.1]; unfold rgF; rw [if_pos q.2]
    obtain ⟨k1, k2⟩ := inN_k q.1 (by omega)
    obtain ⟨n1, n2⟩ := rngI_iff.mp q.2
    refine bX1_tryExtend_6 (fun _ => bX1_tryExtend_11 h.i.o (by
      have := c_lengthen (G := G) (l := l) (k := k.toNatClampNeg) (n := n) (Q := fun _ w3 => ∃ A', A' 0 = A 0 ∧ CalW fr A' (extC c k.toNatClampNeg n) L w3) h hI k1 n1 n2 (fun A' w3 e0 hw3 => ⟨A', e0, hw3⟩)
      rw [← k2] at this; exact this) (fun v w3 hw3 => bX1_tryExtend_17 ?_)) (fun z => absurd e z)
    obtain ⟨A', e0, hw3⟩ := hw3
    exact hq1 q.1 q.2 A' w3 e0 hw3
  · have e : ¬ (if inN k (cSs c).length = true then rgF n 1 16 else 1) = 0 := by
      by_cases q1 : inN k (cSs c).length = true
      · rw [if_pos q1]; unfold rgF; rw [if_neg (fun z => q ⟨q1, z⟩)]; decide
      · rw [if_neg q1]; decide
    exact bX1_tryExtend_6 (fun z => absurd z e) (fun _ => bX1_tryExtend_9 (hq0 q))
theorem c_tryLeave {k n : Int32} {Q : Int32 → Wd → Prop} (h : CalW fr A c L w) (hq1 : inN k (cPs c).length = true → rngI n 0 30 = true → ∀ w2, CalW fr A (lvAll c k.toNatClampNeg n).1 L w2 → Q 1 w2) (hq0 : ¬ (inN k (cPs c).length = true ∧ rngI n 0 30 = true) → Q 0 w) : CX1_tryLeave G l [.ref (A 0), .int k, .int n] w Q := by
  have b := h.i.b0
  refine sX1_tryLeave (bX1_tryLeave_0 h.i.o (c_leaveFault (Q := fun v w2 => (if inN k (cPs c).length = true then rgF n 0 30 else 1) = v ∧ w = w2) h.i ⟨rfl, rfl⟩) (fun v w2 hr => ?_))
  obtain ⟨rfl, rfl⟩ := hr
  by_cases q : inN k (cPs c).length = true ∧ rngI n 0 30 = true
  · have e : (if inN k (cPs c).length = true then rgF n 0 30 else 1) = 0 := by rw [if_pos q.1]; unfold rgF; rw [if_pos q.2]
    obtain ⟨k1, k2⟩ := inN_k q.1 (by omega)
    exact bX1_tryLeave_6 (fun _ => bX1_tryLeave_11 h.i.o (by
      have := c_sendOnLeave (G := G) (l := l) (p := k.toNatClampNeg) (days := n) (Q := fun _ w3 => CalW fr A (lvAll c k.toNatClampNeg n).1 L w3) h k1 (fun w3 hw3 => hw3)
      rw [← k2] at this; exact this) (fun v w3 hw3 => bX1_tryLeave_17 (hq1 q.1 q.2 w3 hw3))) (fun z => absurd e z)
  · have e : ¬ (if inN k (cPs c).length = true then rgF n 0 30 else 1) = 0 := by
      by_cases q1 : inN k (cPs c).length = true
      · rw [if_pos q1]; unfold rgF; rw [if_neg (fun z => q ⟨q1, z⟩)]; decide
      · rw [if_neg q1]; decide
    exact bX1_tryLeave_6 (fun z => absurd z e) (fun _ => bX1_tryLeave_9 (hq0 q))
theorem rng_nI {x : Int32} {a b : Int} (h : rngI x a b = true) (ha : 0 ≤ a) (hb : b < 2 ^ 31) : x = nI x.toNatClampNeg ∧ (x.toNatClampNeg : Int) = x.toInt := by
  rw [rngI_iff] at h
  have := nI_toN (x := x) (by omega)
  rw [this, nI_clamp (by omega), nI_toInt (by omega)]
  exact ⟨rfl, rfl⟩
theorem c_tryRun {T : Nat} {n : Int32} {Q : Int32 → Wd → Prop} (h : CalW fr A c L w) (hI : Inv T c) (hT : T + 30 < 2 ^ 31) (hc : rngI n 1 30 = true → pC L ≤ mc + pC (runL c L n.toNatClampNeg)) (hs : rngI n 1 30 = true → pS L ≤ ms + pS (runL c L n.toNatClampNeg)) (hq1 : rngI n 1 30 = true → ∀ A' w2, A' 0 = A 0 → CalW fr A' (runTo c n.toNatClampNeg) (runL c L n.toNatClampNeg) w2 → Q 1 w2) (hq0 : ¬ rngI n 1 30 = true → Q 0 w) : CX1_tryRun G l mc ms [.ref (A 0), .int n] w Q := by
  refine sX1_tryRun (bX1_tryRun_0 h.i.o (c_runFault (Q := fun v w2 => rgF n 1 30 = v ∧ w = w2) ⟨rfl, rfl⟩) (by omega) (by omega) (fun v w2 hr => ?_))
  obtain ⟨rfl, rfl⟩ := hr
  by_cases q : rngI n 1 30 = true
  · have e : rgF n 1 30 = 0 := if_pos q
    obtain ⟨n1, n2⟩ := rng_nI q (by decide) (by decide)
    have n3 := rngI_iff.mp q
    obtain ⟨lb1, lb2, -⟩ := h.lb
    have hc := hc q
    have hs := hs q
    have hq1 := hq1 q
    refine bX1_tryRun_5 (fun _ => bX1_tryRun_10 ?_) (fun z => absurd e z)
    have hN : n.toNatClampNeg ≤ 30 := by omega
    rw [n1]
    generalize n.toNatClampNeg = N at *
    have key : ∀ k, k ≤ N → ∀ (Ak : Nat → Nat) (w1 : Wd) (kc ks : Nat), Ak 0 = A 0 → CalW fr Ak (runTo c k) (runL c L k) w1 → kc + pC (runL c L k) ≤ pC L → ks + pS (runL c L k) ≤ pS L → KX1_tryRun G l mc ms w (ZI G mc ms w Q) w1 12 [(0, .ref (A 0)), (1, .int (nI N)), (2, .int (nI k))] [] kc ks := by
      refine upto (P := fun k => ∀ (Ak : Nat → Nat) (w1 : Wd) (kc ks : Nat), Ak 0 = A 0 → CalW fr Ak (runTo c k) (runL c L k) w1 → kc + pC (runL c L k) ≤ pC L → ks + pS (runL c L k) ≤ pS L → KX1_tryRun G l mc ms w (ZI G mc ms w Q) w1 12 [(0, .ref (A 0)), (1, .int (nI N)), (2, .int (nI k))] [] kc ks) (N := N) (fun Ak w1 kc ks hA hw hkc hks => ?_) (fun k hk ih Ak w1 kc ks hA hw hkc hks => ?_)
      · rw [← hA]
        exact bX1_tryRun_12 (fun _ => bX1_tryRun_27 (hq1 Ak w1 hA hw) (by omega) (by omega)) (fun z => absurd (nI_le (Nat.le_refl _) (by omega)) z)
      · have hm := runL_m c lb1 lb2 (k + 1) (N - (k + 1))
        rw [show k + 1 + (N - (k + 1)) = N by omega] at hm
        have hm2 := runL_m c lb1 lb2 k 1
        rw [← hA]
        rw [← hA] at ih
        refine bX1_tryRun_12 (fun z => absurd z (nI_ge hk (by omega))) (fun _ => ?_)
        refine bX1_tryRun_17 hw.i.o (mcq := pC (runL c L k) - pC (runL c L (k + 1))) (msq := pS (runL c L k) - pS (runL c L (k + 1))) (c_letDayGoBy (T := T + k) (Q := fun w2 => ∃ A2, A2 0 = Ak 0 ∧ CalW fr A2 (runTo c (k + 1)) (runL c L (k + 1)) w2) hw (hI.run k (by omega)) ?_ ?_ (fun A2 w2 e0 k9 => ⟨A2, e0, k9⟩)) (by omega) (by omega) (fun w2 hw2 => bX1_tryRun_21 ?_)
        · show _ ≤ _ + pC (runL c L (k + 1)); omega
        · show _ ≤ _ + pS (runL c L (k + 1)); omega
        · obtain ⟨A2, e0, k9⟩ := hw2
          rw [nI_1]
          exact ih A2 w2 _ _ e0 k9 (by omega) (by omega)
    exact key 0 (Nat.zero_le _) A w (0 + 0) (0 + 0) rfl h (by show 0 + 0 + pC L ≤ pC L; omega) (by show 0 + 0 + pS L ≤ pS L; omega)
  · have e : ¬ rgF n 1 30 = 0 := by unfold rgF; rw [if_neg q]; decide
    exact bX1_tryRun_5 (fun z => absurd z e) (fun _ => bX1_tryRun_8 (hq0 q) (by omega) (by omega))
/-- how long the desks' rows are behind a command of a text -/
def dcL (c : Cal) (m : Cm) (L : Nat) : Nat := if m.1 = 100 then runL c L m.2.1.toNatClampNeg else L
def cmOk (m : Cm) : Prop := (m.1 = 110 ∧ rngI m.2.1 1 20 = true) ∨ m.1 = 115 ∨ (m.1 = 103 ∧ ¬ m.2.2.1 = -1) ∨ m.1 = 97 ∨ (m.1 = 100 ∧ rngI m.2.1 1 9 = true)
theorem c_doText {T : Nat} {E : Nat → Nat} {fr2 : Wd} {t : Nat → Int32} {n : Nat} {at9 err lt : Int32} {nu : Nat → Int32} {m : Cm} {Q : Int32 → Wd → Prop} (h : CalW fr A c L w) (hI : Inv T c) (hT : T + 30 < 2 ^ 31) (hx : TxW fr2 E t n at9 err lt nu w) (hn : nmOk m lt nu) (hm : cmOk m)
    (hc : pC L ≤ mc + pC (dcL c m L)) (hs : pS L ≤ ms + pS (dcL c m L)) (hq : ∀ A' w2, A' 0 = A 0 → CalW fr A' (doC c m).1 (dcL c m L) w2 → Q (bI (doC c m).2) w2) : CX1_doTextCommand G l mc ms [.ref (A 0), .ref (E 0)] w Q := by
  obtain ⟨m1, n1, n3, n5⟩ := hn
  have hok : ∀ s, s ∈ cSs c → okR s := fun s hs => hI.s hs
  have hlt : ∀ {k : Int32}, m.1 = k → (lt : Int32).toInt = k.toInt := fun e => by rw [m1, e]
  rcases hm with ⟨e, hr⟩ | e | ⟨e, hp⟩ | e | ⟨e, hr⟩
  · have eL : dcL c m L = L := if_neg (by rw [e]; decide)
    have ed : doC c m = if (cPs c).length < 6 then (hireC c m.2.1, true) else (c, false) := if_pos e
    rw [eL, ed] at hq
    refine sX1_doTextCommand (bX1_doTextCommand_0_110 hx.o rfl rfl (hlt e) (bX1_doTextCommand_60 hx.u (vlit rfl) (c_tryHire (Q := fun r w2 => narrow .boolean (.int r) = .int r ∧ Q r w2) h (fun z1 z2 w2 hw2 => ⟨rfl, ?_⟩) (fun z => ⟨rfl, ?_⟩)) (by omega) (by omega) (fun r w2 hr => bX1_doTextCommand_67 hr.2 (by omega) (by omega) hr.1)))
    · have e0 : nu ((0 : Int32).toNatClampNeg) = m.2.1 := n1 (Or.inl e)
      rw [e0] at hw2
      rw [if_pos z2] at hq
      exact hq A w2 rfl hw2
    · have e0 : nu ((0 : Int32).toNatClampNeg) = m.2.1 := n1 (Or.inl e)
      rw [e0] at z
      rw [if_neg (fun y => z ⟨hr, y⟩)] at hq
      exact hq A w rfl h
  · have eL : dcL c m L = L := if_neg (by rw [e]; decide)
    have ed : doC c m = if isNw c m.2.1 m.2.2.1 m.2.2.2.1 m.2.2.2.2.1 m.2.2.2.2.2 = true then (insS c (m.2.1, m.2.2.1, m.2.2.2.1, m.2.2.2.2.1, m.2.2.2.2.2, -1), true) else (c, false) := by
      unfold doC; rw [if_neg (by rw [e]; decide), if_pos e]
    rw [eL, ed] at hq
    obtain ⟨a0, a1, a2, a3, a4⟩ := n5 e
    have a0 : nu ((0 : Int32).toNatClampNeg) = m.2.1 := a0
    have a1 : nu ((1 : Int32).toNatClampNeg) = m.2.2.1 := a1
    have a2 : nu ((2 : Int32).toNatClampNeg) = m.2.2.2.1 := a2
    have a3 : nu ((3 : Int32).toNatClampNeg) = m.2.2.2.2.1 := a3
    have a4 : nu ((4 : Int32).toNatClampNeg) = m.2.2.2.2.2 := a4
    refine sX1_doTextCommand (bX1_doTextCommand_0_115 hx.o rfl rfl (hlt e) (bX1_doTextCommand_68 hx.u (vlit rfl) (vlit rfl) (vlit rfl) (vlit rfl) (vlit rfl) (c_trySession (Q := fun r w2 => narrow .boolean (.int r) = .int r ∧ Q r w2) h hI (fun z A' w2 e9 hw2 => ⟨rfl, ?_⟩) (fun z => ⟨rfl, ?_⟩)) (by omega) (by omega) (fun r w2 hr => bX1_doTextCommand_87 hr.2 (by omega) (by omega) hr.1)))
    · rw [a0, a1, a2, a3, a4] at z hw2
      rw [if_pos z] at hq
      exact hq A' w2 e9 hw2
    · rw [a0, a1, a2, a3, a4] at z
      rw [if_neg z] at hq
      exact hq A w rfl h
  · have eL : dcL c m L = L := if_neg (by rw [e]; decide)
    have ed : doC c m = if gvOk c m.2.1 m.2.2.1 = true then (setS c m.2.1.toNatClampNeg 5 m.2.2.1, true) else (c, false) := by
      unfold doC; rw [if_neg (by rw [e]; decide), if_neg (by rw [e]; decide), if_pos e]
    rw [eL, ed] at hq
    obtain ⟨a0, a1⟩ := n3 e
    have a0 : nu ((0 : Int32).toNatClampNeg) = m.2.1 := a0
    have a1 : nu ((1 : Int32).toNatClampNeg) = m.2.2.1 := a1
    refine sX1_doTextCommand (bX1_doTextCommand_0_103 hx.o rfl rfl (hlt e) (bX1_doTextCommand_88 hx.u (vlit rfl) (vlit rfl) (c_tryGive (Q := fun r w2 => narrow .boolean (.int r) = .int r ∧ Q r w2) h hok (by rw [a1]; exact hp) (fun z w2 hw2 => ⟨rfl, ?_⟩) (fun z => ⟨rfl, ?_⟩)) (by omega) (by omega) (fun r w2 hr => bX1_doTextCommand_98 hr.2 (by omega) (by omega) hr.1)))
    · rw [a0, a1] at z hw2
      rw [if_pos z] at hq
      exact hq A w2 rfl hw2
    · rw [a0, a1] at z
      rw [if_neg z] at hq
      exact hq A w rfl h
  · have eL : dcL c m L = L := if_neg (by rw [e]; decide)
    have ed : doC c m = ((gvAll c).1, true) := by
      unfold doC; rw [if_neg (by rw [e]; decide), if_neg (by rw [e]; decide), if_neg (by rw [e]; decide), if_pos e]
    rw [eL, ed] at hq
    refine sX1_doTextCommand (bX1_doTextCommand_0_97 hx.o rfl rfl (hlt e) (bX1_doTextCommand_99 h.i.o (c_giveToBest (Q := fun _ w2 => CalW fr A (gvAll c).1 L w2) h hI (fun w2 hw2 => hw2)) (by omega) (by omega) (fun r w2 hr => bX1_doTextCommand_103 (hq A w2 rfl hr) (by omega) (by omega))))
  · have eL : dcL c m L = runL c L m.2.1.toNatClampNeg := if_pos e
    have ed : doC c m = (runTo c m.2.1.toNatClampNeg, true) := by
      unfold doC; rw [if_neg (by rw [e]; decide), if_neg (by rw [e]; decide), if_neg (by rw [e]; decide), if_neg (by rw [e]; decide)]
    rw [eL, ed] at hq
    rw [eL] at hc hs
    have a0 : nu ((0 : Int32).toNatClampNeg) = m.2.1 := n1 (Or.inr e)
    have hr30 : rngI m.2.1 1 30 = true := by rw [rngI_iff] at hr ⊢; omega
    refine sX1_doTextCommand (bX1_doTextCommand_0_100 hx.o rfl rfl (hlt e) (bX1_doTextCommand_106 hx.u (vlit rfl) (mcq := mc) (msq := ms) (c_tryRun (Q := fun r w2 => narrow .boolean (.int r) = .int r ∧ Q r w2) h hI hT (fun _ => by rw [a0]; exact hc) (fun _ => by rw [a0]; exact hs) (fun z A' w2 e9 hw2 => ⟨rfl, ?_⟩) (fun z => ⟨rfl, ?_⟩)) (by omega) (by omega) (fun r w2 hr => bX1_doTextCommand_113 hr.2 (by omega) (by omega) hr.1)))
    · rw [a0] at hw2
      exact hq A' w2 e9 hw2
    · rw [a0] at z
      exact absurd hr30 z
end CC
