/-! DESKS THAT CHANGE; what growing costs -/
def pC (L : Nat) : Nat := if L < 640 then 3 + 3 * ((640 - L) / 16) else 0
def pS (L : Nat) : Nat := if L < 640 then 5760 - 6 * L else 0
def grw (L n : Nat) : Nat := if n ≤ L then L else max n (min (2 * L) 640)
theorem grw_b {L n : Nat} (h : 16 ≤ L) (h2 : L ≤ 640) (hn : n ≤ 640) : L ≤ grw L n ∧ n ≤ grw L n ∧ grw L n ≤ 640 := by
  unfold grw
  split <;> omega
theorem grw_e {L n : Nat} (hl : L < n) : grw L n = max n (min (2 * L) 640) := if_neg (by omega)
theorem grw_c {L n : Nat} (h : 16 ≤ L) (h2 : L ≤ 640) (hn : n ≤ 640) (hl : L < n) : 3 + pC (grw L n) ≤ pC L ∧ 3 * grw L n + pS (grw L n) ≤ pS L := by
  rw [grw_e hl]
  have e1 : pC L = 3 + 3 * ((640 - L) / 16) := if_pos (by omega)
  have e2 : pS L = 5760 - 6 * L := if_pos (by omega)
  have hN : max n (min (2 * L) 640) ≤ 640 ∧ (2 * L ≤ max n (min (2 * L) 640) ∨ max n (min (2 * L) 640) = 640) := by omega
  generalize max n (min (2 * L) 640) = N at *
  rw [e1, e2]
  by_cases z : N < 640
  · rw [show pC N = 3 + 3 * ((640 - N) / 16) from if_pos z, show pS N = 5760 - 6 * N from if_pos z]
    omega
  · rw [show pC N = 0 from if_neg z, show pS N = 0 from if_neg z]
    omega
theorem lt_n {i n : Nat} (h : i < n) : i < n := h
theorem grw_m {L n : Nat} (h : 16 ≤ L) (h2 : L ≤ 640) (hn : n ≤ 640) : pC (grw L n) ≤ pC L ∧ pS (grw L n) ≤ pS L := by
  by_cases q : n ≤ L
  · unfold grw; rw [if_pos q]; exact ⟨Nat.le_refl _, Nat.le_refl _⟩
  · have := grw_c h h2 hn (by omega)
    omega
theorem inj4_of {D : Nat → Nat} (h01 : D 0 ≠ D 1) (h02 : D 0 ≠ D 2) (h03 : D 0 ≠ D 3) (h12 : D 1 ≠ D 2) (h13 : D 1 ≠ D 3) (h23 : D 2 ≠ D 3) : Inj4 D := by
  intro i j hi hj e
  have hi4 : i = 0 ∨ i = 1 ∨ i = 2 ∨ i = 3 := by omega
  have hj4 : j = 0 ∨ j = 1 ∨ j = 2 ∨ j = 3 := by omega
  rcases hi4 with rfl | rfl | rfl | rfl <;> rcases hj4 with rfl | rfl | rfl | rfl <;> first | rfl | exact absurd e (by assumption) | exact absurd e.symm (by assumption)
theorem tg_ext {a b : List Tr} (hl : a.length = b.length) (h : ∀ i, i < a.length → tg a i = tg b i) : a = b := by
  apply List.ext_getElem hl
  intro i h1 h2
  have := h i h1
  unfold tg at this
  rw [List.getD_eq_getElem?_getD, List.getD_eq_getElem?_getD, List.getElem?_eq_getElem h1, List.getElem?_eq_getElem h2] at this
  exact this
theorem tg_app (ts : List Tr) (t : Tr) (i : Nat) (hi : i < ts.length + 1) : tg (ts ++ [t]) i = if i = ts.length then t else tg ts i := by
  unfold tg
  simp only [List.getD_eq_getElem?_getD]
  split
  · rename_i q; subst q; simp
  · rw [List.getElem?_append_left (by omega)]
theorem min640 {n : Nat} (hn : n < 2 ^ 31) : (if (640 : Int32) < nI n then 640 else nI n) = nI (min n 640) := by
  rw [show (640 : Int32) = nI 640 from rfl]
  by_cases z : 640 < n
  · rw [if_pos (nI_lt z (by omega)), Nat.min_eq_right (by omega)]
  · rw [if_neg (nI_nlt (by omega) (by omega)), Nat.min_eq_left (by omega)]
section DW
variable {G : GG} {l : Launch} {w fr : Wd} {D : Nat → Nat} {ts : List Tr} {L : Nat} {mc ms : Nat}
def cpQ (w : Wd) (N : Nat) (g : Nat → Int32) (L : Nat) (a : Nat) (w2 : Wd) : Prop := w a = none ∧ w2 = wset w a (irow N (va_cpy g (fun _ => 0) 0 0 L))
theorem c_copy {a N n1 : Nat} {x : Int32} {g : Nat → Int32} (h : w a = some (irow n1 g)) (hx : x = nI N) (hn : n1 < N) (hN : N ≤ 640) : Ct G l yJ7_copyOf_59c91 cJ7_copyOf_59c91 3 (some (.array .int)) 1 40 1 N [.ref a, .int x] w (fun v w2 => ∃ b : Nat, v = some (.ref b) ∧ cpQ w N g n1 b w2) :=
  c_copyOf h hx hn hN (fun q hq0 => ⟨q, rfl, hq0, rfl⟩)
theorem c_makeRoomFor {n : Nat} {x : Int32} {Q : Wd → Prop} (h : DeskW fr D ts L w) (hx : x = nI n) (hn : n ≤ 2000) (hc : pC L ≤ mc + pC (grw L (min n 640))) (hs : pS L ≤ ms + pS (grw L (min n 640))) (hq : ∀ D' w2, D' 0 = D 0 → DeskW fr D' ts (grw L (min n 640)) w2 → Q w2) : CX2_makeRoomFor G l mc ms [.ref (D 0), .int x] w Q := by
  subst hx
  have em := min640 (n := n) (by omega)
  have hn : min n 640 ≤ 640 := by omega
  generalize min n 640 = m at *
  have h9 := h
  obtain ⟨f, fn, inj, e0, ⟨g1, e1, c1⟩, ⟨g2, e2, c2⟩, ⟨g3, e3, c3⟩, b1, b2, b3⟩ := h9
  have eL : Int32.ofNat L = nI L := rfl
  refine sX2_makeRoomFor (bX2_makeRoomFor_0 (Nat.zero_le _) (Nat.zero_le _) e0 rfl e1 (fun q => ?_) (fun q => bX2_makeRoomFor_17 ?_ (Nat.zero_le _) (Nat.zero_le _)))
  · rw [em, eL, nI_ltI (by omega) (by omega)] at q
    rw [em]
    have hg := grw_b b2 b3 hn
    have hgc := grw_c b2 b3 hn q
    have hN : (if nI m < (if 640 < (2 * (Int32.ofNat L)) then 640 else (2 * (Int32.ofNat L))) then (if 640 < (2 * (Int32.ofNat L)) then 640 else (2 * (Int32.ofNat L))) else nI m) = nI (grw L m) := by
      have e2L : (2 : Int32) * Int32.ofNat L = nI (2 * L) := by rw [eL, show (2 : Int32) = nI 2 from rfl, nI_mul]
      have e640 : (640 : Int32) = nI 640 := rfl
      rw [e2L, e640]
      have em2 : (if nI 640 < nI (2 * L) then nI 640 else nI (2 * L)) = nI (min (2 * L) 640) := by
        by_cases z : 640 < 2 * L
        · rw [if_pos (nI_lt z (by omega)), Nat.min_eq_right (by omega)]
        · rw [if_neg (nI_nlt (by omega) (by omega)), Nat.min_eq_left (by omega)]
      rw [em2]
      rw [grw_e q]
      by_cases z : m < min (2 * L) 640
      · rw [if_pos (nI_lt z (by omega)), Nat.max_eq_right (by omega)]
      · rw [if_neg (nI_nlt (by omega) (by omega)), Nat.max_eq_left (by omega)]
    have hLn : L < grw L m := by omega
    have hc3 : 0 + 1 + 1 + 1 ≤ mc := by omega
    have hs3 : 0 + grw L m + grw L m + grw L m ≤ ms := by omega
    generalize grw L m = N at *
    refine bX2_makeRoomFor_18 e0 rfl e1 (Nat.zero_le _) (Nat.zero_le _) (c_copy (N := N) e1 hN hLn (by omega)) (by omega) (by omega) (fun q1 w1 hw1 => ?_)
    obtain ⟨hq1, rfl⟩ := hw1
    rw [hN]
    have n01 : D 0 ≠ q1 := fun z => by rw [z, hq1] at e0; cases e0
    have n21 : D 2 ≠ q1 := fun z => by rw [z, hq1] at e2; cases e2
    have n31 : D 3 ≠ q1 := fun z => by rw [z, hq1] at e3; cases e3
    have i02 : D 0 ≠ D 2 := inj.ne (by decide) (by decide) (by decide)
    have i03 : D 0 ≠ D 3 := inj.ne (by decide) (by decide) (by decide)
    have i20 := i02.symm
    have i30 := i03.symm
    refine bX2_makeRoomFor_45 (wn n01 e0) (dsk_l (by decide)) rfl (wset_eq _ _ _) rfl (c_copy (N := N) (wn i20 (wn n21 e2)) rfl hLn (by omega)) (by omega) (by omega) (fun q2 w1 hw1 => ?_)
    obtain ⟨hq2, rfl⟩ := hw1
    simp only [wn_iff] at hq2
    obtain ⟨n20, n2q1, hq2⟩ := hq2
    have n02 : D 0 ≠ q2 := fun z => n20 z.symm
    have n32 : D 3 ≠ q2 := fun z => by rw [z, hq2] at e3; cases e3
    refine bX2_makeRoomFor_57 (wn n02 (wset_eq _ _ _)) (lt_n (n := 4) (by decide)) rfl (wset_eq _ _ _) rfl (c_copy (N := N) (wn i30 (wn n32 (wn i30 (wn n31 e3)))) rfl hLn (by omega)) (by omega) (by omega) (fun q3 w1 hw1 => ?_)
    obtain ⟨hq3, rfl⟩ := hw1
    simp only [wn_iff] at hq3
    obtain ⟨n30, n3q2, -, n3q1, hq3⟩ := hq3
    have n03 : D 0 ≠ q3 := fun z => n30 z.symm
    refine bX2_makeRoomFor_69 (wn n03 (wset_eq _ _ _)) (lt_n (n := 4) (by decide)) rfl (hq (fun i => match i with | 0 => D 0 | 1 => q1 | 2 => q2 | _ => q3) _ rfl ?_) (by omega) (by omega)
    have cpy : ∀ (g : Nat → Int32) (c : Nat), (∀ i, i < ts.length → g i = tf (tg ts i) c) → ∀ i, i < ts.length → va_cpy g (fun _ => 0) 0 0 L i = tf (tg ts i) c := fun g c hc9 i hi => by
      rw [pk_cpy_in (Nat.zero_le _) (by omega), Nat.zero_add]; exact hc9 i hi
    refine ⟨fun q e hqe => ?_, fun i hi => ?_, inj4_of n01 n02 n03 (fun z => n2q1 z.symm) (fun z => n3q1 z.symm) (fun z => n3q2 z.symm), wset_eq _ _ _, ⟨_, ?_, cpy g1 0 c1⟩, ⟨_, ?_, cpy g2 1 c2⟩, ⟨_, ?_, cpy g3 2 c3⟩, by omega, by omega, by omega⟩
    · have z0 := fr_ne hqe (fn 0 (by decide))
      have zq : ∀ a, w a = none → q ≠ a := fun a ha z => by rw [z] at hqe; rw [f _ _ hqe] at ha; cases ha
      exact wn z0 (wn (zq _ hq3) (wn z0 (wn (zq _ hq2) (wn z0 (wn (zq _ hq1) (f q e hqe))))))
    · have zq : ∀ a, w a = none → fr a = none := fun a ha => by
        cases hfa : fr a with
        | none => rfl
        | some e => rw [f _ _ hfa] at ha; cases ha
      have hi4 : i = 0 ∨ i = 1 ∨ i = 2 ∨ i = 3 := by omega
      rcases hi4 with rfl | rfl | rfl | rfl
      · exact fn 0 (by decide)
      · exact zq _ hq1
      · exact zq _ hq2
      · exact zq _ hq3
    · exact wn n01.symm (wn (fun z => n3q1 z.symm) (wn n01.symm (wn (fun z => n2q1 z.symm) (wn n01.symm (wset_eq _ _ _)))))
    · exact wn n20 (wn (fun z => n3q2 z.symm) (wn n20 (wset_eq _ _ _)))
    · exact wn n30 (wset_eq _ _ _)
  · rw [em, eL, nI_ltI (by omega) (by omega)] at q
    have e : grw L m = L := by unfold grw; rw [if_pos (by omega)]
    rw [e] at hq
    exact hq D w rfl h
def putT (ts : List Tr) (t : Tr) : List Tr := if ts.length < 640 then ts ++ [t] else ts
theorem c_put {p x d : Int32} {Q : Wd → Prop} (h : DeskW fr D ts L w) (hL : ts.length < 640 → ts.length < L) (hq : ∀ w2, DeskW fr D (putT ts (p, x, d)) L w2 → Q w2) : CX2_put G l [.ref (D 0), .int p, .int x, .int d] w Q := by
  have h9 := h
  obtain ⟨f, fn, inj, e0, ⟨g1, e1, c1⟩, ⟨g2, e2, c2⟩, ⟨g3, e3, c3⟩, b1, b2, b3⟩ := h9
  have eL : Int32.ofNat L = nI L := rfl
  unfold putT at hq
  refine sX2_put (bX2_put_0 e0 rfl rfl e1 (fun q => ?_) (fun q => bX2_put_12 ?_))
  · rw [eL, nI_ltI (by omega) (by omega)] at q
    have hlt : ts.length < 640 := by omega
    rw [if_pos hlt] at hq
    have i01 : D 0 ≠ D 1 := inj.ne (by decide) (by decide) (by decide)
    have i02 : D 0 ≠ D 2 := inj.ne (by decide) (by decide) (by decide)
    have i03 : D 0 ≠ D 3 := inj.ne (by decide) (by decide) (by decide)
    have i12 : D 1 ≠ D 2 := inj.ne (by decide) (by decide) (by decide)
    have i13 : D 1 ≠ D 3 := inj.ne (by decide) (by decide) (by decide)
    have i23 : D 2 ≠ D 3 := inj.ne (by decide) (by decide) (by decide)
    have ix : vp_in (nI ts.length) L := ix_of rfl (by omega) (by omega)
    refine bX2_put_13 e0 rfl rfl e1 ix (wn i01 e0) rfl rfl (wn i12.symm e2) ix (wn i02 (wn i01 e0)) rfl rfl (wn i23.symm (wn i13.symm e3)) ix (wn i03 (wn i02 (wn i01 e0))) rfl (f18 := dskF D (ts.length + 1)) (dsk_l (by decide)) (by rw [nI_1]; rfl) (hq _ ?_)
    rw [nI_clamp (by omega)]
    have up : ∀ (g : Nat → Int32) (c : Nat) (v : Int32), (∀ i, i < ts.length → g i = tf (tg ts i) c) → tf (p, x, d) c = v → ∀ i, i < (ts ++ [(p, x, d)]).length → upd g ts.length v i = tf (tg (ts ++ [(p, x, d)]) i) c := fun g c v hg9 hv i hi => by
      have hi2 : i < ts.length + 1 := by simpa using hi
      rw [tg_app _ _ _ hi2]
      by_cases z : i = ts.length
      · subst z; rw [if_pos rfl, upd_eq, hv]
      · rw [if_neg z, upd_ne _ _ z, hg9 i (by omega)]
    have hlen : (ts ++ [(p, x, d)]).length = ts.length + 1 := by simp
    refine h.to (by rw [hlen]; exact wset_eq _ _ _) (wn i01.symm (wn i13 (wn i12 (wset_eq _ _ _)))) (wn i02.symm (wn i23 (wset_eq _ _ _))) (wn i03.symm (wset_eq _ _ _)) (up g1 0 p c1 rfl) (up g2 1 x c2 rfl) (up g3 2 d c3 rfl) (by omega) (fun q e hqe => ?_)
    have z : ∀ {i}, i < 4 → q ≠ D i := fun hi => fr_ne hqe (fn _ hi)
    exact wn (z (by decide)) (wn (z (by decide)) (wn (z (by decide)) (wn (z (by decide)) (f q e hqe))))
  · have hlt : ¬ ts.length < 640 := fun z => q (by rw [eL]; exact nI_lt (hL z) (by omega))
    rw [if_neg hlt] at hq
    exact hq w h
theorem c_dcopy {E : Nat → Nat} {us : List Tr} {M : Nat} {Q : Wd → Prop} (h : DeskW fr D ts L w) (ho : DeskIn fr E us M) (hc : pC L ≤ mc + pC (grw L us.length)) (hs : pS L ≤ ms + pS (grw L us.length)) (hq : ∀ D' w2, D' 0 = D 0 → DeskW fr D' us (grw L us.length) w2 → Q w2) : CX2_copyFrom G l mc ms [.ref (D 0), .ref (E 0)] w Q := by
  have b2 := h.i.2.2.2.2.2.1
  have b3 := h.i.2.2.2.2.2.2
  obtain ⟨o0, ⟨k1, o1, d1⟩, ⟨k2, o2, d2⟩, ⟨k3, o3, d3⟩, a1, a2, a3⟩ := ho
  have hg := grw_b b2 b3 (n := us.length) (by omega)
  have e640 : min us.length 640 = us.length := Nat.min_eq_left (by omega)
  refine sX2_copyFrom (bX2_copyFrom_0 (h.f o0) rfl h.i.1 (mcq := mc) (msq := ms) (c_makeRoomFor (n := us.length) (Q := fun w2 => ∃ D' : Nat → Nat, D' 0 = D 0 ∧ DeskW fr D' ts (grw L us.length) w2) h rfl (by omega) (by rw [e640]; exact hc) (by rw [e640]; exact hs) (fun D' w2 e1 e2 => ⟨D', e1, by rw [e640] at e2; exact e2⟩)) (by omega) (by omega) (fun w2 hw2 => ?_))
  obtain ⟨D', eD, hw⟩ := hw2
  have h9 := hw
  obtain ⟨f, fn, inj, e0, ⟨g1, e1, c1⟩, ⟨g2, e2, c2⟩, ⟨g3, e3, c3⟩, -, -, -⟩ := h9
  rw [← eD] at hq ⊢
  have i01 : D' 0 ≠ D' 1 := inj.ne (by decide) (by decide) (by decide)
  have i02 : D' 0 ≠ D' 2 := inj.ne (by decide) (by decide) (by decide)
  have i03 : D' 0 ≠ D' 3 := inj.ne (by decide) (by decide) (by decide)
  have i12 : D' 1 ≠ D' 2 := inj.ne (by decide) (by decide) (by decide)
  have i13 : D' 1 ≠ D' 3 := inj.ne (by decide) (by decide) (by decide)
  have i23 : D' 2 ≠ D' 3 := inj.ne (by decide) (by decide) (by decide)
  have ne : ∀ {a : Nat} {e : PE} {i : Nat}, fr a = some e → i < 4 → a ≠ D' i := fun ha hi => fr_ne ha (fn _ hi)
  have ec : (nI us.length).toNatClampNeg = us.length := nI_clamp (by omega)
  have np : ¬ nI us.length < 0 := nI_pos (by omega)
  have l0 : (0 : Int32).toNatClampNeg + (nI us.length).toNatClampNeg ≤ M := by rw [ec]; show 0 + us.length ≤ M; omega
  have l1 : (0 : Int32).toNatClampNeg + (nI us.length).toNatClampNeg ≤ grw L us.length := by rw [ec]; show 0 + us.length ≤ _; omega
  refine bX2_copyFrom_8 (f _ _ o0) rfl e0 rfl rfl (f _ _ o1) e1 (by decide) (by decide) np l0 l1 (wn (ne o0 (by decide)) (f _ _ o0)) rfl (wn i01 e0) rfl rfl (wn (ne o2 (by decide)) (f _ _ o2)) (wn i12.symm e2) (by decide) (by decide) np l0 l1
    (wn (ne o0 (by decide)) (wn (ne o0 (by decide)) (f _ _ o0))) rfl (wn i02 (wn i01 e0)) rfl rfl (wn (ne o3 (by decide)) (wn (ne o3 (by decide)) (f _ _ o3))) (wn i23.symm (wn i13.symm e3)) (by decide) (by decide) np l0 l1
    (wn (ne o0 (by decide)) (wn (ne o0 (by decide)) (wn (ne o0 (by decide)) (f _ _ o0)))) rfl (wn i03 (wn i02 (wn i01 e0))) (f28 := dskF D' us.length) (dsk_l (by decide)) rfl (hq D' _ rfl ?_) (by omega) (by omega)
  rw [ec]
  have cp : ∀ (g k : Nat → Int32) (c : Nat), (∀ i, i < us.length → k i = tf (tg us i) c) → ∀ i, i < us.length → va_cpy k g (0 : Int32).toNatClampNeg (0 : Int32).toNatClampNeg us.length i = tf (tg us i) c := fun g k c hk i hi => by
    show va_cpy k g 0 0 us.length i = _
    rw [pk_cpy_in (Nat.zero_le _) (by omega), Nat.zero_add]; exact hk i hi
  refine hw.to (wset_eq _ _ _) (wn i01.symm (wn i13 (wn i12 (wset_eq _ _ _)))) (wn i02.symm (wn i23 (wset_eq _ _ _))) (wn i03.symm (wset_eq _ _ _)) (cp g1 k1 0 d1) (cp g2 k2 1 d2) (cp g3 k3 2 d3) (by omega) (fun q e hqe => ?_)
  exact wn (ne hqe (by decide)) (wn (ne hqe (by decide)) (wn (ne hqe (by decide)) (wn (ne hqe (by decide)) (f q e hqe))))
theorem c_takeAway {k : Nat} {x : Int32} {Q : Wd → Prop} (h : DeskW fr D ts L w) (hx : x = nI k) (hk : k < ts.length) (hq : ∀ w2, DeskW fr D (ts.eraseIdx k) L w2 → Q w2) : CX2_takeAway G l [.ref (D 0), .int x] w Q := by
  subst hx
  have b1 := h.i.2.2.2.2.1
  have b3 := h.i.2.2.2.2.2.2
  refine sX2_takeAway (bX2_takeAway_0 ?_)
  have key : ∀ d j, j + d + 1 = ts.length → k ≤ j → ∀ (tj : List Tr) (w1 : Wd), DeskW fr D tj L w1 → tj.length = ts.length → (∀ i, i < ts.length → tg tj i = if k ≤ i ∧ i < j then tg ts (i + 1) else tg ts i) → KX2_takeAway G l w (ZV G 0 0 w Q) w1 4 [(0, .ref (D 0)), (2, .int (nI (j + 1)))] [] := by
    intro d
    induction d with
    | zero =>
      intro j hj hkj tj w1 hw hl ht
      refine bX2_takeAway_4 hw.i.1 rfl (fun _ => ?_) (fun q => absurd (by rw [hl]; exact nI_le (by omega) (by omega)) q)
      refine bX2_takeAway_60 hw.i.1 rfl (f3 := dskF D (tj.length - 1)) (dsk_l (by decide)) (by rw [nI_sub1 (by omega)]; rfl) (hq _ ?_)
      have e : ts.eraseIdx k = tj.take (tj.length - 1) := by
        have e1 : (ts.eraseIdx k).length = ts.length - 1 := List.length_eraseIdx_of_lt hk
        refine tg_ext (by rw [e1, List.length_take]; omega) (fun i hi => ?_)
        rw [e1] at hi
        rw [tg_erase, tg_take _ (by omega), ht i (by omega)]
        by_cases z : i < k
        · rw [if_pos z, if_neg (by omega)]
        · rw [if_neg z, if_pos (by omega)]
      rw [e]
      exact hw.shr (by omega)
    | succ d ih =>
      intro j hj hkj tj w1 hw hl ht
      refine bX2_takeAway_4 hw.i.1 rfl (fun q => absurd q (by rw [hl]; exact nI_ge (by omega) (by omega))) (fun _ => ?_)
      have em : nI (j + 1) - 1 = nI j := nI_pred j
      have ix1 : vp_in (nI (j + 1)) L := ix_of rfl (by omega) (by omega)
      have ix0 : vp_in (nI (j + 1) - 1) L := by rw [em]; exact ix_of rfl (by omega) (by omega)
      have cl1 : (nI (j + 1)).toNatClampNeg = j + 1 := nI_clamp (by omega)
      have cl0 : (nI (j + 1) - 1).toNatClampNeg = j := by rw [em]; exact nI_clamp (by omega)
      obtain ⟨g1, e1, c1⟩ := hw.i.2.1
      have k1 := hw.col (m := 0) (j := j) (by decide) (by omega) e1 (g1 (j + 1))
      obtain ⟨g2, e2, c2⟩ := k1.i.2.2.1
      have k2 := k1.col (m := 1) (j := j) (by decide) (by rw [List.length_set]; omega) e2 (g2 (j + 1))
      obtain ⟨g3, e3, c3⟩ := k2.i.2.2.2.1
      have k3 := k2.col (m := 2) (j := j) (by decide) (by rw [List.length_set, List.length_set]; omega) e3 (g3 (j + 1))
      refine bX2_takeAway_12 hw.i.1 rfl e1 ix1 ix0 (by rw [cl1, cl0]; exact k1.i.1) rfl (by rw [cl1, cl0]; exact e2) ix1 ix0 (by rw [cl1, cl0]; exact k2.i.1) rfl (by rw [cl1, cl0]; exact e3) ix1 ix0 ?_
      rw [cl1, cl0, nI_1]
      refine ih (j + 1) (by omega) (by omega) _ _ k3 (by rw [List.length_set, List.length_set, List.length_set]; exact hl) (fun i hi => ?_)
      have hjl : j < tj.length := by omega
      rw [tg_set _ _ _ _ (by rw [List.length_set, List.length_set]; exact hjl)]
      by_cases z : i = j
      · subst z
        rw [if_pos rfl, tg_set _ _ _ _ (by rw [List.length_set]; exact hjl), if_pos rfl, tg_set _ _ _ _ hjl, if_pos rfl, if_pos (by omega)]
        have v1 : g1 (i + 1) = tf (tg ts (i + 1)) 0 := by rw [c1 (i + 1) (by omega), ht (i + 1) (by omega), if_neg (by omega)]
        have v2 : g2 (i + 1) = tf (tg ts (i + 1)) 1 := by
          rw [c2 (i + 1) (by rw [List.length_set]; omega), tg_set _ _ _ _ hjl, if_neg (by omega), ht (i + 1) (by omega), if_neg (by omega)]
        have v3 : g3 (i + 1) = tf (tg ts (i + 1)) 2 := by
          rw [c3 (i + 1) (by rw [List.length_set, List.length_set]; omega), tg_set _ _ _ _ (by rw [List.length_set]; exact hjl), if_neg (by omega), tg_set _ _ _ _ hjl, if_neg (by omega), ht (i + 1) (by omega), if_neg (by omega)]
        rw [v1, v2, v3]
        rfl
      · rw [if_neg z, tg_set _ _ _ _ (by rw [List.length_set]; exact hjl), if_neg z, tg_set _ _ _ _ hjl, if_neg z, ht i hi]
        by_cases z2 : k ≤ i ∧ i < j
        · rw [if_pos z2, if_pos (by omega)]
        · rw [if_neg z2, if_neg (by omega)]
  rw [nI_1]
  exact key (ts.length - k - 1) k (by omega) (Nat.le_refl _) ts w h rfl (fun i hi => by rw [if_neg (by omega)])
end DW
