/-! WHAT EVERY CALENDAR KEEPS -/
def okR (s : Ss) : Prop := 0 ≤ (sf s 0).toInt ∧ (sf s 0).toInt ≤ 4 ∧ 0 ≤ (sf s 1).toInt ∧ (sf s 1).toInt ≤ 999 ∧ 0 ≤ (sf s 2).toInt ∧ 1 ≤ (sf s 3).toInt ∧ (sf s 2).toInt + (sf s 3).toInt ≤ 16
def ky (s : Ss) : Int := ((sf s 1).toInt * 17 + (sf s 2).toInt) * 5 + (sf s 0).toInt
def dsj (s t : Ss) : Prop := ¬ sf s 0 = sf t 0 ∨ ¬ sf s 1 = sf t 1 ∨ (sf s 2).toInt + (sf s 3).toInt ≤ (sf t 2).toInt ∨ (sf t 2).toInt + (sf t 3).toInt ≤ (sf s 2).toInt
def okH (n : Nat) (s : Ss) : Prop := -1 ≤ (sf s 5).toInt ∧ (sf s 5).toInt < n
def pyS : List Pn → Int32
  | [] => 0
  | p :: r => tf p 2 + pyS r
def Kys (l : List Ss) : Prop := l.Pairwise (fun s t => ky s < ky t)
def Dsj (l : List Ss) : Prop := l.Pairwise dsj
def okC (c : Cal) : Prop := 1 ≤ (cSc c 9).toInt ∧ (cSc c 9).toInt ≤ 16 ∧ 1 ≤ (cSc c 10).toInt ∧ (cSc c 10).toInt ≤ 16 ∧ 0 ≤ (cSc c 11).toInt ∧ (cSc c 11).toInt ≤ 30 ∧ 0 ≤ (cSc c 12).toInt ∧ (cSc c 12).toInt ≤ 99
def Inv (T : Nat) (c : Cal) : Prop :=
  (∀ s, s ∈ cSs c → okR s ∧ (cSc c 3).toInt ≤ (sf s 1).toInt ∧ okH (cPs c).length s) ∧ Kys (cSs c) ∧ Dsj (cSs c) ∧ (0 ≤ (cSc c 3).toInt ∧ (cSc c 3).toInt ≤ T) ∧ okC c ∧
  ((cPs c).length ≤ 6 ∧ (cSs c).length ≤ 16 ∧ (cTs c).length ≤ 640) ∧ cSc c 5 = pyS (cPs c)
section INV
variable {T : Nat} {c : Cal}
theorem Inv.s (h : Inv T c) {s : Ss} (hs : s ∈ cSs c) : okR s := (h.1 s hs).1
theorem Inv.td (h : Inv T c) {s : Ss} (hs : s ∈ cSs c) : (cSc c 3).toInt ≤ (sf s 1).toInt := (h.1 s hs).2.1
theorem Inv.hd (h : Inv T c) {s : Ss} (hs : s ∈ cSs c) : okH (cPs c).length s := (h.1 s hs).2.2
theorem Inv.kk (h : Inv T c) : Kys (cSs c) := h.2.1
theorem Inv.dj (h : Inv T c) : Dsj (cSs c) := h.2.2.1
theorem Inv.t0 (h : Inv T c) : 0 ≤ (cSc c 3).toInt := h.2.2.2.1.1
theorem Inv.tT (h : Inv T c) : (cSc c 3).toInt ≤ T := h.2.2.2.1.2
theorem Inv.st (h : Inv T c) : okC c := h.2.2.2.2.1
theorem Inv.b0 (h : Inv T c) : (cPs c).length ≤ 6 := h.2.2.2.2.2.1.1
theorem Inv.b1 (h : Inv T c) : (cSs c).length ≤ 16 := h.2.2.2.2.2.1.2.1
theorem Inv.b2 (h : Inv T c) : (cTs c).length ≤ 640 := h.2.2.2.2.2.1.2.2
theorem Inv.py (h : Inv T c) : cSc c 5 = pyS (cPs c) := h.2.2.2.2.2.2
theorem Inv.mono (h : Inv T c) {T2 : Nat} (h2 : T ≤ T2) : Inv T2 c := ⟨h.1, h.kk, h.dj, ⟨h.t0, Int.le_trans h.tT (by omega)⟩, h.st, ⟨h.b0, h.b1, h.b2⟩, h.py⟩
end INV
theorem sg_mem {l : List Ss} {k : Nat} (h : k < l.length) : sg l k ∈ l := by
  unfold sg
  rw [List.getD_eq_getElem?_getD, List.getElem?_eq_getElem h]
  exact List.getElem_mem h
theorem sg_get {l : List Ss} {k : Nat} (h : k < l.length) : sg l k = l[k] := by
  unfold sg
  rw [List.getD_eq_getElem?_getD, List.getElem?_eq_getElem h]; rfl
theorem sg_split {l : List Ss} {k : Nat} (h : k < l.length) : l = l.take k ++ sg l k :: l.drop (k + 1) := by
  rw [sg_get h, ← List.drop_eq_getElem_cons h, List.take_append_drop]
theorem Kys.at {l : List Ss} (h : Kys l) {i j : Nat} (hij : i < j) (hj : j < l.length) : ky (sg l i) < ky (sg l j) := by
  rw [sg_get hj, sg_get (by omega : i < l.length)]
  exact List.pairwise_iff_getElem.mp h i j (by omega) hj hij
theorem dsj.symm {s t : Ss} (h : dsj s t) : dsj t s := by
  unfold dsj at h ⊢
  rcases h with h | h | h | h
  · exact Or.inl (fun e => h e.symm)
  · exact Or.inr (Or.inl (fun e => h e.symm))
  · exact Or.inr (Or.inr (Or.inr h))
  · exact Or.inr (Or.inr (Or.inl h))
theorem Dsj.at {l : List Ss} (h : Dsj l) {i j : Nat} (hij : i ≠ j) (hi : i < l.length) (hj : j < l.length) : dsj (sg l i) (sg l j) := by
  rw [sg_get hj, sg_get hi]
  rcases Nat.lt_or_gt_of_ne hij with q | q
  · exact List.pairwise_iff_getElem.mp h i j hi hj q
  · exact (List.pairwise_iff_getElem.mp h j i hj hi q).symm
-- a lone change of who has a session
def nH (s : Ss) : Ss := sfset s 5 0
theorem nH_ky (s : Ss) : ky (nH s) = ky s := rfl
theorem nH_set (s : Ss) (v : Int32) : nH (sfset s 5 v) = nH s := rfl
theorem okR_nH (s : Ss) : okR (nH s) ↔ okR s := Iff.rfl
theorem pw_nH {R : Ss → Ss → Prop} (hR : ∀ s t, R (nH s) (nH t) ↔ R s t) {l m : List Ss} (he : l.map nH = m.map nH) (h : l.Pairwise R) : m.Pairwise R := by
  have h1 : (l.map nH).Pairwise R := List.pairwise_map.mpr (h.imp (fun q => (hR _ _).mpr q))
  rw [he] at h1
  exact (List.pairwise_map.mp h1).imp (fun q => (hR _ _).mp q)
theorem map_set_nH (l : List Ss) (k : Nat) (v : Int32) : (l.set k (sfset (sg l k) 5 v)).map nH = l.map nH := by
  by_cases hk : k < l.length
  · rw [List.map_set, nH_set, sg_get hk]
    apply List.ext_getElem
    · simp
    · intro i h1 h2
      rw [List.getElem_set]
      split
      · rename_i e; subst e; simp
      · rfl
  · rw [List.set_eq_of_length_le (by omega)]
theorem mem_set_of {l : List Ss} {k : Nat} {s x : Ss} (h : x ∈ l.set k s) : x ∈ l ∨ x = s := List.mem_or_eq_of_mem_set h
theorem Inv.hold {T : Nat} {c : Cal} (h : Inv T c) (k : Nat) {v : Int32} (hv : v = -1 ∨ ∃ p, p < (cPs c).length ∧ v = nI p) : Inv T (setS c k 5 v) := by
  by_cases hk : k < (cSs c).length
  · refine ⟨fun s hs => ?_, ?_, ?_, ⟨h.t0, h.tT⟩, h.st, ⟨h.b0, by rw [setS_len]; exact h.b1, h.b2⟩, h.py⟩
    · rcases mem_set_of hs with q | q
      · exact h.1 s q
      · subst q
        have h1 := h.1 _ (sg_mem hk)
        refine ⟨h1.1, h1.2.1, ?_⟩
        have hb := h.b0
        show -1 ≤ v.toInt ∧ v.toInt < _
        rcases hv with hv | ⟨p, hp, hv⟩
        · subst hv
          rw [show (-1 : Int32).toInt = -1 from by decide]
          omega
        · rw [hv, nI_toInt (by omega)]
          show -1 ≤ (p : Int) ∧ (p : Int) < ((cPs c).length : Int)
          omega
    · exact pw_nH (fun s t => by rw [nH_ky, nH_ky]) (map_set_nH (cSs c) k v).symm h.kk
    · exact pw_nH (fun s t => Iff.rfl) (map_set_nH (cSs c) k v).symm h.dj
  · have e : Jvm.Pilot.CStenoRoomsLaw_law_r5597_b11a13.setS c k 5 v = c := by
      show (c.1, c.2.1, (cSs c).set k _, c.2.2.2) = c
      rw [List.set_eq_of_length_le (by omega)]; rfl
    rw [e]; exact h
theorem Inv.new : Inv 0 calN := ⟨fun s hs => (List.not_mem_nil hs).elim, List.Pairwise.nil, List.Pairwise.nil, by decide, by unfold okC; decide, by decide, rfl⟩
theorem pyS_app (l : List Pn) (p : Pn) : pyS (l ++ [p]) = pyS l + tf p 2 := by
  induction l with
  | nil => show tf p 2 + 0 = 0 + tf p 2; rw [Int32.add_comm]
  | cons a r ih => show tf a 2 + pyS (r ++ [p]) = tf a 2 + pyS r + tf p 2; rw [ih, Int32.add_assoc]
theorem Inv.hire {T : Nat} {c : Cal} (h : Inv T c) (v : Int32) (hl : (cPs c).length < 6) : Inv T (hireC c v) := by
  have e : (cPs (hireC c v)).length = (cPs c).length + 1 := by show (cPs c ++ [_]).length = _; simp
  refine ⟨fun s hs => ⟨(h.1 s hs).1, (h.1 s hs).2.1, ?_⟩, h.kk, h.dj, ⟨h.t0, h.tT⟩, h.st, ⟨by omega, h.b1, h.b2⟩, ?_⟩
  · have := (h.1 s hs).2.2
    unfold okH at this ⊢
    rw [e]; omega
  · show cSc c 5 = pyS (cPs c ++ [_])
    rw [pyS_app, h.py]
    show _ = _ + (0 : Int32)
    rw [Int32.add_zero]
theorem Inv.stg {T : Nat} {c : Cal} (h : Inv T c) {i : Nat} (v : Int32) (hi : ¬ i = 3 ∧ ¬ i = 5) (hs : okC (setC c i v)) : Inv T (setC c i v) := by
  have e3 : cSc (setC c i v) 3 = cSc c 3 := by show upd (cSc c) i v 3 = _; rw [upd_ne _ _ (fun q => hi.1 q.symm)]
  have e5 : cSc (setC c i v) 5 = cSc c 5 := by show upd (cSc c) i v 5 = _; rw [upd_ne _ _ (fun q => hi.2 q.symm)]
  exact ⟨fun s hs => ⟨(h.1 s hs).1, by rw [e3]; exact (h.1 s hs).2.1, (h.1 s hs).2.2⟩, h.kk, h.dj, by rw [e3]; exact ⟨h.t0, h.tT⟩, hs, ⟨h.b0, h.b1, h.b2⟩, by rw [e5]; exact h.py⟩
theorem besTo_or (c : Cal) (k : Nat) : ∀ n, besTo c k n = -1 ∨ ∃ p, p < n ∧ besTo c k n = nI p
  | 0 => Or.inl rfl
  | n + 1 => by
    unfold besTo
    split
    · exact Or.inr ⟨n, by omega, rfl⟩
    · rcases besTo_or c k n with h | ⟨p, hp, h⟩
      · exact Or.inl h
      · exact Or.inr ⟨p, by omega, h⟩
theorem gvTo_ps (c : Cal) : ∀ k, cPs (gvTo c k).1 = cPs c
  | 0 => rfl
  | k + 1 => by
    unfold gvTo
    split
    · exact gvTo_ps c k
    · exact gvTo_ps c k
theorem Inv.gv {T : Nat} {c : Cal} (h : Inv T c) : ∀ k, Inv T (gvTo c k).1
  | 0 => h
  | k + 1 => by
    unfold gvTo
    split
    · exact (h.gv k).hold k (besTo_or _ _ _)
    · exact h.gv k
theorem pyS_set (l : List Pn) (p : Nat) (v : Int32) {j : Nat} (hj : j < 2) : pyS (l.set p (tfset (pg l p) j v)) = pyS l := by
  induction l generalizing p with
  | nil => rfl
  | cons a r ih =>
    cases p with
    | zero =>
      show tf (tfset a j v) 2 + pyS r = tf a 2 + pyS r
      match j, hj with
      | 0, _ => rfl
      | 1, _ => rfl
    | succ p =>
      show tf a 2 + pyS (r.set p (tfset (pg r p) j v)) = _
      rw [ih]; rfl
theorem Inv.perC {T : Nat} {c : Cal} (h : Inv T c) (p : Nat) (v : Int32) {j : Nat} (hj : j < 2) : Inv T (setP c p j v) := by
  have e : (cPs (setP c p j v)).length = (cPs c).length := by show ((cPs c).set _ _).length = _; simp
  exact ⟨fun s hs => ⟨(h.1 s hs).1, (h.1 s hs).2.1, by rw [e]; exact (h.1 s hs).2.2⟩, h.kk, h.dj, ⟨h.t0, h.tT⟩, h.st, ⟨by rw [e]; exact h.b0, h.b1, h.b2⟩, (h.py).trans (pyS_set (cPs c) p v hj).symm⟩
theorem Inv.lvT {T : Nat} {c : Cal} (h : Inv T c) (p till : Int32) : ∀ k, Inv T (lvTo c p till k).1
  | 0 => h
  | k + 1 => by
    unfold lvTo
    split
    · exact (h.lvT p till k).hold k (Or.inl rfl)
    · exact h.lvT p till k
theorem Inv.lv {T : Nat} {c : Cal} (h : Inv T c) (p : Nat) (days : Int32) : Inv T (lvAll c p days).1 := (h.perC p _ (by decide)).lvT _ _ _
-- a session at its place
theorem ahd_ky {x s : Ss} (hx : okR x) (hs : okR s) : ahd x (sf s 1) (sf s 2) (sf s 0) = decide (ky x < ky s) := by
  unfold ahd ky
  obtain ⟨x1, x2, x3, x4, x5, x6, x7⟩ := hx
  obtain ⟨s1, s2, s3, s4, s5, s6, s7⟩ := hs
  split
  · rename_i h; rw [h]
    split
    · rename_i h; rw [h]
      exact decide_eq_decide.mpr (by rw [i32_lt]; omega)
    · rename_i h
      rw [i32_eq] at h
      exact decide_eq_decide.mpr (by rw [i32_lt]; omega)
  · rename_i h
    rw [i32_eq] at h
    exact decide_eq_decide.mpr (by rw [i32_lt]; omega)
theorem insTo_spec (ss : List Ss) (d f r : Int32) : ∀ n, (∀ j, insTo ss d f r n ≤ j → j < n → ahd (sg ss j) d f r = false) ∧ (insTo ss d f r n = 0 ∨ ahd (sg ss (insTo ss d f r n - 1)) d f r = true)
  | 0 => ⟨fun j _ h => absurd h (Nat.not_lt_zero _), Or.inl rfl⟩
  | n + 1 => by
    have ih := insTo_spec ss d f r n
    have e : insTo ss d f r (n + 1) = if ahd (sg ss n) d f r = true then n + 1 else insTo ss d f r n := rfl
    rw [e]
    by_cases h : ahd (sg ss n) d f r = true
    · rw [if_pos h]
      exact ⟨fun j h1 h2 => by omega, Or.inr h⟩
    · rw [if_neg h]
      refine ⟨fun j h1 h2 => ?_, ih.2⟩
      by_cases q : j = n
      · subst q; exact Bool.eq_false_iff.mpr h
      · exact ih.1 j h1 (by omega)
theorem ins_mid (P S : List Ss) (s : Ss) : (P ++ S).insertIdx P.length s = P ++ s :: S := by
  induction P with
  | nil => rfl
  | cons a r ih => show a :: (r ++ S).insertIdx r.length s = _; rw [ih]; rfl
theorem ins_split {ss : List Ss} {s : Ss} (hk : Kys ss) (ho : ∀ x, x ∈ ss → okR x) (hs : okR s) : ∃ P S, ss = P ++ S ∧ insP ss s = P.length ∧ ss.insertIdx (insP ss s) s = P ++ s :: S ∧ (∀ x, x ∈ P → ky x < ky s) ∧ ∀ x, x ∈ S → ky s ≤ ky x := by
  obtain ⟨h1, h2⟩ := insTo_spec ss (sf s 1) (sf s 2) (sf s 0) ss.length
  have hle := insTo_le ss (sf s 1) (sf s 2) (sf s 0) ss.length
  generalize hA : insTo ss (sf s 1) (sf s 2) (sf s 0) ss.length = a at h1 h2 hle
  have hA : insP ss s = a := hA
  rw [hA]
  have hl : (ss.take a).length = a := by rw [List.length_take]; omega
  refine ⟨ss.take a, ss.drop a, (List.take_append_drop a ss).symm, hl.symm, ?_, fun x hx => ?_, fun x hx => ?_⟩
  · have e : ss.insertIdx a s = (ss.take a ++ ss.drop a).insertIdx (ss.take a).length s := by rw [List.take_append_drop, hl]
    rw [e, ins_mid]
  · obtain ⟨i, hi, rfl⟩ := List.getElem_of_mem hx
    rw [hl] at hi
    rw [List.getElem_take]
    rcases h2 with h2 | h2
    · omega
    · have h3 : ky (sg ss (a - 1)) < ky s := by
        have := ahd_ky (ho _ (sg_mem (by omega : a - 1 < ss.length))) hs
        rw [this] at h2
        exact of_decide_eq_true h2
      have e : ss[i] = sg ss i := (sg_get (by omega)).symm
      rw [e]
      by_cases q : i = a - 1
      · rw [q]; exact h3
      · exact Int.lt_trans (hk.at (by omega : i < a - 1) (by omega)) h3
  · obtain ⟨i, hi, rfl⟩ := List.getElem_of_mem hx
    rw [List.length_drop] at hi
    rw [List.getElem_drop]
    have h3 := h1 (a + i) (by omega) (by omega)
    rw [ahd_ky (ho _ (sg_mem (by omega : a + i < ss.length))) hs] at h3
    have := of_decide_eq_false h3
    rw [← sg_get]
    omega
theorem kys_ins {P S : List Ss} {s : Ss} (h : Kys (P ++ S)) (h1 : ∀ x, x ∈ P → ky x < ky s) (h2 : ∀ x, x ∈ S → ky s < ky x) : Kys (P ++ s :: S) := by
  unfold Kys at h ⊢
  rw [List.pairwise_append] at h ⊢
  refine ⟨h.1, List.pairwise_cons.mpr ⟨h2, h.2.1⟩, fun x hx y hy => ?_⟩
  rcases List.mem_cons.mp hy with q | q
  · subst q; exact h1 x hx
  · exact h.2.2 x hx y q
theorem dsj_ins {P S : List Ss} {s : Ss} (h : Dsj (P ++ S)) (h1 : ∀ x, x ∈ P ++ S → dsj s x) : Dsj (P ++ s :: S) := by
  unfold Dsj at h ⊢
  rw [List.pairwise_append] at h ⊢
  refine ⟨h.1, List.pairwise_cons.mpr ⟨fun x hx => h1 x (List.mem_append_right _ hx), h.2.1⟩, fun x hx y hy => ?_⟩
  rcases List.mem_cons.mp hy with q | q
  · subst q; exact (h1 x (List.mem_append_left _ hx)).symm
  · exact h.2.2 x hx y q
/-- a session that shares no slot goes to its place -/
theorem Inv.ins {T : Nat} {c : Cal} (h : Inv T c) {s : Ss} (hs : okR s) (ht : (cSc c 3).toInt ≤ (sf s 1).toInt) (hh : okH (cPs c).length s) (hl : (cSs c).length < 16) (hd : ∀ x, x ∈ cSs c → dsj s x) : Inv T (insS c s) := by
  obtain ⟨P, S, e1, e2, e3, h1, h2⟩ := ins_split h.kk (fun x hx => h.s hx) hs
  have e4 : cSs (insS c s) = P ++ s :: S := e3
  have hne : ∀ x, x ∈ cSs c → ¬ ky s = ky x := fun x hx q => by
    have hx1 := h.s hx
    have hd1 := hd x hx
    obtain ⟨x1, x2, x3, x4, x5, x6, x7⟩ := hx1
    obtain ⟨s1, s2, s3, s4, s5, s6, s7⟩ := hs
    unfold ky at q
    unfold dsj at hd1
    rw [i32_eq, i32_eq] at hd1
    omega
  refine ⟨fun x hx => ?_, ?_, ?_, ⟨h.t0, h.tT⟩, h.st, ⟨h.b0, by rw [insS_len]; omega, h.b2⟩, h.py⟩
  · rw [e4] at hx
    rcases List.mem_append.mp hx with q | q
    · exact h.1 x (by rw [e1]; exact List.mem_append_left _ q)
    · rcases List.mem_cons.mp q with q | q
      · subst q; exact ⟨hs, ht, hh⟩
      · exact h.1 x (by rw [e1]; exact List.mem_append_right _ q)
  · rw [e4]
    refine kys_ins (by rw [← e1]; exact h.kk) h1 (fun x hx => ?_)
    have := hne x (by rw [e1]; exact List.mem_append_right _ hx)
    have := h2 x hx
    omega
  · rw [e4]
    exact dsj_ins (by rw [← e1]; exact h.dj) (fun x hx => hd x (by rw [e1]; exact hx))
theorem tkn_dsj {x s : Ss} (hx : okR x) (hs : okR s) (h : tkn x (sf s 0) (sf s 1) (sf s 2) (sf s 3) = false) : dsj s x := by
  obtain ⟨x1, x2, x3, x4, x5, x6, x7⟩ := hx
  obtain ⟨s1, s2, s3, s4, s5, s6, s7⟩ := hs
  unfold tkn at h
  unfold dsj
  simp only [Bool.and_eq_false_iff, decide_eq_false_iff_not] at h
  have e1 : (sf x 2 + sf x 3).toInt = (sf x 2).toInt + (sf x 3).toInt := by
    rw [Int32.toInt_add]; exact Int.bmod_eq_of_le (by omega) (by omega)
  have e2 : (sf s 2 + sf s 3).toInt = (sf s 2).toInt + (sf s 3).toInt := by
    rw [Int32.toInt_add]; exact Int.bmod_eq_of_le (by omega) (by omega)
  rw [i32_lt, i32_lt, e1, e2, i32_eq, i32_eq] at h
  rw [i32_eq, i32_eq]
  omega
theorem rngI_iff {x : Int32} {a b : Int} : rngI x a b = true ↔ a ≤ x.toInt ∧ x.toInt ≤ b := by
  unfold rngI
  simp only [Bool.and_eq_true, decide_eq_true_eq]
theorem isNw_ok {T : Nat} {c : Cal} (h : Inv T c) {r d f n k : Int32} (hn : isNw c r d f n k = true) : okR (r, d, f, n, k, -1) ∧ (cSc c 3).toInt ≤ d.toInt ∧ (cSs c).length < 16 ∧ ∀ x, x ∈ cSs c → dsj (r, d, f, n, k, -1) x := by
  unfold isNw isTm isFr at hn
  simp only [Bool.and_eq_true, decide_eq_true_eq, rngI_iff, List.all_eq_true] at hn
  obtain ⟨h1, ⟨h2, h3, h4⟩, h5, h6, h7⟩ := hn
  have h0 := h.t0
  have ho : okR (r, d, f, n, k, -1) := ⟨h1.1, h1.2, Int.le_trans h0 h2.1, h2.2, h3.1, h4.1, show f.toInt + n.toInt ≤ 16 by omega⟩
  refine ⟨ho, h2.1, h6, fun x hx => tkn_dsj (h.s hx) ho ?_⟩
  have := h7 x hx
  have h9 : tkn x r d f n = false := by simpa using this
  exact h9
theorem Inv.add {T : Nat} {c : Cal} (h : Inv T c) {r d f n k : Int32} (hn : isNw c r d f n k = true) : Inv T (insS c (r, d, f, n, k, -1)) := by
  obtain ⟨h1, h2, h3, h4⟩ := isNw_ok h hn
  refine h.ins h1 h2 ?_ h3 h4
  show -1 ≤ (-1 : Int32).toInt ∧ (-1 : Int32).toInt < _
  rw [show (-1 : Int32).toInt = -1 from by decide]
  omega
