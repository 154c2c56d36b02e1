/-! THE STATE AS NUMBERS AND LISTS -/
/-- a session: room, day, first slot, slots, talk, who -/
abbrev Ss : Type := Int32 × Int32 × Int32 × Int32 × Int32 × Int32
/-- a transcript: whose, pages, due -/
abbrev Tr : Type := Int32 × Int32 × Int32
/-- a stenographer: speed, leave, pay -/
abbrev Pn : Type := Int32 × Int32 × Int32
/-- numbers 3 to 12 (today, lost, pay, fines, done, typed, four settings), people, sessions, transcripts -/
abbrev Cal : Type := (Nat → Int32) × List Pn × List Ss × List Tr
def dS : Ss := (0, 0, 0, 0, 0, 0)
def dT : Tr := (0, 0, 0)
def cSc (c : Cal) : Nat → Int32 := c.1
def cPs (c : Cal) : List Pn := c.2.1
def cSs (c : Cal) : List Ss := c.2.2.1
def cTs (c : Cal) : List Tr := c.2.2.2
def sg (l : List Ss) (k : Nat) : Ss := l.getD k dS
def tg (l : List Tr) (k : Nat) : Tr := l.getD k dT
def pg (l : List Pn) (k : Nat) : Pn := l.getD k dT
def sf (s : Ss) (j : Nat) : Int32 := match j with
  | 0 => s.1
  | 1 => s.2.1
  | 2 => s.2.2.1
  | 3 => s.2.2.2.1
  | 4 => s.2.2.2.2.1
  | _ => s.2.2.2.2.2
def tf (s : Tr) (j : Nat) : Int32 := match j with
  | 0 => s.1
  | 1 => s.2.1
  | _ => s.2.2
def bI (b : Bool) : Int32 := if b then 1 else 0
theorem bI_t : bI true = 1 := rfl
theorem bI_f : bI false = 0 := rfl
theorem bI_1 {b : Bool} : bI b = 1 ↔ b = true := by cases b <;> decide
theorem bI_0 {b : Bool} : bI b = 0 ↔ b = false := by cases b <;> decide
theorem bI_n0 {b : Bool} : ¬ bI b = 0 ↔ b = true := by cases b <;> decide
theorem bI_nar (b : Bool) : narrow .boolean (.int (bI b)) = .int (bI b) := by cases b <;> rfl
-- numbers
theorem nI_mul (a b : Nat) : nI a * nI b = nI (a * b) := pk_mul a b
theorem i32_le (a b : Int32) : a ≤ b ↔ a.toInt ≤ b.toInt := Int32.le_iff_toInt_le
theorem i32_lt (a b : Int32) : a < b ↔ a.toInt < b.toInt := Int32.lt_iff_toInt_lt
theorem i32_eq (a b : Int32) : a = b ↔ a.toInt = b.toInt := Int32.toInt_inj.symm
theorem i64_le (a b : Int64) : a ≤ b ↔ a.toInt ≤ b.toInt := Int64.le_iff_toInt_le
theorem i64_lt (a b : Int64) : a < b ↔ a.toInt < b.toInt := Int64.lt_iff_toInt_lt
theorem wide_le (a b : Int32) : a.toInt64 ≤ b.toInt64 ↔ a ≤ b := by rw [i64_le, i32_le, Int32.toInt_toInt64, Int32.toInt_toInt64]
theorem wide_lt (a b : Int32) : a.toInt64 < b.toInt64 ↔ a < b := by rw [i64_lt, i32_lt, Int32.toInt_toInt64, Int32.toInt_toInt64]
theorem lgc_lt (x y : Int64) : lg_cmp x y < 0 ↔ x < y := by
  unfold lg_cmp
  rw [i64_lt]
  by_cases h : x.toInt < y.toInt
  · have h2 : ¬ y < x := by rw [i64_lt]; omega
    have h3 : ¬ x = y := fun e => by rw [e] at h; omega
    simp [h, h2, h3]
  · by_cases h2 : y < x
    · simp [h, h2]
    · have h3 : x = y := by
        rw [i64_lt] at h2
        exact Int64.toInt_inj.mp (by omega)
      simp [h3]
theorem lgc_gt (x y : Int64) : 0 < lg_cmp x y ↔ y < x := by
  unfold lg_cmp
  by_cases h2 : y < x
  · simp [h2]
  · by_cases h3 : x = y <;> simp [h2, h3]
theorem i32_sub1 {n : Nat} (h : n < 2 ^ 31) : (nI n - 1).toInt = (n : Int) - 1 := by
  cases n with
  | zero => decide
  | succ k =>
    rw [nI_pred, nI_toInt (by omega)]
    omega
theorem i32_rng (x : Int32) : -2147483648 ≤ x.toInt ∧ x.toInt < 2147483648 := by
  have h1 := Int32.le_toInt x
  have h2 := Int32.toInt_lt x
  omega
/-- an index out of small numbers -/
theorem ix_of {x : Int32} {n N : Nat} (hx : x = nI n) (h : n < N) (hN : N < 2 ^ 31) : vp_in x N := by rw [hx]; exact vp_in_nI h hN
theorem cl_of {x : Int32} {n : Nat} (hx : x = nI n) (h : n < 2 ^ 31) : x.toNatClampNeg = n := by rw [hx]; exact nI_clamp h
theorem upto {P : Nat → Prop} {N : Nat} (he : P N) (hs : ∀ i, i < N → P (i + 1) → P i) : ∀ i, i ≤ N → P i := by
  have key : ∀ d i, i + d = N → P i := by
    intro d
    induction d with
    | zero => intro i h; rw [show i = N by omega]; exact he
    | succ d ih => intro i h; exact hs i (by omega) (ih (i + 1) (by omega))
  exact fun i h => key (N - i) i (by omega)
theorem vlit {i : Int32} {n : Nat} (h : (decide (i < 0) || decide (n ≤ i.toNatClampNeg)) = false) : vp_in i n := by
  unfold vp_in
  simp only [Bool.or_eq_false_iff, decide_eq_false_iff_not] at h
  exact fun q => q.elim h.1 h.2
/-- a row of int numbers -/
abbrev irow (n : Nat) (g : Nat → Int32) : PE := .inr (0, n, .inl g)
-- bits
def spn (s : Ss) : Int32 := (1 <<< ((sf s 2 + sf s 3) &&& 31)) - (1 <<< (sf s 2 &&& 31))
def bzHit (s : Ss) (k : Nat) (p day wo : Int32) : Prop := ¬ nI k = wo ∧ sf s 5 = p ∧ sf s 1 = day
def bzTo (ss : List Ss) (p day wo : Int32) : Nat → Int32
  | 0 => 0
  | k + 1 => if ¬ nI k = wo ∧ sf (sg ss k) 5 = p ∧ sf (sg ss k) 1 = day then bzTo ss p day wo k ||| spn (sg ss k) else bzTo ss p day wo k
def bz (ss : List Ss) (p day wo : Int32) : Int32 := bzTo ss p day wo ss.length
def bitN (x : Int32) (k : Nat) : Int32 := (x >>> (nI k &&& 31)) &&& 1
def cntTo (x : Int32) : Nat → Int32
  | 0 => 0
  | k + 1 => cntTo x k + bitN x k
def cnt (x : Int32) : Int32 := cntTo x 16
def lngTo (x : Int32) : Nat → Int32 × Int32
  | 0 => (0, 0)
  | k + 1 => if bitN x k = 1 then (if (lngTo x k).1 < (lngTo x k).2 + 1 then (lngTo x k).2 + 1 else (lngTo x k).1, (lngTo x k).2 + 1) else (if (lngTo x k).1 < 0 then 0 else (lngTo x k).1, 0)
def lng (x : Int32) : Int32 := (lngTo x 16).1
/-- why somebody cannot be given a session, whoever has it -/
def rsn (c : Cal) (k : Nat) (p : Nat) : Int32 :=
  if sf (sg (cSs c) k) 1 < tf (pg (cPs c) p) 1 then 1
  else if ¬ (bz (cSs c) (nI p) (sf (sg (cSs c) k) 1) (nI k) &&& spn (sg (cSs c) k)) = 0 then 2
  else if cSc c 9 < lng (bz (cSs c) (nI p) (sf (sg (cSs c) k) 1) (nI k) ||| spn (sg (cSs c) k)) then 3
  else if cSc c 10 < cnt (bz (cSs c) (nI p) (sf (sg (cSs c) k) 1) (nI k) ||| spn (sg (cSs c) k)) then 4 else 0
def why (c : Cal) (k : Nat) (p : Nat) : Int32 := if sf (sg (cSs c) k) 5 = nI p then 0 else rsn c k p
-- places
def tkn (s : Ss) (room day first len : Int32) : Bool := decide (sf s 0 = room) && (decide (sf s 1 = day) && (decide (first < sf s 2 + sf s 3) && decide (sf s 2 < first + len)))
def isFr (ss : List Ss) (room day first len : Int32) : Bool := ss.all (fun s => !tkn s room day first len)
def rngI (x : Int32) (lo hi : Int) : Bool := decide (lo ≤ x.toInt) && decide (x.toInt ≤ hi)
def isTm (c : Cal) (day first len : Int32) : Bool := rngI day (cSc c 3).toInt 999 && (rngI first 0 15 && rngI len 1 (16 - first.toInt))
def isNw (c : Cal) (room day first len talk : Int32) : Bool := rngI room 0 4 && (isTm c day first len && (rngI talk 1 9 && (decide ((cSs c).length < 16) && isFr (cSs c) room day first len)))
def sfset (s : Ss) (j : Nat) (v : Int32) : Ss := match j with
  | 0 => (v, s.2)
  | 1 => (s.1, v, s.2.2)
  | 2 => (s.1, s.2.1, v, s.2.2.2)
  | 3 => (s.1, s.2.1, s.2.2.1, v, s.2.2.2.2)
  | 4 => (s.1, s.2.1, s.2.2.1, s.2.2.2.1, v, s.2.2.2.2.2)
  | _ => (s.1, s.2.1, s.2.2.1, s.2.2.2.1, s.2.2.2.2.1, v)
def tfset (s : Tr) (j : Nat) (v : Int32) : Tr := match j with
  | 0 => (v, s.2)
  | 1 => (s.1, v, s.2.2)
  | _ => (s.1, s.2.1, v)
def setS (c : Cal) (k j : Nat) (v : Int32) : Cal := (c.1, c.2.1, (cSs c).set k (sfset (sg (cSs c) k) j v), c.2.2.2)
def setT (c : Cal) (k j : Nat) (v : Int32) : Cal := (c.1, c.2.1, c.2.2.1, (cTs c).set k (tfset (tg (cTs c) k) j v))
def setP (c : Cal) (k j : Nat) (v : Int32) : Cal := (c.1, (cPs c).set k (tfset (pg (cPs c) k) j v), c.2.2.1, c.2.2.2)
def setC (c : Cal) (i : Nat) (v : Int32) : Cal := (upd (cSc c) i v, c.2.1, c.2.2.1, c.2.2.2)
-- desks
def dskTo (ts : List Tr) (p f : Int32) : Nat → Int32
  | 0 => 0
  | i + 1 => dskTo ts p f i + (if ¬ p = -1 ∧ ¬ tf (tg ts i) 0 = p then 0 else if f = 0 then 1 else tf (tg ts i) 1)
def dsk (ts : List Tr) (p f : Int32) : Int32 := dskTo ts p f ts.length
-- whom
def byv (c : Cal) (k p : Nat) (b : Int32) : Int32 := if b = -1 then -1 else cnt (bz (cSs c) (nI p) (sf (sg (cSs c) k) 1) (-1)) - cnt (bz (cSs c) b (sf (sg (cSs c) k) 1) (-1))
def bet (c : Cal) (k p : Nat) (b : Int32) : Bool := decide (byv c k p b < 0) || (decide (byv c k p b = 0) && decide (dsk (cTs c) (nI p) 1 < dsk (cTs c) b 1))
def besTo (c : Cal) (k : Nat) : Nat → Int32
  | 0 => -1
  | p + 1 => if why c k p = 0 ∧ bet c k p (besTo c k p) = true then nI p else besTo c k p
def bes (c : Cal) (k : Nat) : Int32 := besTo c k (cPs c).length
def gvTo (c : Cal) : Nat → Cal × Int32
  | 0 => (c, 0)
  | k + 1 => if sf (sg (cSs (gvTo c k).1) k) 5 = -1 then (setS (gvTo c k).1 k 5 (bes (gvTo c k).1 k), (gvTo c k).2 + (if bes (gvTo c k).1 k = -1 then 0 else 1)) else gvTo c k
def gvAll (c : Cal) : Cal × Int32 := gvTo c (cSs c).length
-- leave
def lvTo (c : Cal) (p till : Int32) : Nat → Cal × Int32
  | 0 => (c, 0)
  | k + 1 => if sf (sg (cSs (lvTo c p till k).1) k) 5 = p ∧ sf (sg (cSs (lvTo c p till k).1) k) 1 < till then (setS (lvTo c p till k).1 k 5 (-1), (lvTo c p till k).2 + 1) else lvTo c p till k
def lvAll (c : Cal) (p : Nat) (days : Int32) : Cal × Int32 := lvTo (setP c p 1 (cSc c 3 + days)) (nI p) (cSc c 3 + days) (cSs c).length
def addT (c : Cal) (p pages : Int32) : Cal := if (cTs c).length < 640 then (c.1, c.2.1, c.2.2.1, cTs c ++ [(p, pages, cSc c 3 + cSc c 11)]) else c
def delT (c : Cal) (i : Nat) : Cal := (c.1, c.2.1, c.2.2.1, (cTs c).eraseIdx i)
def delS (c : Cal) (i : Nat) : Cal := (c.1, c.2.1, (cSs c).eraseIdx i, c.2.2.2)
-- typing
def oI (o : Option Nat) : Int32 := match o with
  | none => -1
  | some i => nI i
def urgTo (ts : List Tr) (p : Int32) : Nat → Option Nat
  | 0 => none
  | i + 1 => match urgTo ts p i with
    | none => if tf (tg ts i) 0 = p then some i else none
    | some b => if tf (tg ts i) 0 = p ∧ tf (tg ts i) 2 < tf (tg ts b) 2 then some i else some b
def urg (ts : List Tr) (p : Int32) : Option Nat := urgTo ts p ts.length
/-- one stroke: the transcript i, n pages of it -/
def tyOne (c : Cal) (i : Nat) (n : Int32) : Cal :=
  if tf (tg (cTs c) i) 1 - n = 0 then setC (delT (setC (setT c i 1 (tf (tg (cTs c) i) 1 - n)) 8 (cSc c 8 + n)) i) 7 (cSc c 7 + 1)
  else setC (setT c i 1 (tf (tg (cTs c) i) 1 - n)) 8 (cSc c 8 + n)
def min32 (a b : Int32) : Int32 := if a < b then a else b
def tyTo : Nat → Cal → Int32 → Int32 → Cal
  | 0, c, _, _ => c
  | f + 1, c, p, left => if 0 < left then
      match urg (cTs c) p with
      | none => c
      | some i => tyTo f (tyOne c i (min32 left (tf (tg (cTs c) i) 1))) p (left - min32 left (tf (tg (cTs c) i) 1))
    else c
def typ (c : Cal) (p left : Int32) : Cal := tyTo (cTs c).length c p left
-- people
def payOf (busy : Int32) : Int32 := if 8 < busy then 16 + 3 * (busy - 8) else 2 * busy
def payP (c : Cal) (p : Nat) (busy : Int32) : Cal := setC (setP c p 2 (tf (pg (cPs c) p) 2 + payOf busy)) 5 (cSc c 5 + payOf busy)
def hireC (c : Cal) (speed : Int32) : Cal := (c.1, cPs c ++ [(speed, 0, 0)], c.2.2.1, c.2.2.2)
-- a session's place
def ahd (s : Ss) (day first room : Int32) : Bool := if sf s 1 = day then (if sf s 2 = first then decide (sf s 0 < room) else decide (sf s 2 < first)) else decide (sf s 1 < day)
def insTo (ss : List Ss) (day first room : Int32) : Nat → Nat
  | 0 => 0
  | at9 + 1 => if ahd (sg ss at9) day first room = true then at9 + 1 else insTo ss day first room at9
def insP (ss : List Ss) (s : Ss) : Nat := insTo ss (sf s 1) (sf s 2) (sf s 0) ss.length
def insS (c : Cal) (s : Ss) : Cal := (c.1, c.2.1, (cSs c).insertIdx (insP (cSs c) s) s, c.2.2.2)
/-- a row with a part of it moved down by d -/
def shf (g : Nat → Int32) (lo hi d : Nat) : Nat → Int32 := fun a => if lo ≤ a ∧ a < hi then g (a + d) else g a
theorem shf_0 (g : Nat → Int32) (lo d : Nat) : shf g lo lo d = g := by
  funext a
  unfold shf
  rw [if_neg (by omega)]
theorem shf_1 (g : Nat → Int32) {lo hi d : Nat} (h : lo ≤ hi) (hd : 0 < d) : upd (shf g lo hi d) hi (shf g lo hi d (hi + d)) = shf g lo (hi + 1) d := by
  funext a
  unfold upd shf
  by_cases e : a = hi
  · subst e
    rw [if_pos rfl, if_neg (by omega), if_pos (by omega)]
  · rw [if_neg e]
    by_cases e2 : lo ≤ a ∧ a < hi
    · rw [if_pos e2, if_pos (by omega)]
    · rw [if_neg e2, if_neg (by omega)]
theorem tg_erase (ts : List Tr) (i j : Nat) : tg (ts.eraseIdx i) j = if j < i then tg ts j else tg ts (j + 1) := by
  unfold tg
  simp only [List.getD_eq_getElem?_getD, List.getElem?_eraseIdx]
  split <;> rfl
theorem sg_erase (ts : List Ss) (i j : Nat) : sg (ts.eraseIdx i) j = if j < i then sg ts j else sg ts (j + 1) := by
  unfold sg
  simp only [List.getD_eq_getElem?_getD, List.getElem?_eraseIdx]
  split <;> rfl
theorem sg_insert (ss : List Ss) (i j : Nat) (s : Ss) (hi : i ≤ ss.length) : sg (ss.insertIdx i s) j = if j < i then sg ss j else if j = i then s else sg ss (j - 1) := by
  unfold sg
  simp only [List.getD_eq_getElem?_getD, List.getElem?_insertIdx]
  split
  · rfl
  · split
    · rename_i h9; subst h9; rw [if_pos hi]; rfl
    · rfl
theorem insTo_le (ss : List Ss) (d f r : Int32) : ∀ n, insTo ss d f r n ≤ n
  | 0 => Nat.le_refl _
  | n + 1 => by
    unfold insTo
    split
    · exact Nat.le_refl _
    · exact Nat.le_succ_of_le (insTo_le ss d f r n)
-- a day
def ldg (ss : List Ss) (t : Int32) : Nat := (ss.takeWhile (fun s => decide (sf s 1 = t))).length
def payTo (c : Cal) (t : Int32) : Nat → Cal
  | 0 => c
  | p + 1 => payP (payTo c t p) p (cnt (bz (cSs c) (nI p) t (-1)))
def hldTo (c : Cal) : Nat → Cal
  | 0 => c
  | k + 1 => if sf (sg (cSs c) k) 5 = -1 then setC (hldTo c k) 4 (cSc (hldTo c k) 4 + 1) else addT (hldTo c k) (sf (sg (cSs c) k) 5) (sf (sg (cSs c) k) 3 * sf (sg (cSs c) k) 4)
def typAl (c : Cal) (t : Int32) : Nat → Cal
  | 0 => c
  | p + 1 => if t < tf (pg (cPs c) p) 1 then typAl c t p else typ (typAl c t p) (nI p) ((16 - cnt (bz (cSs c) (nI p) t (-1))) * tf (pg (cPs c) p) 0)
def finTo (c : Cal) (t : Int32) : Nat → Cal
  | 0 => c
  | i + 1 => setC (finTo c t i) 6 (cSc (finTo c t i) 6 + (if tf (tg (cTs c) i) 2 ≤ t then cSc c 12 else 0))
def drpS (c : Cal) (m : Nat) : Cal := (c.1, c.2.1, (cSs c).drop m, c.2.2.2)
def dayA (c : Cal) : Cal := typAl (hldTo (payTo c (cSc c 3) (cPs c).length) (ldg (cSs c) (cSc c 3))) (cSc c 3) (cPs c).length
def dayB (c : Cal) : Cal := drpS (dayA c) (ldg (cSs c) (cSc c 3))
def dayC (c : Cal) : Cal := setC (finTo (dayB c) (cSc c 3) (cTs (dayB c)).length) 3 (cSc c 3 + 1)
def runTo (c : Cal) : Nat → Cal
  | 0 => c
  | n + 1 => dayC (runTo c n)
theorem setC_at (c : Cal) (i : Nat) (v : Int32) : cSc (setC c i v) i = v := pk_us
theorem setC_ne (c : Cal) {i j : Nat} (v : Int32) (h : j ≠ i) : cSc (setC c i v) j = cSc c j := pk_un h
theorem payTo_ss (c : Cal) (t : Int32) : ∀ n, cSs (payTo c t n) = cSs c
  | 0 => rfl
  | n + 1 => payTo_ss c t n
theorem payTo_ts (c : Cal) (t : Int32) : ∀ n, cTs (payTo c t n) = cTs c
  | 0 => rfl
  | n + 1 => payTo_ts c t n
theorem payTo_len (c : Cal) (t : Int32) : ∀ n, (cPs (payTo c t n)).length = (cPs c).length
  | 0 => rfl
  | n + 1 => by
    show ((cPs (payTo c t n)).set _ _).length = _
    rw [List.length_set]; exact payTo_len c t n
theorem addT_ss (c : Cal) (p q : Int32) : cSs (addT c p q) = cSs c := by unfold addT; split <;> rfl
theorem addT_ps (c : Cal) (p q : Int32) : cPs (addT c p q) = cPs c := by unfold addT; split <;> rfl
theorem addT_sc (c : Cal) (p q : Int32) : cSc (addT c p q) = cSc c := by unfold addT; split <;> rfl
theorem hldTo_ss (c : Cal) : ∀ n, cSs (hldTo c n) = cSs c
  | 0 => rfl
  | n + 1 => by
    unfold hldTo
    split
    · exact hldTo_ss c n
    · rw [addT_ss]; exact hldTo_ss c n
theorem hldTo_ps (c : Cal) : ∀ n, cPs (hldTo c n) = cPs c
  | 0 => rfl
  | n + 1 => by
    unfold hldTo
    split
    · exact hldTo_ps c n
    · rw [addT_ps]; exact hldTo_ps c n
theorem tyOne_ss (c : Cal) (i : Nat) (n : Int32) : cSs (tyOne c i n) = cSs c := by unfold tyOne; split <;> rfl
theorem tyOne_ps (c : Cal) (i : Nat) (n : Int32) : cPs (tyOne c i n) = cPs c := by unfold tyOne; split <;> rfl
theorem tyTo_ss (p : Int32) : ∀ (f : Nat) (c : Cal) (left : Int32), cSs (tyTo f c p left) = cSs c
  | 0, c, left => rfl
  | f + 1, c, left => by
    unfold tyTo
    split
    · split
      · rfl
      · rw [tyTo_ss p f, tyOne_ss]
    · rfl
theorem tyTo_ps (p : Int32) : ∀ (f : Nat) (c : Cal) (left : Int32), cPs (tyTo f c p left) = cPs c
  | 0, c, left => rfl
  | f + 1, c, left => by
    unfold tyTo
    split
    · split
      · rfl
      · rw [tyTo_ps p f, tyOne_ps]
    · rfl
theorem typAl_ss (c : Cal) (t : Int32) : ∀ n, cSs (typAl c t n) = cSs c
  | 0 => rfl
  | n + 1 => by
    unfold typAl
    split
    · exact typAl_ss c t n
    · unfold typ; rw [tyTo_ss]; exact typAl_ss c t n
theorem typAl_ps (c : Cal) (t : Int32) : ∀ n, cPs (typAl c t n) = cPs c
  | 0 => rfl
  | n + 1 => by
    unfold typAl
    split
    · exact typAl_ps c t n
    · unfold typ; rw [tyTo_ps]; exact typAl_ps c t n
theorem finTo_ts (c : Cal) (t : Int32) : ∀ n, cTs (finTo c t n) = cTs c
  | 0 => rfl
  | n + 1 => finTo_ts c t n
theorem finTo_sc (c : Cal) (t : Int32) {j : Nat} (h : j ≠ 6) : ∀ n, cSc (finTo c t n) j = cSc c j
  | 0 => rfl
  | n + 1 => by
    show cSc (setC _ _ _) j = _
    rw [setC_ne _ _ h]; exact finTo_sc c t h n
theorem tyOne_sc (c : Cal) (i : Nat) (n : Int32) {j : Nat} (h7 : j ≠ 7) (h8 : j ≠ 8) : cSc (tyOne c i n) j = cSc c j := by
  unfold tyOne
  split
  · rw [setC_ne _ _ h7]
    show cSc (setC _ 8 _) j = _
    rw [setC_ne _ _ h8]; rfl
  · rw [setC_ne _ _ h8]; rfl
theorem tyTo_sc (p : Int32) {j : Nat} (h7 : j ≠ 7) (h8 : j ≠ 8) : ∀ (f : Nat) (c : Cal) (left : Int32), cSc (tyTo f c p left) j = cSc c j
  | 0, c, left => rfl
  | f + 1, c, left => by
    unfold tyTo
    split
    · split
      · rfl
      · rw [tyTo_sc p h7 h8 f, tyOne_sc _ _ _ h7 h8]
    · rfl
theorem typAl_sc (c : Cal) (t : Int32) {j : Nat} (h7 : j ≠ 7) (h8 : j ≠ 8) : ∀ n, cSc (typAl c t n) j = cSc c j
  | 0 => rfl
  | n + 1 => by
    unfold typAl
    split
    · exact typAl_sc c t h7 h8 n
    · unfold typ; rw [tyTo_sc _ h7 h8]; exact typAl_sc c t h7 h8 n
theorem hldTo_sc (c : Cal) {j : Nat} (h4 : j ≠ 4) : ∀ n, cSc (hldTo c n) j = cSc c j
  | 0 => rfl
  | n + 1 => by
    unfold hldTo
    split
    · rw [setC_ne _ _ h4]; exact hldTo_sc c h4 n
    · rw [addT_sc]; exact hldTo_sc c h4 n
theorem payTo_sc (c : Cal) (t : Int32) {j : Nat} (h5 : j ≠ 5) : ∀ n, cSc (payTo c t n) j = cSc c j
  | 0 => rfl
  | n + 1 => by
    show cSc (setC (setP _ _ _ _) 5 _) j = _
    rw [setC_ne _ _ h5]; exact payTo_sc c t h5 n
theorem ldg_le (ss : List Ss) (t : Int32) : ldg ss t ≤ ss.length := (List.takeWhile_sublist _).length_le
theorem ldg_in (ss : List Ss) (t : Int32) {k : Nat} (h : k < ldg ss t) : sf (sg ss k) 1 = t := by
  induction ss generalizing k with
  | nil => exact absurd h (Nat.not_lt_zero _)
  | cons s r ih =>
    unfold ldg at h
    rw [List.takeWhile_cons] at h
    split at h
    · rename_i hs
      cases k with
      | zero => simpa [sg] using hs
      | succ k =>
        have := ih (k := k) (by unfold ldg; simpa using h)
        simpa [sg] using this
    · exact absurd h (Nat.not_lt_zero _)
theorem ldg_out (ss : List Ss) (t : Int32) (h : ldg ss t < ss.length) : ¬ sf (sg ss (ldg ss t)) 1 = t := by
  induction ss with
  | nil => exact absurd h (Nat.not_lt_zero _)
  | cons s r ih =>
    by_cases hs : sf s 1 = t
    · have e : ldg (s :: r) t = ldg r t + 1 := by
        unfold ldg
        rw [List.takeWhile_cons, if_pos (by simpa using hs)]
        rfl
      rw [e] at h ⊢
      have := ih (by simpa using h)
      simpa [sg] using this
    · have e : ldg (s :: r) t = 0 := by
        unfold ldg
        rw [List.takeWhile_cons, if_neg (by simpa using hs)]
        rfl
      rw [e]
      simpa [sg] using hs
-- a session lasts longer
def latP (room day first : Int32) (s : Ss) : Bool := decide (sf s 0 = room) && (decide (sf s 1 = day) && decide (first < sf s 2))
def lat (ss : List Ss) (room day first : Int32) : List Ss := ss.filter (latP room day first)
def rst (ss : List Ss) (room day first : Int32) : List Ss := ss.filter (fun s => !latP room day first s)
def wSs (c : Cal) (ss : List Ss) : Cal := (c.1, c.2.1, ss, c.2.2.2)
def mvFrom (s : Ss) (border : Int32) : Int32 := if sf s 2 < border then border else sf s 2
def mvSpan (s : Ss) (border : Int32) : Int32 := if sf s 3 < 16 - mvFrom s border then sf s 3 else 16 - mvFrom s border
def mvNew (s : Ss) (room day border : Int32) : Ss := (room, day, mvFrom s border, mvSpan s border, sf s 4, if sf s 2 < border then -1 else sf s 5)
def mvAll (c : Cal) (room day border : Int32) : List Ss → Cal
  | [] => c
  | s :: r => if 0 < mvSpan s border then mvAll (insS c (mvNew s room day border)) room day (mvFrom s border + mvSpan s border) r else mvAll c room day border r
def freTo (c : Cal) (room day who set9 : Int32) : Nat → Cal
  | 0 => c
  | i + 1 => if ¬ who = -1 ∧ ¬ sf (sg (cSs (freTo c room day who set9 i)) i) 0 = room ∧ sf (sg (cSs (freTo c room day who set9 i)) i) 1 = day ∧ sf (sg (cSs (freTo c room day who set9 i)) i) 5 = who ∧ ¬ (spn (sg (cSs (freTo c room day who set9 i)) i) &&& set9) = 0 then setS (freTo c room day who set9 i) i 5 (-1) else freTo c room day who set9 i
def extL (s : Ss) (n : Int32) : Int32 := if sf s 3 + n < 16 - sf s 2 then sf s 3 + n else 16 - sf s 2
def extA (c : Cal) (k : Nat) (n : Int32) : Cal := setS c k 3 (extL (sg (cSs c) k) n)
def extB (c : Cal) (k : Nat) (n : Int32) : Cal := mvAll (wSs (extA c k n) (rst (cSs (extA c k n)) (sf (sg (cSs c) k) 0) (sf (sg (cSs c) k) 1) (sf (sg (cSs c) k) 2))) (sf (sg (cSs c) k) 0) (sf (sg (cSs c) k) 1) (sf (sg (cSs c) k) 2 + extL (sg (cSs c) k) n) (lat (cSs (extA c k n)) (sf (sg (cSs c) k) 0) (sf (sg (cSs c) k) 1) (sf (sg (cSs c) k) 2))
def extC (c : Cal) (k : Nat) (n : Int32) : Cal := freTo (extB c k n) (sf (sg (cSs c) k) 0) (sf (sg (cSs c) k) 1) (sf (sg (cSs c) k) 5) ((1 <<< ((sf (sg (cSs c) k) 2 + extL (sg (cSs c) k) n) &&& 31)) - (1 <<< (sf (sg (cSs c) k) 2 &&& 31))) (cSs (extB c k n)).length
