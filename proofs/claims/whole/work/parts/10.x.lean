/-! THE PURE WORLD: what the heap holds, by address; contracts and steps over it -/
def Tg : List Cond := lw_tbl.filter goodWord
theorem tg_good : ∀ w ∈ Tg, goodWord w = true := fun _ h => (List.mem_filter.mp h).2
theorem tg_in {w : Cond} (h : w ∈ lw_tbl) (g : goodWord w = true) : w ∈ Tg := List.mem_filter.mpr ⟨h, g⟩
abbrev PE : Type := (Nat × List Value) ⊕ (Nat × vp_A)
abbrev Wd : Type := Nat → Option PE
abbrev GG : Type := va_G × (Nat → ClassId)
def pe_E (dA : Nat → ClassId) (e : PE) : va_E := match e with
  | .inl o => .inr o
  | .inr a => .inl (dA a.1, a.2)
def xTys (G : GG) : List (ClassId × FieldType) := [(G.2 0, .int), (G.2 1, .boolean), (G.2 2, .long), (G.2 3, .object "StenoRooms$Calendar"), (G.2 4, .object "StenoRooms$Session")]
def KK (G : GG) (U : State) : Prop := va_K G.1 vwCl (xTys G) U
def Rep (G : GG) (w : Wd) (H : Heap) : Prop := ∀ (a : Nat) (e : PE), w a = some e → va_at G.1 vwCl (a, pe_E G.2 e) H
def wset (w : Wd) (a : Nat) (e : PE) : Wd := fun q => if q = a then some e else w q
theorem wset_eq (w : Wd) (a : Nat) (e : PE) : wset w a e a = some e := by simp [wset]
theorem wset_ne (w : Wd) {a b : Nat} (e : PE) (h : b ≠ a) : wset w a e b = w b := by simp [wset, h]
theorem wset_wset (w : Wd) (a : Nat) (e f : PE) : wset (wset w a e) a f = wset w a f := by
  funext q
  by_cases h : q = a <;> simp [wset, h]
theorem wset_self (w : Wd) (a : Nat) (e : PE) (h : w a = some e) : wset w a e = w := by
  funext q
  by_cases hq : q = a
  · subst hq; simp [wset, h]
  · simp [wset, hq]
theorem wset_dom {w : Wd} {a : Nat} {e : PE} {q : Nat} (h : wset w a e q ≠ none) : w q ≠ none ∨ q = a := by
  by_cases hq : q = a
  · exact Or.inr hq
  · exact Or.inl (by simpa [wset, hq] using h)
theorem Rep.lt {G : GG} {w : Wd} {H : Heap} (h : Rep G w H) {a : Nat} (hw : w a ≠ none) : a < H.size := by
  cases hq : w a with
  | none => exact absurd hq hw
  | some e => exact (h a e hq).lt
theorem Rep.kept {G : GG} {w : Wd} {H H1 : Heap} (h : Rep G w H) (hq : ∀ a : Nat, w a ≠ none → H1[a]? = H[a]?) : Rep G w H1 := fun a e he => (h a e he).kept (hq a (by rw [he]; exact fun z => by cases z))
theorem Rep.set {G : GG} {w : Wd} {H H1 : Heap} (h : Rep G w H) {a : Nat} {e : PE} (he : va_at G.1 vwCl (a, pe_E G.2 e) H1) (hq : ∀ b : Nat, b ≠ a → w b ≠ none → H1[b]? = H[b]?) : Rep G (wset w a e) H1 := by
  intro b f hf
  by_cases hb : b = a
  · subst hb
    rw [wset_eq] at hf
    cases hf
    exact he
  · rw [wset_ne _ _ hb] at hf
    exact (h b f hf).kept (hq b hb (by rw [hf]; exact fun z => by cases z))
theorem Rep.one {G : GG} {w : Wd} {H : Heap} (h : Rep G w H) {a : Nat} {e : PE} (he : w a = some e) : va_P G.1 vwCl [(a, pe_E G.2 e)] H := by
  intro k q hq
  match k, hq with
  | 0, hq => cases hq; exact h a e he
  | k + 1, hq => simp at hq
/-- which old cells a method may change -/
def Af (w0 : Wd) (sz : Nat) : Nat → Prop := fun q => w0 q ≠ none ∨ sz ≤ q
/-- table words that callees can't find among their own: they move with the tables -/
def ngok (w : Cond) : Bool := match w with
  | .castable _ _ => true
  | .declares _ => true
  | .arrayOver (.object _) => true
  | .methodLinkNest _ _ _ _ => true
  | _ => false
def NGw : List Cond := lw_tbl.filter ngok
def NGok (s : State) : Prop := ∀ w ∈ NGw, w.before #[] s = true
theorem ng_any {w : Cond} (h : ngok w = true) {A A' : Array Value} {s : State} (hb : w.before A s = true) : w.before A' s = true := by
  cases w <;> first | exact hb | (simp [ngok] at h; done)
theorem ng_warm {w : Cond} (h : ngok w = true) {s U : State} (hW : s.WarmedH U.vm) (hb : w.before #[] s = true) : w.before #[] U = true := by
  cases w with
  | castable C T => exact va_Nw.warmC hW hb
  | declares x => exact va_tabs rfl (rfl : (s.setVm U.vm).vm = U.vm) (by rw [Cond.declares_setVm hW.alike]; exact hb)
  | methodLinkNest a i x h9 => exact va_Nw.warmM hW hb
  | arrayOver ty =>
    cases ty with
    | object C => exact va_AO.moved hW.alike hb
    | _ => simp [ngok] at h
  | _ => simp [ngok] at h
theorem ng_same {w : Cond} (h : ngok w = true) {s U : State} (hv : s.vm = U.vm) (hb : w.before #[] s = true) : w.before #[] U = true := ng_warm h (by rw [← hv]; exact State.WarmedH.refl s) hb
theorem NGok.warm {s U : State} (hW : s.WarmedH U.vm) (h : NGok s) : NGok U := fun w hw => ng_warm (List.mem_filter.mp hw).2 hW (h w hw)
theorem NGok.use {w : Cond} {s : State} (h : NGok s) (hw : w ∈ lw_tbl) (hn : ngok w = true) (args : Array Value) : w.before args s = true := ng_any hn (h w (List.mem_filter.mpr ⟨hw, hn⟩))
def strs : List (Nat × String) := [(43, "a character code is 0 to 255"), (53, "the text is full"), (64, "the text is not a calendar"), (121, "what is 0 to 10"), (301, "there is no such stenographer, session or room"), (303, "an argument is out of its range"), (305, "the present state does not allow it"), (150, "what is 0 to 6"), (179, "what is 0 to 5"), (186, "there is no such transcript"), (195, "what is 0 or 1"), (197, "what is 0 to 3"), (248, "no state is remembered"), (260, "n is 1 to 60, and what is 0 to 3"), (265, "n is 1 to 30"), (271, "there are no such slots"), (277, "n is 1 to 3"), (281, "the script has at most 5 * n digits"), (287, "m is 1 to 60"), (297, "a save slot is 0 or 1"), (299, "nothing has been saved in it since the last load")]
def ncs : List (String × String) := [("java/lang/IllegalStateException", "java/lang/IllegalArgumentException"), ("java/lang/IndexOutOfBoundsException", "java/lang/IllegalArgumentException"), ("java/lang/IllegalArgumentException", "java/lang/IllegalStateException"), ("java/lang/IndexOutOfBoundsException", "java/lang/IllegalStateException"), ("java/lang/IllegalArgumentException", "java/lang/IndexOutOfBoundsException"), ("java/lang/IllegalStateException", "java/lang/IndexOutOfBoundsException")]
/-- what a throw needs of the start: two statics of Throwable, the texts -/
def JS (s : State) (A : Nat → Prop) : Prop := NGok s ∧ vx_Zq Bundle.tN "UNASSIGNED_STACK" Bundle.steD A s s.heap ∧ vx_Zq Bundle.tN "SUPPRESSED_SENTINEL" Bundle.listD A s s.heap ∧ (∀ q ∈ strs, ∃ sa : Nat, vk_R "StenoRooms" q.1 q.2 sa s) ∧ ∀ q ∈ ncs, va_Nc q.1 q.2 s
abbrev Jc : Type := State → (Nat → Prop) → Code → Prop
def tb0 : Jc := fun _ _ c => c.exceptionTable.toList = []
def tbW (hh : List (Nat × Nat × Nat × Nat)) : Jc := fun _ _ c => c.exceptionTable.toList = tableOf hh
def JX (l : Launch) (tb : Jc) (s : State) (A : Nat → Prop) (c : Code) : Prop := JS s A ∧ tb s A c ∧ l.stackTraces = false
theorem JS.same {s U : State} {A : Nat → Prop} (hh : U.heap = s.heap) (hv : U.vm = s.vm) (h : JS s A) : JS U A := by
  have hal : s.vm.Alike U.vm := by rw [hv]; exact Vm.Alike.refl s.vm
  have hW : s.WarmedH U.vm := by rw [hv]; exact State.WarmedH.refl s
  exact ⟨NGok.warm hW h.1, by rw [hh]; exact vx_Zq.moved hal h.2.1, by rw [hh]; exact vx_Zq.moved hal h.2.2.1, fun q hq => by
    obtain ⟨sa, h9⟩ := h.2.2.2.1 q hq
    exact ⟨sa, vk_R.same hv h9⟩, fun q hq => va_Nc.moved hal (h.2.2.2.2 q hq)⟩
theorem JS.call {s U : State} {A B : Nat → Prop} {H : Heap} {locs : List Loc} (hS : va_S A s.heap H locs) (hU : U.heap = H) (hW : s.WarmedH U.vm) (hAB : ∀ q, B q → A q) (h : JS s A) : JS U B :=
  ⟨NGok.warm hW h.1, by rw [hU]; exact (vx_Zq.kept (vx_Zq.moved hW.alike h.2.1) (fun a h1 h2 => hS.2.1 a h1 h2)).narrow hAB, by rw [hU]; exact (vx_Zq.kept (vx_Zq.moved hW.alike h.2.2.1) (fun a h1 h2 => hS.2.1 a h1 h2)).narrow hAB, fun q hq => by
    obtain ⟨sa, h9⟩ := h.2.2.2.1 q hq
    exact ⟨sa, vk_R.warm hW h9⟩, fun q hq => va_Nc.moved hW.alike (h.2.2.2.2 q hq)⟩
abbrev Zt : Type := List Frame → Array Value → State → State → Prop
def X (G : GG) (l : Launch) (R : Room) (me : MethodName) (cc : ByteArray) (nL : Nat) (ret : Option FieldType) (w0 : Wd) (tb : Jc) (Z : Zt) (w : Wd) (pc : Nat) (lv : List (Nat × Value)) (st : List Value) (kc ks : Nat) : Prop :=
  ∀ (p : Program) (e : Env) (s : State) (m : MethodId) (args : Array Value) (below : List Frame) (meth : Method) (c : Code) (H : Heap) (locs : List Loc) (ls : Array Slot),
    CallFix p m c cc nL s args Tg me.cls → (meth.sig.returnType = ret ∧ meth.name = me.name) → meth.locks = false → KK G s → JX l tb s (Af w0 s.heap.size) c → Rep G w H → (∀ a, w a ≠ none → Af w0 s.heap.size a) → va_S (Af w0 s.heap.size) s.heap H locs → lv_has ls nL lv →
    W p l e R s m args below meth c H locs kc ks (Z below args s) (F0 m pc ls st)
section XS
variable {G : GG} {l : Launch} {R : Room} {me : MethodName} {cc : ByteArray} {nL : Nat} {ret : Option FieldType} {w0 : Wd} {tb : Jc} {Z : Zt} {w : Wd} {pc : Nat} {lv : List (Nat × Value)} {rest : List Value} {kc ks : Nat}
/-- a frame step that needs nothing but the code and the locals -/
theorem X.step {pc2 : Nat} {lv2 : List (Nat × Value)} {st st2 : List Value}
    (h : ∀ (p : Program) (e : Env) (s : State) (m : MethodId) (args : Array Value) (below : List Frame) (meth : Method) (c : Code) (H : Heap) (locs : List Loc) (Q : State → Prop) (ls : Array Slot), CallFix p m c cc nL s args Tg me.cls → lv_has ls nL lv → (∀ ls2, lv_has ls2 nL lv2 → W p l e R s m args below meth c H locs kc ks Q (F0 m pc2 ls2 st2)) → W p l e R s m args below meth c H locs kc ks Q (F0 m pc ls st))
    (k : X G l R me cc nL ret w0 tb Z w pc2 lv2 st2 kc ks) : X G l R me cc nL ret w0 tb Z w pc lv st kc ks :=
  fun p e s m args below meth c H locs ls S hr hlk hK hJ hP hA hS hL => h p e s m args below meth c H locs _ ls S hL (fun ls2 hl2 => k p e s m args below meth c H locs ls2 S hr hlk hK hJ hP hA hS hl2)
/-- fewer locals, in another order -/
theorem X.lsub {lv2 : List (Nat × Value)} {st : List Value} (h : ∀ q ∈ lv2, q ∈ lv) (k : X G l R me cc nL ret w0 tb Z w pc lv2 st kc ks) : X G l R me cc nL ret w0 tb Z w pc lv st kc ks :=
  fun p e s m args below meth c H locs ls S hr hlk hK hJ hP hA hS hL => k p e s m args below meth c H locs ls S hr hlk hK hJ hP hA hS ⟨hL.1, hL.2.1, fun q hq => hL.2.2 q (h q hq)⟩
theorem X.widen {kc2 ks2 : Nat} {st : List Value} (h1 : kc ≤ kc2) (h2 : ks ≤ ks2) (k : X G l R me cc nL ret w0 tb Z w pc lv st kc2 ks2) : X G l R me cc nL ret w0 tb Z w pc lv st kc ks :=
  fun p e s m args below meth c H locs ls S hr hlk hK hJ hP hA hS hL => W.widen h1 h2 (k p e s m args below meth c H locs ls S hr hlk hK hJ hP hA hS hL)
def lk (lv : List (Nat × Value)) (i : Nat) : Option Value := match lv with
  | [] => none
  | (j, v) :: t => if j = i then some v else lk t i
theorem lk_mem {lv : List (Nat × Value)} {i : Nat} {v : Value} (h : lk lv i = some v) : (i, v) ∈ lv := by
  induction lv with
  | nil => cases h
  | cons q t ih =>
    obtain ⟨j, u⟩ := q
    unfold lk at h
    by_cases hj : j = i
    · rw [if_pos hj] at h
      cases h
      subst hj
      exact List.mem_cons_self
    · rw [if_neg hj] at h
      exact List.mem_cons_of_mem _ (ih h)
theorem lk_at {ls : Array Slot} {lv : List (Nat × Value)} {i : Nat} {v : Value} (hL : lv_has ls nL lv) (h : lk lv i = some v) : ls[i]? = some (.val v) := hL.2.2 (i, v) (lk_mem h)
/-- the known locals behind a store, in the order of their numbers -/
def lset1 (lv : List (Nat × Value)) (i : Nat) (v : Value) : List (Nat × Value) := match lv with
  | [] => [(i, v)]
  | (j, u) :: t => if j < i then (if j + 1 = i ∧ u.category = 2 then lset1 t i v else (j, u) :: lset1 t i v) else if j = i then (i, v) :: t else (i, v) :: (j, u) :: t
theorem lset1_mem {lv : List (Nat × Value)} {i : Nat} {v : Value} (hs : ∀ q ∈ lv, q.1 = i → lv.head? = some q ∨ True) {q : Nat × Value} (h : q ∈ lset1 lv i v) : q = (i, v) ∨ (q ∈ lv) := by
  induction lv with
  | nil => exact Or.inl (by simpa [lset1] using h)
  | cons r t ih =>
    obtain ⟨j, u⟩ := r
    unfold lset1 at h
    split at h
    · split at h
      · rcases ih (fun _ _ _ => Or.inr trivial) h with h | h
        · exact Or.inl h
        · exact Or.inr (List.mem_cons_of_mem _ h)
      · rcases List.mem_cons.mp h with h | h
        · exact Or.inr (by rw [h]; exact List.mem_cons_self)
        · rcases ih (fun _ _ _ => Or.inr trivial) h with h | h
          · exact Or.inl h
          · exact Or.inr (List.mem_cons_of_mem _ h)
    · split at h
      · rcases List.mem_cons.mp h with h | h
        · exact Or.inl h
        · exact Or.inr (List.mem_cons_of_mem _ h)
      · rcases List.mem_cons.mp h with h | h
        · exact Or.inl h
        · exact Or.inr h
/-- what a store of an int or a reference keeps -/
def lok (lv2 : List (Nat × Value)) (i : Nat) (v : Value) (lv : List (Nat × Value)) : Prop := ∀ q ∈ lv2, q = (i, v) ∨ (q ∈ lv ∧ (!(q.1 == i) && !(q.1 + 1 == i && q.2.category == 2)) = true)
def lokL (lv2 : List (Nat × Value)) (i : Nat) (v : Value) (lv : List (Nat × Value)) : Prop := ∀ q ∈ lv2, q = (i, v) ∨ (q ∈ lv ∧ (!(q.1 == i) && (!(q.1 == i + 1) && !(q.1 + 1 == i && q.2.category == 2))) = true)
theorem lok_has {ls : Array Slot} {lv lv2 : List (Nat × Value)} {i : Nat} {v : Value} (h : lok lv2 i v lv) (hL : lv_has ls nL ((i, v) :: lv.filter (fun q => !(q.1 == i) && !(q.1 + 1 == i && q.2.category == 2)))) : lv_has ls nL lv2 :=
  ⟨hL.1, hL.2.1, fun q hq => by
    rcases h q hq with h | ⟨h1, h2⟩
    · exact hL.2.2 q (by rw [h]; exact List.mem_cons_self)
    · exact hL.2.2 q (List.mem_cons_of_mem _ (List.mem_filter.mpr ⟨h1, h2⟩))⟩
theorem lokL_has {ls : Array Slot} {lv lv2 : List (Nat × Value)} {i : Nat} {v : Value} (h : lokL lv2 i v lv) (hL : lv_has ls nL ((i, v) :: lv.filter (fun q => !(q.1 == i) && (!(q.1 == i + 1) && !(q.1 + 1 == i && q.2.category == 2))))) : lv_has ls nL lv2 :=
  ⟨hL.1, hL.2.1, fun q hq => by
    rcases h q hq with h | ⟨h1, h2⟩
    · exact hL.2.2 q (by rw [h]; exact List.mem_cons_self)
    · exact hL.2.2 q (List.mem_cons_of_mem _ (List.mem_filter.mpr ⟨h1, h2⟩))⟩
theorem lok_nil {i : Nat} {v : Value} {lv : List (Nat × Value)} : lok [] i v lv := fun _ h => by cases h
theorem lok_new {i : Nat} {v : Value} {lv lv2 : List (Nat × Value)} (h : lok lv2 i v lv) : lok ((i, v) :: lv2) i v lv := fun q hq => by
  rcases List.mem_cons.mp hq with e | e
  · exact Or.inl e
  · exact h q e
theorem lok_old {i j : Nat} {v u : Value} {lv lv2 : List (Nat × Value)} (hm : lk lv j = some u) (hc : (!(j == i) && !(j + 1 == i && u.category == 2)) = true) (h : lok lv2 i v lv) : lok ((j, u) :: lv2) i v lv := fun q hq => by
  rcases List.mem_cons.mp hq with e | e
  · exact Or.inr (by rw [e]; exact ⟨lk_mem hm, hc⟩)
  · exact h q e
theorem lokL_nil {i : Nat} {v : Value} {lv : List (Nat × Value)} : lokL [] i v lv := fun _ h => by cases h
theorem lokL_new {i : Nat} {v : Value} {lv lv2 : List (Nat × Value)} (h : lokL lv2 i v lv) : lokL ((i, v) :: lv2) i v lv := fun q hq => by
  rcases List.mem_cons.mp hq with e | e
  · exact Or.inl e
  · exact h q e
theorem lokL_old {i j : Nat} {v u : Value} {lv lv2 : List (Nat × Value)} (hm : lk lv j = some u) (hc : (!(j == i) && (!(j == i + 1) && !(j + 1 == i && u.category == 2))) = true) (h : lokL lv2 i v lv) : lokL ((j, u) :: lv2) i v lv := fun q hq => by
  rcases List.mem_cons.mp hq with e | e
  · exact Or.inr (by rw [e]; exact ⟨lk_mem hm, hc⟩)
  · exact h q e
theorem lsub_nil {lv : List (Nat × Value)} : ∀ q ∈ ([] : List (Nat × Value)), q ∈ lv := fun _ h => by cases h
theorem lsub_c {j : Nat} {u : Value} {lv lv2 : List (Nat × Value)} (hm : lk lv j = some u) (h : ∀ q ∈ lv2, q ∈ lv) : ∀ q ∈ ((j, u) :: lv2), q ∈ lv := fun q hq => by
  rcases List.mem_cons.mp hq with e | e
  · rw [e]; exact lk_mem hm
  · exact h q e
-- constants and locals
theorem x_iconst {n : Int} {v : Int32} (hdg : decode cc pc = .ok (.iconst n, 1)) (hv : Int32.ofInt n = v) (k : X G l R me cc nL ret w0 tb Z w (pc + 1) lv (.int v :: rest) kc ks) : X G l R me cc nL ret w0 tb Z w pc lv rest kc ks :=
  X.step (fun p e s m args below meth c H locs Q ls S hL kk => lv_iconst S.1 S.2.1 hdg hv (kk ls hL)) k
theorem x_bipush {n : Int} {v : Int32} (hdg : decode cc pc = .ok (.bipush n, 2)) (hv : (Int8.ofInt n).toInt32 = v) (k : X G l R me cc nL ret w0 tb Z w (pc + 2) lv (.int v :: rest) kc ks) : X G l R me cc nL ret w0 tb Z w pc lv rest kc ks :=
  X.step (fun p e s m args below meth c H locs Q ls S hL kk => lv_bipush S.1 S.2.1 hdg hv (kk ls hL)) k
theorem x_sipush {n : Int} {v : Int32} (hdg : decode cc pc = .ok (.sipush n, 3)) (hv : (Int16.ofInt n).toInt32 = v) (k : X G l R me cc nL ret w0 tb Z w (pc + 3) lv (.int v :: rest) kc ks) : X G l R me cc nL ret w0 tb Z w pc lv rest kc ks :=
  X.step (fun p e s m args below meth c H locs Q ls S hL kk => lv_sipush S.1 S.2.1 hdg hv (kk ls hL)) k
theorem x_lconst {n : Fin 2} {v : Int64} (hdg : decode cc pc = .ok (.lconst n, 1)) (hv : Int64.ofNat (n : Nat) = v) (k : X G l R me cc nL ret w0 tb Z w (pc + 1) lv (.long v :: rest) kc ks) : X G l R me cc nL ret w0 tb Z w pc lv rest kc ks :=
  X.step (fun p e s m args below meth c H locs Q ls S hL kk => lv_lconst S.1 S.2.1 hdg hv (kk ls hL)) k
theorem x_ldc2 {index : Nat} {v : Int64} (hc : Jvm.Cond.constantLong me.cls index v ∈ Tg) (hdg : decode cc pc = .ok (.ldc2_w index, 3)) (k : X G l R me cc nL ret w0 tb Z w (pc + 3) lv (.long v :: rest) kc ks) : X G l R me cc nL ret w0 tb Z w pc lv rest kc ks :=
  X.step (fun p e s m args below meth c H locs Q ls S hL kk => lv_ldc2 S.1 S.2.1 S.2.2.2.1 (S.2.2.2.2 _ hc) hdg (kk ls hL)) k
theorem x_iload_n {k4 : Fin 4} {i : Nat} {x : Int32} (hdg : decode cc pc = .ok (.iload_n k4, 1)) (hi : (k4 : Nat) = i) (hl : lk lv i = some (.int x)) (k : X G l R me cc nL ret w0 tb Z w (pc + 1) lv (.int x :: rest) kc ks) : X G l R me cc nL ret w0 tb Z w pc lv rest kc ks :=
  X.step (fun p e s m args below meth c H locs Q ls S hL kk => lv_iload_n S.1 S.2.1 hdg hi (lk_at hL hl) (kk ls hL)) k
theorem x_iload {i : Nat} {x : Int32} (hdg : decode cc pc = .ok (.iload i, 2)) (hl : lk lv i = some (.int x)) (k : X G l R me cc nL ret w0 tb Z w (pc + 2) lv (.int x :: rest) kc ks) : X G l R me cc nL ret w0 tb Z w pc lv rest kc ks :=
  X.step (fun p e s m args below meth c H locs Q ls S hL kk => lv_iload S.1 S.2.1 hdg (lk_at hL hl) (kk ls hL)) k
theorem x_aload_n {k4 : Fin 4} {i : Nat} {x : Nat} (hdg : decode cc pc = .ok (.aload_n k4, 1)) (hi : (k4 : Nat) = i) (hl : lk lv i = some (.ref x)) (k : X G l R me cc nL ret w0 tb Z w (pc + 1) lv (.ref x :: rest) kc ks) : X G l R me cc nL ret w0 tb Z w pc lv rest kc ks :=
  X.step (fun p e s m args below meth c H locs Q ls S hL kk => lv_aload_n S.1 S.2.1 hdg hi (lk_at hL hl) (kk ls hL)) k
theorem x_aload {i : Nat} {x : Nat} (hdg : decode cc pc = .ok (.aload i, 2)) (hl : lk lv i = some (.ref x)) (k : X G l R me cc nL ret w0 tb Z w (pc + 2) lv (.ref x :: rest) kc ks) : X G l R me cc nL ret w0 tb Z w pc lv rest kc ks :=
  X.step (fun p e s m args below meth c H locs Q ls S hL kk => lv_aload S.1 S.2.1 hdg (lk_at hL hl) (kk ls hL)) k
theorem x_lload_n {k4 : Fin 4} {i : Nat} {x : Int64} (hdg : decode cc pc = .ok (.lload_n k4, 1)) (hi : (k4 : Nat) = i) (hl : lk lv i = some (.long x)) (k : X G l R me cc nL ret w0 tb Z w (pc + 1) lv (.long x :: rest) kc ks) : X G l R me cc nL ret w0 tb Z w pc lv rest kc ks :=
  X.step (fun p e s m args below meth c H locs Q ls S hL kk => lv_lload_n S.1 S.2.1 hdg hi (lk_at hL hl) (kk ls hL)) k
theorem x_lload {i : Nat} {x : Int64} (hdg : decode cc pc = .ok (.lload i, 2)) (hl : lk lv i = some (.long x)) (k : X G l R me cc nL ret w0 tb Z w (pc + 2) lv (.long x :: rest) kc ks) : X G l R me cc nL ret w0 tb Z w pc lv rest kc ks :=
  X.step (fun p e s m args below meth c H locs Q ls S hL kk => lv_lload S.1 S.2.1 hdg (lk_at hL hl) (kk ls hL)) k
theorem x_istore_n {k4 : Fin 4} {i : Nat} {x : Int32} {lv2 : List (Nat × Value)} (hdg : decode cc pc = .ok (.istore_n k4, 1)) (hi : (k4 : Nat) = i) (hn : i < nL) (hl : lok lv2 i (.int x) lv) (k : X G l R me cc nL ret w0 tb Z w (pc + 1) lv2 rest kc ks) : X G l R me cc nL ret w0 tb Z w pc lv (.int x :: rest) kc ks :=
  X.step (fun p e s m args below meth c H locs Q ls S hL kk => lv_istore_n S.1 S.2.1 hdg hi hL hn rfl (fun ls2 h2 => kk ls2 (lok_has hl h2))) k
theorem x_istore {i : Nat} {x : Int32} {lv2 : List (Nat × Value)} (hdg : decode cc pc = .ok (.istore i, 2)) (hn : i < nL) (hl : lok lv2 i (.int x) lv) (k : X G l R me cc nL ret w0 tb Z w (pc + 2) lv2 rest kc ks) : X G l R me cc nL ret w0 tb Z w pc lv (.int x :: rest) kc ks :=
  X.step (fun p e s m args below meth c H locs Q ls S hL kk => lv_istore S.1 S.2.1 hdg hL hn rfl (fun ls2 h2 => kk ls2 (lok_has hl h2))) k
theorem x_astore_n {k4 : Fin 4} {i : Nat} {x : Nat} {lv2 : List (Nat × Value)} (hdg : decode cc pc = .ok (.astore_n k4, 1)) (hi : (k4 : Nat) = i) (hn : i < nL) (hl : lok lv2 i (.ref x) lv) (k : X G l R me cc nL ret w0 tb Z w (pc + 1) lv2 rest kc ks) : X G l R me cc nL ret w0 tb Z w pc lv (.ref x :: rest) kc ks :=
  X.step (fun p e s m args below meth c H locs Q ls S hL kk => lv_astore_n S.1 S.2.1 hdg hi hL hn rfl (fun ls2 h2 => kk ls2 (lok_has hl h2))) k
theorem x_astore {i : Nat} {x : Nat} {lv2 : List (Nat × Value)} (hdg : decode cc pc = .ok (.astore i, 2)) (hn : i < nL) (hl : lok lv2 i (.ref x) lv) (k : X G l R me cc nL ret w0 tb Z w (pc + 2) lv2 rest kc ks) : X G l R me cc nL ret w0 tb Z w pc lv (.ref x :: rest) kc ks :=
  X.step (fun p e s m args below meth c H locs Q ls S hL kk => lv_astore S.1 S.2.1 hdg hL hn rfl (fun ls2 h2 => kk ls2 (lok_has hl h2))) k
theorem x_lstore_n {k4 : Fin 4} {i : Nat} {x : Int64} {lv2 : List (Nat × Value)} (hdg : decode cc pc = .ok (.lstore_n k4, 1)) (hi : (k4 : Nat) = i) (hn : i + 1 < nL) (hl : lokL lv2 i (.long x) lv) (k : X G l R me cc nL ret w0 tb Z w (pc + 1) lv2 rest kc ks) : X G l R me cc nL ret w0 tb Z w pc lv (.long x :: rest) kc ks :=
  X.step (fun p e s m args below meth c H locs Q ls S hL kk => lv_lstore_n S.1 S.2.1 hdg hi hL hn rfl (fun ls2 h2 => kk ls2 (lokL_has hl h2))) k
theorem x_lstore {i : Nat} {x : Int64} {lv2 : List (Nat × Value)} (hdg : decode cc pc = .ok (.lstore i, 2)) (hn : i + 1 < nL) (hl : lokL lv2 i (.long x) lv) (k : X G l R me cc nL ret w0 tb Z w (pc + 2) lv2 rest kc ks) : X G l R me cc nL ret w0 tb Z w pc lv (.long x :: rest) kc ks :=
  X.step (fun p e s m args below meth c H locs Q ls S hL kk => lv_lstore S.1 S.2.1 hdg hL hn rfl (fun ls2 h2 => kk ls2 (lokL_has hl h2))) k
theorem x_iinc {i : Nat} {n : Int} {x v : Int32} {lv2 : List (Nat × Value)} (hdg : decode cc pc = .ok (.iinc i n, 3)) (hk : lk lv i = some (.int x)) (hv : x + Int32.ofInt n = v) (hn : i < nL) (hl : lok lv2 i (.int v) lv) (k : X G l R me cc nL ret w0 tb Z w (pc + 3) lv2 rest kc ks) : X G l R me cc nL ret w0 tb Z w pc lv rest kc ks :=
  X.step (fun p e s m args below meth c H locs Q ls S hL kk => by
    obtain ⟨j, hj⟩ := List.getElem?_of_mem (lk_mem hk)
    exact lv_iinc S.1 S.2.1 hdg hL hj hv hn rfl (fun ls2 h2 => kk ls2 (lok_has hl h2))) k
-- the stack
theorem x_dup {va : Value} (hdg : decode cc pc = .ok (.dup, 1)) (hva : va.category = 1) (k : X G l R me cc nL ret w0 tb Z w (pc + 1) lv (va :: va :: rest) kc ks) : X G l R me cc nL ret w0 tb Z w pc lv (va :: rest) kc ks :=
  X.step (fun p e s m args below meth c H locs Q ls S hL kk => lv_dup S.1 S.2.1 hdg hva (kk ls hL)) k
theorem x_dup2 {va vb : Value} (hdg : decode cc pc = .ok (.dup2, 1)) (hva : va.category = 1) (hvb : vb.category = 1) (k : X G l R me cc nL ret w0 tb Z w (pc + 1) lv (va :: vb :: va :: vb :: rest) kc ks) : X G l R me cc nL ret w0 tb Z w pc lv (va :: vb :: rest) kc ks :=
  X.step (fun p e s m args below meth c H locs Q ls S hL kk => lv_dup2_11 S.1 S.2.1 hdg hva hvb (kk ls hL)) k
theorem x_pop {va : Value} (hdg : decode cc pc = .ok (.pop, 1)) (hva : va.category = 1) (k : X G l R me cc nL ret w0 tb Z w (pc + 1) lv rest kc ks) : X G l R me cc nL ret w0 tb Z w pc lv (va :: rest) kc ks :=
  X.step (fun p e s m args below meth c H locs Q ls S hL kk => lv_pop S.1 S.2.1 hdg hva (kk ls hL)) k
theorem x_iadd {x y : Int32} (hdg : decode cc pc = .ok (.iadd, 1)) (k : X G l R me cc nL ret w0 tb Z w (pc + 1) lv (.int (x + y) :: rest) kc ks) : X G l R me cc nL ret w0 tb Z w pc lv (.int y :: .int x :: rest) kc ks :=
  X.step (fun p e s m args below meth c H locs Q ls S hL kk => lv_iadd S.1 S.2.1 hdg (kk ls hL)) k
theorem x_isub {x y : Int32} (hdg : decode cc pc = .ok (.isub, 1)) (k : X G l R me cc nL ret w0 tb Z w (pc + 1) lv (.int (x - y) :: rest) kc ks) : X G l R me cc nL ret w0 tb Z w pc lv (.int y :: .int x :: rest) kc ks :=
  X.step (fun p e s m args below meth c H locs Q ls S hL kk => lv_isub S.1 S.2.1 hdg (kk ls hL)) k
theorem x_imul {x y : Int32} (hdg : decode cc pc = .ok (.imul, 1)) (k : X G l R me cc nL ret w0 tb Z w (pc + 1) lv (.int (x * y) :: rest) kc ks) : X G l R me cc nL ret w0 tb Z w pc lv (.int y :: .int x :: rest) kc ks :=
  X.step (fun p e s m args below meth c H locs Q ls S hL kk => lv_imul S.1 S.2.1 hdg (kk ls hL)) k
theorem x_idiv {x y : Int32} (hdg : decode cc pc = .ok (.idiv, 1)) (hne : ¬ y = 0) (k : X G l R me cc nL ret w0 tb Z w (pc + 1) lv (.int (x / y) :: rest) kc ks) : X G l R me cc nL ret w0 tb Z w pc lv (.int y :: .int x :: rest) kc ks :=
  X.step (fun p e s m args below meth c H locs Q ls S hL kk => lv_idiv S.1 S.2.1 hdg hne (kk ls hL)) k
theorem x_irem {x y : Int32} (hdg : decode cc pc = .ok (.irem, 1)) (hne : ¬ y = 0) (k : X G l R me cc nL ret w0 tb Z w (pc + 1) lv (.int (x - x / y * y) :: rest) kc ks) : X G l R me cc nL ret w0 tb Z w pc lv (.int y :: .int x :: rest) kc ks :=
  X.step (fun p e s m args below meth c H locs Q ls S hL kk => lv_irem S.1 S.2.1 hdg hne (kk ls hL)) k
theorem x_ishl {x y : Int32} (hdg : decode cc pc = .ok (.ishl, 1)) (k : X G l R me cc nL ret w0 tb Z w (pc + 1) lv (.int (x <<< (y &&& 31)) :: rest) kc ks) : X G l R me cc nL ret w0 tb Z w pc lv (.int y :: .int x :: rest) kc ks :=
  X.step (fun p e s m args below meth c H locs Q ls S hL kk => lv_ishl S.1 S.2.1 hdg (kk ls hL)) k
theorem x_ishr {x y : Int32} (hdg : decode cc pc = .ok (.ishr, 1)) (k : X G l R me cc nL ret w0 tb Z w (pc + 1) lv (.int (x >>> (y &&& 31)) :: rest) kc ks) : X G l R me cc nL ret w0 tb Z w pc lv (.int y :: .int x :: rest) kc ks :=
  X.step (fun p e s m args below meth c H locs Q ls S hL kk => lv_ishr S.1 S.2.1 hdg (kk ls hL)) k
theorem x_iushr {x y : Int32} (hdg : decode cc pc = .ok (.iushr, 1)) (k : X G l R me cc nL ret w0 tb Z w (pc + 1) lv (.int ((x.toUInt32 >>> (y.toUInt32 &&& Int32.toUInt32 31)).toInt32) :: rest) kc ks) : X G l R me cc nL ret w0 tb Z w pc lv (.int y :: .int x :: rest) kc ks :=
  X.step (fun p e s m args below meth c H locs Q ls S hL kk => lv_iushr S.1 S.2.1 hdg rfl (kk ls hL)) k
theorem x_ior {x y : Int32} (hdg : decode cc pc = .ok (.ior, 1)) (k : X G l R me cc nL ret w0 tb Z w (pc + 1) lv (.int (x ||| y) :: rest) kc ks) : X G l R me cc nL ret w0 tb Z w pc lv (.int y :: .int x :: rest) kc ks :=
  X.step (fun p e s m args below meth c H locs Q ls S hL kk => lv_ior S.1 S.2.1 hdg (kk ls hL)) k
theorem x_iand {x y : Int32} (hdg : decode cc pc = .ok (.iand, 1)) (k : X G l R me cc nL ret w0 tb Z w (pc + 1) lv (.int (x &&& y) :: rest) kc ks) : X G l R me cc nL ret w0 tb Z w pc lv (.int y :: .int x :: rest) kc ks :=
  X.step (fun p e s m args below meth c H locs Q ls S hL kk => lv_iand S.1 S.2.1 hdg (kk ls hL)) k
theorem x_ladd {x y : Int64} (hdg : decode cc pc = .ok (.ladd, 1)) (k : X G l R me cc nL ret w0 tb Z w (pc + 1) lv (.long (x + y) :: rest) kc ks) : X G l R me cc nL ret w0 tb Z w pc lv (.long y :: .long x :: rest) kc ks :=
  X.step (fun p e s m args below meth c H locs Q ls S hL kk => lv_ladd S.1 S.2.1 hdg (kk ls hL)) k
theorem x_lsub {x y : Int64} (hdg : decode cc pc = .ok (.lsub, 1)) (k : X G l R me cc nL ret w0 tb Z w (pc + 1) lv (.long (x - y) :: rest) kc ks) : X G l R me cc nL ret w0 tb Z w pc lv (.long y :: .long x :: rest) kc ks :=
  X.step (fun p e s m args below meth c H locs Q ls S hL kk => lv_lsub S.1 S.2.1 hdg (kk ls hL)) k
theorem x_lmul {x y : Int64} (hdg : decode cc pc = .ok (.lmul, 1)) (k : X G l R me cc nL ret w0 tb Z w (pc + 1) lv (.long (x * y) :: rest) kc ks) : X G l R me cc nL ret w0 tb Z w pc lv (.long y :: .long x :: rest) kc ks :=
  X.step (fun p e s m args below meth c H locs Q ls S hL kk => lv_lmul S.1 S.2.1 hdg (kk ls hL)) k
theorem x_ldiv {x y : Int64} (hdg : decode cc pc = .ok (.ldiv, 1)) (hne : ¬ y = 0) (k : X G l R me cc nL ret w0 tb Z w (pc + 1) lv (.long (x / y) :: rest) kc ks) : X G l R me cc nL ret w0 tb Z w pc lv (.long y :: .long x :: rest) kc ks :=
  X.step (fun p e s m args below meth c H locs Q ls S hL kk => lv_ldiv S.1 S.2.1 hdg hne (kk ls hL)) k
theorem x_lrem {x y : Int64} (hdg : decode cc pc = .ok (.lrem, 1)) (hne : ¬ y = 0) (k : X G l R me cc nL ret w0 tb Z w (pc + 1) lv (.long (x - x / y * y) :: rest) kc ks) : X G l R me cc nL ret w0 tb Z w pc lv (.long y :: .long x :: rest) kc ks :=
  X.step (fun p e s m args below meth c H locs Q ls S hL kk => lv_lrem S.1 S.2.1 hdg hne (kk ls hL)) k
theorem x_land {x y : Int64} (hdg : decode cc pc = .ok (.land, 1)) (k : X G l R me cc nL ret w0 tb Z w (pc + 1) lv (.long (x &&& y) :: rest) kc ks) : X G l R me cc nL ret w0 tb Z w pc lv (.long y :: .long x :: rest) kc ks :=
  X.step (fun p e s m args below meth c H locs Q ls S hL kk => lv_land S.1 S.2.1 hdg (kk ls hL)) k
theorem x_lor {x y : Int64} (hdg : decode cc pc = .ok (.lor, 1)) (k : X G l R me cc nL ret w0 tb Z w (pc + 1) lv (.long (x ||| y) :: rest) kc ks) : X G l R me cc nL ret w0 tb Z w pc lv (.long y :: .long x :: rest) kc ks :=
  X.step (fun p e s m args below meth c H locs Q ls S hL kk => lv_lor S.1 S.2.1 hdg (kk ls hL)) k
theorem x_lshl {x : Int64} {y : Int32} (hdg : decode cc pc = .ok (.lshl, 1)) (k : X G l R me cc nL ret w0 tb Z w (pc + 1) lv (.long (x <<< (y.toInt64 &&& 63)) :: rest) kc ks) : X G l R me cc nL ret w0 tb Z w pc lv (.int y :: .long x :: rest) kc ks :=
  X.step (fun p e s m args below meth c H locs Q ls S hL kk => lv_lshl S.1 S.2.1 hdg rfl (kk ls hL)) k
theorem x_lushr {x : Int64} {y : Int32} (hdg : decode cc pc = .ok (.lushr, 1)) (k : X G l R me cc nL ret w0 tb Z w (pc + 1) lv (.long ((x.toUInt64 >>> (y.toInt64.toUInt64 &&& Int64.toUInt64 63)).toInt64) :: rest) kc ks) : X G l R me cc nL ret w0 tb Z w pc lv (.int y :: .long x :: rest) kc ks :=
  X.step (fun p e s m args below meth c H locs Q ls S hL kk => lv_lushr S.1 S.2.1 hdg rfl (kk ls hL)) k
theorem x_i2l {x : Int32} (hdg : decode cc pc = .ok (.i2l, 1)) (k : X G l R me cc nL ret w0 tb Z w (pc + 1) lv (.long x.toInt64 :: rest) kc ks) : X G l R me cc nL ret w0 tb Z w pc lv (.int x :: rest) kc ks :=
  X.step (fun p e s m args below meth c H locs Q ls S hL kk => lv_i2l S.1 S.2.1 hdg rfl (kk ls hL)) k
theorem x_l2i {x : Int64} (hdg : decode cc pc = .ok (.l2i, 1)) (k : X G l R me cc nL ret w0 tb Z w (pc + 1) lv (.int x.toInt32 :: rest) kc ks) : X G l R me cc nL ret w0 tb Z w pc lv (.long x :: rest) kc ks :=
  X.step (fun p e s m args below meth c H locs Q ls S hL kk => lv_l2i S.1 S.2.1 hdg rfl (kk ls hL)) k
theorem x_lcmp {x y : Int64} (hdg : decode cc pc = .ok (.lcmp, 1)) (k : X G l R me cc nL ret w0 tb Z w (pc + 1) lv (.int (lg_cmp x y) :: rest) kc ks) : X G l R me cc nL ret w0 tb Z w pc lv (.long y :: .long x :: rest) kc ks :=
  X.step (fun p e s m args below meth c H locs Q ls S hL kk => W.lcmp S.1 S.2.1 hdg (kk ls hL)) k
theorem x_goto {off : Int} {tgt : Nat} (hdg : decode cc pc = .ok (.goto off, 3)) (ht : (pc : Int) + off = (tgt : Int)) (k : X G l R me cc nL ret w0 tb Z w tgt lv rest kc ks) : X G l R me cc nL ret w0 tb Z w pc lv rest kc ks :=
  X.step (fun p e s m args below meth c H locs Q ls S hL kk => lv_goto S.1 S.2.1 hdg ht (kk ls hL)) k
theorem x_if_eq {x : Int32} {off : Int} {tgt : Nat} (hdg : decode cc pc = .ok (.ifCond .eq off, 3)) (ht : (pc : Int) + off = (tgt : Int)) (kt : x = 0 → X G l R me cc nL ret w0 tb Z w tgt lv rest kc ks) (kf : ¬ x = 0 → X G l R me cc nL ret w0 tb Z w (pc + 3) lv rest kc ks) : X G l R me cc nL ret w0 tb Z w pc lv (.int x :: rest) kc ks :=
  fun p e s m args below meth c H locs ls S hr hlk hK hJ hP hA hS hL => lv_if_eq S.1 S.2.1 hdg ht (fun h => kt h p e s m args below meth c H locs ls S hr hlk hK hJ hP hA hS hL) (fun h => kf h p e s m args below meth c H locs ls S hr hlk hK hJ hP hA hS hL)
theorem x_if_ne {x : Int32} {off : Int} {tgt : Nat} (hdg : decode cc pc = .ok (.ifCond .ne off, 3)) (ht : (pc : Int) + off = (tgt : Int)) (kt : ¬ x = 0 → X G l R me cc nL ret w0 tb Z w tgt lv rest kc ks) (kf : x = 0 → X G l R me cc nL ret w0 tb Z w (pc + 3) lv rest kc ks) : X G l R me cc nL ret w0 tb Z w pc lv (.int x :: rest) kc ks :=
  fun p e s m args below meth c H locs ls S hr hlk hK hJ hP hA hS hL => lv_if_ne S.1 S.2.1 hdg ht (fun h => kt h p e s m args below meth c H locs ls S hr hlk hK hJ hP hA hS hL) (fun h => kf h p e s m args below meth c H locs ls S hr hlk hK hJ hP hA hS hL)
theorem x_if_lt {x : Int32} {off : Int} {tgt : Nat} (hdg : decode cc pc = .ok (.ifCond .lt off, 3)) (ht : (pc : Int) + off = (tgt : Int)) (kt : x < 0 → X G l R me cc nL ret w0 tb Z w tgt lv rest kc ks) (kf : ¬ x < 0 → X G l R me cc nL ret w0 tb Z w (pc + 3) lv rest kc ks) : X G l R me cc nL ret w0 tb Z w pc lv (.int x :: rest) kc ks :=
  fun p e s m args below meth c H locs ls S hr hlk hK hJ hP hA hS hL => lv_if_lt S.1 S.2.1 hdg ht (fun h => kt h p e s m args below meth c H locs ls S hr hlk hK hJ hP hA hS hL) (fun h => kf h p e s m args below meth c H locs ls S hr hlk hK hJ hP hA hS hL)
theorem x_if_ge {x : Int32} {off : Int} {tgt : Nat} (hdg : decode cc pc = .ok (.ifCond .ge off, 3)) (ht : (pc : Int) + off = (tgt : Int)) (kt : 0 ≤ x → X G l R me cc nL ret w0 tb Z w tgt lv rest kc ks) (kf : ¬ 0 ≤ x → X G l R me cc nL ret w0 tb Z w (pc + 3) lv rest kc ks) : X G l R me cc nL ret w0 tb Z w pc lv (.int x :: rest) kc ks :=
  fun p e s m args below meth c H locs ls S hr hlk hK hJ hP hA hS hL => lv_if_ge S.1 S.2.1 hdg ht (fun h => kt h p e s m args below meth c H locs ls S hr hlk hK hJ hP hA hS hL) (fun h => kf h p e s m args below meth c H locs ls S hr hlk hK hJ hP hA hS hL)
theorem x_if_gt {x : Int32} {off : Int} {tgt : Nat} (hdg : decode cc pc = .ok (.ifCond .gt off, 3)) (ht : (pc : Int) + off = (tgt : Int)) (kt : 0 < x → X G l R me cc nL ret w0 tb Z w tgt lv rest kc ks) (kf : ¬ 0 < x → X G l R me cc nL ret w0 tb Z w (pc + 3) lv rest kc ks) : X G l R me cc nL ret w0 tb Z w pc lv (.int x :: rest) kc ks :=
  fun p e s m args below meth c H locs ls S hr hlk hK hJ hP hA hS hL => lv_if_gt S.1 S.2.1 hdg ht (fun h => kt h p e s m args below meth c H locs ls S hr hlk hK hJ hP hA hS hL) (fun h => kf h p e s m args below meth c H locs ls S hr hlk hK hJ hP hA hS hL)
theorem x_if_le {x : Int32} {off : Int} {tgt : Nat} (hdg : decode cc pc = .ok (.ifCond .le off, 3)) (ht : (pc : Int) + off = (tgt : Int)) (kt : x ≤ 0 → X G l R me cc nL ret w0 tb Z w tgt lv rest kc ks) (kf : ¬ x ≤ 0 → X G l R me cc nL ret w0 tb Z w (pc + 3) lv rest kc ks) : X G l R me cc nL ret w0 tb Z w pc lv (.int x :: rest) kc ks :=
  fun p e s m args below meth c H locs ls S hr hlk hK hJ hP hA hS hL => lv_if_le S.1 S.2.1 hdg ht (fun h => kt h p e s m args below meth c H locs ls S hr hlk hK hJ hP hA hS hL) (fun h => kf h p e s m args below meth c H locs ls S hr hlk hK hJ hP hA hS hL)
theorem x_icmp_eq {x y : Int32} {off : Int} {tgt : Nat} (hdg : decode cc pc = .ok (.if_icmp .eq off, 3)) (ht : (pc : Int) + off = (tgt : Int)) (kt : x = y → X G l R me cc nL ret w0 tb Z w tgt lv rest kc ks) (kf : ¬ x = y → X G l R me cc nL ret w0 tb Z w (pc + 3) lv rest kc ks) : X G l R me cc nL ret w0 tb Z w pc lv (.int y :: .int x :: rest) kc ks :=
  fun p e s m args below meth c H locs ls S hr hlk hK hJ hP hA hS hL => lv_icmp_eq S.1 S.2.1 hdg ht (fun h => kt h p e s m args below meth c H locs ls S hr hlk hK hJ hP hA hS hL) (fun h => kf h p e s m args below meth c H locs ls S hr hlk hK hJ hP hA hS hL)
theorem x_icmp_ne {x y : Int32} {off : Int} {tgt : Nat} (hdg : decode cc pc = .ok (.if_icmp .ne off, 3)) (ht : (pc : Int) + off = (tgt : Int)) (kt : ¬ x = y → X G l R me cc nL ret w0 tb Z w tgt lv rest kc ks) (kf : x = y → X G l R me cc nL ret w0 tb Z w (pc + 3) lv rest kc ks) : X G l R me cc nL ret w0 tb Z w pc lv (.int y :: .int x :: rest) kc ks :=
  fun p e s m args below meth c H locs ls S hr hlk hK hJ hP hA hS hL => lv_icmp_ne S.1 S.2.1 hdg ht (fun h => kt h p e s m args below meth c H locs ls S hr hlk hK hJ hP hA hS hL) (fun h => kf h p e s m args below meth c H locs ls S hr hlk hK hJ hP hA hS hL)
theorem x_icmp_lt {x y : Int32} {off : Int} {tgt : Nat} (hdg : decode cc pc = .ok (.if_icmp .lt off, 3)) (ht : (pc : Int) + off = (tgt : Int)) (kt : x < y → X G l R me cc nL ret w0 tb Z w tgt lv rest kc ks) (kf : ¬ x < y → X G l R me cc nL ret w0 tb Z w (pc + 3) lv rest kc ks) : X G l R me cc nL ret w0 tb Z w pc lv (.int y :: .int x :: rest) kc ks :=
  fun p e s m args below meth c H locs ls S hr hlk hK hJ hP hA hS hL => lv_icmp_lt S.1 S.2.1 hdg ht (fun h => kt h p e s m args below meth c H locs ls S hr hlk hK hJ hP hA hS hL) (fun h => kf h p e s m args below meth c H locs ls S hr hlk hK hJ hP hA hS hL)
theorem x_icmp_ge {x y : Int32} {off : Int} {tgt : Nat} (hdg : decode cc pc = .ok (.if_icmp .ge off, 3)) (ht : (pc : Int) + off = (tgt : Int)) (kt : y ≤ x → X G l R me cc nL ret w0 tb Z w tgt lv rest kc ks) (kf : ¬ y ≤ x → X G l R me cc nL ret w0 tb Z w (pc + 3) lv rest kc ks) : X G l R me cc nL ret w0 tb Z w pc lv (.int y :: .int x :: rest) kc ks :=
  fun p e s m args below meth c H locs ls S hr hlk hK hJ hP hA hS hL => lv_icmp_ge S.1 S.2.1 hdg ht (fun h => kt h p e s m args below meth c H locs ls S hr hlk hK hJ hP hA hS hL) (fun h => kf h p e s m args below meth c H locs ls S hr hlk hK hJ hP hA hS hL)
theorem x_icmp_gt {x y : Int32} {off : Int} {tgt : Nat} (hdg : decode cc pc = .ok (.if_icmp .gt off, 3)) (ht : (pc : Int) + off = (tgt : Int)) (kt : y < x → X G l R me cc nL ret w0 tb Z w tgt lv rest kc ks) (kf : ¬ y < x → X G l R me cc nL ret w0 tb Z w (pc + 3) lv rest kc ks) : X G l R me cc nL ret w0 tb Z w pc lv (.int y :: .int x :: rest) kc ks :=
  fun p e s m args below meth c H locs ls S hr hlk hK hJ hP hA hS hL => lv_icmp_gt S.1 S.2.1 hdg ht (fun h => kt h p e s m args below meth c H locs ls S hr hlk hK hJ hP hA hS hL) (fun h => kf h p e s m args below meth c H locs ls S hr hlk hK hJ hP hA hS hL)
theorem x_icmp_le {x y : Int32} {off : Int} {tgt : Nat} (hdg : decode cc pc = .ok (.if_icmp .le off, 3)) (ht : (pc : Int) + off = (tgt : Int)) (kt : x ≤ y → X G l R me cc nL ret w0 tb Z w tgt lv rest kc ks) (kf : ¬ x ≤ y → X G l R me cc nL ret w0 tb Z w (pc + 3) lv rest kc ks) : X G l R me cc nL ret w0 tb Z w pc lv (.int y :: .int x :: rest) kc ks :=
  fun p e s m args below meth c H locs ls S hr hlk hK hJ hP hA hS hL => lv_icmp_le S.1 S.2.1 hdg ht (fun h => kt h p e s m args below meth c H locs ls S hr hlk hK hJ hP hA hS hL) (fun h => kf h p e s m args below meth c H locs ls S hr hlk hK hJ hP hA hS hL)
theorem x_tableIn {dflt lo hi : Int} {offs : Array Int} {len : Nat} {x : Int32} {off : Int} {tgt : Nat} (hdg : decode cc pc = .ok (.tableswitch dflt lo hi offs, len)) (h1 : ¬ x.toInt < lo) (h2 : ¬ hi < x.toInt) (ho : offs[(x.toInt - lo).toNat]? = some off) (ht : (pc : Int) + off = (tgt : Int)) (k : X G l R me cc nL ret w0 tb Z w tgt lv rest kc ks) : X G l R me cc nL ret w0 tb Z w pc lv (.int x :: rest) kc ks :=
  X.step (fun p e s m args below meth c H locs Q ls S hL kk => lv_tableIn S.1 S.2.1 hdg h1 h2 ho ht (kk ls hL)) k
theorem x_tableOut {dflt lo hi : Int} {offs : Array Int} {len : Nat} {x : Int32} {tgt : Nat} (hdg : decode cc pc = .ok (.tableswitch dflt lo hi offs, len)) (h : x.toInt < lo ∨ hi < x.toInt) (ht : (pc : Int) + dflt = (tgt : Int)) (k : X G l R me cc nL ret w0 tb Z w tgt lv rest kc ks) : X G l R me cc nL ret w0 tb Z w pc lv (.int x :: rest) kc ks :=
  X.step (fun p e s m args below meth c H locs Q ls S hL kk => lv_tableOut S.1 S.2.1 hdg h ht (kk ls hL)) k
theorem x_lookup {dflt : Int} {ps : Array (Int × Int)} {len : Nat} {x : Int32} {off : Int} {tgt : Nat} (hdg : decode cc pc = .ok (.lookupswitch dflt ps, len)) (hp : (ps.toList.zip (ps.toList.drop 1)).all (fun (a, next) => a.1 < next.1) = true) (ho : Op.lookupswitch.offset ps.toList dflt x.toInt = off) (ht : (pc : Int) + off = (tgt : Int)) (k : X G l R me cc nL ret w0 tb Z w tgt lv rest kc ks) : X G l R me cc nL ret w0 tb Z w pc lv (.int x :: rest) kc ks :=
  X.step (fun p e s m args below meth c H locs Q ls S hL kk => lv_lookup S.1 S.2.1 hdg hp ho ht (kk ls hL)) k
-- fields
def FLg (own : String) (index ci k : Nat) : Prop := ∃ (C : String) (T : u_T) (N : Nat), vwCl[ci]? = some (C, T, N) ∧ (∀ w ∈ u_ws C T N, w ∈ Tg) ∧ k < N ∧ Cond.fieldLink own index C (T k).2.1 (T k).2.2.1 ∈ Tg ∧ (T k).1 = C
theorem x_get {index ci kf a : Nat} {fs : List Value} {v : Value} (hF : FLg me.cls index ci kf) (hdg : decode cc pc = .ok (.getfield index, 3)) (he : w a = some (.inl (ci, fs))) (hv : fs[kf]? = some v) (k : X G l R me cc nL ret w0 tb Z w (pc + 3) lv (v :: rest) kc ks) : X G l R me cc nL ret w0 tb Z w pc lv (.ref a :: rest) kc ks := by
  intro p e s m args below meth c H locs ls S hr hlk hK hJ hP hA hS hL
  obtain ⟨C, T, N, hc, hin, hk, hlink, hsame⟩ := hF
  exact va_get (D := G.1) (cl := vwCl) S.1 S.2.1 S.2.2.2.2 hin S.2.2.2.1 hK (hP.one he) 0 rfl hc kf hk (S.2.2.2.2 _ hlink) (fun x hx => by rw [hsame] at hx; exact hx) hv hdg (k p e s m args below meth c H locs ls S hr hlk hK hJ hP hA hS hL)
def FSg (own : String) (index ci k : Nat) (ty : FieldType) : Prop := ∃ (C : String) (T : u_T) (N : Nat) (ty0 : Nat → FieldType), vwCl[ci]? = some (C, T, N) ∧ (∀ w ∈ u_ws C T N, w ∈ Tg) ∧ k < N ∧ Cond.fieldLink own index C (T k).2.1 (T k).2.2.1 ∈ Tg ∧ (T k).1 = C ∧ (∀ k, k < N → parseFieldDescriptor (T k).2.2.1 = some (ty0 k)) ∧ (∀ a, a < N → ∀ b, b < N → a ≠ b → (T a).2.1 ≠ (T b).2.1) ∧ (T k).2.2.2 = false ∧ ty0 k = ty
theorem x_put {index ci kf a : Nat} {fs fs2 : List Value} {v : Value} {ty : FieldType} (hF : FSg me.cls index ci kf ty) (hdg : decode cc pc = .ok (.putfield index, 3)) (hn : narrow ty v = v) (hfit : fits ty v = true) (he : w a = some (.inl (ci, fs))) (hl : kf < fs.length) (h2 : fs.set kf v = fs2) (k : X G l R me cc nL ret w0 tb Z (wset w a (.inl (ci, fs2))) (pc + 3) lv rest kc ks) : X G l R me cc nL ret w0 tb Z w pc lv (v :: .ref a :: rest) kc ks := by
  intro p e s m args below meth c H locs ls S hr hlk hK hJ hP hA hS hL
  obtain ⟨C, T, N, ty0, hc, hin, hk, hlink, hsame, hty, hnm, hfin, hty1⟩ := hF
  subst h2
  have hts := S.2.2.2.2
  have hown := S.2.2.2.1
  have hd : parseFieldDescriptor (T kf).2.2.1 = some ty := by rw [hty kf hk, hty1]
  have hap := va_apart (own := me.cls) (D := G.1) (cl := vwCl) hts hin ty0 hty hnm hK hc
  obtain ⟨r, h1, cell, q1, q2, q3, q4⟩ := hP a _ he
  have hr9 : r = (C, T, N) := Option.some.inj (h1.symm.trans hc)
  subst hr9
  obtain ⟨hSl, hfc, kC, hkC, hkind⟩ := hK.1 ci _ hc
  obtain ⟨cf, kf9, fi, f, hi, hsl⟩ := hSl kf hk
  have hlay := hts _ (hin _ (u_in_lay hk))
  unfold u_lay at hlay
  rw [if_neg (by rw [hfin]; decide)] at hlay
  have hst := (u_facts hfc hkC (u_lays hts hin hk) hi).1
  have h6 := u_store hfc hkC hkind hlay hi hd hn hfit
  refine W.putK S.1 S.2.1 (f := f) ⟨hown, hts _ hlink, ⟨_, _, _, by rw [hsame] at hi; exact hi⟩, hst⟩ (by rw [q2]; exact h6) q1 q3 (by rw [hsl]; exact k2_hasslot (q4 kf hk)) rfl rfl hdg fun H' e1 e2 e3 => ?_
  rw [hsl] at e1 ⊢
  have hAa : Af w0 s.heap.size a := hA a (by rw [he]; exact fun z => by cases z)
  refine k p e s m args below meth c H' _ ls S hr hlk hK hJ (hP.set ⟨_, hc, t_OB.to (V := updV (vp_V fs) kf v) ⟨_, e1, q2, q3, t_set q4 hap hk v⟩ (fun j _ => vp_updV_set hl v j)⟩ (fun b hb _ => e3 b hb)) (fun b hb => ?_) (hS.put e2 e3 hAa) hL
  rcases wset_dom hb with h | h
  · exact hA b h
  · rw [h]; exact hAa
def FTg (own : String) (index ci k : Nat) (ty : FieldType) : Prop := ∃ (C : String) (T : u_T) (N : Nat) (ty0 : Nat → FieldType), C = own ∧ vwCl[ci]? = some (C, T, N) ∧ (∀ w ∈ u_ws C T N, w ∈ Tg) ∧ k < N ∧ Cond.fieldLink own index C (T k).2.1 (T k).2.2.1 ∈ Tg ∧ (T k).1 = C ∧ (∀ k, k < N → parseFieldDescriptor (T k).2.2.1 = some (ty0 k)) ∧ (∀ a, a < N → ∀ b, b < N → a ≠ b → (T a).2.1 ≠ (T b).2.1) ∧ (T k).2.2.2 = true ∧ ty0 k = ty
theorem x_putF {index ci kf a : Nat} {fs fs2 : List Value} {v : Value} {ty : FieldType} (hF : FTg me.cls index ci kf ty) (hme0 : me.name = "<init>") (hdg : decode cc pc = .ok (.putfield index, 3)) (hn : narrow ty v = v) (hfit : fits ty v = true) (he : w a = some (.inl (ci, fs))) (hl : kf < fs.length) (h2 : fs.set kf v = fs2) (k : X G l R me cc nL ret w0 tb Z (wset w a (.inl (ci, fs2))) (pc + 3) lv rest kc ks) : X G l R me cc nL ret w0 tb Z w pc lv (v :: .ref a :: rest) kc ks := by
  intro p e s m args below meth c H locs ls S hr hlk hK hJ hP hA hS hL
  obtain ⟨C, T, N, ty0, hC9, hc, hin, hk, hlink, hsame, hty, hnm, hfin, hty1⟩ := hF
  subst h2
  have hme : me.name = "<init>" ∧ C = me.cls := ⟨hme0, hC9⟩
  have hts := S.2.2.2.2
  have hown := S.2.2.2.1
  have hd : parseFieldDescriptor (T kf).2.2.1 = some ty := by rw [hty kf hk, hty1]
  have hap := va_apart (own := me.cls) (D := G.1) (cl := vwCl) hts hin ty0 hty hnm hK hc
  obtain ⟨r, h1, cell, q1, q2, q3, q4⟩ := hP a _ he
  have hr9 : r = (C, T, N) := Option.some.inj (h1.symm.trans hc)
  subst hr9
  obtain ⟨hSl, hfc, kC, hkC, hkind⟩ := hK.1 ci _ hc
  obtain ⟨cf, kf9, fi, f, hi, hsl⟩ := hSl kf hk
  have hlay := hts _ (hin _ (u_in_lay hk))
  unfold u_lay at hlay
  rw [if_pos hfin] at hlay
  have hst := (u_facts hfc hkC (u_lays hts hin hk) hi).1
  have hcf : m.cls = cf := by
    obtain ⟨_, _, c', _, _, _, -, -, hf', -, -, -, hown2, -⟩ := Cond.laysFinal_spec hlay
    have e1 : c' = cf := by have := hi.symm.trans hf'; simp at this; exact this.1.symm
    rw [hsame, hme.2] at hown2
    rw [← e1]; exact Option.some.inj (hown.symm.trans hown2)
  have h6 := u_fits hfc hkC hkind (Or.inr hlay) hi hd hn hfit
  refine W.putFinK S.1 S.2.1 hown (hts _ hlink) (by rw [hsame] at hi; exact hi) hst hcf (hr.2.trans hme.1) (by rw [q2]; exact h6) q1 q3 (by rw [hsl]; exact k2_hasslot (q4 kf hk)) rfl rfl hdg fun H' e1 e2 e3 => ?_
  rw [hsl] at e1 ⊢
  have hAa : Af w0 s.heap.size a := hA a (by rw [he]; exact fun z => by cases z)
  refine k p e s m args below meth c H' _ ls S hr hlk hK hJ (hP.set ⟨_, hc, t_OB.to (V := updV (vp_V fs) kf v) ⟨_, e1, q2, q3, t_set q4 hap hk v⟩ (fun j _ => vp_updV_set hl v j)⟩ (fun b hb _ => e3 b hb)) (fun b hb => ?_) (hS.put e2 e3 hAa) hL
  rcases wset_dom hb with h | h
  · exact hA b h
  · rw [h]; exact hAa
-- arrays
theorem x_iald {a n : Nat} {f : Nat → Int32} {i : Int32} (hdg : decode cc pc = .ok (.iaload, 1)) (he : w a = some (.inr (0, n, .inl f))) (hi : vp_in i n) (k : X G l R me cc nL ret w0 tb Z w (pc + 1) lv (.int (f i.toNatClampNeg) :: rest) kc ks) : X G l R me cc nL ret w0 tb Z w pc lv (.int i :: .ref a :: rest) kc ks :=
  fun p e s m args below meth c H locs ls S hr hlk hK hJ hP hA hS hL => va_iald (D := G.1) (cl := vwCl) S.1 S.2.1 hK (hP.one he) 0 0 rfl rfl hi hdg (k p e s m args below meth c H locs ls S hr hlk hK hJ hP hA hS hL)
theorem x_zald {a n : Nat} {f : Nat → Int32} {i : Int32} (hdg : decode cc pc = .ok (.baload, 1)) (he : w a = some (.inr (1, n, .inl f))) (hi : vp_in i n) (k : X G l R me cc nL ret w0 tb Z w (pc + 1) lv (.int (f i.toNatClampNeg) :: rest) kc ks) : X G l R me cc nL ret w0 tb Z w pc lv (.int i :: .ref a :: rest) kc ks :=
  fun p e s m args below meth c H locs ls S hr hlk hK hJ hP hA hS hL => va_zald (D := G.1) (cl := vwCl) S.1 S.2.1 hK (hP.one he) 0 1 rfl rfl hi hdg (k p e s m args below meth c H locs ls S hr hlk hK hJ hP hA hS hL)
theorem x_lald {a n : Nat} {f : Nat → Int64} {i : Int32} (hdg : decode cc pc = .ok (.laload, 1)) (he : w a = some (.inr (2, n, .inr (.inl f)))) (hi : vp_in i n) (k : X G l R me cc nL ret w0 tb Z w (pc + 1) lv (.long (f i.toNatClampNeg) :: rest) kc ks) : X G l R me cc nL ret w0 tb Z w pc lv (.int i :: .ref a :: rest) kc ks :=
  fun p e s m args below meth c H locs ls S hr hlk hK hJ hP hA hS hL => va_lald (D := G.1) (cl := vwCl) S.1 S.2.1 hK (hP.one he) 0 2 rfl rfl hi hdg (k p e s m args below meth c H locs ls S hr hlk hK hJ hP hA hS hL)
def qcls (t : Nat) : String := match t with
  | 3 => "StenoRooms$Calendar"
  | _ => "StenoRooms$Session"
theorem x_aald3 {a n x : Nat} {f : Nat → Option Nat} {i : Int32} (hdg : decode cc pc = .ok (.aaload, 1)) (he : w a = some (.inr (3, n, .inr (.inr (.inr (.inr f)))))) (hi : vp_in i n) (hv : f i.toNatClampNeg = some x) (k : X G l R me cc nL ret w0 tb Z w (pc + 1) lv (.ref x :: rest) kc ks) : X G l R me cc nL ret w0 tb Z w pc lv (.int i :: .ref a :: rest) kc ks :=
  fun p e s m args below meth c H locs ls S hr hlk hK hJ hP hA hS hL => va_aldq (D := G.1) (cl := vwCl) (C := "StenoRooms$Calendar") S.1 S.2.1 hK (hP.one he) 0 3 rfl rfl hi hdg (by rw [hv]; exact k p e s m args below meth c H locs ls S hr hlk hK hJ hP hA hS hL)
theorem x_aald4 {a n x : Nat} {f : Nat → Option Nat} {i : Int32} (hdg : decode cc pc = .ok (.aaload, 1)) (he : w a = some (.inr (4, n, .inr (.inr (.inr (.inr f)))))) (hi : vp_in i n) (hv : f i.toNatClampNeg = some x) (k : X G l R me cc nL ret w0 tb Z w (pc + 1) lv (.ref x :: rest) kc ks) : X G l R me cc nL ret w0 tb Z w pc lv (.int i :: .ref a :: rest) kc ks :=
  fun p e s m args below meth c H locs ls S hr hlk hK hJ hP hA hS hL => va_aldq (D := G.1) (cl := vwCl) (C := "StenoRooms$Session") S.1 S.2.1 hK (hP.one he) 0 4 rfl rfl hi hdg (by rw [hv]; exact k p e s m args below meth c H locs ls S hr hlk hK hJ hP hA hS hL)
theorem x_alen {a t n : Nat} {x : vp_A} {ty : FieldType} {v : Int32} (hdg : decode cc pc = .ok (.arraylength, 1)) (he : w a = some (.inr (t, x))) (ht : t < 5) (hv : Int32.ofNat x.1 = v) (k : X G l R me cc nL ret w0 tb Z w (pc + 1) lv (.int v :: rest) kc ks) : X G l R me cc nL ret w0 tb Z w pc lv (.ref a :: rest) kc ks := by
  intro p e s m args below meth c H locs ls S hr hlk hK hJ hP hA hS hL
  have hk := k p e s m args below meth c H locs ls S hr hlk hK hJ hP hA hS hL
  have h : ∃ ty, (xTys G)[t]? = some (G.2 t, ty) := by
    match t, ht with
    | 0, _ => exact ⟨_, rfl⟩
    | 1, _ => exact ⟨_, rfl⟩
    | 2, _ => exact ⟨_, rfl⟩
    | 3, _ => exact ⟨_, rfl⟩
    | 4, _ => exact ⟨_, rfl⟩
  obtain ⟨ty, hty⟩ := h
  exact va_alen (D := G.1) (cl := vwCl) S.1 S.2.1 hK (hP.one he) 0 t rfl hty hv hdg hk
theorem va_S_put {A0 : Nat → Prop} {H0 H H1 : Heap} {locs : List Loc} {a j : Nat} (hS : va_S A0 H0 H locs) (z : H1.size = H.size) (oq : ∀ q, q ≠ a → H1[q]? = H[q]?) (ha : A0 a) : va_S A0 H0 H1 (locs ++ [⟨a, j⟩]) := hS.put z oq ha
theorem x_iast {a n : Nat} {f : Nat → Int32} {i x : Int32} (hdg : decode cc pc = .ok (.iastore, 1)) (he : w a = some (.inr (0, n, .inl f))) (hi : vp_in i n) (k : X G l R me cc nL ret w0 tb Z (wset w a (.inr (0, n, .inl (upd f i.toNatClampNeg x)))) (pc + 1) lv rest kc ks) : X G l R me cc nL ret w0 tb Z w pc lv (.int x :: .int i :: .ref a :: rest) kc ks := by
  intro p e s m args below meth c H locs ls S hr hlk hK hJ hP hA hS hL
  have hAa : Af w0 s.heap.size a := hA a (by rw [he]; exact fun z => by cases z)
  refine W.iast S.1 S.2.1 (hP a _ he) ((hK.2 0 _ rfl).1 n (fun j => .int (f j))) (fun q => by cases q) (by show ¬ (i < 0 ∨ (arrV _ _ _).slots.size ≤ _); rw [arrV_size]; exact hi) rfl rfl hdg fun H1 e9 z oq => ?_
  refine k p e s m args below meth c H1 _ ls S hr hlk hK hJ (hP.set ?_ (fun b hb _ => oq b hb)) (fun b hb => ?_) (hS.put z oq hAa) hL
  · show H1[a]? = some (vp_cell _ _)
    rw [e9]
    show some ((vp_cell _ (n, .inl f)).setSlot _ _) = _
    rw [vp_cell_i, vp_cell_i, arrV_store]
    congr 2
    funext q
    by_cases hq : q = i.toNatClampNeg
    · subst hq
      simp [updV, upd]
    · simp [updV, upd, hq]
  · rcases wset_dom hb with h | h
    · exact hA b h
    · rw [h]; exact hAa
theorem x_zast {a n : Nat} {f : Nat → Int32} {i x : Int32} (hdg : decode cc pc = .ok (.bastore, 1)) (he : w a = some (.inr (1, n, .inl f))) (hi : vp_in i n) (k : X G l R me cc nL ret w0 tb Z (wset w a (.inr (1, n, .inl (upd f i.toNatClampNeg (vp_nar .boolean x))))) (pc + 1) lv rest kc ks) : X G l R me cc nL ret w0 tb Z w pc lv (.int x :: .int i :: .ref a :: rest) kc ks := by
  intro p e s m args below meth c H locs ls S hr hlk hK hJ hP hA hS hL
  have hAa : Af w0 s.heap.size a := hA a (by rw [he]; exact fun z => by cases z)
  refine W.zast S.1 S.2.1 (hP a _ he) ((hK.2 1 _ rfl).1 n (fun j => .int (f j))) (fun q => by cases q) (by show ¬ (i < 0 ∨ (arrV _ _ _).slots.size ≤ _); rw [arrV_size]; exact hi) rfl rfl hdg fun H1 e9 z oq => ?_
  refine k p e s m args below meth c H1 _ ls S hr hlk hK hJ (hP.set ?_ (fun b hb _ => oq b hb)) (fun b hb => ?_) (hS.put z oq hAa) hL
  · show H1[a]? = some (vp_cell _ _)
    rw [e9]
    show some ((vp_cell _ (n, .inl f)).setSlot _ _) = _
    rw [vp_cell_i, vp_cell_i, arrV_store]
    congr 2
    funext q
    by_cases hq : q = i.toNatClampNeg
    · subst hq
      simp [updV, upd, vp_nar]
      try rfl
    · simp [updV, upd, hq]
  · rcases wset_dom hb with h | h
    · exact hA b h
    · rw [h]; exact hAa
theorem x_last {a n : Nat} {f : Nat → Int64} {i : Int32} {x : Int64} (hdg : decode cc pc = .ok (.lastore, 1)) (he : w a = some (.inr (2, n, .inr (.inl f)))) (hi : vp_in i n) (k : X G l R me cc nL ret w0 tb Z (wset w a (.inr (2, n, .inr (.inl (vp_updL f i.toNatClampNeg x))))) (pc + 1) lv rest kc ks) : X G l R me cc nL ret w0 tb Z w pc lv (.long x :: .int i :: .ref a :: rest) kc ks := by
  intro p e s m args below meth c H locs ls S hr hlk hK hJ hP hA hS hL
  have hAa : Af w0 s.heap.size a := hA a (by rw [he]; exact fun z => by cases z)
  refine W.last S.1 S.2.1 (hP a _ he) ((hK.2 2 _ rfl).1 n (fun j => .long (f j))) (fun q => by cases q) (by show ¬ (i < 0 ∨ (arrV _ _ _).slots.size ≤ _); rw [arrV_size]; exact hi) rfl rfl hdg fun H1 e9 z oq => ?_
  refine k p e s m args below meth c H1 _ ls S hr hlk hK hJ (hP.set ?_ (fun b hb _ => oq b hb)) (fun b hb => ?_) (hS.put z oq hAa) hL
  · show H1[a]? = some (vp_cell _ _)
    rw [e9]
    show some ((vp_cell _ (n, .inr (.inl f))).setSlot _ _) = _
    rw [vp_cell_l, vp_cell_l, arrV_store]
    congr 2
    funext q
    by_cases hq : q = i.toNatClampNeg
    · subst hq
      simp [updV, vp_updL]
    · simp [updV, vp_updL, hq]
  · rcases wset_dom hb with h | h
    · exact hA b h
    · rw [h]; exact hAa
/-- a reference into an array of references: of Calendars (tag 3, number 0) or of Sessions (tag 4, number 2) -/
theorem x_aast {t a n v ci : Nat} {vs : List Value} {f : Nat → Option Nat} {i : Int32} (hdg : decode cc pc = .ok (.aastore, 1)) (ht : (t = 3 ∧ ci = 0) ∨ (t = 4 ∧ ci = 2)) (he : w a = some (.inr (t, n, .inr (.inr (.inr (.inr f)))))) (hi : vp_in i n) (hv : w v = some (.inl (ci, vs))) (k : X G l R me cc nL ret w0 tb Z (wset w a (.inr (t, n, .inr (.inr (.inr (.inr (va_up f i.toNatClampNeg (some v)))))))) (pc + 1) lv rest kc ks) : X G l R me cc nL ret w0 tb Z w pc lv (.ref v :: .int i :: .ref a :: rest) kc ks := by
  intro p e s m args below meth c H locs ls S hr hlk hK hJ hP hA hS hL
  have hAa : Af w0 s.heap.size a := hA a (by rw [he]; exact fun z => by cases z)
  have hlt : i.toNatClampNeg < n := Nat.not_le.mp fun q => hi (Or.inr q)
  have h0 : ¬ i < 0 := fun q => hi (Or.inl q)
  obtain ⟨r', hr', cellV, g1, g2, g3, -⟩ := hP v _ hv
  have h9 : ∃ r : vw_C, vwCl[ci]? = some r ∧ (xTys G)[t]? = some (G.2 t, .object r.1) := by
    rcases ht with ⟨rfl, rfl⟩ | ⟨rfl, rfl⟩ <;> exact ⟨_, rfl, rfl⟩
  obtain ⟨r, hc, hty⟩ := h9
  have hcls := (hK.1 ci r hc).2
  obtain ⟨kA, comp, k1, k2, k3, -⟩ := (hK.2 t _ hty).2
  have hcomp : comp = G.1.1 ci := Option.some.inj (k3.symm.trans hcls.1)
  subst hcomp
  obtain ⟨kC, hkC, -⟩ := hcls.2
  refine W.aast S.1 S.2.1 (hP a _ he) (fun q h => by cases h) (fun h => by cases h) k1 k2 rfl hkC ⟨h0, by show _ < (arrV _ _ _).slots.size; rw [arrV_size]; exact hlt⟩ g1 (fun q h => by rw [g3] at h; cases h) (by rw [g2]; exact hkC) (by rw [g2]; exact va_assign hcls) rfl rfl hdg fun H1 e9 z oq => ?_
  refine k p e s m args below meth c H1 _ ls S hr hlk hK hJ (hP.set ?_ (fun b hb _ => oq b hb)) (fun b hb => ?_) (hS.put z oq hAa) hL
  · show H1[a]? = some (vp_cell _ _)
    rw [e9]
    show some ((vp_cell _ (n, .inr (.inr (.inr (.inr f))))).setSlot _ _) = _
    rw [vp_cell_q, vp_cell_q, arrV_store]
    congr 2
    funext q
    by_cases hq : q = i.toNatClampNeg
    · subst hq
      simp [updV, va_up, va_rf]
    · simp [updV, va_up, hq]
  · rcases wset_dom hb with h | h
    · exact hA b h
    · rw [h]; exact hAa
end XS
