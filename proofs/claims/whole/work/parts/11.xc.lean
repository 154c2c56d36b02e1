/-! CONTRACTS over the pure world, and calls -/
def QQ (G : GG) (w0 : Wd) (Q : Option Value → Wd → Prop) : Array Value → State → Outcome → State → Prop := fun _ st o t =>
  (∃ (v : Option Value) (w2 : Wd), o = .returned v ∧ Q v w2 ∧ Rep G w2 t.heap ∧ ∀ a, w2 a ≠ none → Af w0 st.heap.size a) ∧ va_F (Af w0 st.heap.size) st t
def PP (G : GG) (w : Wd) (As : List Value) (sz : Nat) : Array Value → State → Prop := va_Pc As (fun U => U.heap.size = sz ∧ Rep G w U.heap ∧ KK G U ∧ JS U (Af w sz))
def RM (F Lc mc ms : Nat) : Room := { frames := F, cells := mc, slots := ms, locals := Lc }
def Ct (G : GG) (l : Launch) (y : MethodName) (cc : ByteArray) (nL : Nat) (ret : Option FieldType) (F Lc mc ms : Nat) (As : List Value) (w : Wd) (Q : Option Value → Wd → Prop) : Prop :=
  l.stackTraces = false → ∀ sz : Nat, Met l y (Cond.code y cc nL ret :: Tg) (RM F Lc mc ms) (PP G w As sz) (QQ G w Q) mc ms (Af w sz)
def CtI (G : GG) (l : Launch) (y : MethodName) (cc : ByteArray) (nL : Nat) (ret : Option FieldType) (F Lc mc ms : Nat) (As : List Value) (w : Wd) (Q : Int32 → Wd → Prop) : Prop := Ct G l y cc nL ret F Lc mc ms As w (fun v w2 => ∃ r : Int32, v = some (.int r) ∧ Q r w2)
def CtV (G : GG) (l : Launch) (y : MethodName) (cc : ByteArray) (nL : Nat) (ret : Option FieldType) (F Lc mc ms : Nat) (As : List Value) (w : Wd) (Q : Wd → Prop) : Prop := Ct G l y cc nL ret F Lc mc ms As w (fun v w2 => v = none ∧ Q w2)
def Z1 (G : GG) (mc ms : Nat) (w0 : Wd) (Q : Option Value → Wd → Prop) : Zt := fun below args s => MQ below (QQ G w0 Q) args s mc ms (Af w0 s.heap.size)
def ZI (G : GG) (mc ms : Nat) (w0 : Wd) (Q : Int32 → Wd → Prop) : Zt := Z1 G mc ms w0 (fun v w2 => ∃ r : Int32, v = some (.int r) ∧ Q r w2)
def ZV (G : GG) (mc ms : Nat) (w0 : Wd) (Q : Wd → Prop) : Zt := Z1 G mc ms w0 (fun v w2 => v = none ∧ Q w2)
theorem tgc_good {y : MethodName} {cc : ByteArray} {nL : Nat} {ret : Option FieldType} (h : Cond.code y cc nL ret ∈ Tg) : GoodIn Tg (Cond.code y cc nL ret :: Tg) := fun w hw => by
  rcases List.mem_cons.mp hw with e | e
  · rw [e]; exact ⟨h, good_of_word (tg_good _ h)⟩
  · exact ⟨e, good_of_word (tg_good _ e)⟩
theorem KK_moved {G : GG} {u U : State} (hvm : u.vm.Alike U.vm) (h : KK G u) : KK G U := va_K.moved hvm h
theorem Ct_blind (G : GG) (sz : Nat) (As : List Value) (w : Wd) : FrameBlind (PP G w As sz) := fun a U g mk q => by
  obtain ⟨q0, q1, q2, q3, q4⟩ := q
  exact ⟨q0, q1, q2, KK_moved (u := U) (U := U.calling g mk a) (Vm.Alike.refl U.vm) q3, JS.same (s := U) (U := U.calling g mk a) rfl rfl q4⟩
/-- from the method's first step to its contract -/
theorem Ct.ofX {G : GG} {l : Launch} {y : MethodName} {cc : ByteArray} {nL : Nat} {ret : Option FieldType} {F Lc mc ms : Nat} {As : List Value} {w : Wd} {Q : Option Value → Wd → Prop} {lv : List (Nat × Value)}
    (hy : plainName y.cls = true) (hlen : (lg_sl As).length ≤ nL) (hlv : lv_args 0 As = lv) (k : X G l (RM F Lc mc ms) y cc nL ret w tb0 (Z1 G mc ms w Q) w 0 lv [] 0 0) : Ct G l y cc nL ret F Lc mc ms As w Q := by
  intro hl9 sz
  refine Met.ofW (cc := cc) (maxL := nL) (ret := ret) hy rfl ?_
  intro p e s m args below meth c s₁ B hml hv
  obtain ⟨rfl, hsz, hP, hK, hJ⟩ := hv
  subst hsz
  have hts0 := atoms_spec (ws := Cond.code y cc nL ret :: Tg) B.pre
  have hl := lv_entry As (n := nL) hlen
  rw [hlv] at hl
  rw [lg_entry_eq]
  have htb : c.exceptionTable.toList = [] := by
    obtain ⟨meth9, c9, h1, h2, -, -, -, -, h7, -⟩ := Cond.code_spec B.named (hts0 _ List.mem_cons_self)
    cases Option.some.inj (h1.symm.trans B.method)
    cases Option.some.inj (h2.symm.trans (Stand.of_body B).code)
    rw [Array.isEmpty_iff.mp h7]
  exact k p e s m As.toArray below meth c s.heap [] _ ⟨B.exec, B.bytes, hml, findClass_of_methodNamed B.named, fun w hw => hts0 w (List.mem_cons_of_mem _ hw)⟩ ⟨B.returns, (name_of_methodNamed B.named B.method).1⟩ B.notSynchronized hK ⟨hJ, htb, hl9⟩ hP (fun a ha => Or.inl ha) va_S.rf hl
section XR
variable {G : GG} {l : Launch} {me : MethodName} {cc : ByteArray} {nL : Nat} {ret : Option FieldType} {w0 : Wd} {tb : Jc} {w : Wd} {pc : Nat} {lv : List (Nat × Value)} {rest : List Value} {kc ks F Lc mc ms : Nat}
theorem QQ_at {Q : Option Value → Wd → Prop} {args : Array Value} {s t : State} {v : Option Value} {H : Heap} {locs : List Loc} (hq : Q v w) (hP : Rep G w H) (hA : ∀ a, w a ≠ none → Af w0 s.heap.size a) (hS : va_S (Af w0 s.heap.size) s.heap H locs) (ht : t.heap = H) : QQ G w0 Q args s (.returned v) t :=
  ⟨⟨v, w, rfl, hq, by rw [ht]; exact hP, hA⟩, hS.F ht⟩
theorem x_ireturn {Q : Int32 → Wd → Prop} {v : Int32} (hdg : decode cc pc = .ok (.ireturn, 1)) (hr : ret = some .int) (hc : kc ≤ mc) (hs : ks ≤ ms) (hq : Q v w) : X G l (RM F Lc mc ms) me cc nL ret w0 tb (ZI G mc ms w0 Q) w pc lv [.int v] kc ks := by
  intro p e s m args below meth c H locs ls S hr9 hlk hK hJ hP hA hS hL
  refine W.widen hc hs ?_
  exact W.iret S.1 S.2.1 (by rw [hr9.1, hr]) (fun t ht _ => QQ_at (Q := fun v w2 => ∃ r : Int32, v = some (.int r) ∧ Q r w2) ⟨v, rfl, hq⟩ hP hA hS ht) hS.2.2 hdg hlk
theorem x_zreturn {Q : Int32 → Wd → Prop} {v : Int32} (hdg : decode cc pc = .ok (.ireturn, 1)) (hr : ret = some .boolean) (hc : kc ≤ mc) (hs : ks ≤ ms) (hn : narrow .boolean (.int v) = .int v) (hq : Q v w) : X G l (RM F Lc mc ms) me cc nL ret w0 tb (ZI G mc ms w0 Q) w pc lv [.int v] kc ks := by
  intro p e s m args below meth c H locs ls S hr9 hlk hK hJ hP hA hS hL
  refine W.widen hc hs ?_
  exact W.zret S.1 S.2.1 (ty := .boolean) (by rw [hr9.1, hr]) hn (fun t ht _ => QQ_at (Q := fun v w2 => ∃ r : Int32, v = some (.int r) ∧ Q r w2) ⟨v, rfl, hq⟩ hP hA hS ht) hS.2.2 hdg hlk
theorem x_return {Q : Wd → Prop} (hdg : decode cc pc = .ok (.return_, 1)) (hr : ret = none) (hc : kc ≤ mc) (hs : ks ≤ ms) (hq : Q w) : X G l (RM F Lc mc ms) me cc nL ret w0 tb (ZV G mc ms w0 Q) w pc lv [] kc ks := by
  intro p e s m args below meth c H locs ls S hr9 hlk hK hJ hP hA hS hL
  refine W.widen hc hs ?_
  exact W.vret S.1 S.2.1 (by rw [hr9.1, hr]) (fun t ht _ => QQ_at (Q := fun v w2 => v = none ∧ Q w2) ⟨rfl, hq⟩ hP hA hS ht) hS.2.2 hdg hlk
theorem x_areturn {Q : Option Value → Wd → Prop} {a : Nat} {ty : FieldType} (hdg : decode cc pc = .ok (.areturn, 1)) (hr : ret = some (.array ty)) (hc : kc ≤ mc) (hs : ks ≤ ms) (hq : Q (some (.ref a)) w) : X G l (RM F Lc mc ms) me cc nL ret w0 tb (Z1 G mc ms w0 Q) w pc lv [.ref a] kc ks := by
  intro p e s m args below meth c H locs ls S hr9 hlk hK hJ hP hA hS hL
  refine W.widen hc hs ?_
  exact W.aret S.1 S.2.1 (by rw [hr9.1, hr]) (Or.inr ⟨_, rfl⟩) (Or.inr ⟨_, rfl⟩) (fun t ht _ => QQ_at hq hP hA hS ht) hS.2.2 hdg hlk
end XR
-- calls
def CLs (own : String) (index : Nat) (y : MethodName) (cc : ByteArray) (nL : Nat) (ret : Option FieldType) (n : Nat) : Prop :=
  Cond.methodLink own index y ∈ Tg ∧ Cond.static y ∈ Tg ∧ Cond.initialized y.cls ∈ Tg ∧ Cond.code y cc nL ret ∈ Tg ∧ y.cls ≠ "java/lang/invoke/MethodHandle" ∧ y.cls ≠ "java/lang/invoke/VarHandle" ∧ (parseMethodDescriptor y.desc).map (fun d => d.parameters.length) = some n
def CLv (own : String) (index : Nat) (y : MethodName) (cc : ByteArray) (nL : Nat) (ret : Option FieldType) (n ci : Nat) : Prop :=
  Cond.methodLink own index y ∈ Tg ∧ Cond.instanceMethod y ∈ Tg ∧ Cond.selects y.cls y y ∈ Tg ∧ Cond.initialized y.cls ∈ Tg ∧ Cond.code y cc nL ret ∈ Tg ∧ y.cls ≠ "java/lang/invoke/MethodHandle" ∧ y.cls ≠ "java/lang/invoke/VarHandle" ∧ (parseMethodDescriptor y.desc).map (fun d => d.parameters.length) = some n ∧ ∃ (T : u_T) (N : Nat), vwCl[ci]? = some (y.cls, T, N)
def CLi (own : String) (index : Nat) (y : MethodName) (cc : ByteArray) (nL : Nat) (n : Nat) : Prop :=
  Cond.methodLink own index y ∈ Tg ∧ Cond.instanceMethod y ∈ Tg ∧ Cond.initialized y.cls ∈ Tg ∧ Cond.code y cc nL none ∈ Tg ∧ y.name = "<init>" ∧ y.cls ≠ "java/lang/invoke/MethodHandle" ∧ y.cls ≠ "java/lang/invoke/VarHandle" ∧ (parseMethodDescriptor y.desc).map (fun d => d.parameters.length) = some n
def CLn (own : String) (index : Nat) (host : String) (y : MethodName) (cc : ByteArray) (nL : Nat) (n : Nat) : Prop :=
  Cond.methodLinkNest own index y host ∈ lw_tbl ∧ Cond.instanceMethod y ∈ Tg ∧ Cond.initialized y.cls ∈ Tg ∧ Cond.code y cc nL none ∈ Tg ∧ y.name = "<init>" ∧ y.cls ≠ "java/lang/invoke/MethodHandle" ∧ y.cls ≠ "java/lang/invoke/VarHandle" ∧ (parseMethodDescriptor y.desc).map (fun d => d.parameters.length) = some n
section XC
variable {G : GG} {l : Launch} {R : Room} {me : MethodName} {cc : ByteArray} {nL : Nat} {ret : Option FieldType} {w0 : Wd} {tb : Jc} {Z : Zt} {w : Wd} {pc : Nat} {lv : List (Nat × Value)} {rest : List Value} {kc ks : Nat}
variable {y : MethodName} {ccY : ByteArray} {nY : Nat} {retY : Option FieldType} {F Lc mc ms n index : Nat} {As : List Value} {Qc : Option Value → Wd → Prop}
theorem Af_trans {sz : Nat} {H : Heap} (hA : ∀ a, w a ≠ none → Af w0 sz a) (hz : sz ≤ H.size) : ∀ a, Af w H.size a → Af w0 sz a := fun a h => by
  rcases h with h | h
  · exact hA a h
  · exact Or.inr (Nat.le_trans hz h)
/-- behind a run of a callee -/
theorem x_run {st : List Value} {args9 : Array Value} (hrun : ∀ (p : Program) (e : Env) (s : State) (m : MethodId) (args : Array Value) (below : List Frame) (meth : Method) (c : Code) (H : Heap) (locs : List Loc) (ls : Array Slot), CallFix p m c cc nL s args Tg me.cls → KK G s → l.stackTraces = false → (∀ U : State, U.heap = H → s.WarmedH U.vm → JS U (Af w H.size)) → Rep G w H → ls.size = nL →
      va_Run p l e R s m args below meth c H locs kc ks mc ms (F0 m pc ls st) rest (QQ G w Qc args9) (Af w H.size))
    (k : ∀ (v : Option Value) (w2 : Wd), Qc v w2 → X G l R me cc nL ret w0 tb Z w2 (pc + 3) lv (v.toList ++ rest) (kc + mc) (ks + ms)) : X G l R me cc nL ret w0 tb Z w pc lv st kc ks := by
  intro p e s m args below meth c H locs ls S hr hlk hK hJ hP hA hS hL T hT X9
  obtain ⟨v, st₀, t, T', L, h0, X', hLo, e1, e2, ⟨⟨v9, w2, hv, hq, hP2, hdom⟩, hF⟩, stp⟩ := hrun p e s m args below meth c H locs ls S hK hJ.2.2 (fun U hU hW => JS.call hS hU hW (Af_trans hA hS.1) hJ.1) hP hL.1 T hT X9
  cases hv
  rw [h0] at hdom
  have hF' := hF
  obtain ⟨hz, hk⟩ := hF'
  rw [h0] at hz hk
  have hAt := Af_trans (w := w) (H := H) hA hS.1
  obtain ⟨t2, a1, b1⟩ := k v w2 hq p e s m args below meth c T'.heap (locs ++ L) ls S hr hlk hK hJ (by rw [e1]; exact hP2) (fun a ha => hAt a (hdom a ha))
    ⟨Nat.le_trans hS.1 (by rw [e1]; exact hz), fun q h1 h2 => by rw [e1, hk q (Nat.lt_of_lt_of_le h1 hS.1) (fun z => h2 (hAt q z))]; exact hS.2.1 q h1 h2, fun q hq9 => by
      rcases List.mem_append.mp hq9 with h | h
      · exact hS.2.2 q h
      · exact hAt _ (hLo q h)⟩ hL T' rfl X'
  exact ⟨t2, stp t2 a1, b1⟩
theorem x_run2 {st : List Value} {args9 : Array Value} (hrun : ∀ (p : Program) (e : Env) (s : State) (m : MethodId) (args : Array Value) (below : List Frame) (meth : Method) (c : Code) (H : Heap) (locs : List Loc) (ls : Array Slot), CallFix p m c cc nL s args Tg me.cls → KK G s → l.stackTraces = false → (∀ U : State, U.heap = H → s.WarmedH U.vm → JS U (Af w H.size)) → NGok s → Rep G w H → ls.size = nL →
      va_Run p l e R s m args below meth c H locs kc ks mc ms (F0 m pc ls st) rest (QQ G w Qc args9) (Af w H.size))
    (k : ∀ (v : Option Value) (w2 : Wd), Qc v w2 → X G l R me cc nL ret w0 tb Z w2 (pc + 3) lv (v.toList ++ rest) (kc + mc) (ks + ms)) : X G l R me cc nL ret w0 tb Z w pc lv st kc ks := by
  intro p e s m args below meth c H locs ls S hr hlk hK hJ hP hA hS hL T hT X9
  obtain ⟨v, st₀, t, T', L, h0, X', hLo, e1, e2, ⟨⟨v9, w2, hv, hq, hP2, hdom⟩, hF⟩, stp⟩ := hrun p e s m args below meth c H locs ls S hK hJ.2.2 (fun U hU hW => JS.call hS hU hW (Af_trans hA hS.1) hJ.1) hJ.1.1 hP hL.1 T hT X9
  cases hv
  rw [h0] at hdom
  have hF' := hF
  obtain ⟨hz, hk⟩ := hF'
  rw [h0] at hz hk
  have hAt := Af_trans (w := w) (H := H) hA hS.1
  obtain ⟨t2, a1, b1⟩ := k v w2 hq p e s m args below meth c T'.heap (locs ++ L) ls S hr hlk hK hJ (by rw [e1]; exact hP2) (fun a ha => hAt a (hdom a ha))
    ⟨Nat.le_trans hS.1 (by rw [e1]; exact hz), fun q h1 h2 => by rw [e1, hk q (Nat.lt_of_lt_of_le h1 hS.1) (fun z => h2 (hAt q z))]; exact hS.2.1 q h1 h2, fun q hq9 => by
      rcases List.mem_append.mp hq9 with h | h
      · exact hS.2.2 q h
      · exact hAt _ (hLo q h)⟩ hL T' rfl X'
  exact ⟨t2, stp t2 a1, b1⟩
theorem x_callS {st : List Value} (hC : CLs me.cls index y ccY nY retY n) (hdg : decode cc pc = .ok (.invokestatic index, 3)) (hM : Ct G l y ccY nY retY F Lc mc ms As w Qc) (hn : As.length = n) (hst : st = As.reverse ++ rest) (hR : F + 1 ≤ R.frames ∧ 8 + (nY + 11) + Lc ≤ R.locals) (hcat : (rest.map fun v => v.category).sum ≤ 8) (hk : kc + mc ≤ R.cells ∧ ks + ms ≤ R.slots)
    (k : ∀ (v : Option Value) (w2 : Wd), Qc v w2 → X G l R me cc nL ret w0 tb Z w2 (pc + 3) lv (v.toList ++ rest) (kc + mc) (ks + ms)) : X G l R me cc nL ret w0 tb Z w pc lv st kc ks := by
  refine x_run (args9 := As.toArray) (fun p e s m args below meth c H locs ls S hK hl9 hJ hP hsize => ?_) k
  obtain ⟨c1, c2, c3, c4, c5, c6, c7⟩ := hC
  have hts := S.2.2.2.2
  exact va_runS (As := As) (rest := rest) S (hM hl9 H.size) ⟨callB_of n hts (tgc_good c4) rfl rfl rfl (hts _ c3) (hts _ c1) ⟨c5, c6, c7⟩ hR, hts _ c2⟩ ⟨Ct_blind G _ As w, fun U hU hW => ⟨rfl, by rw [hU], by rw [hU]; exact hP, KK_moved hW.alike hK, hJ U hU hW⟩⟩ rfl hn hsize hst (lv_room hcat) hdg hk
theorem x_callV {st : List Value} {ci b : Nat} {fs : List Value} (hC : CLv me.cls index y ccY nY retY n ci) (hdg : decode cc pc = .ok (.invokevirtual index, 3)) (hb : w b = some (.inl (ci, fs))) (hM : Ct G l y ccY nY retY F Lc mc ms (.ref b :: As) w Qc) (hn : As.length = n) (hst : st = As.reverse ++ .ref b :: rest) (hR : F + 1 ≤ R.frames ∧ 8 + (nY + 11) + Lc ≤ R.locals) (hcat : (rest.map fun v => v.category).sum ≤ 8) (hk : kc + mc ≤ R.cells ∧ ks + ms ≤ R.slots)
    (k : ∀ (v : Option Value) (w2 : Wd), Qc v w2 → X G l R me cc nL ret w0 tb Z w2 (pc + 3) lv (v.toList ++ rest) (kc + mc) (ks + ms)) : X G l R me cc nL ret w0 tb Z w pc lv st kc ks := by
  refine x_run (args9 := (Value.ref b :: As).toArray) (fun p e s m args below meth c H locs ls S hK hl9 hJ hP hsize => ?_) k
  obtain ⟨c1, c2, c3, c4, c5, c6, c7, c8, T, N, c9⟩ := hC
  have hts := S.2.2.2.2
  exact va_runV (C := y.cls) (As := As) (rest := rest) S (hM hl9 H.size) ⟨callB_of n hts (tgc_good c5) rfl rfl rfl (hts _ c4) (hts _ c1) ⟨c6, c7, c8⟩ hR, hts _ c2, hts _ c3⟩ ⟨Ct_blind G _ _ w, va_recv hK (hP.one hb) c9 (q0 := 0) rfl, fun U hU hW => ⟨rfl, by rw [hU], by rw [hU]; exact hP, KK_moved hW.alike hK, hJ U hU hW⟩⟩ rfl hn hsize hst (lv_room hcat) hdg hk
theorem x_callI {st : List Value} {b : Nat} (hC : CLi me.cls index y ccY nY n) (hdg : decode cc pc = .ok (.invokespecial index, 3)) (hM : Ct G l y ccY nY none F Lc mc ms (.ref b :: As) w Qc) (hn : As.length = n) (hst : st = As.reverse ++ .ref b :: rest) (hR : F + 1 ≤ R.frames ∧ 8 + (nY + 11) + Lc ≤ R.locals) (hcat : (rest.map fun v => v.category).sum ≤ 8) (hk : kc + mc ≤ R.cells ∧ ks + ms ≤ R.slots)
    (k : ∀ (v : Option Value) (w2 : Wd), Qc v w2 → X G l R me cc nL ret w0 tb Z w2 (pc + 3) lv (v.toList ++ rest) (kc + mc) (ks + ms)) : X G l R me cc nL ret w0 tb Z w pc lv st kc ks := by
  refine x_run (args9 := (Value.ref b :: As).toArray) (fun p e s m args below meth c H locs ls S hK hl9 hJ hP hsize => ?_) k
  obtain ⟨c1, c2, c4, c5, c3, c6, c7, c8⟩ := hC
  have hts := S.2.2.2.2
  exact va_runI (As := As) (rest := rest) S (hM hl9 H.size) ⟨callB_of n hts (tgc_good c5) rfl rfl rfl (hts _ c4) (hts _ c1) ⟨c6, c7, c8⟩ hR, c3, hts _ c2⟩ ⟨Ct_blind G _ _ w, fun U hU hW => ⟨rfl, by rw [hU], by rw [hU]; exact hP, KK_moved hW.alike hK, hJ U hU hW⟩⟩ rfl hn hsize hst (lv_room hcat) hdg hk
theorem x_callN {st : List Value} {b : Nat} {host : String} (hC : CLn me.cls index host y ccY nY n) (hdg : decode cc pc = .ok (.invokespecial index, 3)) (hM : Ct G l y ccY nY none F Lc mc ms (.ref b :: As) w Qc) (hn : As.length = n) (hst : st = As.reverse ++ .ref b :: rest) (hR : F + 1 ≤ R.frames ∧ 8 + (nY + 11) + Lc ≤ R.locals) (hcat : (rest.map fun v => v.category).sum ≤ 8) (hk : kc + mc ≤ R.cells ∧ ks + ms ≤ R.slots)
    (k : ∀ (v : Option Value) (w2 : Wd), Qc v w2 → X G l R me cc nL ret w0 tb Z w2 (pc + 3) lv (v.toList ++ rest) (kc + mc) (ks + ms)) : X G l R me cc nL ret w0 tb Z w pc lv st kc ks := by
  refine x_run2 (args9 := (Value.ref b :: As).toArray) (fun p e s m args below meth c H locs ls S hK hl9 hJ hJ0 hP hsize => ?_) k
  obtain ⟨c1, c2, c4, c5, c3, c6, c7, c8⟩ := hC
  have hts := S.2.2.2.2
  exact va_runIN (As := As) (rest := rest) S (hM hl9 H.size) ⟨va_cnB n hts (tgc_good c5) rfl rfl rfl (hJ0.use c1 rfl #[]) (hts _ c4) ⟨c6, c7, c8⟩ hR, c3, hts _ c2⟩ ⟨Ct_blind G _ _ w, fun U hU hW => ⟨rfl, by rw [hU], by rw [hU]; exact hP, KK_moved hW.alike hK, hJ U hU hW⟩⟩ rfl hn hsize hst (lv_room hcat) hdg hk
theorem x_mmax {x z : Int32} (hdg : decode cc pc = .ok (.invokestatic index, 3)) (h1 : Cond.methodLink me.cls index Lib.Math.max.name ∈ Tg) (h2 : Cond.static Lib.Math.max.name ∈ Tg) (h3 : Cond.initialized "java/lang/Math" ∈ Tg) (h4 : Cond.code Lib.Math.max.name Lib.Math.max.code 2 (some .int) ∈ Tg) (hR : 1 ≤ R.frames ∧ 21 ≤ R.locals) (hcat : (rest.map fun v => v.category).sum ≤ 8) (hk : kc ≤ R.cells ∧ ks ≤ R.slots)
    (k : X G l R me cc nL ret w0 tb Z w (pc + 3) lv (.int (if x < z then z else x) :: rest) kc ks) : X G l R me cc nL ret w0 tb Z w pc lv (.int z :: .int x :: rest) kc ks := by
  intro p e s m args below meth c H locs ls S hr hlk hK hJ hP hA hS hL
  have hts := S.2.2.2.2
  exact va_mmax S.1 S.2.1 (by rw [S.2.2.1]; exact hL.1.symm) S.2.2.2.1 (hts _ h1) (hts _ h2) (hts _ h3) (hts _ h4) hR.1 (by omega) hk.1 hk.2 hdg (k p e s m args below meth c H locs ls S hr hlk hK hJ hP hA hS hL)
theorem x_mmin {x z : Int32} (hdg : decode cc pc = .ok (.invokestatic index, 3)) (h1 : Cond.methodLink me.cls index Lib.Math.min.name ∈ Tg) (h2 : Cond.static Lib.Math.min.name ∈ Tg) (h3 : Cond.initialized "java/lang/Math" ∈ Tg) (h4 : Cond.code Lib.Math.min.name Lib.Math.min.code 2 (some .int) ∈ Tg) (hR : 1 ≤ R.frames ∧ 21 ≤ R.locals) (hcat : (rest.map fun v => v.category).sum ≤ 8) (hk : kc ≤ R.cells ∧ ks ≤ R.slots)
    (k : X G l R me cc nL ret w0 tb Z w (pc + 3) lv (.int (if z < x then z else x) :: rest) kc ks) : X G l R me cc nL ret w0 tb Z w pc lv (.int z :: .int x :: rest) kc ks := by
  intro p e s m args below meth c H locs ls S hr hlk hK hJ hP hA hS hL
  have hts := S.2.2.2.2
  exact va_mmin S.1 S.2.1 (by rw [S.2.2.1]; exact hL.1.symm) S.2.2.2.1 (hts _ h1) (hts _ h2) (hts _ h3) (hts _ h4) hR.1 (by omega) hk.1 hk.2 hdg (k p e s m args below meth c H locs ls S hr hlk hK hJ hP hA hS hL)
/-- System.arraycopy between two int arrays of the world (they may be one) -/
theorem x_copyi {a0 a n0 n1 : Nat} {f g : Nat → Int32} {sp dp n : Int32} (hdg : decode cc pc = .ok (.invokestatic index, 3)) (h1 : Cond.methodLink me.cls index arraycopyName ∈ Tg) (h2 : Cond.native arraycopyName ∈ Tg) (h3 : Cond.static arraycopyName ∈ Tg) (h4 : Cond.initialized "java/lang/System" ∈ Tg)
    (he0 : w a0 = some (.inr (0, n0, .inl f))) (he1 : w a = some (.inr (0, n1, .inl g))) (q1 : ¬ sp < 0) (q2 : ¬ dp < 0) (q3 : ¬ n < 0) (q4 : sp.toNatClampNeg + n.toNatClampNeg ≤ n0) (q5 : dp.toNatClampNeg + n.toNatClampNeg ≤ n1) (hR : 1 ≤ R.frames ∧ 40 ≤ R.locals) (hcat : (rest.map fun v => v.category).sum ≤ 8)
    (k : X G l R me cc nL ret w0 tb Z (wset w a (.inr (0, n1, .inl (va_cpy f g sp.toNatClampNeg dp.toNatClampNeg n.toNatClampNeg)))) (pc + 3) lv rest kc ks) : X G l R me cc nL ret w0 tb Z w pc lv (.int n :: .int dp :: .ref a :: .int sp :: .ref a0 :: rest) kc ks := by
  intro p e s m args below meth c H locs ls S hr hlk hK hJ hP hA hS hL
  have hts := S.2.2.2.2
  have hAa : Af w0 s.heap.size a := hA a (by rw [he1]; exact fun z => by cases z)
  have nn : ∀ z : Int32, ¬ z < 0 → z.toInt = (z.toNatClampNeg : Int) := by
    intro z hz
    have hz0 : (0 : Int) ≤ z.toInt := by
      have := Int32.not_lt.mp hz
      simpa using Int32.le_iff_toInt_le.mp this
    show z.toInt = ((z.toInt.toNat : Nat) : Int)
    omega
  have hnf : nativeFrameWords "java/lang/System" "arraycopy" 5 + 11 ≤ 32 := by decide
  intro T hT X9
  have hc0 : H[a0]? = some (vp_cell (G.2 0) (n0, .inl f)) := hP a0 _ he0
  have hc1 : H[a]? = some (vp_cell (G.2 0) (n1, .inl g)) := hP a _ he1
  obtain ⟨-, k0, hk0, cm0, hkk0⟩ := (hK.2 0 _ rfl).1 n0 (fun j => .int (f j))
  obtain ⟨-, k1, hk1, cm1, hkk1⟩ := (hK.2 0 _ rfl).1 n1 (fun j => .int (g j))
  obtain ⟨vm', X', step⟩ := X9.arraycopy S.1 S.2.2.2.1 (hts _ h1) (hts _ h2) (hts _ h3) (hts _ h4) (src := a0) (dst := a) (cs := vp_cell (G.2 0) (n0, .inl f)) (cd := vp_cell (G.2 0) (n1, .inl g)) (srcPos := sp) (destPos := dp) (n := n) (by rw [hT]; exact hc0) (by rw [hT]; exact hc1)
    (fun _ h => by cases h) (fun _ h => by cases h) (fun h => by cases h) (fun h => by cases h) hk0 hk1 hkk0 hkk1 (by simp [refKind]) q1 q2 q3
    (by rw [nn sp q1, nn n q3]; show ¬ _ > ((arrV (G.2 0) n0 (fun j => .int (f j))).slots.size : Int); rw [arrV_size]; omega)
    (by rw [nn dp q2, nn n q3]; show ¬ _ > ((arrV (G.2 0) n1 (fun j => .int (g j))).slots.size : Int); rw [arrV_size]; omega)
    (fun vm₁ _ i hi => by
      have e : (vp_cell (G.2 0) (n0, .inl f)).slots.getD (sp.toNatClampNeg + i) .null = .int (f (sp.toNatClampNeg + i)) := by
        show (arrV (G.2 0) n0 (fun j => .int (f j))).slots.getD _ _ = _
        rw [Array.getD_eq_getD_getElem?, arrV_read _ _ (by omega)]
        rfl
      refine ⟨?_, ?_⟩
      · rw [e]
        rfl
      · rw [e]
        exact trivial)
    (g := F0 m pc ls (.int n :: .int dp :: .ref a :: .int sp :: .ref a0 :: rest)) rfl (by rw [S.2.2.1]; exact hL.1) (rest := rest) rfl (by rw [S.2.1]; exact hdg) hR.1 (by show 2 * 0 + _ + _ ≤ _; omega)
  have e1 : copied (vp_cell (G.2 0) (n0, .inl f)) (vp_cell (G.2 0) (n1, .inl g)) sp dp n = vp_cell (G.2 0) (n1, .inl (va_cpy f g sp.toNatClampNeg dp.toNatClampNeg n.toNatClampNeg)) := va_copied (fun z => .int z) (G.2 0) (G.2 0) f g q4
  rw [e1] at X' step
  have hl : a < H.size := (Array.getElem?_eq_some_iff.mp hc1).1
  have hheap : ((T.setVm vm').setCell a (vp_cell (G.2 0) (n1, .inl (va_cpy f g sp.toNatClampNeg dp.toNatClampNeg n.toNatClampNeg)))).heap = H.setIfInBounds a (vp_cell (G.2 0) (n1, .inl (va_cpy f g sp.toNatClampNeg dp.toNatClampNeg n.toNatClampNeg))) := by rw [← hT]; rfl
  have oq : ∀ q : Nat, q ≠ a → (H.setIfInBounds a (vp_cell (G.2 0) (n1, .inl (va_cpy f g sp.toNatClampNeg dp.toNatClampNeg n.toNatClampNeg))))[q]? = H[q]? := fun q hq => by simp [Array.getElem?_setIfInBounds, Ne.symm hq]
  obtain ⟨t, a1, b1⟩ := k p e s m args below meth c _ _ ls S hr hlk hK hJ (hP.set (e := .inr (0, n1, .inl (va_cpy f g sp.toNatClampNeg dp.toNatClampNeg n.toNatClampNeg))) (show (H.setIfInBounds a _)[a]? = some _ by simp [Array.getElem?_setIfInBounds, hl]) (fun b hb _ => oq b hb)) (fun b hb => (wset_dom hb).elim (fun h => hA b h) (fun h => by rw [h]; exact hAa)) ⟨by simp; exact hS.1, fun q g1 g2 => by
      rw [oq q (fun e => g2 (by rw [e]; exact hAa))]
      exact hS.2.1 q g1 g2, fun q hq => by
      rcases List.mem_append.mp hq with h | h
      · exact hS.2.2 q h
      · obtain ⟨z, -, hz⟩ := List.mem_map.mp h
        rw [← hz]
        exact hAa⟩ hL _ hheap X'
  exact ⟨t, step t a1, b1⟩
theorem kI {Qi : Int32 → Wd → Prop} {P : Option Value → Wd → Prop} (k : ∀ (r : Int32) (w2 : Wd), Qi r w2 → P (some (.int r)) w2) : ∀ (v : Option Value) (w2 : Wd), (∃ r : Int32, v = some (.int r) ∧ Qi r w2) → P v w2 := fun v w2 h => by
  obtain ⟨r, rfl, hq⟩ := h
  exact k r w2 hq
theorem kV {Qv : Wd → Prop} {P : Option Value → Wd → Prop} (k : ∀ (w2 : Wd), Qv w2 → P none w2) : ∀ (v : Option Value) (w2 : Wd), (v = none ∧ Qv w2) → P v w2 := fun v w2 h => by
  obtain ⟨rfl, hq⟩ := h
  exact k w2 hq
theorem kR {Qv : Nat → Wd → Prop} {P : Option Value → Wd → Prop} (k : ∀ (a : Nat) (w2 : Wd), Qv a w2 → P (some (.ref a)) w2) : ∀ (v : Option Value) (w2 : Wd), (∃ a : Nat, v = some (.ref a) ∧ Qv a w2) → P v w2 := fun v w2 h => by
  obtain ⟨a, rfl, hq⟩ := h
  exact k a w2 hq
theorem x_objInit {idx a : Nat} (hdg : decode cc pc = .ok (.invokespecial idx, 3)) (h1 : Cond.methodLink me.cls idx Lib.objectInit ∈ Tg) (h2 : Cond.instanceMethod Lib.objectInit ∈ Tg) (h3 : Cond.code Lib.objectInit ⟨#[0xb1]⟩ 1 none ∈ Tg) (hR : 1 ≤ R.frames ∧ 20 ≤ R.locals) (hcat : (rest.map fun v => v.category).sum ≤ 8)
    (k : X G l R me cc nL ret w0 tb Z w (pc + 3) lv rest kc ks) : X G l R me cc nL ret w0 tb Z w pc lv (.ref a :: rest) kc ks := by
  intro p e s m args below meth c H locs ls S hr hlk hK hJ hP hA hS hL
  have hts := S.2.2.2.2
  have hrm : 2 * (F0 m pc ls (.ref a :: rest)).monitorRoom + (rest.map fun v => v.category).sum ≤ 8 := lv_room hcat
  exact W.objInit S.1 S.2.1 S.2.2.2.1 (hts _ h1) (hts _ h2) (hts _ h3) rfl (by rw [S.2.2.1]; exact hL.1) rfl hdg hR.1 (by omega) (k p e s m args below meth c H locs ls S hr hlk hK hJ hP hA hS hL)
-- new cells: the address is one that the world doesn't hold
theorem x_new {C : String} {T : u_T} {N ci : Nat} {fs : List Value} (ty : Nat → FieldType) (hdg : decode cc pc = .ok (.new index, 3)) (hc : vwCl[ci]? = some (C, T, N)) (hin : ∀ w ∈ u_ws C T N, w ∈ Tg) (hty : ∀ k, k < N → parseFieldDescriptor (T k).2.2.1 = some (ty k)) (h1 : Cond.classLink me.cls index C ∈ Tg) (h2 : Cond.instantiable C N ∈ Tg) (h3 : Cond.initialized C ∈ Tg) (hfs : ∀ j, j < N → defaultValue (ty j) = vp_V fs j) (hk : kc + 1 ≤ R.cells ∧ ks + N ≤ R.slots)
    (k : ∀ q : Nat, w q = none → X G l R me cc nL ret w0 tb Z (wset w q (.inl (ci, fs))) (pc + 3) lv (.ref q :: rest) (kc + 1) (ks + N)) : X G l R me cc nL ret w0 tb Z w pc lv rest kc ks := by
  intro p e s m args below meth c H locs ls S hr hlk hK hJ hP hA hS hL
  have hts := S.2.2.2.2
  have hKn := hK.1 ci _ hc
  refine W.newcK S.1 S.2.1 S.2.2.2.1 (hts _ h1) (hts _ h2) (hts _ h3) rfl hdg hk.1 hk.2 hKn.2.1 rfl fun H1 kC hkC e1 z1 o1 => ?_
  have hno : w H.size = none := by
    cases h : w H.size with
    | none => rfl
    | some e9 => exact absurd (hP.lt (by rw [h]; exact fun z => by cases z)) (Nat.lt_irrefl _)
  refine k H.size hno p e s m args below meth c H1 locs ls S hr hlk hK hJ (hP.set ⟨_, hc, (u_born ty hts hin hKn hkC e1 hty).to hfs⟩ (fun b hb h9 => o1 b (hP.lt h9))) (fun b hb => ?_) ⟨Nat.le_trans hS.1 (by omega), fun x h1 h2 => (o1 x (Nat.lt_of_lt_of_le h1 hS.1)).trans (hS.2.1 x h1 h2), hS.2.2⟩ hL
  rcases wset_dom hb with h | h
  · exact hA b h
  · rw [h]; exact Or.inr hS.1
def ntag (t : Nat) : ArrayType × FieldType × vp_A := match t with
  | 0 => (.int, .int, (0, .inl fun _ => 0))
  | 1 => (.boolean, .boolean, (0, .inl fun _ => 0))
  | _ => (.long, .long, (0, .inr (.inl fun _ => 0)))
theorem x_newa {t n9 : Nat} {n : Int32} (ht : t < 3) (hdg : decode cc pc = .ok (.newarray (ntag t).1, 2)) (harr : Cond.arrayClass (newarray.typeOf (ntag t).1) ∈ Tg) (hn : ¬ n < 0) (hN : n.toNatClampNeg = n9) (hbytes : n9 * 8 ≤ 536870912) (hk : kc + 1 ≤ R.cells ∧ ks + n9 ≤ R.slots)
    (k : ∀ q : Nat, w q = none → X G l R me cc nL ret w0 tb Z (wset w q (.inr (t, n9, (ntag t).2.2.2))) (pc + 2) lv (.ref q :: rest) (kc + 1) (ks + n9)) : X G l R me cc nL ret w0 tb Z w pc lv (.int n :: rest) kc ks := by
  intro p e s m args below meth c H locs ls S hr hlk hK hJ hP hA hS hL
  have hts := S.2.2.2.2
  have hno : w H.size = none := by
    cases h : w H.size with
    | none => rfl
    | some e9 => exact absurd (hP.lt (by rw [h]; exact fun z => by cases z)) (Nat.lt_irrefl _)
  have hb9 : n9 * componentBytes (newarray.typeOf (ntag t).1) ≤ 536870912 := by
    match t, ht with
    | 0, _ => exact Nat.le_trans (Nat.mul_le_mul_left _ (by decide)) hbytes
    | 1, _ => exact Nat.le_trans (Nat.mul_le_mul_left _ (by decide)) hbytes
    | 2, _ => exact Nat.le_trans (Nat.mul_le_mul_left _ (by decide)) hbytes
  refine va_newaK S.1 S.2.1 (hts _ harr) rfl hdg rfl hn hN hb9 hk.1 hk.2 rfl fun H1 cA e1 z1 o1 hAr hNm => ?_
  refine k H.size hno p e s m args below meth c H1 locs ls S hr hlk hK hJ (hP.set ?_ (fun b hb h9 => o1 b (hP.lt h9))) (fun b hb => ?_) ⟨Nat.le_trans hS.1 (by omega), fun x h1 h2 => (o1 x (Nat.lt_of_lt_of_le h1 hS.1)).trans (hS.2.1 x h1 h2), hS.2.2⟩ hL
  · match t, ht, e1, hNm with
    | 0, _, e1, hNm =>
      have h5 : s.vm.findClass ("[" ++ (FieldType.int).toString) = some (G.2 0) := (hK.2 0 _ rfl).2
      have h6 : cA = G.2 0 := Option.some.inj (hNm.symm.trans h5)
      rw [h6] at e1
      exact e1
    | 1, _, e1, hNm =>
      have h5 : s.vm.findClass ("[" ++ (FieldType.boolean).toString) = some (G.2 1) := (hK.2 1 _ rfl).2
      have h6 : cA = G.2 1 := Option.some.inj (hNm.symm.trans h5)
      rw [h6] at e1
      exact e1
    | 2, _, e1, hNm =>
      have h5 : s.vm.findClass ("[" ++ (FieldType.long).toString) = some (G.2 2) := (hK.2 2 _ rfl).2
      have h6 : cA = G.2 2 := Option.some.inj (hNm.symm.trans h5)
      rw [h6] at e1
      exact e1
  · rcases wset_dom hb with h | h
    · exact hA b h
    · rw [h]; exact Or.inr hS.1
theorem x_newq {t n9 : Nat} {n : Int32} (ht : t = 3 ∨ t = 4) (hdg : decode cc pc = .ok (.anewarray index, 3)) (hcl : Cond.classLink me.cls index (qcls t) ∈ Tg) (hao : Cond.arrayOver (.object (qcls t)) ∈ lw_tbl) (hn : ¬ n < 0) (hN : n.toNatClampNeg = n9) (hbytes : n9 * 4 ≤ 536870912) (hk : kc + 1 ≤ R.cells ∧ ks + n9 ≤ R.slots)
    (k : ∀ q : Nat, w q = none → X G l R me cc nL ret w0 tb Z (wset w q (.inr (t, n9, .inr (.inr (.inr (.inr (fun _ => none))))))) (pc + 3) lv (.ref q :: rest) (kc + 1) (ks + n9)) : X G l R me cc nL ret w0 tb Z w pc lv (.int n :: rest) kc ks := by
  intro p e s m args below meth c H locs ls S hr hlk hK hJ hP hA hS hL
  have hts := S.2.2.2.2
  have hno : w H.size = none := by
    cases h : w H.size with
    | none => rfl
    | some e9 => exact absurd (hP.lt (by rw [h]; exact fun z => by cases z)) (Nat.lt_irrefl _)
  have hover : va_AO (qcls t) s := hJ.1.1.use hao rfl #[]
  subst hN
  refine W.anew S.1 S.2.1 S.2.2.2.1 (hts _ hcl) (va_AO.use hover) rfl hdg rfl hn hbytes hk.1 hk.2 fun cA kA comp f1 f2 f3 f4 => ?_
  generalize hH1 : H.push ({ cls := cA, slots := Array.replicate n.toNatClampNeg .null, vm := .none } : Cell) = H1
  have z1 : H1.size = H.size + 1 := by rw [← hH1, Array.size_push]
  have e1 : H1[H.size]? = some (arrV cA n.toNatClampNeg (fun _ => .null)) := by rw [← hH1, Array.getElem?_push_size, ← arrV_new]
  have o1 : ∀ q : Nat, q < H.size → H1[q]? = H[q]? := fun q hq => by rw [← hH1, Array.getElem?_push, if_neg (Nat.ne_of_lt hq)]
  have hcA : cA = G.2 t := by
    rcases ht with rfl | rfl
    · obtain ⟨kA9, comp9, k1, k2, k3, k4⟩ := (hK.2 3 _ rfl).2
      exact Option.some.inj (f1.symm.trans k4)
    · obtain ⟨kA9, comp9, k1, k2, k3, k4⟩ := (hK.2 4 _ rfl).2
      exact Option.some.inj (f1.symm.trans k4)
  rw [hcA] at e1
  refine k H.size hno p e s m args below meth c H1 locs ls S hr hlk hK hJ (hP.set e1 (fun b hb h9 => o1 b (hP.lt h9))) (fun b hb => ?_) ⟨Nat.le_trans hS.1 (by omega), fun x h1 h2 => (o1 x (Nat.lt_of_lt_of_le h1 hS.1)).trans (hS.2.1 x h1 h2), hS.2.2⟩ hL
  rcases wset_dom hb with h | h
  · exact hA b h
  · rw [h]; exact Or.inr hS.1
end XC
