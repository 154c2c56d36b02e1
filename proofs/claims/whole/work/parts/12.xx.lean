/-! methods that may throw: contracts, ends, calls, catching -/
def QXX (G : GG) (w0 : Wd) (QX : String → Wd → Prop) : String → State → State → Prop := fun E st t =>
  (∃ w2 : Wd, QX E w2 ∧ Rep G w2 t.heap ∧ ∀ a, w2 a ≠ none → Af w0 st.heap.size a) ∧ va_F (Af w0 st.heap.size) st t
def CtX (G : GG) (l : Launch) (y : MethodName) (cc : ByteArray) (nL : Nat) (ret : Option FieldType) (F Lc mc ms : Nat) (As : List Value) (w : Wd) (Q : Option Value → Wd → Prop) (QX : String → Wd → Prop) : Prop :=
  l.stackTraces = false → ∀ sz : Nat, vx_Met l y (Cond.code y cc nL ret :: Tg) (RM F Lc mc ms) (PP G w As sz) (QQ G w Q) (QXX G w QX) mc ms (Af w sz)
def Z2 (G : GG) (mc ms : Nat) (w0 : Wd) (Q : Option Value → Wd → Prop) (QX : String → Wd → Prop) : Zt := fun below args s => vx_MQ below (QQ G w0 Q) (QXX G w0 QX) args s mc ms (Af w0 s.heap.size)
def CtXI (G : GG) (l : Launch) (y : MethodName) (cc : ByteArray) (nL : Nat) (ret : Option FieldType) (F Lc mc ms : Nat) (As : List Value) (w : Wd) (Q : Int32 → Wd → Prop) (QX : String → Wd → Prop) : Prop := CtX G l y cc nL ret F Lc mc ms As w (fun v w2 => ∃ r : Int32, v = some (.int r) ∧ Q r w2) QX
def CtXV (G : GG) (l : Launch) (y : MethodName) (cc : ByteArray) (nL : Nat) (ret : Option FieldType) (F Lc mc ms : Nat) (As : List Value) (w : Wd) (Q : Wd → Prop) (QX : String → Wd → Prop) : Prop := CtX G l y cc nL ret F Lc mc ms As w (fun v w2 => v = none ∧ Q w2) QX
def ZXI (G : GG) (mc ms : Nat) (w0 : Wd) (Q : Int32 → Wd → Prop) (QX : String → Wd → Prop) : Zt := Z2 G mc ms w0 (fun v w2 => ∃ r : Int32, v = some (.int r) ∧ Q r w2) QX
def ZXV (G : GG) (mc ms : Nat) (w0 : Wd) (Q : Wd → Prop) (QX : String → Wd → Prop) : Zt := Z2 G mc ms w0 (fun v w2 => v = none ∧ Q w2) QX
theorem CtX.ofX {G : GG} {l : Launch} {y : MethodName} {cc : ByteArray} {nL : Nat} {ret : Option FieldType} {F Lc mc ms : Nat} {As : List Value} {w : Wd} {Q : Option Value → Wd → Prop} {QX : String → Wd → Prop} {lv : List (Nat × Value)}
    (hy : plainName y.cls = true) (hlen : (lg_sl As).length ≤ nL) (hlv : lv_args 0 As = lv) (k : X G l (RM F Lc mc ms) y cc nL ret w tb0 (Z2 G mc ms w Q QX) w 0 lv [] 0 0) : CtX G l y cc nL ret F Lc mc ms As w Q QX := by
  intro hl9 sz
  refine vx_ofW (cc := cc) (maxL := nL) (ret := ret) hy rfl ?_
  intro p e s m args below meth c s₁ B hml htb9 hv
  obtain ⟨rfl, hsz, hP, hK, hJ⟩ := hv
  subst hsz
  have hts0 := atoms_spec (ws := Cond.code y cc nL ret :: Tg) B.pre
  have hl := lv_entry As (n := nL) hlen
  rw [hlv] at hl
  rw [lg_entry_eq]
  have htb : c.exceptionTable.toList = [] := by
    cases h : c.exceptionTable.toList with
    | nil => rfl
    | cons x r => exact (htb9 x (by rw [h]; exact List.mem_cons_self)).elim
  exact k p e s m As.toArray below meth c s.heap [] _ ⟨B.exec, B.bytes, hml, findClass_of_methodNamed B.named, fun w hw => hts0 w (List.mem_cons_of_mem _ hw)⟩ ⟨B.returns, (name_of_methodNamed B.named B.method).1⟩ B.notSynchronized hK ⟨hJ, htb, hl9⟩ hP (fun a ha => Or.inl ha) va_S.rf hl
/-- an exception on its way, over the method's frame -/
def XE (G : GG) (l : Launch) (R : Room) (me : MethodName) (cc : ByteArray) (nL : Nat) (ret : Option FieldType) (w0 : Wd) (tb : Jc) (Z : Zt) (w : Wd) (pc : Nat) (lv : List (Nat × Value)) (st : List Value) (kc ks : Nat) (E : String) : Prop :=
  ∀ (p : Program) (e : Env) (s : State) (m : MethodId) (args : Array Value) (below : List Frame) (meth : Method) (c : Code) (H : Heap) (locs : List Loc) (ls : Array Slot) (q : Addr) (ce : Cell),
    CallFix p m c cc nL s args Tg me.cls → (meth.sig.returnType = ret ∧ meth.name = me.name) → meth.locks = false → KK G s → JX l tb s (Af w0 s.heap.size) c → Rep G w H → (∀ a, w a ≠ none → Af w0 s.heap.size a) → va_S (Af w0 s.heap.size) s.heap H locs → lv_has ls nL lv →
    H[q]? = some ce → ce.vm = .none → s.vm.findClass E = some ce.cls → vx_W p l e R s m args below meth c H locs kc ks (Z below args s) (F0 m pc ls st) q
section XT
variable {G : GG} {l : Launch} {me : MethodName} {cc : ByteArray} {nL : Nat} {ret : Option FieldType} {w0 : Wd} {w : Wd} {pc : Nat} {lv : List (Nat × Value)} {rest : List Value} {kc ks F Lc mc ms : Nat}
theorem xx_ireturn {tb : Jc} {Q : Int32 → Wd → Prop} {QX : String → Wd → Prop} {v : Int32} (hdg : decode cc pc = .ok (.ireturn, 1)) (hr : ret = some .int) (hc : kc ≤ mc) (hs : ks ≤ ms) (hq : Q v w) : X G l (RM F Lc mc ms) me cc nL ret w0 tb (ZXI G mc ms w0 Q QX) w pc lv [.int v] kc ks :=
  fun p e s m args below meth c H locs ls S hr9 hlk hK hJ hP hA hS hL => vx_ret (x_ireturn (G := G) (l := l) (me := me) (w0 := w0) (tb := tb) (lv := lv) (F := F) (Lc := Lc) hdg hr hc hs hq p e s m args below meth c H locs ls S hr9 hlk hK hJ hP hA hS hL)
theorem xx_return {tb : Jc} {Q : Wd → Prop} {QX : String → Wd → Prop} (hdg : decode cc pc = .ok (.return_, 1)) (hr : ret = none) (hc : kc ≤ mc) (hs : ks ≤ ms) (hq : Q w) : X G l (RM F Lc mc ms) me cc nL ret w0 tb (ZXV G mc ms w0 Q QX) w pc lv [] kc ks :=
  fun p e s m args below meth c H locs ls S hr9 hlk hK hJ hP hA hS hL => vx_ret (x_return (G := G) (l := l) (me := me) (w0 := w0) (tb := tb) (lv := lv) (F := F) (Lc := Lc) hdg hr hc hs hq p e s m args below meth c H locs ls S hr9 hlk hK hJ hP hA hS hL)
theorem xe_out {Q : Option Value → Wd → Prop} {QX : String → Wd → Prop} {E : String} (hc : kc ≤ mc) (hs : ks ≤ ms) (hq : QX E w) : XE G l (RM F Lc mc ms) me cc nL ret w0 tb0 (Z2 G mc ms w0 Q QX) w pc lv rest kc ks E :=
  fun p e s m args below meth c H locs ls q ce S hr9 hlk hK hJ hP hA hS hL hce hcv hcl => vx_out (by rw [show c.exceptionTable.toList = [] from hJ.2.1]; exact fun _ h => by cases h) hlk hce hcv hcl (fun t ht _ => ⟨⟨w, hq, by rw [ht]; exact hP, hA⟩, hS.F ht⟩) hS.2.2 hc hs
def thNames : List String := ["java/lang/RuntimeException", "java/lang/Exception"]
/-- what a throw at a place of the class needs of the tables -/
def THg (ik ic isx : Nat) (E text : String) : Prop :=
  Bundle.fit E = true ∧ Cond.classLink "StenoRooms" ik E ∈ Tg ∧ Cond.initialized E ∈ Tg ∧ (isx, text) ∈ strs ∧ (∀ w ∈ vx_atS "StenoRooms" ic E thNames, w ∈ Tg ∨ (w ∈ lw_tbl ∧ ngok w = true)) ∧ ∀ w ∈ Cond.classLink "StenoRooms" ik E :: Cond.initialized E :: vx_atS "StenoRooms" ic E thNames, vx_ot w = true
theorem x_throw {Q : Option Value → Wd → Prop} {QX : String → Wd → Prop} {ik ic isx : Nat} {E text : String} (hT : THg ik ic isx E text) (hme : me.cls = "StenoRooms")
    (d0 : decode cc pc = .ok (.new ik, 3)) (d3 : decode cc (pc + 3) = .ok (.dup, 1)) (d4 : decode cc (pc + 4) = .ok (.ldc isx, 2)) (d6 : decode cc (pc + 6) = .ok (.invokespecial ic, 3)) (d9 : decode cc (pc + 9) = .ok (.athrow, 1))
    (hF : 5 < F) (hL9 : (rest.map fun v => v.category).sum + 82 ≤ Lc) (hc : kc + 1 ≤ mc) (hs : ks + 6 ≤ ms) (hq : QX E w) : X G l (RM F Lc mc ms) me cc nL ret w0 tb0 (Z2 G mc ms w0 Q QX) w pc lv rest kc ks := by
  intro p e s m args below meth c H locs ls S hr9 hlk hK hJ hP hA hS hL
  obtain ⟨t1, t2, t3, t4, t5, t6⟩ := hT
  have hts := S.2.2.2.2
  have hown : s.vm.findClass "StenoRooms" = some m.cls := hme ▸ S.2.2.2.1
  obtain ⟨sa, hstr⟩ := hJ.1.2.2.2.1 _ t4
  exact vx_throwS S.1 S.2.1 hJ.2.2 hown t1 (by decide +kernel) (hts _ t2) (hts _ t3) hstr (fun w hw => (t5 w hw).elim (fun h => hts w h) (fun h => hJ.1.1.use h.1 h.2 args)) t6 hJ.1.2.1 hJ.1.2.2.1 hS (by rw [S.2.2.1]; exact hL.1) d0 d3 d4 d6 d9 (by rw [show c.exceptionTable.toList = [] from hJ.2.1]; exact fun _ h => by cases h)
    hF hL9 hc hs hlk (fun t hal hz hk => ⟨⟨w, hq, hP.kept (fun a ha => hk a (hP.lt ha)), hA⟩, Nat.le_trans hS.1 hz, fun q h1 h2 => (hk q (Nat.lt_of_lt_of_le h1 hS.1)).trans (hS.2.1 q h1 h2)⟩) hS.2.2 hc hs
theorem x_throwW {Q : Option Value → Wd → Prop} {QX : String → Wd → Prop} {ik ic isx : Nat} {E text : String} (hT : THg ik ic isx E text) (hme : me.cls = "StenoRooms")
    (d0 : decode cc pc = .ok (.new ik, 3)) (d3 : decode cc (pc + 3) = .ok (.dup, 1)) (d4 : decode cc (pc + 4) = .ok (.ldc_w isx, 3)) (d7 : decode cc (pc + 7) = .ok (.invokespecial ic, 3)) (d10 : decode cc (pc + 10) = .ok (.athrow, 1))
    (hF : 5 < F) (hL9 : (rest.map fun v => v.category).sum + 82 ≤ Lc) (hc : kc + 1 ≤ mc) (hs : ks + 6 ≤ ms) (hq : QX E w) : X G l (RM F Lc mc ms) me cc nL ret w0 tb0 (Z2 G mc ms w0 Q QX) w pc lv rest kc ks := by
  intro p e s m args below meth c H locs ls S hr9 hlk hK hJ hP hA hS hL
  obtain ⟨t1, t2, t3, t4, t5, t6⟩ := hT
  have hts := S.2.2.2.2
  have hown : s.vm.findClass "StenoRooms" = some m.cls := hme ▸ S.2.2.2.1
  obtain ⟨sa, hstr⟩ := hJ.1.2.2.2.1 _ t4
  exact vx_throwSW S.1 S.2.1 hJ.2.2 hown t1 (by decide +kernel) (hts _ t2) (hts _ t3) hstr (fun w hw => (t5 w hw).elim (fun h => hts w h) (fun h => hJ.1.1.use h.1 h.2 args)) t6 hJ.1.2.1 hJ.1.2.2.1 hS (by rw [S.2.2.1]; exact hL.1) d0 d3 d4 d7 d10 (by rw [show c.exceptionTable.toList = [] from hJ.2.1]; exact fun _ h => by cases h)
    hF hL9 hc hs hlk (fun t hal hz hk => ⟨⟨w, hq, hP.kept (fun a ha => hk a (hP.lt ha)), hA⟩, Nat.le_trans hS.1 hz, fun q h1 h2 => (hk q (Nat.lt_of_lt_of_le h1 hS.1)).trans (hS.2.1 q h1 h2)⟩) hS.2.2 hc hs
end XT
section XCX
variable {G : GG} {l : Launch} {R : Room} {me : MethodName} {cc : ByteArray} {nL : Nat} {ret : Option FieldType} {w0 : Wd} {tb : Jc} {Z : Zt} {w : Wd} {pc : Nat} {lv : List (Nat × Value)} {rest : List Value} {kc ks : Nat}
variable {y : MethodName} {ccY : ByteArray} {nY : Nat} {retY : Option FieldType} {F Lc mc ms n index : Nat} {As : List Value} {Qc : Option Value → Wd → Prop} {QXc : String → Wd → Prop}
theorem x_runX {st : List Value} {args9 : Array Value} (hrun : ∀ (p : Program) (e : Env) (s : State) (m : MethodId) (args : Array Value) (below : List Frame) (meth : Method) (c : Code) (H : Heap) (locs : List Loc) (ls : Array Slot), CallFix p m c cc nL s args Tg me.cls → KK G s → l.stackTraces = false → (∀ U : State, U.heap = H → s.WarmedH U.vm → JS U (Af w H.size)) → Rep G w H → ls.size = nL →
      vx_Run p l e R s m args below meth c H locs kc ks mc ms (F0 m pc ls st) rest (QQ G w Qc args9) (QXX G w QXc) (Af w H.size))
    (k : ∀ (v : Option Value) (w2 : Wd), Qc v w2 → X G l R me cc nL ret w0 tb Z w2 (pc + 3) lv (v.toList ++ rest) (kc + mc) (ks + ms))
    (kx : ∀ (E : String) (w2 : Wd), QXc E w2 → XE G l R me cc nL ret w0 tb Z w2 pc lv rest (kc + mc) (ks + ms) E) : X G l R me cc nL ret w0 tb Z w pc lv st kc ks := by
  intro p e s m args below meth c H locs ls S hr hlk hK hJ hP hA hS hL T hT X9
  have hAt := Af_trans (w := w) (H := H) hA hS.1
  rcases hrun p e s m args below meth c H locs ls S hK hJ.2.2 (fun U hU hW => JS.call hS hU hW (Af_trans hA hS.1) hJ.1) hP hL.1 T hT X9 with ⟨v, st₀, t, T', L, h0, X', hLo, e1, e2, ⟨⟨v9, w2, hv, hq, hP2, hdom⟩, hF⟩, stp⟩ | ⟨q9, st₀, t, T', L, E, ce, h0, X', hLo, e1, e2, ⟨⟨w2, hq, hP2, hdom⟩, hF⟩, hce, hcv, hcl, stp⟩
  · cases hv
    rw [h0] at hdom
    have hF' := hF
    obtain ⟨hz, hk⟩ := hF'
    rw [h0] at hz hk
    obtain ⟨t2, a1, b1⟩ := k v w2 hq p e s m args below meth c T'.heap (locs ++ L) ls S hr hlk hK hJ (by rw [e1]; exact hP2) (fun a ha => hAt a (hdom a ha))
      ⟨Nat.le_trans hS.1 (by rw [e1]; exact hz), fun q h1 h2 => by rw [e1, hk q (Nat.lt_of_lt_of_le h1 hS.1) (fun z => h2 (hAt q z))]; exact hS.2.1 q h1 h2, fun q hq9 => by
        rcases List.mem_append.mp hq9 with h | h
        · exact hS.2.2 q h
        · exact hAt _ (hLo q h)⟩ hL T' rfl X'
    exact ⟨t2, stp t2 a1, b1⟩
  · rw [h0] at hdom
    have hF' := hF
    obtain ⟨hz, hk⟩ := hF'
    rw [h0] at hz hk
    obtain ⟨t2, a1, b1⟩ := kx E w2 hq p e s m args below meth c T'.heap (locs ++ L) ls q9 ce S hr hlk hK hJ (by rw [e1]; exact hP2) (fun a ha => hAt a (hdom a ha))
      ⟨Nat.le_trans hS.1 (by rw [e1]; exact hz), fun q h1 h2 => by rw [e1, hk q (Nat.lt_of_lt_of_le h1 hS.1) (fun z => h2 (hAt q z))]; exact hS.2.1 q h1 h2, fun q hq9 => by
        rcases List.mem_append.mp hq9 with h | h
        · exact hS.2.2 q h
        · exact hAt _ (hLo q h)⟩ hL (by rw [e1]; exact hce) hcv hcl T' rfl X'
    exact ⟨t2, stp.trans a1, b1⟩
theorem x_callSX {st : List Value} (hC : CLs me.cls index y ccY nY retY n) (hdg : decode cc pc = .ok (.invokestatic index, 3)) (hM : CtX G l y ccY nY retY F Lc mc ms As w Qc QXc) (hn : As.length = n) (hst : st = As.reverse ++ rest) (hR : F + 1 ≤ R.frames ∧ 8 + (nY + 11) + Lc ≤ R.locals) (hcat : (rest.map fun v => v.category).sum ≤ 8) (hk : kc + mc ≤ R.cells ∧ ks + ms ≤ R.slots)
    (k : ∀ (v : Option Value) (w2 : Wd), Qc v w2 → X G l R me cc nL ret w0 tb Z w2 (pc + 3) lv (v.toList ++ rest) (kc + mc) (ks + ms))
    (kx : ∀ (E : String) (w2 : Wd), QXc E w2 → XE G l R me cc nL ret w0 tb Z w2 pc lv rest (kc + mc) (ks + ms) E) : X G l R me cc nL ret w0 tb Z w pc lv st kc ks := by
  refine x_runX (args9 := As.toArray) (fun p e s m args below meth c H locs ls S hK hl9 hJ hP hsize => ?_) k kx
  obtain ⟨c1, c2, c3, c4, c5, c6, c7⟩ := hC
  have hts := S.2.2.2.2
  exact vx_runS (As := As) (rest := rest) S (hM hl9 H.size) ⟨callB_of n hts (tgc_good c4) rfl rfl rfl (hts _ c3) (hts _ c1) ⟨c5, c6, c7⟩ hR, hts _ c2⟩ ⟨Ct_blind G _ As w, fun U hU hW => ⟨rfl, by rw [hU], by rw [hU]; exact hP, KK_moved hW.alike hK, hJ U hU hW⟩⟩ rfl hn hsize hst (lv_room hcat) hdg hk
theorem x_callVX {st : List Value} {ci b : Nat} {fs : List Value} (hC : CLv me.cls index y ccY nY retY n ci) (hdg : decode cc pc = .ok (.invokevirtual index, 3)) (hb : w b = some (.inl (ci, fs))) (hM : CtX G l y ccY nY retY F Lc mc ms (.ref b :: As) w Qc QXc) (hn : As.length = n) (hst : st = As.reverse ++ .ref b :: rest) (hR : F + 1 ≤ R.frames ∧ 8 + (nY + 11) + Lc ≤ R.locals) (hcat : (rest.map fun v => v.category).sum ≤ 8) (hk : kc + mc ≤ R.cells ∧ ks + ms ≤ R.slots)
    (k : ∀ (v : Option Value) (w2 : Wd), Qc v w2 → X G l R me cc nL ret w0 tb Z w2 (pc + 3) lv (v.toList ++ rest) (kc + mc) (ks + ms))
    (kx : ∀ (E : String) (w2 : Wd), QXc E w2 → XE G l R me cc nL ret w0 tb Z w2 pc lv rest (kc + mc) (ks + ms) E) : X G l R me cc nL ret w0 tb Z w pc lv st kc ks := by
  refine x_runX (args9 := (Value.ref b :: As).toArray) (fun p e s m args below meth c H locs ls S hK hl9 hJ hP hsize => ?_) k kx
  obtain ⟨c1, c2, c3, c4, c5, c6, c7, c8, T, N, c9⟩ := hC
  have hts := S.2.2.2.2
  exact vx_runV (C := y.cls) (As := As) (rest := rest) S (hM hl9 H.size) ⟨callB_of n hts (tgc_good c5) rfl rfl rfl (hts _ c4) (hts _ c1) ⟨c6, c7, c8⟩ hR, hts _ c2, hts _ c3⟩ ⟨Ct_blind G _ _ w, va_recv hK (hP.one hb) c9 (q0 := 0) rfl, fun U hU hW => ⟨rfl, by rw [hU], by rw [hU]; exact hP, KK_moved hW.alike hK, hJ U hU hW⟩⟩ rfl hn hsize hst (lv_room hcat) hdg hk
end XCX
/-! methods with handlers of their own -/
def CtW (G : GG) (l : Launch) (y : MethodName) (cc : ByteArray) (nL : Nat) (ret : Option FieldType) (hh : List (Nat × Nat × Nat × Nat)) (F Lc mc ms : Nat) (As : List Value) (w : Wd) (Q : Int32 → Wd → Prop) : Prop :=
  l.stackTraces = false → ∀ sz : Nat, vx_Met l y (Cond.codeWith y cc nL ret hh :: Tg) (RM F Lc mc ms) (PP G w As sz) (QQ G w (fun v w2 => ∃ r : Int32, v = some (.int r) ∧ Q r w2)) (QXX G w (fun _ _ => False)) mc ms (Af w sz)
theorem CtW.ofX {G : GG} {l : Launch} {y : MethodName} {cc : ByteArray} {nL : Nat} {ret : Option FieldType} {hh : List (Nat × Nat × Nat × Nat)} {F Lc mc ms : Nat} {As : List Value} {w : Wd} {Q : Int32 → Wd → Prop} {lv : List (Nat × Value)}
    (hy : plainName y.cls = true) (hlen : (lg_sl As).length ≤ nL) (hlv : lv_args 0 As = lv) (k : X G l (RM F Lc mc ms) y cc nL ret w (tbW hh) (ZXI G mc ms w Q (fun _ _ => False)) w 0 lv [] 0 0) : CtW G l y cc nL ret hh F Lc mc ms As w Q := by
  intro hl9 sz
  refine vx_ofWH (cc := cc) (maxL := nL) (ret := ret) (hh := hh) hy rfl ?_
  intro p e s m args below meth c s₁ B hml hv
  obtain ⟨rfl, hsz, hP, hK, hJ⟩ := hv
  subst hsz
  have hts0 := atoms_spec (ws := Cond.codeWith y cc nL ret hh :: Tg) B.pre
  have hl := lv_entry As (n := nL) hlen
  rw [hlv] at hl
  rw [lg_entry_eq]
  have htb : c.exceptionTable.toList = tableOf hh := vx_table (x := y) B (hts0 _ List.mem_cons_self)
  exact k p e s m As.toArray below meth c s.heap [] _ ⟨B.exec, B.bytes, hml, findClass_of_methodNamed B.named, fun w hw => hts0 w (List.mem_cons_of_mem _ hw)⟩ ⟨B.returns, (name_of_methodNamed B.named B.method).1⟩ B.notSynchronized hK ⟨hJ, htb, hl9⟩ hP (fun a ha => Or.inl ha) va_S.rf hl
theorem xe_catch {G : GG} {l : Launch} {R : Room} {me : MethodName} {cc : ByteArray} {nL : Nat} {ret : Option FieldType} {w0 : Wd} {Z : Zt} {w : Wd} {pc hp : Nat} {lv : List (Nat × Value)} {rest : List Value} {kc ks : Nat} {hh : List (Nat × Nat × Nat × Nat)} {E name : String}
    (pre : List ExceptionTableEntry) (x : ExceptionTableEntry) (suf : List ExceptionTableEntry) (hsplit : tableOf hh = pre ++ x :: suf) (hpass : ∀ z ∈ pre, z.catchType ≠ 0 ∧ ∃ nm : String, Cond.classLink me.cls z.catchType nm ∈ Tg ∧ (E, nm) ∈ ncs) (hx : covers x pc = true) (h0 : x.catchType ≠ 0) (hlink : Cond.classLink me.cls x.catchType name ∈ Tg) (hcast : Cond.castable E name ∈ lw_tbl) (hpc : x.handlerPc = hp)
    (k : ∀ q : Nat, X G l R me cc nL ret w0 (tbW hh) Z w hp lv [.ref q] kc ks) : XE G l R me cc nL ret w0 (tbW hh) Z w pc lv rest kc ks E := by
  intro p e s m args below meth c H locs ls q ce S hr hlk hK hJ hP hA hS hL hce hcv hcl
  have hts := S.2.2.2.2
  subst hpc
  exact vx_catch S.2.2.2.1 pre x suf ((show c.exceptionTable.toList = tableOf hh from hJ.2.1).trans hsplit) (fun z hz => Or.inr ⟨(hpass z hz).1, by
      obtain ⟨nm, h1, h2⟩ := (hpass z hz).2
      exact ⟨nm, hts _ h1, hJ.1.2.2.2.2 _ h2⟩⟩) hx h0 (hts _ hlink) (hJ.1.1.use hcast rfl args) hce hcv hcl (k q p e s m args below meth c H locs ls S hr hlk hK hJ hP hA hS hL)
def CLw (own : String) (index : Nat) (y : MethodName) (cc : ByteArray) (nL : Nat) (ret : Option FieldType) (hh : List (Nat × Nat × Nat × Nat)) (n : Nat) : Prop :=
  Cond.methodLink own index y ∈ Tg ∧ Cond.static y ∈ Tg ∧ Cond.initialized y.cls ∈ Tg ∧ Cond.codeWith y cc nL ret hh ∈ Tg ∧ y.cls ≠ "java/lang/invoke/MethodHandle" ∧ y.cls ≠ "java/lang/invoke/VarHandle" ∧ (parseMethodDescriptor y.desc).map (fun d => d.parameters.length) = some n
theorem tgw_good {y : MethodName} {cc : ByteArray} {nL : Nat} {ret : Option FieldType} {hh : List (Nat × Nat × Nat × Nat)} (h : Cond.codeWith y cc nL ret hh ∈ Tg) : GoodIn Tg (Cond.codeWith y cc nL ret hh :: Tg) := fun w hw => by
  rcases List.mem_cons.mp hw with e | e
  · rw [e]; exact ⟨h, good_of_word (tg_good _ h)⟩
  · exact ⟨e, good_of_word (tg_good _ e)⟩
theorem x_callSW {G : GG} {l : Launch} {R : Room} {me : MethodName} {cc : ByteArray} {nL : Nat} {ret : Option FieldType} {w0 : Wd} {tb : Jc} {Z : Zt} {w : Wd} {pc : Nat} {lv : List (Nat × Value)} {rest : List Value} {kc ks : Nat}
    {y : MethodName} {ccY : ByteArray} {nY : Nat} {retY : Option FieldType} {hh : List (Nat × Nat × Nat × Nat)} {F Lc mc ms n index : Nat} {As : List Value} {Qc : Int32 → Wd → Prop} {st : List Value} (hC : CLw me.cls index y ccY nY retY hh n) (hdg : decode cc pc = .ok (.invokestatic index, 3)) (hM : CtW G l y ccY nY retY hh F Lc mc ms As w Qc) (hn : As.length = n) (hst : st = As.reverse ++ rest) (hR : F + 1 ≤ R.frames ∧ 8 + (nY + 11) + Lc ≤ R.locals) (hcat : (rest.map fun v => v.category).sum ≤ 8) (hk : kc + mc ≤ R.cells ∧ ks + ms ≤ R.slots)
    (k : ∀ (r : Int32) (w2 : Wd), Qc r w2 → X G l R me cc nL ret w0 tb Z w2 (pc + 3) lv (.int r :: rest) (kc + mc) (ks + ms)) : X G l R me cc nL ret w0 tb Z w pc lv st kc ks := by
  refine x_runX (Qc := fun v w2 => ∃ r : Int32, v = some (.int r) ∧ Qc r w2) (QXc := fun _ _ => False) (args9 := As.toArray) (fun p e s m args below meth c H locs ls S hK hl9 hJ hP hsize => ?_) (kI k) (fun _ _ h => h.elim)
  obtain ⟨c1, c2, c3, c4, c5, c6, c7⟩ := hC
  have hts := S.2.2.2.2
  refine vx_runSX (hh := hh) (As := As) (rest := rest) (n := n) S (hM hl9 H.size) ⟨⟨rfl, rfl, hR.1, hR.2, pay_in hts (tgw_good c4), List.mem_cons_self⟩, hts _ c4, hts _ c3, ⟨c5, c6⟩, fun sig h => ?_, hts _ c1, hts _ c2⟩ ⟨Ct_blind G _ As w, fun U hU hW => ⟨rfl, by rw [hU], by rw [hU]; exact hP, KK_moved hW.alike hK, hJ U hU hW⟩⟩ rfl hn hsize hst (lv_room hcat) hdg hk
  rw [h] at c7
  exact (Option.some.inj c7).symm
/-! the law's own frame: the script, that no row of the world is -/
def tbS (b L : Nat) (xs : Nat → Int32) : Jc := fun s A _ => va_X b L xs s s.heap ∧ b < s.heap.size ∧ ¬ A b
theorem x_sld {G : GG} {l : Launch} {R : Room} {me : MethodName} {cc : ByteArray} {nL : Nat} {ret : Option FieldType} {w0 : Wd} {Z : Zt} {w : Wd} {pc : Nat} {lv : List (Nat × Value)} {rest : List Value} {kc ks : Nat} {b L : Nat} {xs : Nat → Int32} {i : Int32} (hdg : decode cc pc = .ok (.iaload, 1)) (hi : vp_in i L) (k : X G l R me cc nL ret w0 (tbS b L xs) Z w (pc + 1) lv (.int (xs i.toNatClampNeg) :: rest) kc ks) : X G l R me cc nL ret w0 (tbS b L xs) Z w pc lv (.int i :: .ref b :: rest) kc ks :=
  fun p e s m args below meth c H locs ls S hr hlk hK hJ hP hA hS hL => va_sld S.1 S.2.1 hJ.2.1.1 hJ.2.1.2.1 hJ.2.1.2.2 hS hi hdg (k p e s m args below meth c H locs ls S hr hlk hK hJ hP hA hS hL)
theorem x_slen {G : GG} {l : Launch} {R : Room} {me : MethodName} {cc : ByteArray} {nL : Nat} {ret : Option FieldType} {w0 : Wd} {Z : Zt} {w : Wd} {pc : Nat} {lv : List (Nat × Value)} {rest : List Value} {kc ks : Nat} {b L : Nat} {xs : Nat → Int32} (hdg : decode cc pc = .ok (.arraylength, 1)) (k : X G l R me cc nL ret w0 (tbS b L xs) Z w (pc + 1) lv (.int (Int32.ofNat L) :: rest) kc ks) : X G l R me cc nL ret w0 (tbS b L xs) Z w pc lv (.ref b :: rest) kc ks :=
  fun p e s m args below meth c H locs ls S hr hlk hK hJ hP hA hS hL => va_slen S.1 S.2.1 hJ.2.1.1 hJ.2.1.2.1 hJ.2.1.2.2 hS hdg (k p e s m args below meth c H locs ls S hr hlk hK hJ hP hA hS hL)
