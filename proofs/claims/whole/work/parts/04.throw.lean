/-! Exceptions that leave the class's methods: words, ends, calls. Own work over the printed laws. -/
theorem zgoodL {L : List Cond} {y : MethodName} {b : ByteArray} {n : Nat} {r : Option FieldType} (hL : ∀ w ∈ L, w ∈ zBIG) (h : Cond.code y b n r ∈ zBIG) : GoodIn zBIG (L ++ (Cond.code y b n r :: zBIG)) := by
  intro w hw
  rcases List.mem_append.mp hw with h1 | h1
  · exact ⟨hL w h1, good_of_word (List.all_eq_true.mp zBIG_good w (hL w h1))⟩
  · exact zgood h w h1
theorem zcVx {R : Room} {s : State} {args : Array Value} {own C : String} {index : Nat} {y : MethodName} {bytes : ByteArray} {maxL : Nat} {ret : Option FieldType} {Ts ws ws' : List Cond} {rm : Room} (n : Nat) (ht : ∀ w ∈ Ts, w.before args s = true) (hG : GoodIn Ts ws) (hw : ws = Cond.code y bytes maxL ret :: ws') (hrc : rm.cells = 1) (hrs : rm.slots = 6) (hini : Cond.initialized y.cls ∈ Ts) (hl : Cond.methodLink own index y ∈ Ts) (hi : Cond.instanceMethod y ∈ Ts) (hs : Cond.selects C y y ∈ Ts)
    (hd : y.cls ≠ "java/lang/invoke/MethodHandle" ∧ y.cls ≠ "java/lang/invoke/VarHandle" ∧ (parseMethodDescriptor y.desc).map (fun d => d.parameters.length) = some n) (hR : rm.frames + 1 ≤ R.frames ∧ 8 + (maxL + 11) + rm.locals ≤ R.locals) : CallW R s args own C index y bytes maxL ret ws rm 1 6 n :=
  ⟨callB_of n ht hG hw hrc hrs (ht _ hini) (ht _ hl) hd hR, ht _ hi, ht _ hs⟩
def zQF (w : va_W) (sz : Nat) : Array Value → State → Outcome → State → Prop := va_Qv (fun (_ : Unit) => False) (fun _ _ => False) (va_A w sz)
def zXc (E : String) (D : va_G) (cl : List vw_C) (w w' : va_W) (sz : Nat) : String → State → State → Prop := vx_X (fun (_ : Unit) => True) (fun E' _ t => E' = E ∧ va_P D cl w' t.heap ∧ va_D (va_A w sz) w') (va_A w sz)
theorem zEnterX {l : Launch} {y : MethodName} {cc : ByteArray} {nL : Nat} {ret : Option FieldType} {rm : Room} {Qc : Array Value → State → Outcome → State → Prop} {XC : String → State → State → Prop} {mc ms : Nat} {free : Addr → Prop} {X : (Nat → Prop) → State → Prop} {D : va_G} {cl : List vw_C} {tys : List (ClassId × FieldType)} {w : va_W} {sz : Nat} (own : String) (av : List Value) (hy : plainName y.cls = true) (ho : y.cls = own) (hlen : (lg_sl av).length ≤ nL)
    (body : ∀ (p : Program) (e : Env) (s : State) (m : MethodId) (below : List Frame) (meth : Method) (c : Code) (ls : Array Slot), (∀ x ∈ c.exceptionTable.toList, False) → zG p s m av.toArray meth c cc own nL ret → va_K D cl tys s → X (va_A w s.heap.size) s → va_P D cl w s.heap → va_D (va_A w s.heap.size) w → s.heap.size = sz → lv_has ls nL (lv_args 0 av) → W p l e rm s m av.toArray below meth c s.heap [] 0 0 (vx_MQ below Qc XC av.toArray s mc ms free) (F0 m 0 ls [])) :
    vx_Met l y (Cond.code y cc nL ret :: zBIG) rm (va_Pc av (zP X D cl tys w sz)) Qc XC mc ms free := by
  subst ho
  refine vx_ofW (cc := cc) (maxL := nL) (ret := ret) hy rfl ?_
  intro p e s m args below meth c s₁ B hml hnx hv
  obtain ⟨rfl, hsz, hP, hK, hD0, hX⟩ := hv
  have hl := lv_entry av (n := nL) hlen
  rw [lg_entry_eq]
  subst hsz
  exact body p e s m below meth c _ hnx ⟨B.exec, B.bytes, B.returns, hml, findClass_of_methodNamed B.named, fun w h => atoms_spec (ws := Cond.code y cc nL ret :: zBIG) B.pre w (List.mem_cons_of_mem _ h), B.notSynchronized⟩ hK hX hP hD0.self rfl hl
def zEXN : List String := ["java/lang/RuntimeException", "java/lang/Exception"]
theorem zEXN_fit : ∀ n ∈ zEXN, Bundle.fit n = true := by decide +kernel
def zKp (w : Cond) : Bool := w.onTables && w.keepsFace
theorem zKp_warm {w : Cond} {s U : State} (hk : zKp w = true) (hW : s.WarmedH U.vm) (h : va_Nw w s) : va_Nw w U := by
  simp only [zKp, Bool.and_eq_true] at hk
  exact va_tabs hk.1 (rfl : (s.setVm U.vm).vm = U.vm) (Cond.before_shiftedFace (State.Shifted.of_warmed hW) w hk.2 h)
def zTHR : List Cond := vx_atS RX5 108 "java/util/NoSuchElementException" zEXN ++ vx_atS RX5 73 "java/lang/IllegalArgumentException" zEXN ++ vx_atS RX5 124 "java/lang/UnsupportedOperationException" zEXN ++ vx_atS RX5 58 "java/lang/IllegalStateException" zEXN
theorem zt108 : ∀ w ∈ vx_atS RX5 108 "java/util/NoSuchElementException" zEXN, w ∈ zTHR := fun w h => List.mem_append_left _ (List.mem_append_left _ (List.mem_append_left _ (h)))
theorem zt73 : ∀ w ∈ vx_atS RX5 73 "java/lang/IllegalArgumentException" zEXN, w ∈ zTHR := fun w h => List.mem_append_left _ (List.mem_append_left _ (List.mem_append_right _ h))
theorem zt124 : ∀ w ∈ vx_atS RX5 124 "java/lang/UnsupportedOperationException" zEXN, w ∈ zTHR := fun w h => List.mem_append_left _ (List.mem_append_right _ h)
theorem zt58 : ∀ w ∈ vx_atS RX5 58 "java/lang/IllegalStateException" zEXN, w ∈ zTHR := fun w h => List.mem_append_right _ h
theorem zTHR_k : zTHR.all zKp = true := by decide +kernel
/-- what stands around the class's worlds where it throws -/
def zD : (Nat → Prop) → State → Prop := fun A U => zC A U ∧ (∀ w ∈ zTHR, va_Nw w U) ∧ (∀ q ∈ zSTR, ∃ a, vk_R RX5 q.1 q.2 a U) ∧ vx_Zq Bundle.tN "UNASSIGNED_STACK" Bundle.steD A U U.heap ∧ vx_Zq Bundle.tN "SUPPRESSED_SENTINEL" Bundle.listD A U U.heap
theorem zD_ok : zOK zD := by
  intro A A' s U H locs hX hS hA hU hvm
  refine ⟨zC_ok A A' s U H locs hX.1 hS hA hU hvm, fun w hw => zKp_warm (List.all_eq_true.mp zTHR_k w hw) hvm (hX.2.1 w hw), fun q hq => ?_, ?_, ?_⟩
  · obtain ⟨a, ha⟩ := hX.2.2.1 q hq
    exact ⟨a, vk_R.warm hvm ha⟩
  · rw [hU]; exact vx_Zq.moved hvm.alike ((hX.2.2.2.1.kept hS.2.1).narrow hA)
  · rw [hU]; exact vx_Zq.moved hvm.alike ((hX.2.2.2.2.kept hS.2.1).narrow hA)
section ZX
variable {p : Program} {l : Launch} {e : Env} {R : Room} {s : State} {m : MethodId} {args : Array Value} {below : List Frame} {meth : Method} {c : Code} {H : Heap} {locs : List Loc} {cc : ByteArray} {pc : Nat} {ls : Array Slot} {rest st0 : List Value} {D : va_G} {cl : List vw_C} {w w' w0 w1 : va_W} {a : Array Value}
theorem zthrowS {own cls text : String} {ik is ic : Nat} (hx : p.tables.exec = Jvm.exec) (hb : c.code = cc) (hl0 : l.stackTraces = false) (hown : s.vm.findClass own = some m.cls) (hcls : Bundle.fit cls = true)
    (hk : (Cond.classLink own ik cls).before args s = true) (hini : (Cond.initialized cls).before args s = true) (hstr : ∃ sa, vk_R own is text sa s) (hat : ∀ w ∈ vx_atS own ic cls zEXN, va_Nw w s)
    (hgd : (Cond.classLink own ik cls :: Cond.initialized cls :: vx_atS own ic cls zEXN).all (fun w => w.onTables) = true)
    (hU : vx_Zq Bundle.tN "UNASSIGNED_STACK" Bundle.steD (va_A w s.heap.size) s s.heap) (hN : vx_Zq Bundle.tN "SUPPRESSED_SENTINEL" Bundle.listD (va_A w s.heap.size) s s.heap)
    (hP : va_P D cl w' H) (hD : va_D (va_A w s.heap.size) w') (hS : va_S (va_A w s.heap.size) s.heap H locs) (hsize : ls.size = c.maxLocals)
    (d0 : decode cc pc = .ok (.new ik, 3)) (d3 : decode cc (pc + 3) = .ok (.dup, 1)) (d4 : decode cc (pc + 4) = .ok (.ldc is, 2)) (d6 : decode cc (pc + 6) = .ok (.invokespecial ic, 3)) (d9 : decode cc (pc + 9) = .ok (.athrow, 1))
    (hnx : ∀ x ∈ c.exceptionTable.toList, False) (hRf : 6 ≤ R.frames) (hRl : (rest.map fun v => v.category).sum + 82 ≤ R.locals) (hRc : 1 ≤ R.cells) (hRs : 6 ≤ R.slots) (hlk : meth.locks = false) :
    W p l e R s m args below meth c H locs 0 0 (vx_MQ below (zQF w s.heap.size) (zXc cls D cl w w' s.heap.size) args s 1 6 (va_A w s.heap.size)) (F0 m pc ls rest) := by
  obtain ⟨sa, hstr⟩ := hstr
  have hon : ∀ z ∈ Cond.classLink own ik cls :: Cond.initialized cls :: vx_atS own ic cls zEXN, z.onTables = true := List.all_eq_true.mp hgd
  refine vx_throwS (names := zEXN) (sa := sa) (text := text) (cls := cls) (ik := ik) (is := is) (ic := ic) (A := va_A w s.heap.size) hx hb hl0 hown hcls zEXN_fit hk hini hstr (fun z hz => va_Nw.use (hon z (List.mem_cons_of_mem _ (List.mem_cons_of_mem _ hz))) (hat z hz)) (fun z hz => by unfold vx_ot; rw [hon z hz]; rfl) hU hN hS hsize d0 d3 d4 d6 d9 (fun x hx => (hnx x hx).elim) hRf hRl ?_ ?_ hlk (fun t ha hz hk => ⟨(), trivial, ⟨rfl, hP.kept (fun k q h => hk q.1 (hP k q h).lt), hD⟩, ⟨Nat.le_trans hS.1 hz, fun q h1 h2 => ?_⟩⟩) hS.2.2 ?_ ?_
  · omega
  · omega
  · rw [hk q (Nat.lt_of_lt_of_le h1 hS.1)]; exact hS.2.1 q h1 h2
  · omega
  · omega
theorem zxW {E : String} (hr : vx_Run p l e R s m args below meth c H locs 0 0 1 6 (F0 m pc ls st0) rest (zQF w H.size a) (zXc E D cl w w1 H.size) (va_A w H.size)) (hS : va_S (va_A w0 s.heap.size) s.heap H locs) (hF : ∀ q, va_A w H.size q → va_A w0 s.heap.size q) (hnx : ∀ x ∈ c.exceptionTable.toList, False) (hlk : meth.locks = false) :
    W p l e R s m args below meth c H locs 0 0 (vx_MQ below (zQF w0 s.heap.size) (zXc E D cl w0 w1 s.heap.size) args s 1 6 (va_A w0 s.heap.size)) (F0 m pc ls st0) := by
  refine vx_callv hr hS (fun q _ h => hF q h) hF (fun q _ h => hF q h) (fun E' ce q9 u t H1 locs1 ht hvm _ hB hz hk hS1 hce hcv hcl => ?_) (fun u t H1 locs1 _ _ hf => hf.elim)
  obtain ⟨rfl, hP1, hD1⟩ := hB
  exact vx_out (fun x hx => (hnx x hx).elim) hlk hce hcv hcl (fun t' ht' ha => ⟨(), trivial, ⟨rfl, by rw [ht', ← ht]; exact hP1, hD1.weaken (fun _ _ _ h => hF _ h)⟩, hS1.F ht'⟩) hS1.2.2 (Nat.le_refl _) (Nat.le_refl _)
theorem zxC {E own name : String} {A : Nat → Prop} {Q : State → Prop} (hr : vx_Run p l e R s m args below meth c H locs 0 0 1 6 (F0 m pc ls st0) rest (zQF w H.size a) (zXc E D cl w w1 H.size) (va_A w H.size)) (hS : va_S A s.heap H locs) (hF : ∀ q, va_A w H.size q → A q) (hown : s.vm.findClass own = some m.cls) (pre : List ExceptionTableEntry) (x : ExceptionTableEntry) (suf : List ExceptionTableEntry) (hsplit : c.exceptionTable.toList = pre ++ x :: suf)
    (hpass : ∀ z ∈ pre, covers z pc = false ∨ (z.catchType ≠ 0 ∧ ∃ nm : String, (Cond.classLink own z.catchType nm).before args s = true ∧ va_Nc E nm s)) (hx : covers x pc = true) (h0 : x.catchType ≠ 0)
    (hlink : (Cond.classLink own x.catchType name).before args s = true) (hcast : (Cond.castable E name).before args s = true)
    (kk : ∀ (q9 : Nat) (H1 : Heap) (locs1 : List Loc), va_P D cl w1 H1 → va_D A w1 → va_S A s.heap H1 locs1 → W p l e R s m args below meth c H1 locs1 (0 + 1) (0 + 6) Q (F0 m x.handlerPc ls [.ref q9])) :
    W p l e R s m args below meth c H locs 0 0 Q (F0 m pc ls st0) := by
  refine vx_callv hr hS (fun q _ h => hF q h) hF (fun q _ h => hF q h) (fun E' ce q9 u t H1 locs1 ht hvm _ hB hz hk hS1 hce hcv hcl => ?_) (fun u t H1 locs1 _ _ hf => hf.elim)
  obtain ⟨rfl, hP1, hD1⟩ := hB
  exact vx_catch hown pre x suf hsplit hpass hx h0 hlink hcast hce hcv hcl (kk q9 H1 locs1 (by rw [← ht]; exact hP1) (hD1.weaken (fun _ _ _ h => hF _ h)) hS1)
theorem zreti1 {r : Int32} (hx : p.tables.exec = Jvm.exec) (hb : c.code = cc) (hr : meth.sig.returnType = some .int) (hlk : meth.locks = false) (hP : va_P D cl w' H) (hD : va_D (va_A w s.heap.size) w') (hS : va_S (va_A w s.heap.size) s.heap H locs) (hdg : decode cc pc = .ok (.ireturn, 1)) :
    W p l e R s m args below meth c H locs 1 6 (MQ below (zQi D cl w w' s.heap.size r) args s 1 6 (va_A w s.heap.size)) (F0 m pc ls [.int r]) :=
  W.iret (v := r) hx hb hr (fun t ht _ => ⟨⟨r, (), rfl, rfl, by rw [ht]; exact hP, hD⟩, hS.F ht⟩) hS.2.2 hdg hlk
end ZX
/-- what stands around the law's worlds -/
def zW : (Nat → Prop) → State → Prop := fun A U => zD A U ∧ va_Nc "java/lang/IllegalArgumentException" "java/lang/IllegalStateException" U ∧ va_Nc "java/lang/IllegalArgumentException" "java/util/NoSuchElementException" U ∧ va_Nc "java/lang/UnsupportedOperationException" "java/util/NoSuchElementException" U ∧ va_Nc "java/lang/UnsupportedOperationException" "java/lang/IllegalArgumentException" U
theorem zW_ok : zOK zW := by
  intro A A' s U H locs hX hS hA hU hvm
  exact ⟨zD_ok A A' s U H locs hX.1 hS hA hU hvm, va_Nc.moved hvm.alike hX.2.1, va_Nc.moved hvm.alike hX.2.2.1, va_Nc.moved hvm.alike hX.2.2.2.1, va_Nc.moved hvm.alike hX.2.2.2.2⟩
theorem zEnterW {l : Launch} {y : MethodName} {cc : ByteArray} {nL : Nat} {ret : Option FieldType} {hh : List (Nat × Nat × Nat × Nat)} {rm : Room} {Qc : Array Value → State → Outcome → State → Prop} {mc ms : Nat} {free : Addr → Prop} {X : (Nat → Prop) → State → Prop} {D : va_G} {cl : List vw_C} {tys : List (ClassId × FieldType)} {w : va_W} {sz : Nat} (own : String) (av : List Value) (hy : plainName y.cls = true) (ho : y.cls = own) (hlen : (lg_sl av).length ≤ nL)
    (body : ∀ (p : Program) (e : Env) (s : State) (m : MethodId) (below : List Frame) (meth : Method) (c : Code) (ls : Array Slot), c.exceptionTable.toList = tableOf hh → zG p s m av.toArray meth c cc own nL ret → va_K D cl tys s → X (va_A w s.heap.size) s → va_P D cl w s.heap → va_D (va_A w s.heap.size) w → s.heap.size = sz → lv_has ls nL (lv_args 0 av) → W p l e rm s m av.toArray below meth c s.heap [] 0 0 (MQ below Qc av.toArray s mc ms free) (F0 m 0 ls [])) :
    Met l y (Cond.codeWith y cc nL ret hh :: zBIG) rm (va_Pc av (zP X D cl tys w sz)) Qc mc ms free := by
  subst ho
  refine va_MetW (cc := cc) (maxL := nL) (ret := ret) hy rfl ?_
  intro p e s m args below meth c s₁ B hml hv
  obtain ⟨rfl, hsz, hP, hK, hD0, hX⟩ := hv
  have hl := lv_entry av (n := nL) hlen
  rw [lg_entry_eq]
  subst hsz
  have hts := atoms_spec (ws := Cond.codeWith y cc nL ret hh :: zBIG) B.pre
  exact body p e s m below meth c _ (vx_table (x := y) B (hts _ List.mem_cons_self)) ⟨B.exec, B.bytes, B.returns, hml, findClass_of_methodNamed B.named, fun w h => hts w (List.mem_cons_of_mem _ h), B.notSynchronized⟩ hK hX hP hD0.self rfl hl
