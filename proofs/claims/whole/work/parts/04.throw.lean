/-! An exception whose String constructor links its super at another index. Own work over the printed laws. -/
def zTail (own : String) (ic : Nat) (X : String) : List Cond :=
  [.methodLink own ic (Bundle.initS X), .instantiable X 6, .selects X Bundle.tFill0 Bundle.tFill0, .selects X Bundle.tFill Bundle.tFill,
   .lays X Bundle.tN "cause" "Ljava/lang/Throwable;", .lays X Bundle.tN "stackTrace" Bundle.steD, .lays X Bundle.tN "suppressedExceptions" Bundle.listD, .lays X Bundle.tN "detailMessage" "Ljava/lang/String;",
   .isRef (.static Bundle.tN "UNASSIGNED_STACK" Bundle.steD), .isRef (.static Bundle.tN "SUPPRESSED_SENTINEL" Bundle.listD),
   .fieldLink Bundle.tN 198 Bundle.tN "backtrace" "Ljava/lang/Object;", .lays Bundle.tN Bundle.tN "backtrace" "Ljava/lang/Object;", .lays X Bundle.tN "backtrace" "Ljava/lang/Object;"]
def zOwn (own : String) (ic : Nat) (X Y : String) (r : List String) (j : Nat) (b : ByteArray) : List Cond :=
  Bundle.throwableAtoms ++ (Bundle.throwableSAtoms ++ (Bundle.passSAtoms X Y j b ++ (Bundle.chainSAtoms Y r ++ zTail own ic X)))
section ZN
variable {p : Program} {l : Launch} {e : Env} {R : Room} {s : State} {m : MethodId} {args : Array Value} {below : List Frame} {meth : Method} {c : Code} {T : State} {locs : List Loc} {cells slots : Nat}
set_option maxHeartbeats 1000000 in
theorem zctorN (X : Stand p l e R s m args below meth c T locs cells slots) (hx : p.tables.exec = Jvm.exec) (htr : e.platform.stackTraces = false) {own cls Y : String} {r : List String} {ic j : Nat} {b : ByteArray}
    (hown : s.vm.findClass own = some m.cls) (hcls : Bundle.fit cls = true) (hY : Bundle.fit Y = true) (hr : ∀ n ∈ r, Bundle.fit n = true)
    (h0 : decode b 0 = .ok (.aload_n 0, 1)) (h1 : decode b 1 = .ok (.aload_n 1, 1)) (h2 : decode b 2 = .ok (.invokespecial j, 3)) (h5 : decode b 5 = .ok (.return_, 1))
    (h : ∀ w ∈ zOwn own ic cls Y r j b, w.before args s = true) (hlocs : ∀ x ∈ locs, False)
    {q : Addr} {cX : ClassId} {kX : Class} (hfX : s.vm.findClass cls = some cX) (hkX : s.vm.classes[cX]? = some kX) (hq : T.heap[q]? = some (freshCell cX kX)) (hnew : s.heap.size ≤ q)
    {msg : Value} (hmsg : msg.isRef = true) {g : JFrame} (hg : g.method = m) (hsize : g.locals.size = c.maxLocals) (hlocked : g.locked = none) (hentered : g.entered = []) {rest : List Value} (hstack : g.stack = msg :: .ref q :: .ref q :: rest)
    (d6 : decode c.code g.pc = .ok (.invokespecial ic, 3)) (d9 : decode c.code (g.pc + 3) = .ok (.athrow, 1)) (hout : ∀ x ∈ c.exceptionTable.toList, covers x (g.pc + 3) = false)
    (hRf : r.length + 4 < R.frames) (hRl : 2 * g.monitorRoom + ((Value.ref q :: rest).map fun v => v.category).sum + (13 * (r.length + 2) + 42) ≤ R.locals) (hlk : meth.locks = false) :
    ∃ U : State, Steps p.tables e below (T.setTop g) U ∧ U.status = .running ∧ Ended U below (.threw q) ∧ s.WarmedH U.vm ∧ s.sameButNew ({ U with vm := s.vm } : State) locs cells slots ∧
      ∃ ce, U.heap[q]? = some ce ∧ ce.vm = .none ∧ s.vm.findClass cls = some ce.cls := by
  have hpl : e.platform.magicAccessors = ({} : Platform).magicAccessors := by rw [X.admits.platform]
  have w1 : ∀ w ∈ Bundle.throwableAtoms, w.before args s = true := fun w hw => h w (List.mem_append_left _ hw)
  have w2 : ∀ w ∈ Bundle.throwableSAtoms, w.before args s = true := fun w hw => h w (List.mem_append_right _ (List.mem_append_left _ hw))
  have w3 : ∀ w ∈ Bundle.passSAtoms cls Y j b, w.before args s = true := fun w hw => h w (List.mem_append_right _ (List.mem_append_right _ (List.mem_append_left _ hw)))
  have w4 : ∀ w ∈ Bundle.chainSAtoms Y r, w.before args s = true := fun w hw => h w (List.mem_append_right _ (List.mem_append_right _ (List.mem_append_right _ (List.mem_append_left _ hw))))
  have w5 : ∀ w ∈ zTail own ic cls, w.before args s = true := fun w hw => h w (List.mem_append_right _ (List.mem_append_right _ (List.mem_append_right _ (List.mem_append_right _ hw))))
  unfold zTail at w5
  rw [List.forall_mem_cons, List.forall_mem_cons, List.forall_mem_cons, List.forall_mem_cons, List.forall_mem_cons, List.forall_mem_cons, List.forall_mem_cons, List.forall_mem_cons, List.forall_mem_cons, List.forall_mem_cons, List.forall_mem_cons, List.forall_mem_cons, List.forall_mem_cons] at w5
  obtain ⟨aLink, aInst, aSel0, aSelF, aC, aS, aP, aM, aU, aN, aB, aBt, aBx, -⟩ := w5
  obtain ⟨Th, Z0, L, -, I⟩ := ThrowableC.of_atoms (args := args) (by rw [X.admits.platform]) (by rw [X.admits.platform]) hpl w1
  obtain ⟨Z, M, LZ, LM, hZ⟩ := Init0T.ofS_atoms (args := args) hpl L I w2
  obtain ⟨P, LP, hPm, hPs⟩ := PassC.ofS_atoms (args := args) hpl (Bundle.fit_spec hcls).1 (Bundle.fit_spec hY).2 h0 h1 h2 h5 w3
  obtain ⟨P2, Ps, hlen, L2, hLs, hm2, hs2, hon⟩ := Bundle.chainS (args := args) hpl hZ r Y hY hr w4
  have hsup : P.sup = P2.m := Option.some.inj (hPs.symm.trans hm2)
  have hfound : s.vm.findClass cls = some P.m.cls := findClass_of_methodNamed hPm
  cases Option.some.inj (hfX.symm.trans hfound)
  obtain ⟨c1, k1, hc1, hk1, hord, -, -, hn6⟩ := Cond.instantiable_spec aInst
  cases Option.some.inj (hc1.symm.trans hfound)
  cases Option.some.inj (hkX.symm.trans hk1)
  have hsel : ∀ {y : MethodName} {z : MethodId}, (Cond.selects cls y y).before args s = true → (y.cls ≠ "java/lang/invoke/MethodHandle" ∧ y.cls ≠ "java/lang/invoke/VarHandle") → s.methodNamed? y = some z → selectMethod e.platform s.vm P.m.cls z = .method z := by
    intro y z hw hy hz
    obtain ⟨c2, r2, m2, q1, q2, q3, q4, -⟩ := Cond.selects_spec hw
    cases Option.some.inj (q1.symm.trans hfound)
    cases Option.some.inj (q2.symm.trans (State.methodFound?_of_named hz hy))
    cases Option.some.inj (q3.symm.trans hz)
    rw [Launch.admits_selectMethod X.admits]; exact q4
  obtain ⟨cS, hcS, hst⟩ := I.statics
  obtain ⟨u0, hu0⟩ := Cond.staticRefV I.unassigned L.unassignedStatic L.statics hcS hst aU
  obtain ⟨sen, hsen⟩ := Cond.staticRefV I.sentinel L.sentinelStatic L.statics hcS hst aN
  obtain ⟨ci, ii, fB, hkB, hgB, haB, hsB, -, hnB, htB, hffB⟩ := Cond.ownField (t := .object "java/lang/Object") I.found L.cls (by decide +kernel) aB aBt e.platform hpl
  obtain ⟨cS1, hcS1, heS, -, hkeep⟩ := X.same.2.2.2.2.2 Th.aS cS hcS
  have hfree : ∀ i, (⟨Th.aS, i⟩ : Loc) ∉ locs := fun i hm => hlocs _ hm
  have hkn : cS1.vm ≠ .unknown := by
    rw [heS]; intro hu
    rw [show cS.vm = .unknown from hu] at hst
    cases hst
  have hne : Th.aS ≠ q := Nat.ne_of_lt (Nat.lt_of_lt_of_le (Array.getElem?_eq_some_iff.mp hcS).1 hnew)
  obtain ⟨iM, hffM⟩ := I.msg
  obtain ⟨tC, dC, eC, fC⟩ := Cond.laysAt hfound hk1 I.cause aC
  obtain ⟨tS, dS, eS, fS⟩ := Cond.laysAt hfound hk1 I.stack aS
  obtain ⟨tP, dP, eP, fP⟩ := Cond.laysAt hfound hk1 I.supp aP
  obtain ⟨tM, dM, eM, fM⟩ := Cond.laysAt hfound hk1 hffM aM
  obtain ⟨tB, dB, eB, fB'⟩ := Cond.laysAt hfound hk1 hffB aBx
  have bC := Cond.laysApart eB eC fB' fC (by rw [hnB, I.causeName]; decide)
  have bS := Cond.laysApart eB eS fB' fS (by rw [hnB, I.stackName]; decide)
  have bP := Cond.laysApart eB eP fB' fP (by rw [hnB, I.suppName]; decide)
  have hskip : SkipFacts Th e.platform s (fun u => u) u0 ((preparedCellV Th.toThrowableT (freshCell P.m.cls kX) q u0 sen).withEntry T.cur) := by
    refine ⟨{ ci198 := ci, i198 := ii, fBack := fB }, ⟨hkB, hgB, haB, hsB⟩, ?_, fun _ _ => rfl⟩
    have h9 := fresh_default (c := P.m.cls) tB
    rw [htB] at h9
    simpa [preparedCellV, Cell.setSlot, Cell.withEntry, Array.getElem?_setIfInBounds, bC, bS, bP, bC.symm, bS.symm, bP.symm, defaultValue] using h9
  obtain ⟨tm, -, -, -, vm1, hn1, -, -, -, -, -, -, -, hW1, st1⟩ := Steps.initColdS (tb := p.tables) (e := e) (below := below) (s := s) (U := T) X.here hx X.warmed hpl hown (t := Bundle.initS cls) rfl rfl (Bundle.fit_spec hcls).2
    aLink (w3 _ List.mem_cons_self) (bytes := b) (maxL := 2) (w3 _ (List.mem_cons_of_mem _ List.mem_cons_self)) (f := g) hg (a := q) (msg := msg) (rest := .ref q :: rest) hstack d6
  cases Option.some.inj (hn1.symm.trans hPm)
  obtain ⟨vm2, X2, st2⟩ := (X.noted hW1).ctorMessageOffV hx (g := { g with stack := .ref q :: rest }) hg hsize Th L Z LZ M LM (P :: P2 :: Ps)
    (fun Q hQ => by rcases List.mem_cons.mp hQ with rfl | hQ; exact LP; rcases List.mem_cons.mp hQ with rfl | hQ; exact L2; exact hLs Q hQ) ⟨hsup, hs2, hon⟩ (u0 := u0) (sen := sen) (self := q) hmsg (cell := freshCell P.m.cls kX) (cellS := cS1)
    hq (fun _ => by simp) (by simp) rfl rfl (hsel aSel0 (by decide) I.fill0) (hsel aSelF (by decide) I.fill) hcS1 hne hkn (by rw [hkeep _ (hfree _)]; exact hu0) (by rw [hkeep _ (hfree _)]; exact hsen)
    (Takes.of_laid hk1 hord tC (by rw [I.causeType]; rfl)) (Takes.of_laid hk1 hord tS (by rw [I.stackType]; exact fits_refV_array _ u0)) (Takes.of_laid hk1 hord tP (by rw [I.suppType]; exact fits_refV_object _ sen))
    (Takes.of_laid hk1 hord tM (by rw [I.msgType]; exact fits_refV_object _ ⟨msg, hmsg⟩)) I.objLocals hskip htr [] d6
    (by simp only [List.length_cons, hlen]; omega) (by simp only [List.length_cons, hlen]; exact hRl)
  obtain ⟨hw, hrun, hend, hWU, hsame⟩ := X2.athrowLeaves hx (g := { g with stack := .ref q :: rest, pc := g.pc + 3 }) hg hlocked hentered hout (a := q) (rest := rest) rfl d9 hlk
  have hlt : q < ((T.setVm vm1).setVm vm2).heap.size := (Array.getElem?_eq_some_iff.mp hq).1
  refine ⟨_, st1 _ (fun acts => ?_), hrun, hend, hWU, hsame.weaken (fun y hy hlt' => ?_) (Nat.le_refl _) (Nat.le_refl _), _, heapAt_setCell_self (s := (T.setVm vm1).setVm vm2) (plainBareV Th.toThrowableT (freshCell P.m.cls kX) q u0 sen msg) hlt, rfl, hfound⟩
  · rw [doInvoke_state]
    exact st2 _ hw
  · rcases List.mem_append.mp hy with hm | hm
    · exact hm
    · have hb : y.base = q := by
        simp only [List.mem_cons, List.not_mem_nil, or_false] at hm
        rcases hm with rfl | rfl | rfl | rfl | rfl <;> rfl
      rw [hb] at hlt'
      exact absurd hlt' (Nat.not_lt.mpr hnew)
end ZN
def zNb13 : ByteArray := ⟨#[0x2a, 0x2b, 0xb7, 0x00, 0x0d, 0xb1]⟩
def zAtN (own : String) (ic : Nat) (X : String) : List Cond := (zOwn own ic X "java/lang/RuntimeException" ["java/lang/Exception"] 13 zNb13).filter vx_no
/-! Exceptions that leave the class's methods: words, ends, calls. Own work over the printed laws. -/
theorem zgoodL {L : List Cond} {y : MethodName} {b : ByteArray} {n : Nat} {r : Option FieldType} (hL : ∀ w ∈ L, w ∈ zBIG) (h : Cond.code y b n r ∈ zBIG) : GoodIn zBIG (L ++ (Cond.code y b n r :: zBIG)) := by
  intro w hw
  rcases List.mem_append.mp hw with h1 | h1
  · exact ⟨hL w h1, good_of_word (List.all_eq_true.mp zBIG_good w (hL w h1))⟩
  · exact zgood h w h1
theorem zcVx {R : Room} {s : State} {args : Array Value} {own C : String} {index : Nat} {y : MethodName} {bytes : ByteArray} {maxL : Nat} {ret : Option FieldType} {Ts ws ws' : List Cond} {rm : Room} (n : Nat) (ht : ∀ w ∈ Ts, w.before args s = true) (hG : GoodIn Ts ws) (hw : ws = Cond.code y bytes maxL ret :: ws') (hrc : rm.cells = 1) (hrs : rm.slots = 6) (hini : Cond.initialized y.cls ∈ Ts) (hl : Cond.methodLink own index y ∈ Ts) (hi : Cond.instanceMethod y ∈ Ts) (hs : Cond.selects C y y ∈ Ts)
    (hd : y.cls ≠ "java/lang/invoke/MethodHandle" ∧ y.cls ≠ "java/lang/invoke/VarHandle" ∧ (parseMethodDescriptor y.desc).map (fun d => d.parameters.length) = some n) (hR : rm.frames + 1 ≤ R.frames ∧ 8 + (maxL + 11) + rm.locals ≤ R.locals) : CallW R s args own C index y bytes maxL ret ws rm 1 6 n :=
  ⟨callB_of n ht hG hw hrc hrs (ht _ hini) (ht _ hl) hd hR, ht _ hi, ht _ hs⟩
def zQF (w : va_W) (sz : Nat) : Array Value → State → Outcome → State → Prop := va_Qv (fun (_ : Unit) => False) (fun _ _ => False) (va_A w sz)
def zXc (E : String) (D : va_G) (cl : List vw_C) (w w' : va_W) (sz : Nat) : String → State → State → Prop := vx_X (fun (_ : Unit) => True) (fun E' _ t => E' = E ∧ va_P D cl w' t.heap ∧ va_D (va_A w sz) w') (va_A w sz)
theorem zEnterX {l : Launch} {y : MethodName} {cc : ByteArray} {nL : Nat} {ret : Option FieldType} {rm : Room} {Qc : Array Value → State → Outcome → State → Prop} {XC : String → State → State → Prop} {mc ms : Nat} {free : Addr → Prop} {X : (Nat → Prop) → State → Prop} {D : va_G} {cl : List vw_C} {tys : List (ClassId × FieldType)} {w : va_W} {sz : Nat} (own : String) (av : List Value) (hy : plainName y.cls = true) (ho : y.cls = own) (hlen : (lg_sl av).length ≤ nL)
    (body : ∀ (p : Program) (e : Env) (s : State) (m : MethodId) (below : List Frame) (meth : Method) (c : Code) (ls : Array Slot), (∀ x ∈ c.exceptionTable.toList, False) → zG p s m av.toArray meth c cc own nL ret → va_K D cl tys s → X (va_A w s.heap.size) s → va_P D cl w s.heap → va_D (va_A w s.heap.size) w → s.heap.size = sz → lv_has ls nL (lv_args 0 av) → W p l e rm s m av.toArray below meth c s.heap [] 0 0 (vx_MQ below Qc XC av.toArray s mc ms free) (F0 m 0 ls [])) :
    vx_Met l y (Cond.code y cc nL ret :: zBIG) rm (va_Pc av (zP X D cl tys w sz)) Qc XC mc ms free := by
  subst ho
  refine vx_ofW (cc := cc) (maxL := nL) (ret := ret) hy rfl ?_
  intro p e s m args below meth c s₁ B hml hnx hv
  obtain ⟨rfl, hsz, hP, hK, hD0, hX⟩ := hv
  have hl := lv_entry av (n := nL) hlen
  rw [lg_entry_eq]
  subst hsz
  exact body p e s m below meth c _ hnx ⟨B.exec, B.bytes, B.returns, hml, findClass_of_methodNamed B.named, fun w h => atoms_spec (ws := Cond.code y cc nL ret :: zBIG) B.pre w (List.mem_cons_of_mem _ h), B.notSynchronized⟩ hK hX hP hD0.self rfl hl
def zEXN : List String := ["java/lang/RuntimeException", "java/lang/Exception"]
theorem zEXN_fit : ∀ n ∈ zEXN, Bundle.fit n = true := by decide +kernel
def zKp (w : Cond) : Bool := w.onTables && w.keepsFace
theorem zKp_warm {w : Cond} {s U : State} (hk : zKp w = true) (hW : s.WarmedH U.vm) (h : va_Nw w s) : va_Nw w U := by
  simp only [zKp, Bool.and_eq_true] at hk
  exact va_tabs hk.1 (rfl : (s.setVm U.vm).vm = U.vm) (Cond.before_shiftedFace (State.Shifted.of_warmed hW) w hk.2 h)
def zTHR : List Cond := zAtN RX5 108 "java/util/NoSuchElementException" ++ vx_atS RX5 73 "java/lang/IllegalArgumentException" zEXN ++ vx_atS RX5 124 "java/lang/UnsupportedOperationException" zEXN ++ vx_atS RX5 58 "java/lang/IllegalStateException" zEXN
theorem zt108 : ∀ w ∈ zAtN RX5 108 "java/util/NoSuchElementException", w ∈ zTHR := fun w h => List.mem_append_left _ (List.mem_append_left _ (List.mem_append_left _ (h)))
theorem zt73 : ∀ w ∈ vx_atS RX5 73 "java/lang/IllegalArgumentException" zEXN, w ∈ zTHR := fun w h => List.mem_append_left _ (List.mem_append_left _ (List.mem_append_right _ h))
theorem zt124 : ∀ w ∈ vx_atS RX5 124 "java/lang/UnsupportedOperationException" zEXN, w ∈ zTHR := fun w h => List.mem_append_left _ (List.mem_append_right _ h)
theorem zt58 : ∀ w ∈ vx_atS RX5 58 "java/lang/IllegalStateException" zEXN, w ∈ zTHR := fun w h => List.mem_append_right _ h
theorem zTHR_k : zTHR.all zKp = true := by decide +kernel
/-- what stands around the class's worlds where it throws -/
def zD : (Nat → Prop) → State → Prop := fun A U => zC A U ∧ (∀ w ∈ zTHR, va_Nw w U) ∧ (∀ q ∈ zSTR, ∃ a, vk_R RX5 q.1 q.2 a U) ∧ vx_Zq Bundle.tN "UNASSIGNED_STACK" Bundle.steD A U U.heap ∧ vx_Zq Bundle.tN "SUPPRESSED_SENTINEL" Bundle.listD A U U.heap
theorem zD_ok : zOK zD := by
  intro A A' s U H locs hX hS hA hU hvm
  refine ⟨zC_ok A A' s U H locs hX.1 hS hA hU hvm, fun w hw => zKp_warm (List.all_eq_true.mp zTHR_k w hw) hvm (hX.2.1 w hw), fun q hq => ?_, ?_, ?_⟩
  · obtain ⟨a, ha⟩ := hX.2.2.1 q hq
    exact ⟨a, vk_R.warm hvm ha⟩
  · rw [hU]; exact vx_Zq.moved hvm.alike ((hX.2.2.2.1.kept hS.2.1).narrow hA)
  · rw [hU]; exact vx_Zq.moved hvm.alike ((hX.2.2.2.2.kept hS.2.1).narrow hA)
section ZX
variable {p : Program} {l : Launch} {e : Env} {R : Room} {s : State} {m : MethodId} {args : Array Value} {below : List Frame} {meth : Method} {c : Code} {H : Heap} {locs : List Loc} {cc : ByteArray} {pc : Nat} {ls : Array Slot} {rest st0 : List Value} {D : va_G} {cl : List vw_C} {w w' w0 w1 : va_W} {a : Array Value}
theorem zthrowS {own cls text : String} {ik is ic : Nat} (hx : p.tables.exec = Jvm.exec) (hb : c.code = cc) (hl0 : l.stackTraces = false) (hown : s.vm.findClass own = some m.cls) (hcls : Bundle.fit cls = true)
    (hk : (Cond.classLink own ik cls).before args s = true) (hini : (Cond.initialized cls).before args s = true) (hstr : ∃ sa, vk_R own is text sa s) (hat : ∀ w ∈ vx_atS own ic cls zEXN, va_Nw w s)
    (hgd : (Cond.classLink own ik cls :: Cond.initialized cls :: vx_atS own ic cls zEXN).all (fun w => w.onTables) = true)
    (hU : vx_Zq Bundle.tN "UNASSIGNED_STACK" Bundle.steD (va_A w s.heap.size) s s.heap) (hN : vx_Zq Bundle.tN "SUPPRESSED_SENTINEL" Bundle.listD (va_A w s.heap.size) s s.heap)
    (hP : va_P D cl w' H) (hD : va_D (va_A w s.heap.size) w') (hS : va_S (va_A w s.heap.size) s.heap H locs) (hsize : ls.size = c.maxLocals)
    (d0 : decode cc pc = .ok (.new ik, 3)) (d3 : decode cc (pc + 3) = .ok (.dup, 1)) (d4 : decode cc (pc + 4) = .ok (.ldc is, 2)) (d6 : decode cc (pc + 6) = .ok (.invokespecial ic, 3)) (d9 : decode cc (pc + 9) = .ok (.athrow, 1))
    (hnx : ∀ x ∈ c.exceptionTable.toList, False) (hRf : 6 ≤ R.frames) (hRl : (rest.map fun v => v.category).sum + 82 ≤ R.locals) (hRc : 1 ≤ R.cells) (hRs : 6 ≤ R.slots) (hlk : meth.locks = false) :
    W p l e R s m args below meth c H locs 0 0 (vx_MQ below (zQF w s.heap.size) (zXc cls D cl w w' s.heap.size) args s 1 6 (va_A w s.heap.size)) (F0 m pc ls rest) := by
  obtain ⟨sa, hstr⟩ := hstr
  have hon : ∀ z ∈ Cond.classLink own ik cls :: Cond.initialized cls :: vx_atS own ic cls zEXN, z.onTables = true := List.all_eq_true.mp hgd
  refine vx_throwS (names := zEXN) (sa := sa) (text := text) (cls := cls) (ik := ik) (is := is) (ic := ic) (A := va_A w s.heap.size) hx hb hl0 hown hcls zEXN_fit hk hini hstr (fun z hz => va_Nw.use (hon z (List.mem_cons_of_mem _ (List.mem_cons_of_mem _ hz))) (hat z hz)) (fun z hz => by unfold vx_ot; rw [hon z hz]; rfl) hU hN hS hsize d0 d3 d4 d6 d9 (fun x hx => (hnx x hx).elim) hRf hRl ?_ ?_ hlk (fun t ha hz hk => ⟨(), trivial, ⟨rfl, hP.kept (fun k q h => hk q.1 (hP k q h).lt), hD⟩, ⟨Nat.le_trans hS.1 hz, fun q h1 h2 => ?_⟩⟩) hS.2.2 ?_ ?_
  · omega
  · omega
  · rw [hk q (Nat.lt_of_lt_of_le h1 hS.1)]; exact hS.2.1 q h1 h2
  · omega
  · omega
theorem zthrowN {own cls text : String} {ik is ic : Nat} (hx : p.tables.exec = Jvm.exec) (hb : c.code = cc) (hl0 : l.stackTraces = false) (hown : s.vm.findClass own = some m.cls) (hcls : Bundle.fit cls = true)
    (hk : (Cond.classLink own ik cls).before args s = true) (hini : (Cond.initialized cls).before args s = true) (hstr : ∃ sa, vk_R own is text sa s) (hat : ∀ w ∈ zAtN own ic cls, va_Nw w s)
    (hgd : (Cond.classLink own ik cls :: Cond.initialized cls :: zAtN own ic cls).all (fun w => w.onTables) = true)
    (hU : vx_Zq Bundle.tN "UNASSIGNED_STACK" Bundle.steD (va_A w s.heap.size) s s.heap) (hN : vx_Zq Bundle.tN "SUPPRESSED_SENTINEL" Bundle.listD (va_A w s.heap.size) s s.heap)
    (hP : va_P D cl w' H) (hD : va_D (va_A w s.heap.size) w') (hS : va_S (va_A w s.heap.size) s.heap H locs) (hsize : ls.size = c.maxLocals)
    (d0 : decode cc pc = .ok (.new ik, 3)) (d3 : decode cc (pc + 3) = .ok (.dup, 1)) (d4 : decode cc (pc + 4) = .ok (.ldc is, 2)) (d6 : decode cc (pc + 6) = .ok (.invokespecial ic, 3)) (d9 : decode cc (pc + 9) = .ok (.athrow, 1))
    (hnx : ∀ x ∈ c.exceptionTable.toList, False) (hRf : 6 ≤ R.frames) (hRl : (rest.map fun v => v.category).sum + 82 ≤ R.locals) (hRc : 1 ≤ R.cells) (hRs : 6 ≤ R.slots) (hlk : meth.locks = false) :
    W p l e R s m args below meth c H locs 0 0 (vx_MQ below (zQF w s.heap.size) (zXc cls D cl w w' s.heap.size) args s 1 6 (va_A w s.heap.size)) (F0 m pc ls rest) := by
  obtain ⟨sa, hstr⟩ := hstr
  have hon : ∀ z ∈ Cond.classLink own ik cls :: Cond.initialized cls :: zAtN own ic cls, z.onTables = true := List.all_eq_true.mp hgd
  subst hb
  intro T hT X
  have htr : e.platform.stackTraces = false := (show e.platform.stackTraces = l.stackTraces by rw [X.admits.platform]).trans hl0
  have Y := vx_rebase X (R' := { frames := R.frames, locals := R.locals, cells := 1, slots := 6 }) (Nat.le_refl _) (Nat.le_refl _) (by show 0 + 1 ≤ R.cells; omega) (by show 0 + 6 ≤ R.slots; omega)
  generalize hA : (T.setVm s.vm).setFrames (.invoking m args :: below) = z at Y
  have hvm : z.vm = s.vm := by rw [← hA]; rfl
  have hhp : z.heap = H := by rw [← hA]; exact hT
  have hW0 : s.WarmedH z.vm := by rw [hvm]; exact State.WarmedH.refl s
  have hat1 : ∀ w ∈ zAtN own ic cls, w.before args z = true := fun w hw => va_tabs (hon w (List.mem_cons_of_mem _ (List.mem_cons_of_mem _ hw))) hvm.symm (va_Nw.use (A := args) (hon w (List.mem_cons_of_mem _ (List.mem_cons_of_mem _ hw))) (hat w hw))
  have hk1 : (Cond.classLink own ik cls).before args z = true := va_tabs (hon _ List.mem_cons_self) hvm.symm hk
  have hini1 : (Cond.initialized cls).before args z = true := va_tabs (hon _ (List.mem_cons_of_mem _ List.mem_cons_self)) hvm.symm hini
  have hU1 : vx_Zq Bundle.tN "UNASSIGNED_STACK" Bundle.steD (va_A w s.heap.size) z z.heap := by rw [hhp]; exact vx_Zq.moved hW0.alike (hU.kept hS.2.1)
  have hN1 : vx_Zq Bundle.tN "SUPPRESSED_SENTINEL" Bundle.listD (va_A w s.heap.size) z z.heap := by rw [hhp]; exact vx_Zq.moved hW0.alike (hN.kept hS.2.1)
  have h : ∀ w ∈ zOwn own ic cls "java/lang/RuntimeException" ["java/lang/Exception"] 13 zNb13, w.before args z = true := vx_own hat1 (vx_isRefq hU1.1) (vx_isRefq hN1.1) hU1.2.word hN1.2.word
  have hown1 : z.vm.findClass own = some m.cls := by rw [hvm]; exact hown
  obtain ⟨vm1, cX, kX, hfX, hkX, -, -, X1, st1⟩ := Y.newCold hx (own := own) (C := cls) (index := ik) (n := 6) hown1 hk1 (h _ (List.mem_append_right _ (List.mem_append_right _ (List.mem_append_right _ (List.mem_append_right _ (List.mem_cons_of_mem _ List.mem_cons_self)))))) hini1
    (g := F0 m pc ls rest) rfl d0 (Nat.le_refl _) (Nat.le_refl _)
  generalize hT1 : (T.setVm vm1).pushCell { cls := cX, slots := kX.instanceTypes.map defaultValue, vm := .none } = T1 at X1 st1
  have hcat : (Value.ref T.heap.size).category = 1 := rfl
  obtain ⟨U, hsteps, hrun, hend, hWU, hsame, ce, hce, hcv, hcl⟩ := zctorN X1 hx htr (own := own) (cls := cls) (ic := ic) hown1 hcls (by decide +kernel) (by decide +kernel) (by decide +kernel) (by decide +kernel) (by decide +kernel) (by decide +kernel) h (fun x hx => nomatch hx) hfX hkX
    (q := T.heap.size) (by rw [← hT1]; exact State.heap_pushCell_size _ _) (by rw [hhp, hT]; exact Nat.le_refl _) (msg := .ref sa) rfl
    (g := { method := m, pc := pc + 6, locals := ls, stack := .ref sa :: .ref T.heap.size :: .ref T.heap.size :: rest, locked := none }) rfl hsize rfl rfl (rest := rest) rfl
    d6 d9 (fun x hx => (hnx x hx).elim) (by show 1 + 4 < R.frames; omega) (by show 2 * 0 + _ + (13 * (1 + 2) + 42) ≤ R.locals; simp only [List.map_cons, List.sum_cons, hcat]; omega) hlk
  obtain ⟨f1, f2⟩ := vx_frame hsame
  rw [hhp] at f1 f2
  rw [hvm] at hcl
  have hWs : s.WarmedH U.vm := State.WarmedH.trans hW0 hWU
  have hall : s.sameButNew ({ U with vm := s.vm } : State) locs 1 6 := by
    subst hA
    obtain ⟨e1, e2⟩ := hsame
    rw [State.setFrames_setFrames] at e1
    have h2 : (T.setVm s.vm).sameButNew ({ U with vm := s.vm } : State) [] (0 + 1) (0 + 6) := ⟨e1, e2⟩
    have h3 := X.same.trans h2
    rw [List.append_nil] at h3
    exact h3.mono (Nat.le_refl _) (Nat.le_refl _)
  have hsame9 : ∀ q : Nat, q < H.size → U.heap[q]? = H[q]? := fun q hq => f2 q hq (fun z hz => nomatch hz)
  refine ⟨U, st1 _ ?_, .threw T.heap.size, hrun, hend, Or.inr ⟨T.heap.size, rfl, cls, ce, locs, ⟨(), trivial, ⟨rfl, hP.kept (fun k q h => hsame9 q.1 (hP k q h).lt), hD⟩, ⟨Nat.le_trans hS.1 f1, fun q h1 h2 => ?_⟩⟩, hce, hcv, hcl, hWs, hall, hS.2.2⟩⟩
  · show Steps p.tables e below (T1.setTop { method := m, pc := pc + 3, locals := ls, stack := .ref T.heap.size :: rest, locked := none }) _
    jvm_step X1.here [X1.here.top, hx, d3, Value.category]
    have hstr1 : vk_R own is text sa z := vk_R.warm hW0 hstr
    exact X1.ldcString hx (own := own) (text := text) (index := is) (a := sa) hown1 hstr1.1 hstr1.2
      (g := { method := m, pc := pc + 4, locals := ls, stack := .ref T.heap.size :: .ref T.heap.size :: rest, locked := none }) rfl d4 _ hsteps
  · rw [hsame9 q (Nat.lt_of_lt_of_le h1 hS.1)]; exact hS.2.1 q h1 h2
theorem zxW {E : String} (hr : vx_Run p l e R s m args below meth c H locs 0 0 1 6 (F0 m pc ls st0) rest (zQF w H.size a) (zXc E D cl w w1 H.size) (va_A w H.size)) (hS : va_S (va_A w0 s.heap.size) s.heap H locs) (hF : ∀ q, va_A w H.size q → va_A w0 s.heap.size q) (hnx : ∀ x ∈ c.exceptionTable.toList, False) (hlk : meth.locks = false) :
    W p l e R s m args below meth c H locs 0 0 (vx_MQ below (zQF w0 s.heap.size) (zXc E D cl w0 w1 s.heap.size) args s 1 6 (va_A w0 s.heap.size)) (F0 m pc ls st0) := by
  refine vx_callv hr hS (fun q _ h => hF q h) hF (fun q _ h => hF q h) (fun E' ce q9 u t H1 locs1 ht hvm _ hB hz hk hS1 hce hcv hcl => ?_) (fun u t H1 locs1 _ _ hf => hf.elim)
  obtain ⟨rfl, hP1, hD1⟩ := hB
  exact vx_out (fun x hx => (hnx x hx).elim) hlk hce hcv hcl (fun t' ht' ha => ⟨(), trivial, ⟨rfl, by rw [ht', ← ht]; exact hP1, hD1.weaken (fun _ _ _ h => hF _ h)⟩, hS1.F ht'⟩) hS1.2.2 (Nat.le_refl _) (Nat.le_refl _)
theorem zxC {E own name : String} {A : Nat → Prop} {Q : State → Prop} (hr : vx_Run p l e R s m args below meth c H locs 0 0 1 6 (F0 m pc ls st0) rest (zQF w H.size a) (zXc E D cl w w1 H.size) (va_A w H.size)) (hS : va_S A s.heap H locs) (hF : ∀ q, va_A w H.size q → A q) (hown : s.vm.findClass own = some m.cls) (pre : List ExceptionTableEntry) (x : ExceptionTableEntry) (suf : List ExceptionTableEntry) (hsplit : c.exceptionTable.toList = pre ++ x :: suf)
    (hpass : ∀ z ∈ pre, covers z pc = false ∨ (z.catchType ≠ 0 ∧ ∃ nm : String, (Cond.classLink own z.catchType nm).before args s = true ∧ va_Nc E nm s)) (hx : covers x pc = true) (h0 : x.catchType ≠ 0)
    (hlink : (Cond.classLink own x.catchType name).before args s = true) (hcast : (Cond.castable E name).before args s = true)
    (kk : ∀ (q9 : Nat) (H1 : Heap) (locs1 : List Loc), va_P D cl w1 H1 → va_D A w1 → va_S A s.heap H1 locs1 → W p l e R s m args below meth c H1 locs1 (0 + 1) (0 + 6) Q (F0 m x.handlerPc ls [.ref q9])) :
    W p l e R s m args below meth c H locs 0 0 Q (F0 m pc ls st0) := by
  refine vx_callv hr hS (fun q _ h => hF q h) hF (fun q _ h => hF q h) (fun E' ce q9 u t H1 locs1 ht hvm _ hB hz hk hS1 hce hcv hcl => ?_) (fun u t H1 locs1 _ _ hf => hf.elim)
  obtain ⟨rfl, hP1, hD1⟩ := hB
  exact vx_catch hown pre x suf hsplit hpass hx h0 hlink hcast hce hcv hcl (kk q9 H1 locs1 (by rw [← ht]; exact hP1) (hD1.weaken (fun _ _ _ h => hF _ h)) hS1)
theorem zreti1 {r : Int32} (hx : p.tables.exec = Jvm.exec) (hb : c.code = cc) (hr : meth.sig.returnType = some .int) (hlk : meth.locks = false) (hP : va_P D cl w' H) (hD : va_D (va_A w s.heap.size) w') (hS : va_S (va_A w s.heap.size) s.heap H locs) (hdg : decode cc pc = .ok (.ireturn, 1)) :
    W p l e R s m args below meth c H locs 1 6 (MQ below (zQi D cl w w' s.heap.size r) args s 1 6 (va_A w s.heap.size)) (F0 m pc ls [.int r]) :=
  W.iret (v := r) hx hb hr (fun t ht _ => ⟨⟨r, (), rfl, rfl, by rw [ht]; exact hP, hD⟩, hS.F ht⟩) hS.2.2 hdg hlk
end ZX
/-- what stands around the law's worlds -/
def zW : (Nat → Prop) → State → Prop := fun A U => zD A U ∧ va_Nc "java/lang/IllegalArgumentException" "java/lang/IllegalStateException" U ∧ va_Nc "java/lang/IllegalArgumentException" "java/util/NoSuchElementException" U ∧ va_Nc "java/lang/UnsupportedOperationException" "java/util/NoSuchElementException" U ∧ va_Nc "java/lang/UnsupportedOperationException" "java/lang/IllegalArgumentException" U
theorem zW_ok : zOK zW := by
  intro A A' s U H locs hX hS hA hU hvm
  exact ⟨zD_ok A A' s U H locs hX.1 hS hA hU hvm, va_Nc.moved hvm.alike hX.2.1, va_Nc.moved hvm.alike hX.2.2.1, va_Nc.moved hvm.alike hX.2.2.2.1, va_Nc.moved hvm.alike hX.2.2.2.2⟩
theorem zEnterW {l : Launch} {y : MethodName} {cc : ByteArray} {nL : Nat} {ret : Option FieldType} {hh : List (Nat × Nat × Nat × Nat)} {rm : Room} {Qc : Array Value → State → Outcome → State → Prop} {mc ms : Nat} {free : Addr → Prop} {X : (Nat → Prop) → State → Prop} {D : va_G} {cl : List vw_C} {tys : List (ClassId × FieldType)} {w : va_W} {sz : Nat} (own : String) (av : List Value) (hy : plainName y.cls = true) (ho : y.cls = own) (hlen : (lg_sl av).length ≤ nL)
    (body : ∀ (p : Program) (e : Env) (s : State) (m : MethodId) (below : List Frame) (meth : Method) (c : Code) (ls : Array Slot), c.exceptionTable.toList = tableOf hh → zG p s m av.toArray meth c cc own nL ret → va_K D cl tys s → X (va_A w s.heap.size) s → va_P D cl w s.heap → va_D (va_A w s.heap.size) w → s.heap.size = sz → lv_has ls nL (lv_args 0 av) → W p l e rm s m av.toArray below meth c s.heap [] 0 0 (MQ below Qc av.toArray s mc ms free) (F0 m 0 ls [])) :
    Met l y (Cond.codeWith y cc nL ret hh :: zBIG) rm (va_Pc av (zP X D cl tys w sz)) Qc mc ms free := by
  subst ho
  refine va_MetW (cc := cc) (maxL := nL) (ret := ret) hy rfl ?_
  intro p e s m args below meth c s₁ B hml hv
  obtain ⟨rfl, hsz, hP, hK, hD0, hX⟩ := hv
  have hl := lv_entry av (n := nL) hlen
  rw [lg_entry_eq]
  subst hsz
  have hts := atoms_spec (ws := Cond.codeWith y cc nL ret hh :: zBIG) B.pre
  exact body p e s m below meth c _ (vx_table (x := y) B (hts _ List.mem_cons_self)) ⟨B.exec, B.bytes, B.returns, hml, findClass_of_methodNamed B.named, fun w h => hts w (List.mem_cons_of_mem _ h), B.notSynchronized⟩ hK hX hP hD0.self rfl hl
