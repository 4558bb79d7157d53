theorem dL_declare_0 : decode cL_declare 0 = .ok (.aload_n 2, 1) := by decide +kernel
theorem dL_declare_1 : decode cL_declare 1 = .ok (.iconst 0, 1) := by decide +kernel
theorem dL_declare_2 : decode cL_declare 2 = .ok (.aload_n 0, 1) := by decide +kernel
theorem dL_declare_3 : decode cL_declare 3 = .ok (.iload_n 1, 1) := by decide +kernel
theorem dL_declare_4 : decode cL_declare 4 = .ok (.invokevirtual 7, 3) := by decide +kernel
theorem dL_declare_7 : decode cL_declare 7 = .ok (.i2l, 1) := by decide +kernel
theorem dL_declare_8 : decode cL_declare 8 = .ok (.lastore, 1) := by decide +kernel
theorem dL_declare_9 : decode cL_declare 9 = .ok (.goto 9, 3) := by decide +kernel
theorem dL_declare_12 : decode cL_declare 12 = .ok (.astore_n 3, 1) := by decide +kernel
theorem dL_declare_13 : decode cL_declare 13 = .ok (.iconst 1, 1) := by decide +kernel
theorem dL_declare_14 : decode cL_declare 14 = .ok (.ireturn, 1) := by decide +kernel
theorem dL_declare_15 : decode cL_declare 15 = .ok (.astore_n 3, 1) := by decide +kernel
theorem dL_declare_16 : decode cL_declare 16 = .ok (.iconst 2, 1) := by decide +kernel
theorem dL_declare_17 : decode cL_declare 17 = .ok (.ireturn, 1) := by decide +kernel
theorem dL_declare_18 : decode cL_declare 18 = .ok (.iconst 0, 1) := by decide +kernel
theorem dL_declare_19 : decode cL_declare 19 = .ok (.ireturn, 1) := by decide +kernel
def m_L_declare_N (a1 : Int32) (pv : Nat → Int32) (y : Nat → Int32) (sv : Nat → Int32) (sr : Nat → Int32) (nf : Nat → Option Nat) (tf : Nat → Option Nat) (ef : Nat → Option Nat) (dc : Nat → Option Nat) (vn : Nat → Int32) (bn : Nat → Int32) (vt : Nat → Int32) (bt : Nat → Int32) (v : Nat → Int32) (b : Nat → Int32) (rw : Nat → Int32) (pw : Nat → Int32) (ov : Nat → Int64) (aNn : Nat) : Option ((Int32) × (Nat → Int32) × (Nat → Int32) × (Nat → Int32) × (Nat → Option Nat) × (Nat → Int32) × (Nat → Int32) × (Nat → Int32) × (Nat → Int32) × (Nat → Int32) × (Nat → Int32) × (Nat → Int64)) := (m_P_declare_N a1 pv y sv sr nf tf ef dc vn bn vt bt v b rw pw aNn).bind (fun q1 => zix 0 1 ((some (0, q1.2.1, q1.2.2.1, q1.2.2.2.1, q1.2.2.2.2.1, q1.2.2.2.2.2.1, q1.2.2.2.2.2.2.1, q1.2.2.2.2.2.2.2.1, q1.2.2.2.2.2.2.2.2.1, q1.2.2.2.2.2.2.2.2.2.1, q1.2.2.2.2.2.2.2.2.2.2, (vp_updL ov (0 : Int32).toNatClampNeg ((q1.1).toInt64))))))
section
variable {p : Program} {l : Launch} {e : Env} {s : State} {m : MethodId} {args : Array Value} {below : List Frame} {meth : Method} {c : Code} {D : va_G} {w0 : va_W} {aQ aY aS rS aNs aTs aEs aDc aNn bNn aTt bTt aE bE rE pE aO : Nat} {cy cs cn ct ce cd c1n c1t c1 c2 c3 co : ClassId} {y : Nat → Int32} {nf : Nat → Option Nat} {tf : Nat → Option Nat} {ef : Nat → Option Nat} {bt : Nat → Int32} {b : Nat → Int32}
end
set_option maxRecDepth 100000 in
set_option maxHeartbeats 4000000 in
theorem k_L_declare_N (l : Launch) (D : va_G) (aQ aY aS rS aNs aTs aEs aDc aNn bNn aTt bTt aE bE rE pE aO : Nat) (cy cs cn ct ce cd c1n c1t c1 c2 c3 co : ClassId) (sz : Nat) (a1 : Int32) (pv : Nat → Int32) (y : Nat → Int32) (sv : Nat → Int32) (sr : Nat → Int32) (nf : Nat → Option Nat) (tf : Nat → Option Nat) (ef : Nat → Option Nat) (dc : Nat → Option Nat) (vn : Nat → Int32) (bn : Nat → Int32) (vt : Nat → Int32) (bt : Nat → Int32) (v : Nat → Int32) (b : Nat → Int32) (rw : Nat → Int32) (pw : Nat → Int32) (ov : Nat → Int64) (hdN : nf (pv 7).toNatClampNeg = some aNn) (hdT : tf (pv 7).toNatClampNeg = some aTt) (hdE : ef (pv 7).toNatClampNeg = some aE) (res : (Int32) × (Nat → Int32) × (Nat → Int32) × (Nat → Int32) × (Nat → Option Nat) × (Nat → Int32) × (Nat → Int32) × (Nat → Int32) × (Nat → Int32) × (Nat → Int32) × (Nat → Int32) × (Nat → Int64)) (hm : m_L_declare_N a1 pv y sv sr nf tf ef dc vn bn vt bt v b rw pw ov aNn = some res) : Met l yL_declare (Cond.codeWith yL_declare cL_declare 4 (some .int) [(0, 9, 12, 13), (0, 9, 15, 15)] :: zBIG) (zR 7 150) (va_Pc [.ref aQ, .int a1, .ref aO] (zP zW D vwCl (wQAO_t cy cs cn ct ce cd c1n c1t c1 c2 c3 co) (wQAO aQ aY aS rS aNs aTs aEs aDc aNn bNn aTt bTt aE bE rE pE aO cy cs cn ct ce cd c1n c1t c1 c2 c3 co pv y sv sr nf tf ef dc vn bn vt bt v b rw pw ov) sz)) (zQi D vwCl (wQAO aQ aY aS rS aNs aTs aEs aDc aNn bNn aTt bTt aE bE rE pE aO cy cs cn ct ce cd c1n c1t c1 c2 c3 co pv y sv sr nf tf ef dc vn bn vt bt v b rw pw ov) (wQAO aQ aY aS rS aNs aTs aEs aDc aNn bNn aTt bTt aE bE rE pE aO cy cs cn ct ce cd c1n c1t c1 c2 c3 co res.2.1 y res.2.2.1 res.2.2.2.1 nf tf ef res.2.2.2.2.1 res.2.2.2.2.2.1 res.2.2.2.2.2.2.1 res.2.2.2.2.2.2.2.1 bt res.2.2.2.2.2.2.2.2.1 b res.2.2.2.2.2.2.2.2.2.1 res.2.2.2.2.2.2.2.2.2.2.1 res.2.2.2.2.2.2.2.2.2.2.2) sz res.1) 0 0 (va_A (wQAO aQ aY aS rS aNs aTs aEs aDc aNn bNn aTt bTt aE bE rE pE aO cy cs cn ct ce cd c1n c1t c1 c2 c3 co pv y sv sr nf tf ef dc vn bn vt bt v b rw pw ov) sz) := by
  refine zEnterW RL [.ref aQ, .int a1, .ref aO] (by decide) rfl (Nat.le_of_ble_eq_true rfl) (fun p e s m below meth c ls htb G hK hX hP hD hsz hl => ?_)
  subst hsz
  unfold m_L_declare_N at hm
  have hl : lv_has ls 4 [(0, .ref aQ), (1, .int a1), (2, .ref aO)] := hl
  have hS : va_S (va_A (wQAO aQ aY aS rS aNs aTs aEs aDc aNn bNn aTt bTt aE bE rE pE aO cy cs cn ct ce cd c1n c1t c1 c2 c3 co pv y sv sr nf tf ef dc vn bn vt bt v b rw pw ov) s.heap.size) s.heap s.heap [] := va_S.rf
  have hA : ∀ q, s.heap.size ≤ q → va_A (wQAO aQ aY aS rS aNs aTs aEs aDc aNn bNn aTt bTt aE bE rE pE aO cy cs cn ct ce cd c1n c1t c1 c2 c3 co pv y sv sr nf tf ef dc vn bn vt bt v b rw pw ov) s.heap.size q := fun q h => Or.inr h
  have G0 := G
  obtain ⟨hx, hb, hr, hml, hown, hw, hlk⟩ := G
  refine lv_aload_n hx hb dL_declare_0 rfl (lv_at hl 2 rfl) ?_
  refine lv_iconst (v := 0) hx hb dL_declare_1 (by decide) ?_
  refine lv_aload_n hx hb dL_declare_2 rfl (lv_at hl 0 rfl) ?_
  refine lv_iload_n hx hb dL_declare_3 rfl (lv_at hl 1 rfl) ?_
  obtain ⟨q1, hq1, hm⟩ := zbind hm
  have hPc := hP.sub (ws' := (wQA aQ aY aS rS aNs aTs aEs aDc aNn bNn aTt bTt aE bE rE pE cy cs cn ct ce cd c1n c1t c1 c2 c3 pv y sv sr nf tf ef dc vn bn vt bt v b rw pw)) [0, 1, 2, 3, 4, 5, 6, 7, 8, 9, 10, 11, 12, 13, 14, 15] rfl
  have hDc := hD.sub (ws' := (wQA aQ aY aS rS aNs aTs aEs aDc aNn bNn aTt bTt aE bE rE pE cy cs cn ct ce cd c1n c1t c1 c2 c3 pv y sv sr nf tf ef dc vn bn vt bt v b rw pw)) [0, 1, 2, 3, 4, 5, 6, 7, 8, 9, 10, 11, 12, 13, 14, 15] (by decide) rfl
  have hKc := hK.sub (tys' := wQA_t cy cs cn ct ce cd c1n c1t c1 c2 c3) [0, 1, 2, 3, 4, 5, 6, 7, 8, 9, 10] rfl
  have hFc := va_free (wc := (wQA aQ aY aS rS aNs aTs aEs aDc aNn bNn aTt bTt aE bE rE pE cy cs cn ct ce cd c1n c1t c1 c2 c3 pv y sv sr nf tf ef dc vn bn vt bt v b rw pw)) hD hS hA [0, 1, 2, 3, 4, 5, 6, 7, 8, 9, 10, 11, 12, 13, 14, 15] rfl
  refine zbSi (wr := [(aO, .inl (co, 1, .inr (.inl ov)))]) (w1 := (wQA aQ aY aS rS aNs aTs aEs aDc aNn bNn aTt bTt aE bE rE pE cy cs cn ct ce cd c1n c1t c1 c2 c3 q1.2.1 y q1.2.2.1 q1.2.2.2.1 nf tf ef q1.2.2.2.2.1 q1.2.2.2.2.2.1 q1.2.2.2.2.2.2.1 q1.2.2.2.2.2.2.2.1 bt q1.2.2.2.2.2.2.2.2.1 b q1.2.2.2.2.2.2.2.2.2.1 q1.2.2.2.2.2.2.2.2.2.2)) (w' := (wQAO aQ aY aS rS aNs aTs aEs aDc aNn bNn aTt bTt aE bE rE pE aO cy cs cn ct ce cd c1n c1t c1 c2 c3 co q1.2.1 y q1.2.2.1 q1.2.2.2.1 nf tf ef q1.2.2.2.2.1 q1.2.2.2.2.2.1 q1.2.2.2.2.2.2.1 q1.2.2.2.2.2.2.2.1 bt q1.2.2.2.2.2.2.2.2.1 b q1.2.2.2.2.2.2.2.2.2.1 q1.2.2.2.2.2.2.2.2.2.2 ov)) (va_runV (As := [.int a1]) (rest := [.int 0, .ref aO]) ⟨hx, hb, hml, hown, hw⟩ (k_P_declare_N l D aQ aY aS rS aNs aTs aEs aDc aNn bNn aTt bTt aE bE rE pE cy cs cn ct ce cd c1n c1t c1 c2 c3 _ a1 pv y sv sr nf tf ef dc vn bn vt bt v b rw pw hdN hdT hdE q1 hq1) (zcV (C := RX5) 1 hw (zgood zw508) rfl rfl rfl zw176 zw510 zw509 zw511 hdX5_declare ⟨Nat.le_of_ble_eq_true rfl, Nat.le_of_ble_eq_true rfl⟩) (zpreV (zpre zC_ok hX.1.1 hS hFc hPc hKc hDc) (va_recv hK hP rfl (q0 := 0) rfl)) rfl rfl hl.1 rfl (lv_room (Nat.le_of_ble_eq_true rfl)) dL_declare_4 ⟨Nat.zero_le _, Nat.zero_le _⟩) hP hD hS hFc [0, 1, 2, 3, 4, 5, 6, 7, 8, 9, 10, 11, 12, 13, 14, 15] [16] [1, 2, 3, 4, 5, 6, 7, 8, 9, 10, 11, 12, 13, 14, 15, 16, 0] rfl rfl (by decide) (by decide) rfl (by decide) (fun H locs hP hD hS => ?_)
  refine lv_i2l (v := ((q1.1).toInt64)) hx hb dL_declare_7 rfl ?_
  obtain ⟨hi2, hm⟩ := zix_s hm
  refine va_last (i := 0) (x := ((q1.1).toInt64)) (f := ov) (n := 1) hx hb hK hP hD hS 16 11 rfl rfl hi2 dL_declare_8 (fun H locs hP hD hS => ?_)
  have hP : va_P D vwCl (wQAO aQ aY aS rS aNs aTs aEs aDc aNn bNn aTt bTt aE bE rE pE aO cy cs cn ct ce cd c1n c1t c1 c2 c3 co q1.2.1 y q1.2.2.1 q1.2.2.2.1 nf tf ef q1.2.2.2.2.1 q1.2.2.2.2.2.1 q1.2.2.2.2.2.2.1 q1.2.2.2.2.2.2.2.1 bt q1.2.2.2.2.2.2.2.2.1 b q1.2.2.2.2.2.2.2.2.2.1 q1.2.2.2.2.2.2.2.2.2.2 (vp_updL ov (0 : Int32).toNatClampNeg ((q1.1).toInt64))) H := hP
  have hD : va_D _ (wQAO aQ aY aS rS aNs aTs aEs aDc aNn bNn aTt bTt aE bE rE pE aO cy cs cn ct ce cd c1n c1t c1 c2 c3 co q1.2.1 y q1.2.2.1 q1.2.2.2.1 nf tf ef q1.2.2.2.2.1 q1.2.2.2.2.2.1 q1.2.2.2.2.2.2.1 q1.2.2.2.2.2.2.2.1 bt q1.2.2.2.2.2.2.2.2.1 b q1.2.2.2.2.2.2.2.2.2.1 q1.2.2.2.2.2.2.2.2.2.2 (vp_updL ov (0 : Int32).toNatClampNeg ((q1.1).toInt64))) := hD
  refine lv_goto (tgt := 18) hx hb dL_declare_9 rfl ?_
  refine lv_iconst (v := 0) hx hb dL_declare_18 (by decide) ?_
  cases hm
  exact zreti hx hb hr hlk hP hD hS dL_declare_19

def m_L_declare_T (a1 : Int32) (pv : Nat → Int32) (y : Nat → Int32) (sv : Nat → Int32) (sr : Nat → Int32) (nf : Nat → Option Nat) (tf : Nat → Option Nat) (ef : Nat → Option Nat) (dc : Nat → Option Nat) (vn : Nat → Int32) (bn : Nat → Int32) (vt : Nat → Int32) (bt : Nat → Int32) (v : Nat → Int32) (b : Nat → Int32) (rw : Nat → Int32) (pw : Nat → Int32) (ov : Nat → Int64) (aTt : Nat) : Option ((Int32) × (Nat → Int32) × (Nat → Int32) × (Nat → Int32) × (Nat → Option Nat) × (Nat → Int32) × (Nat → Int32) × (Nat → Int32) × (Nat → Int32) × (Nat → Int32) × (Nat → Int32) × (Nat → Int64)) := (m_P_declare_T a1 pv y sv sr nf tf ef dc vn bn vt bt v b rw pw aTt).bind (fun q1 => zix 0 1 ((some (0, q1.2.1, q1.2.2.1, q1.2.2.2.1, q1.2.2.2.2.1, q1.2.2.2.2.2.1, q1.2.2.2.2.2.2.1, q1.2.2.2.2.2.2.2.1, q1.2.2.2.2.2.2.2.2.1, q1.2.2.2.2.2.2.2.2.2.1, q1.2.2.2.2.2.2.2.2.2.2, (vp_updL ov (0 : Int32).toNatClampNeg ((q1.1).toInt64))))))
section
variable {p : Program} {l : Launch} {e : Env} {s : State} {m : MethodId} {args : Array Value} {below : List Frame} {meth : Method} {c : Code} {D : va_G} {w0 : va_W} {aQ aY aS rS aNs aTs aEs aDc aNn bNn aTt bTt aE bE rE pE aO : Nat} {cy cs cn ct ce cd c1n c1t c1 c2 c3 co : ClassId} {y : Nat → Int32} {nf : Nat → Option Nat} {tf : Nat → Option Nat} {ef : Nat → Option Nat} {bn : Nat → Int32} {b : Nat → Int32}
end
set_option maxRecDepth 100000 in
set_option maxHeartbeats 4000000 in
theorem k_L_declare_T (l : Launch) (D : va_G) (aQ aY aS rS aNs aTs aEs aDc aNn bNn aTt bTt aE bE rE pE aO : Nat) (cy cs cn ct ce cd c1n c1t c1 c2 c3 co : ClassId) (sz : Nat) (a1 : Int32) (pv : Nat → Int32) (y : Nat → Int32) (sv : Nat → Int32) (sr : Nat → Int32) (nf : Nat → Option Nat) (tf : Nat → Option Nat) (ef : Nat → Option Nat) (dc : Nat → Option Nat) (vn : Nat → Int32) (bn : Nat → Int32) (vt : Nat → Int32) (bt : Nat → Int32) (v : Nat → Int32) (b : Nat → Int32) (rw : Nat → Int32) (pw : Nat → Int32) (ov : Nat → Int64) (hdN : nf (pv 7).toNatClampNeg = some aNn) (hdT : tf (pv 7).toNatClampNeg = some aTt) (hdE : ef (pv 7).toNatClampNeg = some aE) (res : (Int32) × (Nat → Int32) × (Nat → Int32) × (Nat → Int32) × (Nat → Option Nat) × (Nat → Int32) × (Nat → Int32) × (Nat → Int32) × (Nat → Int32) × (Nat → Int32) × (Nat → Int32) × (Nat → Int64)) (hm : m_L_declare_T a1 pv y sv sr nf tf ef dc vn bn vt bt v b rw pw ov aTt = some res) : Met l yL_declare (Cond.codeWith yL_declare cL_declare 4 (some .int) [(0, 9, 12, 13), (0, 9, 15, 15)] :: zBIG) (zR 7 150) (va_Pc [.ref aQ, .int a1, .ref aO] (zP zW D vwCl (wQAO_t cy cs cn ct ce cd c1n c1t c1 c2 c3 co) (wQAO aQ aY aS rS aNs aTs aEs aDc aNn bNn aTt bTt aE bE rE pE aO cy cs cn ct ce cd c1n c1t c1 c2 c3 co pv y sv sr nf tf ef dc vn bn vt bt v b rw pw ov) sz)) (zQi D vwCl (wQAO aQ aY aS rS aNs aTs aEs aDc aNn bNn aTt bTt aE bE rE pE aO cy cs cn ct ce cd c1n c1t c1 c2 c3 co pv y sv sr nf tf ef dc vn bn vt bt v b rw pw ov) (wQAO aQ aY aS rS aNs aTs aEs aDc aNn bNn aTt bTt aE bE rE pE aO cy cs cn ct ce cd c1n c1t c1 c2 c3 co res.2.1 y res.2.2.1 res.2.2.2.1 nf tf ef res.2.2.2.2.1 res.2.2.2.2.2.1 bn res.2.2.2.2.2.2.1 res.2.2.2.2.2.2.2.1 res.2.2.2.2.2.2.2.2.1 b res.2.2.2.2.2.2.2.2.2.1 res.2.2.2.2.2.2.2.2.2.2.1 res.2.2.2.2.2.2.2.2.2.2.2) sz res.1) 0 0 (va_A (wQAO aQ aY aS rS aNs aTs aEs aDc aNn bNn aTt bTt aE bE rE pE aO cy cs cn ct ce cd c1n c1t c1 c2 c3 co pv y sv sr nf tf ef dc vn bn vt bt v b rw pw ov) sz) := by
  refine zEnterW RL [.ref aQ, .int a1, .ref aO] (by decide) rfl (Nat.le_of_ble_eq_true rfl) (fun p e s m below meth c ls htb G hK hX hP hD hsz hl => ?_)
  subst hsz
  unfold m_L_declare_T at hm
  have hl : lv_has ls 4 [(0, .ref aQ), (1, .int a1), (2, .ref aO)] := hl
  have hS : va_S (va_A (wQAO aQ aY aS rS aNs aTs aEs aDc aNn bNn aTt bTt aE bE rE pE aO cy cs cn ct ce cd c1n c1t c1 c2 c3 co pv y sv sr nf tf ef dc vn bn vt bt v b rw pw ov) s.heap.size) s.heap s.heap [] := va_S.rf
  have hA : ∀ q, s.heap.size ≤ q → va_A (wQAO aQ aY aS rS aNs aTs aEs aDc aNn bNn aTt bTt aE bE rE pE aO cy cs cn ct ce cd c1n c1t c1 c2 c3 co pv y sv sr nf tf ef dc vn bn vt bt v b rw pw ov) s.heap.size q := fun q h => Or.inr h
  have G0 := G
  obtain ⟨hx, hb, hr, hml, hown, hw, hlk⟩ := G
  refine lv_aload_n hx hb dL_declare_0 rfl (lv_at hl 2 rfl) ?_
  refine lv_iconst (v := 0) hx hb dL_declare_1 (by decide) ?_
  refine lv_aload_n hx hb dL_declare_2 rfl (lv_at hl 0 rfl) ?_
  refine lv_iload_n hx hb dL_declare_3 rfl (lv_at hl 1 rfl) ?_
  obtain ⟨q1, hq1, hm⟩ := zbind hm
  have hPc := hP.sub (ws' := (wQA aQ aY aS rS aNs aTs aEs aDc aNn bNn aTt bTt aE bE rE pE cy cs cn ct ce cd c1n c1t c1 c2 c3 pv y sv sr nf tf ef dc vn bn vt bt v b rw pw)) [0, 1, 2, 3, 4, 5, 6, 7, 8, 9, 10, 11, 12, 13, 14, 15] rfl
  have hDc := hD.sub (ws' := (wQA aQ aY aS rS aNs aTs aEs aDc aNn bNn aTt bTt aE bE rE pE cy cs cn ct ce cd c1n c1t c1 c2 c3 pv y sv sr nf tf ef dc vn bn vt bt v b rw pw)) [0, 1, 2, 3, 4, 5, 6, 7, 8, 9, 10, 11, 12, 13, 14, 15] (by decide) rfl
  have hKc := hK.sub (tys' := wQA_t cy cs cn ct ce cd c1n c1t c1 c2 c3) [0, 1, 2, 3, 4, 5, 6, 7, 8, 9, 10] rfl
  have hFc := va_free (wc := (wQA aQ aY aS rS aNs aTs aEs aDc aNn bNn aTt bTt aE bE rE pE cy cs cn ct ce cd c1n c1t c1 c2 c3 pv y sv sr nf tf ef dc vn bn vt bt v b rw pw)) hD hS hA [0, 1, 2, 3, 4, 5, 6, 7, 8, 9, 10, 11, 12, 13, 14, 15] rfl
  refine zbSi (wr := [(aO, .inl (co, 1, .inr (.inl ov)))]) (w1 := (wQA aQ aY aS rS aNs aTs aEs aDc aNn bNn aTt bTt aE bE rE pE cy cs cn ct ce cd c1n c1t c1 c2 c3 q1.2.1 y q1.2.2.1 q1.2.2.2.1 nf tf ef q1.2.2.2.2.1 q1.2.2.2.2.2.1 bn q1.2.2.2.2.2.2.1 q1.2.2.2.2.2.2.2.1 q1.2.2.2.2.2.2.2.2.1 b q1.2.2.2.2.2.2.2.2.2.1 q1.2.2.2.2.2.2.2.2.2.2)) (w' := (wQAO aQ aY aS rS aNs aTs aEs aDc aNn bNn aTt bTt aE bE rE pE aO cy cs cn ct ce cd c1n c1t c1 c2 c3 co q1.2.1 y q1.2.2.1 q1.2.2.2.1 nf tf ef q1.2.2.2.2.1 q1.2.2.2.2.2.1 bn q1.2.2.2.2.2.2.1 q1.2.2.2.2.2.2.2.1 q1.2.2.2.2.2.2.2.2.1 b q1.2.2.2.2.2.2.2.2.2.1 q1.2.2.2.2.2.2.2.2.2.2 ov)) (va_runV (As := [.int a1]) (rest := [.int 0, .ref aO]) ⟨hx, hb, hml, hown, hw⟩ (k_P_declare_T l D aQ aY aS rS aNs aTs aEs aDc aNn bNn aTt bTt aE bE rE pE cy cs cn ct ce cd c1n c1t c1 c2 c3 _ a1 pv y sv sr nf tf ef dc vn bn vt bt v b rw pw hdN hdT hdE q1 hq1) (zcV (C := RX5) 1 hw (zgood zw508) rfl rfl rfl zw176 zw510 zw509 zw511 hdX5_declare ⟨Nat.le_of_ble_eq_true rfl, Nat.le_of_ble_eq_true rfl⟩) (zpreV (zpre zC_ok hX.1.1 hS hFc hPc hKc hDc) (va_recv hK hP rfl (q0 := 0) rfl)) rfl rfl hl.1 rfl (lv_room (Nat.le_of_ble_eq_true rfl)) dL_declare_4 ⟨Nat.zero_le _, Nat.zero_le _⟩) hP hD hS hFc [0, 1, 2, 3, 4, 5, 6, 7, 8, 9, 10, 11, 12, 13, 14, 15] [16] [1, 2, 3, 4, 5, 6, 7, 8, 9, 10, 11, 12, 13, 14, 15, 16, 0] rfl rfl (by decide) (by decide) rfl (by decide) (fun H locs hP hD hS => ?_)
  refine lv_i2l (v := ((q1.1).toInt64)) hx hb dL_declare_7 rfl ?_
  obtain ⟨hi2, hm⟩ := zix_s hm
  refine va_last (i := 0) (x := ((q1.1).toInt64)) (f := ov) (n := 1) hx hb hK hP hD hS 16 11 rfl rfl hi2 dL_declare_8 (fun H locs hP hD hS => ?_)
  have hP : va_P D vwCl (wQAO aQ aY aS rS aNs aTs aEs aDc aNn bNn aTt bTt aE bE rE pE aO cy cs cn ct ce cd c1n c1t c1 c2 c3 co q1.2.1 y q1.2.2.1 q1.2.2.2.1 nf tf ef q1.2.2.2.2.1 q1.2.2.2.2.2.1 bn q1.2.2.2.2.2.2.1 q1.2.2.2.2.2.2.2.1 q1.2.2.2.2.2.2.2.2.1 b q1.2.2.2.2.2.2.2.2.2.1 q1.2.2.2.2.2.2.2.2.2.2 (vp_updL ov (0 : Int32).toNatClampNeg ((q1.1).toInt64))) H := hP
  have hD : va_D _ (wQAO aQ aY aS rS aNs aTs aEs aDc aNn bNn aTt bTt aE bE rE pE aO cy cs cn ct ce cd c1n c1t c1 c2 c3 co q1.2.1 y q1.2.2.1 q1.2.2.2.1 nf tf ef q1.2.2.2.2.1 q1.2.2.2.2.2.1 bn q1.2.2.2.2.2.2.1 q1.2.2.2.2.2.2.2.1 q1.2.2.2.2.2.2.2.2.1 b q1.2.2.2.2.2.2.2.2.2.1 q1.2.2.2.2.2.2.2.2.2.2 (vp_updL ov (0 : Int32).toNatClampNeg ((q1.1).toInt64))) := hD
  refine lv_goto (tgt := 18) hx hb dL_declare_9 rfl ?_
  refine lv_iconst (v := 0) hx hb dL_declare_18 (by decide) ?_
  cases hm
  exact zreti hx hb hr hlk hP hD hS dL_declare_19

def m_L_declare_E (a1 : Int32) (pv : Nat → Int32) (y : Nat → Int32) (sv : Nat → Int32) (sr : Nat → Int32) (nf : Nat → Option Nat) (tf : Nat → Option Nat) (ef : Nat → Option Nat) (dc : Nat → Option Nat) (vn : Nat → Int32) (bn : Nat → Int32) (vt : Nat → Int32) (bt : Nat → Int32) (v : Nat → Int32) (b : Nat → Int32) (rw : Nat → Int32) (pw : Nat → Int32) (ov : Nat → Int64) (aE : Nat) : Option ((Int32) × (Nat → Int32) × (Nat → Int32) × (Nat → Int32) × (Nat → Option Nat) × (Nat → Int32) × (Nat → Int32) × (Nat → Int32) × (Nat → Int32) × (Nat → Int32) × (Nat → Int32) × (Nat → Int64)) := (m_P_declare_E a1 pv y sv sr nf tf ef dc vn bn vt bt v b rw pw aE).bind (fun q1 => zix 0 1 ((some (0, q1.2.1, q1.2.2.1, q1.2.2.2.1, q1.2.2.2.2.1, q1.2.2.2.2.2.1, q1.2.2.2.2.2.2.1, q1.2.2.2.2.2.2.2.1, q1.2.2.2.2.2.2.2.2.1, q1.2.2.2.2.2.2.2.2.2.1, q1.2.2.2.2.2.2.2.2.2.2, (vp_updL ov (0 : Int32).toNatClampNeg ((q1.1).toInt64))))))
section
variable {p : Program} {l : Launch} {e : Env} {s : State} {m : MethodId} {args : Array Value} {below : List Frame} {meth : Method} {c : Code} {D : va_G} {w0 : va_W} {aQ aY aS rS aNs aTs aEs aDc aNn bNn aTt bTt aE bE rE pE aO : Nat} {cy cs cn ct ce cd c1n c1t c1 c2 c3 co : ClassId} {y : Nat → Int32} {nf : Nat → Option Nat} {tf : Nat → Option Nat} {ef : Nat → Option Nat} {bn : Nat → Int32} {bt : Nat → Int32}
end
set_option maxRecDepth 100000 in
set_option maxHeartbeats 4000000 in
theorem k_L_declare_E (l : Launch) (D : va_G) (aQ aY aS rS aNs aTs aEs aDc aNn bNn aTt bTt aE bE rE pE aO : Nat) (cy cs cn ct ce cd c1n c1t c1 c2 c3 co : ClassId) (sz : Nat) (a1 : Int32) (pv : Nat → Int32) (y : Nat → Int32) (sv : Nat → Int32) (sr : Nat → Int32) (nf : Nat → Option Nat) (tf : Nat → Option Nat) (ef : Nat → Option Nat) (dc : Nat → Option Nat) (vn : Nat → Int32) (bn : Nat → Int32) (vt : Nat → Int32) (bt : Nat → Int32) (v : Nat → Int32) (b : Nat → Int32) (rw : Nat → Int32) (pw : Nat → Int32) (ov : Nat → Int64) (hdN : nf (pv 7).toNatClampNeg = some aNn) (hdT : tf (pv 7).toNatClampNeg = some aTt) (hdE : ef (pv 7).toNatClampNeg = some aE) (res : (Int32) × (Nat → Int32) × (Nat → Int32) × (Nat → Int32) × (Nat → Option Nat) × (Nat → Int32) × (Nat → Int32) × (Nat → Int32) × (Nat → Int32) × (Nat → Int32) × (Nat → Int32) × (Nat → Int64)) (hm : m_L_declare_E a1 pv y sv sr nf tf ef dc vn bn vt bt v b rw pw ov aE = some res) : Met l yL_declare (Cond.codeWith yL_declare cL_declare 4 (some .int) [(0, 9, 12, 13), (0, 9, 15, 15)] :: zBIG) (zR 7 162) (va_Pc [.ref aQ, .int a1, .ref aO] (zP zW D vwCl (wQAO_t cy cs cn ct ce cd c1n c1t c1 c2 c3 co) (wQAO aQ aY aS rS aNs aTs aEs aDc aNn bNn aTt bTt aE bE rE pE aO cy cs cn ct ce cd c1n c1t c1 c2 c3 co pv y sv sr nf tf ef dc vn bn vt bt v b rw pw ov) sz)) (zQi D vwCl (wQAO aQ aY aS rS aNs aTs aEs aDc aNn bNn aTt bTt aE bE rE pE aO cy cs cn ct ce cd c1n c1t c1 c2 c3 co pv y sv sr nf tf ef dc vn bn vt bt v b rw pw ov) (wQAO aQ aY aS rS aNs aTs aEs aDc aNn bNn aTt bTt aE bE rE pE aO cy cs cn ct ce cd c1n c1t c1 c2 c3 co res.2.1 y res.2.2.1 res.2.2.2.1 nf tf ef res.2.2.2.2.1 res.2.2.2.2.2.1 bn res.2.2.2.2.2.2.1 bt res.2.2.2.2.2.2.2.1 res.2.2.2.2.2.2.2.2.1 res.2.2.2.2.2.2.2.2.2.1 res.2.2.2.2.2.2.2.2.2.2.1 res.2.2.2.2.2.2.2.2.2.2.2) sz res.1) 0 0 (va_A (wQAO aQ aY aS rS aNs aTs aEs aDc aNn bNn aTt bTt aE bE rE pE aO cy cs cn ct ce cd c1n c1t c1 c2 c3 co pv y sv sr nf tf ef dc vn bn vt bt v b rw pw ov) sz) := by
  refine zEnterW RL [.ref aQ, .int a1, .ref aO] (by decide) rfl (Nat.le_of_ble_eq_true rfl) (fun p e s m below meth c ls htb G hK hX hP hD hsz hl => ?_)
  subst hsz
  unfold m_L_declare_E at hm
  have hl : lv_has ls 4 [(0, .ref aQ), (1, .int a1), (2, .ref aO)] := hl
  have hS : va_S (va_A (wQAO aQ aY aS rS aNs aTs aEs aDc aNn bNn aTt bTt aE bE rE pE aO cy cs cn ct ce cd c1n c1t c1 c2 c3 co pv y sv sr nf tf ef dc vn bn vt bt v b rw pw ov) s.heap.size) s.heap s.heap [] := va_S.rf
  have hA : ∀ q, s.heap.size ≤ q → va_A (wQAO aQ aY aS rS aNs aTs aEs aDc aNn bNn aTt bTt aE bE rE pE aO cy cs cn ct ce cd c1n c1t c1 c2 c3 co pv y sv sr nf tf ef dc vn bn vt bt v b rw pw ov) s.heap.size q := fun q h => Or.inr h
  have G0 := G
  obtain ⟨hx, hb, hr, hml, hown, hw, hlk⟩ := G
  refine lv_aload_n hx hb dL_declare_0 rfl (lv_at hl 2 rfl) ?_
  refine lv_iconst (v := 0) hx hb dL_declare_1 (by decide) ?_
  refine lv_aload_n hx hb dL_declare_2 rfl (lv_at hl 0 rfl) ?_
  refine lv_iload_n hx hb dL_declare_3 rfl (lv_at hl 1 rfl) ?_
  obtain ⟨q1, hq1, hm⟩ := zbind hm
  have hPc := hP.sub (ws' := (wQA aQ aY aS rS aNs aTs aEs aDc aNn bNn aTt bTt aE bE rE pE cy cs cn ct ce cd c1n c1t c1 c2 c3 pv y sv sr nf tf ef dc vn bn vt bt v b rw pw)) [0, 1, 2, 3, 4, 5, 6, 7, 8, 9, 10, 11, 12, 13, 14, 15] rfl
  have hDc := hD.sub (ws' := (wQA aQ aY aS rS aNs aTs aEs aDc aNn bNn aTt bTt aE bE rE pE cy cs cn ct ce cd c1n c1t c1 c2 c3 pv y sv sr nf tf ef dc vn bn vt bt v b rw pw)) [0, 1, 2, 3, 4, 5, 6, 7, 8, 9, 10, 11, 12, 13, 14, 15] (by decide) rfl
  have hKc := hK.sub (tys' := wQA_t cy cs cn ct ce cd c1n c1t c1 c2 c3) [0, 1, 2, 3, 4, 5, 6, 7, 8, 9, 10] rfl
  have hFc := va_free (wc := (wQA aQ aY aS rS aNs aTs aEs aDc aNn bNn aTt bTt aE bE rE pE cy cs cn ct ce cd c1n c1t c1 c2 c3 pv y sv sr nf tf ef dc vn bn vt bt v b rw pw)) hD hS hA [0, 1, 2, 3, 4, 5, 6, 7, 8, 9, 10, 11, 12, 13, 14, 15] rfl
  refine zbSi (wr := [(aO, .inl (co, 1, .inr (.inl ov)))]) (w1 := (wQA aQ aY aS rS aNs aTs aEs aDc aNn bNn aTt bTt aE bE rE pE cy cs cn ct ce cd c1n c1t c1 c2 c3 q1.2.1 y q1.2.2.1 q1.2.2.2.1 nf tf ef q1.2.2.2.2.1 q1.2.2.2.2.2.1 bn q1.2.2.2.2.2.2.1 bt q1.2.2.2.2.2.2.2.1 q1.2.2.2.2.2.2.2.2.1 q1.2.2.2.2.2.2.2.2.2.1 q1.2.2.2.2.2.2.2.2.2.2)) (w' := (wQAO aQ aY aS rS aNs aTs aEs aDc aNn bNn aTt bTt aE bE rE pE aO cy cs cn ct ce cd c1n c1t c1 c2 c3 co q1.2.1 y q1.2.2.1 q1.2.2.2.1 nf tf ef q1.2.2.2.2.1 q1.2.2.2.2.2.1 bn q1.2.2.2.2.2.2.1 bt q1.2.2.2.2.2.2.2.1 q1.2.2.2.2.2.2.2.2.1 q1.2.2.2.2.2.2.2.2.2.1 q1.2.2.2.2.2.2.2.2.2.2 ov)) (va_runV (As := [.int a1]) (rest := [.int 0, .ref aO]) ⟨hx, hb, hml, hown, hw⟩ (k_P_declare_E l D aQ aY aS rS aNs aTs aEs aDc aNn bNn aTt bTt aE bE rE pE cy cs cn ct ce cd c1n c1t c1 c2 c3 _ a1 pv y sv sr nf tf ef dc vn bn vt bt v b rw pw hdN hdT hdE q1 hq1) (zcV (C := RX5) 1 hw (zgood zw508) rfl rfl rfl zw176 zw510 zw509 zw511 hdX5_declare ⟨Nat.le_of_ble_eq_true rfl, Nat.le_of_ble_eq_true rfl⟩) (zpreV (zpre zC_ok hX.1.1 hS hFc hPc hKc hDc) (va_recv hK hP rfl (q0 := 0) rfl)) rfl rfl hl.1 rfl (lv_room (Nat.le_of_ble_eq_true rfl)) dL_declare_4 ⟨Nat.zero_le _, Nat.zero_le _⟩) hP hD hS hFc [0, 1, 2, 3, 4, 5, 6, 7, 8, 9, 10, 11, 12, 13, 14, 15] [16] [1, 2, 3, 4, 5, 6, 7, 8, 9, 10, 11, 12, 13, 14, 15, 16, 0] rfl rfl (by decide) (by decide) rfl (by decide) (fun H locs hP hD hS => ?_)
  refine lv_i2l (v := ((q1.1).toInt64)) hx hb dL_declare_7 rfl ?_
  obtain ⟨hi2, hm⟩ := zix_s hm
  refine va_last (i := 0) (x := ((q1.1).toInt64)) (f := ov) (n := 1) hx hb hK hP hD hS 16 11 rfl rfl hi2 dL_declare_8 (fun H locs hP hD hS => ?_)
  have hP : va_P D vwCl (wQAO aQ aY aS rS aNs aTs aEs aDc aNn bNn aTt bTt aE bE rE pE aO cy cs cn ct ce cd c1n c1t c1 c2 c3 co q1.2.1 y q1.2.2.1 q1.2.2.2.1 nf tf ef q1.2.2.2.2.1 q1.2.2.2.2.2.1 bn q1.2.2.2.2.2.2.1 bt q1.2.2.2.2.2.2.2.1 q1.2.2.2.2.2.2.2.2.1 q1.2.2.2.2.2.2.2.2.2.1 q1.2.2.2.2.2.2.2.2.2.2 (vp_updL ov (0 : Int32).toNatClampNeg ((q1.1).toInt64))) H := hP
  have hD : va_D _ (wQAO aQ aY aS rS aNs aTs aEs aDc aNn bNn aTt bTt aE bE rE pE aO cy cs cn ct ce cd c1n c1t c1 c2 c3 co q1.2.1 y q1.2.2.1 q1.2.2.2.1 nf tf ef q1.2.2.2.2.1 q1.2.2.2.2.2.1 bn q1.2.2.2.2.2.2.1 bt q1.2.2.2.2.2.2.2.1 q1.2.2.2.2.2.2.2.2.1 q1.2.2.2.2.2.2.2.2.2.1 q1.2.2.2.2.2.2.2.2.2.2 (vp_updL ov (0 : Int32).toNatClampNeg ((q1.1).toInt64))) := hD
  refine lv_goto (tgt := 18) hx hb dL_declare_9 rfl ?_
  refine lv_iconst (v := 0) hx hb dL_declare_18 (by decide) ?_
  cases hm
  exact zreti hx hb hr hlk hP hD hS dL_declare_19

def m_L_declare_s (a1 : Int32) (pv : Nat → Int32)  : Option ((Int32)) := (m_Ps_declare a1 pv).bind (fun q1 => (some 1))
section
variable {p : Program} {l : Launch} {e : Env} {s : State} {m : MethodId} {args : Array Value} {below : List Frame} {meth : Method} {c : Code} {D : va_G} {w0 : va_W} {aQ aY aS aNs aTs aEs aDc aO : Nat} {pv : Nat → Int32}
end
set_option maxRecDepth 100000 in
set_option maxHeartbeats 4000000 in
theorem k_L_declare_s (l : Launch) (D : va_G) (aQ aY aS aNs aTs aEs aDc aO : Nat) (sz : Nat) (a1 : Int32) (pv : Nat → Int32) (hl0 : l.stackTraces = false) (res : (Int32)) (hm : m_L_declare_s a1 pv  = some res) : Met l yL_declare (Cond.codeWith yL_declare cL_declare 4 (some .int) [(0, 9, 12, 13), (0, 9, 15, 15)] :: zBIG) (zRx 7 113) (va_Pc [.ref aQ, .int a1, .ref aO] (zP zW D vwCl [] (wQo aQ aY aS aNs aTs aEs aDc aO pv) sz)) (zQi D vwCl (wQo aQ aY aS aNs aTs aEs aDc aO pv) (wQo aQ aY aS aNs aTs aEs aDc aO pv) sz res) 1 6 (va_A (wQo aQ aY aS aNs aTs aEs aDc aO pv) sz) := by
  refine zEnterW RL [.ref aQ, .int a1, .ref aO] (by decide) rfl (Nat.le_of_ble_eq_true rfl) (fun p e s m below meth c ls htb G hK hX hP hD hsz hl => ?_)
  subst hsz
  unfold m_L_declare_s at hm
  have hl : lv_has ls 4 [(0, .ref aQ), (1, .int a1), (2, .ref aO)] := hl
  have hS : va_S (va_A (wQo aQ aY aS aNs aTs aEs aDc aO pv) s.heap.size) s.heap s.heap [] := va_S.rf
  have hA : ∀ q, s.heap.size ≤ q → va_A (wQo aQ aY aS aNs aTs aEs aDc aO pv) s.heap.size q := fun q h => Or.inr h
  have G0 := G
  obtain ⟨hx, hb, hr, hml, hown, hw, hlk⟩ := G
  refine lv_aload_n hx hb dL_declare_0 rfl (lv_at hl 2 rfl) ?_
  refine lv_iconst (v := 0) hx hb dL_declare_1 (by decide) ?_
  refine lv_aload_n hx hb dL_declare_2 rfl (lv_at hl 0 rfl) ?_
  refine lv_iload_n hx hb dL_declare_3 rfl (lv_at hl 1 rfl) ?_
  obtain ⟨q1, hq1, hm⟩ := zbind hm
  refine zxC (name := "java/lang/IllegalStateException") (vx_runV (As := [.int a1]) (rest := [.int 0, .ref aO]) ⟨hx, hb, hml, hown, hw⟩ (k_Ps_declare l D aQ aY aS aNs aTs aEs aDc _ a1 pv hl0 q1 hq1) (zcVx (C := RX5) 1 hw (zgood zw508) rfl rfl rfl zw176 zw510 zw509 zw511 hdX5_declare ⟨Nat.le_of_ble_eq_true rfl, Nat.le_of_ble_eq_true rfl⟩) (zpreV (zpre zD_ok hX.1 hS (zfree hD hS hA) hP hK hD) (va_recv hK hP rfl (q0 := 0) rfl)) rfl rfl hl.1 rfl (lv_room (Nat.le_of_ble_eq_true rfl)) dL_declare_4 ⟨Nat.le_of_ble_eq_true rfl, Nat.le_of_ble_eq_true rfl⟩) hS (zfree hD hS hA) hown [] ⟨0, 9, 12, 13⟩ [⟨0, 9, 15, 15⟩] (by rw [htb]; rfl) (fun _ h => absurd h List.not_mem_nil) (by decide) (by decide) (hw _ zw512) (va_Nw.use rfl (hX.1.1.1 _ zn17)) (fun q9 H locs hP hD hS => ?_)
  refine W.widen (k := 1) (n := 6) (by decide) (by decide) ?_
  have hP : va_P D vwCl (wQo aQ aY aS aNs aTs aEs aDc aO pv) H := hP
  have hD : va_D _ (wQo aQ aY aS aNs aTs aEs aDc aO pv) := hD
  refine lv_astore_n (lv' := [(3, .ref q9), (0, .ref aQ), (1, .int a1), (2, .ref aO)]) hx hb dL_declare_12 rfl hl (by decide) rfl (fun ls hl => ?_)
  refine lv_iconst (v := 1) hx hb dL_declare_13 (by decide) ?_
  cases hm
  exact zreti1 hx hb hr hlk hP hD hS dL_declare_14

def m_L_declare_i (a1 : Int32) (pv : Nat → Int32) (y : Nat → Int32) (sv : Nat → Int32) (sr : Nat → Int32)  : Option ((Int32) × (Nat → Int32) × (Nat → Int32) × (Nat → Int32)) := (m_Pi_declare a1 pv y sv sr).bind (fun q1 => (some (2, q1.1, q1.2.1, q1.2.2)))
section
variable {p : Program} {l : Launch} {e : Env} {s : State} {m : MethodId} {args : Array Value} {below : List Frame} {meth : Method} {c : Code} {D : va_G} {w0 : va_W} {aQ aNs aTs aEs aDc aY aS rS aO : Nat} {cy cs : ClassId} {y : Nat → Int32}
end
set_option maxRecDepth 100000 in
set_option maxHeartbeats 4000000 in
theorem k_L_declare_i (l : Launch) (D : va_G) (aQ aNs aTs aEs aDc aY aS rS aO : Nat) (cy cs : ClassId) (sz : Nat) (a1 : Int32) (pv : Nat → Int32) (y : Nat → Int32) (sv : Nat → Int32) (sr : Nat → Int32) (hl0 : l.stackTraces = false) (res : (Int32) × (Nat → Int32) × (Nat → Int32) × (Nat → Int32)) (hm : m_L_declare_i a1 pv y sv sr  = some res) : Met l yL_declare (Cond.codeWith yL_declare cL_declare 4 (some .int) [(0, 9, 12, 13), (0, 9, 15, 15)] :: zBIG) (zRx 7 117) (va_Pc [.ref aQ, .int a1, .ref aO] (zP zW D vwCl (wQSo_t cy cs) (wQSo aQ aNs aTs aEs aDc aY aS rS aO cy cs pv y sv sr) sz)) (zQi D vwCl (wQSo aQ aNs aTs aEs aDc aY aS rS aO cy cs pv y sv sr) (wQSo aQ aNs aTs aEs aDc aY aS rS aO cy cs res.2.1 y res.2.2.1 res.2.2.2) sz res.1) 1 6 (va_A (wQSo aQ aNs aTs aEs aDc aY aS rS aO cy cs pv y sv sr) sz) := by
  refine zEnterW RL [.ref aQ, .int a1, .ref aO] (by decide) rfl (Nat.le_of_ble_eq_true rfl) (fun p e s m below meth c ls htb G hK hX hP hD hsz hl => ?_)
  subst hsz
  unfold m_L_declare_i at hm
  have hl : lv_has ls 4 [(0, .ref aQ), (1, .int a1), (2, .ref aO)] := hl
  have hS : va_S (va_A (wQSo aQ aNs aTs aEs aDc aY aS rS aO cy cs pv y sv sr) s.heap.size) s.heap s.heap [] := va_S.rf
  have hA : ∀ q, s.heap.size ≤ q → va_A (wQSo aQ aNs aTs aEs aDc aY aS rS aO cy cs pv y sv sr) s.heap.size q := fun q h => Or.inr h
  have G0 := G
  obtain ⟨hx, hb, hr, hml, hown, hw, hlk⟩ := G
  refine lv_aload_n hx hb dL_declare_0 rfl (lv_at hl 2 rfl) ?_
  refine lv_iconst (v := 0) hx hb dL_declare_1 (by decide) ?_
  refine lv_aload_n hx hb dL_declare_2 rfl (lv_at hl 0 rfl) ?_
  refine lv_iload_n hx hb dL_declare_3 rfl (lv_at hl 1 rfl) ?_
  obtain ⟨q1, hq1, hm⟩ := zbind hm
  refine zxC (name := "java/lang/IllegalArgumentException") (vx_runV (As := [.int a1]) (rest := [.int 0, .ref aO]) ⟨hx, hb, hml, hown, hw⟩ (k_Pi_declare l D aQ aNs aTs aEs aDc aY aS rS cy cs _ a1 pv y sv sr hl0 q1 hq1) (zcVx (C := RX5) 1 hw (zgood zw508) rfl rfl rfl zw176 zw510 zw509 zw511 hdX5_declare ⟨Nat.le_of_ble_eq_true rfl, Nat.le_of_ble_eq_true rfl⟩) (zpreV (zpre zD_ok hX.1 hS (zfree hD hS hA) hP hK hD) (va_recv hK hP rfl (q0 := 0) rfl)) rfl rfl hl.1 rfl (lv_room (Nat.le_of_ble_eq_true rfl)) dL_declare_4 ⟨Nat.le_of_ble_eq_true rfl, Nat.le_of_ble_eq_true rfl⟩) hS (zfree hD hS hA) hown [⟨0, 9, 12, 13⟩] ⟨0, 9, 15, 15⟩ [] (by rw [htb]; rfl) (List.forall_mem_cons.mpr ⟨Or.inr ⟨by decide, "java/lang/IllegalStateException", hw _ zw512, hX.2.1⟩, fun _ h => absurd h List.not_mem_nil⟩) (by decide) (by decide) (hw _ zw513) (va_Nw.use rfl (hX.1.1.1 _ zn18)) (fun q9 H locs hP hD hS => ?_)
  refine W.widen (k := 1) (n := 6) (by decide) (by decide) ?_
  have hP : va_P D vwCl (wQSo aQ aNs aTs aEs aDc aY aS rS aO cy cs q1.1 y q1.2.1 q1.2.2) H := hP
  have hD : va_D _ (wQSo aQ aNs aTs aEs aDc aY aS rS aO cy cs q1.1 y q1.2.1 q1.2.2) := hD
  refine lv_astore_n (lv' := [(3, .ref q9), (0, .ref aQ), (1, .int a1), (2, .ref aO)]) hx hb dL_declare_15 rfl hl (by decide) rfl (fun ls hl => ?_)
  refine lv_iconst (v := 2) hx hb dL_declare_16 (by decide) ?_
  cases hm
  exact zreti1 hx hb hr hlk hP hD hS dL_declare_17

def m_L_declare_i2 (a1 : Int32) (pv : Nat → Int32) (y : Nat → Int32) (sv : Nat → Int32) (sr : Nat → Int32) (nf : Nat → Option Nat) (tf : Nat → Option Nat) (ef : Nat → Option Nat) (dc : Nat → Option Nat) (vn : Nat → Int32) (bn : Nat → Int32) (vt : Nat → Int32) (bt : Nat → Int32) (v : Nat → Int32) (b : Nat → Int32) (rw : Nat → Int32) (pw : Nat → Int32)  : Option ((Int32) × (Nat → Int32) × (Nat → Int32) × (Nat → Int32) × (Nat → Int32) × (Nat → Int32) × (Nat → Int32) × (Nat → Int32) × (Nat → Int32)) := (m_Pi2_declare a1 pv y sv sr nf tf ef dc vn bn vt bt v b rw pw).bind (fun q1 => (some (2, q1.1, q1.2.1, q1.2.2.1, q1.2.2.2.1, q1.2.2.2.2.1, q1.2.2.2.2.2.1, q1.2.2.2.2.2.2.1, q1.2.2.2.2.2.2.2)))
section
variable {p : Program} {l : Launch} {e : Env} {s : State} {m : MethodId} {args : Array Value} {below : List Frame} {meth : Method} {c : Code} {D : va_G} {w0 : va_W} {aQ aY aS rS aNs aTs aEs aDc aNn bNn aTt bTt aE bE rE pE aO : Nat} {cy cs cn ct ce cd c1n c1t c1 c2 c3 : ClassId} {y : Nat → Int32} {nf : Nat → Option Nat} {tf : Nat → Option Nat} {ef : Nat → Option Nat} {dc : Nat → Option Nat} {bn : Nat → Int32} {bt : Nat → Int32} {b : Nat → Int32}
end
set_option maxRecDepth 100000 in
set_option maxHeartbeats 4000000 in
theorem k_L_declare_i2 (l : Launch) (D : va_G) (aQ aY aS rS aNs aTs aEs aDc aNn bNn aTt bTt aE bE rE pE aO : Nat) (cy cs cn ct ce cd c1n c1t c1 c2 c3 : ClassId) (sz : Nat) (a1 : Int32) (pv : Nat → Int32) (y : Nat → Int32) (sv : Nat → Int32) (sr : Nat → Int32) (nf : Nat → Option Nat) (tf : Nat → Option Nat) (ef : Nat → Option Nat) (dc : Nat → Option Nat) (vn : Nat → Int32) (bn : Nat → Int32) (vt : Nat → Int32) (bt : Nat → Int32) (v : Nat → Int32) (b : Nat → Int32) (rw : Nat → Int32) (pw : Nat → Int32) (hl0 : l.stackTraces = false) (hdN : nf (pv 7).toNatClampNeg = some aNn) (hdT : tf (pv 7).toNatClampNeg = some aTt) (hdE : ef (pv 7).toNatClampNeg = some aE) (res : (Int32) × (Nat → Int32) × (Nat → Int32) × (Nat → Int32) × (Nat → Int32) × (Nat → Int32) × (Nat → Int32) × (Nat → Int32) × (Nat → Int32)) (hm : m_L_declare_i2 a1 pv y sv sr nf tf ef dc vn bn vt bt v b rw pw  = some res) : Met l yL_declare (Cond.codeWith yL_declare cL_declare 4 (some .int) [(0, 9, 12, 13), (0, 9, 15, 15)] :: zBIG) (zRx 7 150) (va_Pc [.ref aQ, .int a1, .ref aO] (zP zW D vwCl (wQAo_t cy cs cn ct ce cd c1n c1t c1 c2 c3) (wQAo aQ aY aS rS aNs aTs aEs aDc aNn bNn aTt bTt aE bE rE pE aO cy cs cn ct ce cd c1n c1t c1 c2 c3 pv y sv sr nf tf ef dc vn bn vt bt v b rw pw) sz)) (zQi D vwCl (wQAo aQ aY aS rS aNs aTs aEs aDc aNn bNn aTt bTt aE bE rE pE aO cy cs cn ct ce cd c1n c1t c1 c2 c3 pv y sv sr nf tf ef dc vn bn vt bt v b rw pw) (wQAo aQ aY aS rS aNs aTs aEs aDc aNn bNn aTt bTt aE bE rE pE aO cy cs cn ct ce cd c1n c1t c1 c2 c3 res.2.1 y res.2.2.1 res.2.2.2.1 nf tf ef dc res.2.2.2.2.1 bn res.2.2.2.2.2.1 bt res.2.2.2.2.2.2.1 b res.2.2.2.2.2.2.2.1 res.2.2.2.2.2.2.2.2) sz res.1) 1 6 (va_A (wQAo aQ aY aS rS aNs aTs aEs aDc aNn bNn aTt bTt aE bE rE pE aO cy cs cn ct ce cd c1n c1t c1 c2 c3 pv y sv sr nf tf ef dc vn bn vt bt v b rw pw) sz) := by
  refine zEnterW RL [.ref aQ, .int a1, .ref aO] (by decide) rfl (Nat.le_of_ble_eq_true rfl) (fun p e s m below meth c ls htb G hK hX hP hD hsz hl => ?_)
  subst hsz
  unfold m_L_declare_i2 at hm
  have hl : lv_has ls 4 [(0, .ref aQ), (1, .int a1), (2, .ref aO)] := hl
  have hS : va_S (va_A (wQAo aQ aY aS rS aNs aTs aEs aDc aNn bNn aTt bTt aE bE rE pE aO cy cs cn ct ce cd c1n c1t c1 c2 c3 pv y sv sr nf tf ef dc vn bn vt bt v b rw pw) s.heap.size) s.heap s.heap [] := va_S.rf
  have hA : ∀ q, s.heap.size ≤ q → va_A (wQAo aQ aY aS rS aNs aTs aEs aDc aNn bNn aTt bTt aE bE rE pE aO cy cs cn ct ce cd c1n c1t c1 c2 c3 pv y sv sr nf tf ef dc vn bn vt bt v b rw pw) s.heap.size q := fun q h => Or.inr h
  have G0 := G
  obtain ⟨hx, hb, hr, hml, hown, hw, hlk⟩ := G
  refine lv_aload_n hx hb dL_declare_0 rfl (lv_at hl 2 rfl) ?_
  refine lv_iconst (v := 0) hx hb dL_declare_1 (by decide) ?_
  refine lv_aload_n hx hb dL_declare_2 rfl (lv_at hl 0 rfl) ?_
  refine lv_iload_n hx hb dL_declare_3 rfl (lv_at hl 1 rfl) ?_
  obtain ⟨q1, hq1, hm⟩ := zbind hm
  refine zxC (name := "java/lang/IllegalArgumentException") (vx_runV (As := [.int a1]) (rest := [.int 0, .ref aO]) ⟨hx, hb, hml, hown, hw⟩ (k_Pi2_declare l D aQ aY aS rS aNs aTs aEs aDc aNn bNn aTt bTt aE bE rE pE cy cs cn ct ce cd c1n c1t c1 c2 c3 _ a1 pv y sv sr nf tf ef dc vn bn vt bt v b rw pw hl0 hdN hdT hdE q1 hq1) (zcVx (C := RX5) 1 hw (zgood zw508) rfl rfl rfl zw176 zw510 zw509 zw511 hdX5_declare ⟨Nat.le_of_ble_eq_true rfl, Nat.le_of_ble_eq_true rfl⟩) (zpreV (zpre zD_ok hX.1 hS (zfree hD hS hA) hP hK hD) (va_recv hK hP rfl (q0 := 0) rfl)) rfl rfl hl.1 rfl (lv_room (Nat.le_of_ble_eq_true rfl)) dL_declare_4 ⟨Nat.le_of_ble_eq_true rfl, Nat.le_of_ble_eq_true rfl⟩) hS (zfree hD hS hA) hown [⟨0, 9, 12, 13⟩] ⟨0, 9, 15, 15⟩ [] (by rw [htb]; rfl) (List.forall_mem_cons.mpr ⟨Or.inr ⟨by decide, "java/lang/IllegalStateException", hw _ zw512, hX.2.1⟩, fun _ h => absurd h List.not_mem_nil⟩) (by decide) (by decide) (hw _ zw513) (va_Nw.use rfl (hX.1.1.1 _ zn18)) (fun q9 H locs hP hD hS => ?_)
  refine W.widen (k := 1) (n := 6) (by decide) (by decide) ?_
  have hP : va_P D vwCl (wQAo aQ aY aS rS aNs aTs aEs aDc aNn bNn aTt bTt aE bE rE pE aO cy cs cn ct ce cd c1n c1t c1 c2 c3 q1.1 y q1.2.1 q1.2.2.1 nf tf ef dc q1.2.2.2.1 bn q1.2.2.2.2.1 bt q1.2.2.2.2.2.1 b q1.2.2.2.2.2.2.1 q1.2.2.2.2.2.2.2) H := hP
  have hD : va_D _ (wQAo aQ aY aS rS aNs aTs aEs aDc aNn bNn aTt bTt aE bE rE pE aO cy cs cn ct ce cd c1n c1t c1 c2 c3 q1.1 y q1.2.1 q1.2.2.1 nf tf ef dc q1.2.2.2.1 bn q1.2.2.2.2.1 bt q1.2.2.2.2.2.1 b q1.2.2.2.2.2.2.1 q1.2.2.2.2.2.2.2) := hD
  refine lv_astore_n (lv' := [(3, .ref q9), (0, .ref aQ), (1, .int a1), (2, .ref aO)]) hx hb dL_declare_15 rfl hl (by decide) rfl (fun ls hl => ?_)
  refine lv_iconst (v := 2) hx hb dL_declare_16 (by decide) ?_
  cases hm
  exact zreti1 hx hb hr hlk hP hD hS dL_declare_17

theorem dL_look_0 : decode cL_look 0 = .ok (.aload_n 3, 1) := by decide +kernel
theorem dL_look_1 : decode cL_look 1 = .ok (.iconst 0, 1) := by decide +kernel
theorem dL_look_2 : decode cL_look 2 = .ok (.aload_n 0, 1) := by decide +kernel
theorem dL_look_3 : decode cL_look 3 = .ok (.iload_n 1, 1) := by decide +kernel
theorem dL_look_4 : decode cL_look 4 = .ok (.iload_n 2, 1) := by decide +kernel
theorem dL_look_5 : decode cL_look 5 = .ok (.invokevirtual 17, 3) := by decide +kernel
theorem dL_look_8 : decode cL_look 8 = .ok (.i2l, 1) := by decide +kernel
theorem dL_look_9 : decode cL_look 9 = .ok (.lastore, 1) := by decide +kernel
theorem dL_look_10 : decode cL_look 10 = .ok (.goto 11, 3) := by decide +kernel
theorem dL_look_13 : decode cL_look 13 = .ok (.astore 4, 2) := by decide +kernel
theorem dL_look_15 : decode cL_look 15 = .ok (.iconst 1, 1) := by decide +kernel
theorem dL_look_16 : decode cL_look 16 = .ok (.ireturn, 1) := by decide +kernel
theorem dL_look_17 : decode cL_look 17 = .ok (.astore 4, 2) := by decide +kernel
theorem dL_look_19 : decode cL_look 19 = .ok (.iconst 2, 1) := by decide +kernel
theorem dL_look_20 : decode cL_look 20 = .ok (.ireturn, 1) := by decide +kernel
theorem dL_look_21 : decode cL_look 21 = .ok (.iconst 0, 1) := by decide +kernel
theorem dL_look_22 : decode cL_look 22 = .ok (.ireturn, 1) := by decide +kernel
def m_L_look_N (a1 : Int32) (a2 : Int32) (pv : Nat → Int32) (dc : Nat → Option Nat) (v : Nat → Int32) (b : Nat → Int32) (ov : Nat → Int64)  : Option ((Int32) × (Nat → Int64)) := (m_P_look_N a1 a2 pv dc v b).bind (fun q1 => zix 0 1 ((some (0, (vp_updL ov (0 : Int32).toNatClampNeg ((q1).toInt64))))))
section
variable {p : Program} {l : Launch} {e : Env} {s : State} {m : MethodId} {args : Array Value} {below : List Frame} {meth : Method} {c : Code} {D : va_G} {w0 : va_W} {aQ aY aS aNs aTs aEs aDc aN bN aO : Nat} {cd c1 co : ClassId} {pv : Nat → Int32} {dc : Nat → Option Nat} {v : Nat → Int32} {b : Nat → Int32} {a1 : Int32}
end
set_option maxRecDepth 100000 in
set_option maxHeartbeats 4000000 in
theorem k_L_look_N (l : Launch) (D : va_G) (aQ aY aS aNs aTs aEs aDc aN bN aO : Nat) (cd c1 co : ClassId) (sz : Nat) (a1 : Int32) (a2 : Int32) (pv : Nat → Int32) (dc : Nat → Option Nat) (v : Nat → Int32) (b : Nat → Int32) (ov : Nat → Int64) (hd : dc a1.toNatClampNeg = some aN) (res : (Int32) × (Nat → Int64)) (hm : m_L_look_N a1 a2 pv dc v b ov  = some res) : Met l yL_look (Cond.codeWith yL_look cL_look 5 (some .int) [(0, 10, 13, 21), (0, 10, 17, 15)] :: zBIG) (zR 2 45) (va_Pc [.ref aQ, .int a1, .int a2, .ref aO] (zP zW D vwCl (wQDNO_t cd c1 co) (wQDNO aQ aY aS aNs aTs aEs aDc aN bN aO cd c1 co pv dc v b ov) sz)) (zQi D vwCl (wQDNO aQ aY aS aNs aTs aEs aDc aN bN aO cd c1 co pv dc v b ov) (wQDNO aQ aY aS aNs aTs aEs aDc aN bN aO cd c1 co pv dc v b res.2) sz res.1) 0 0 (va_A (wQDNO aQ aY aS aNs aTs aEs aDc aN bN aO cd c1 co pv dc v b ov) sz) := by
  refine zEnterW RL [.ref aQ, .int a1, .int a2, .ref aO] (by decide) rfl (Nat.le_of_ble_eq_true rfl) (fun p e s m below meth c ls htb G hK hX hP hD hsz hl => ?_)
  subst hsz
  unfold m_L_look_N at hm
  have hl : lv_has ls 5 [(0, .ref aQ), (1, .int a1), (2, .int a2), (3, .ref aO)] := hl
  have hS : va_S (va_A (wQDNO aQ aY aS aNs aTs aEs aDc aN bN aO cd c1 co pv dc v b ov) s.heap.size) s.heap s.heap [] := va_S.rf
  have hA : ∀ q, s.heap.size ≤ q → va_A (wQDNO aQ aY aS aNs aTs aEs aDc aN bN aO cd c1 co pv dc v b ov) s.heap.size q := fun q h => Or.inr h
  have G0 := G
  obtain ⟨hx, hb, hr, hml, hown, hw, hlk⟩ := G
  refine lv_aload_n hx hb dL_look_0 rfl (lv_at hl 3 rfl) ?_
  refine lv_iconst (v := 0) hx hb dL_look_1 (by decide) ?_
  refine lv_aload_n hx hb dL_look_2 rfl (lv_at hl 0 rfl) ?_
  refine lv_iload_n hx hb dL_look_3 rfl (lv_at hl 1 rfl) ?_
  refine lv_iload_n hx hb dL_look_4 rfl (lv_at hl 2 rfl) ?_
  obtain ⟨q1, hq1, hm⟩ := zbind hm
  have hPc := hP.sub (ws' := (wQDN aQ aY aS aNs aTs aEs aDc aN bN cd c1 pv dc v b)) [0, 1, 2, 3] rfl
  have hDc := hD.sub (ws' := (wQDN aQ aY aS aNs aTs aEs aDc aN bN cd c1 pv dc v b)) [0, 1, 2, 3] (by decide) rfl
  have hKc := hK.sub (tys' := wQDN_t cd c1) [0, 1] rfl
  have hFc := va_free (wc := (wQDN aQ aY aS aNs aTs aEs aDc aN bN cd c1 pv dc v b)) hD hS hA [0, 1, 2, 3] rfl
  refine zbSi (wr := [(aO, .inl (co, 1, .inr (.inl ov)))]) (w1 := (wQDN aQ aY aS aNs aTs aEs aDc aN bN cd c1 pv dc v b)) (w' := (wQDNO aQ aY aS aNs aTs aEs aDc aN bN aO cd c1 co pv dc v b ov)) (va_runV (As := [.int a1, .int a2]) (rest := [.int 0, .ref aO]) ⟨hx, hb, hml, hown, hw⟩ (k_P_look_N l D aQ aY aS aNs aTs aEs aDc aN bN cd c1 _ a1 a2 pv dc v b hd q1 hq1) (zcV (C := RX5) 2 hw (zgood zw514) rfl rfl rfl zw176 zw516 zw515 zw517 hdX5_look ⟨Nat.le_of_ble_eq_true rfl, Nat.le_of_ble_eq_true rfl⟩) (zpreV (zpre zC_ok hX.1.1 hS hFc hPc hKc hDc) (va_recv hK hP rfl (q0 := 0) rfl)) rfl rfl hl.1 rfl (lv_room (Nat.le_of_ble_eq_true rfl)) dL_look_5 ⟨Nat.zero_le _, Nat.zero_le _⟩) hP hD hS hFc [0, 1, 2, 3] [4] [1, 2, 3, 4, 0] rfl rfl (by decide) (by decide) rfl (by decide) (fun H locs hP hD hS => ?_)
  refine lv_i2l (v := ((q1).toInt64)) hx hb dL_look_8 rfl ?_
  obtain ⟨hi2, hm⟩ := zix_s hm
  refine va_last (i := 0) (x := ((q1).toInt64)) (f := ov) (n := 1) hx hb hK hP hD hS 4 2 rfl rfl hi2 dL_look_9 (fun H locs hP hD hS => ?_)
  have hP : va_P D vwCl (wQDNO aQ aY aS aNs aTs aEs aDc aN bN aO cd c1 co pv dc v b (vp_updL ov (0 : Int32).toNatClampNeg ((q1).toInt64))) H := hP
  have hD : va_D _ (wQDNO aQ aY aS aNs aTs aEs aDc aN bN aO cd c1 co pv dc v b (vp_updL ov (0 : Int32).toNatClampNeg ((q1).toInt64))) := hD
  refine lv_goto (tgt := 21) hx hb dL_look_10 rfl ?_
  refine lv_iconst (v := 0) hx hb dL_look_21 (by decide) ?_
  cases hm
  exact zreti hx hb hr hlk hP hD hS dL_look_22

theorem dL_get_0 : decode cL_get 0 = .ok (.aload_n 3, 1) := by decide +kernel
theorem dL_get_1 : decode cL_get 1 = .ok (.iconst 0, 1) := by decide +kernel
theorem dL_get_2 : decode cL_get 2 = .ok (.aload_n 0, 1) := by decide +kernel
theorem dL_get_3 : decode cL_get 3 = .ok (.iload_n 1, 1) := by decide +kernel
theorem dL_get_4 : decode cL_get 4 = .ok (.iload_n 2, 1) := by decide +kernel
theorem dL_get_5 : decode cL_get 5 = .ok (.invokevirtual 23, 3) := by decide +kernel
theorem dL_get_8 : decode cL_get 8 = .ok (.i2l, 1) := by decide +kernel
theorem dL_get_9 : decode cL_get 9 = .ok (.lastore, 1) := by decide +kernel
theorem dL_get_10 : decode cL_get 10 = .ok (.goto 7, 3) := by decide +kernel
theorem dL_get_13 : decode cL_get 13 = .ok (.astore 4, 2) := by decide +kernel
theorem dL_get_15 : decode cL_get 15 = .ok (.iconst 1, 1) := by decide +kernel
theorem dL_get_16 : decode cL_get 16 = .ok (.ireturn, 1) := by decide +kernel
theorem dL_get_17 : decode cL_get 17 = .ok (.iconst 0, 1) := by decide +kernel
theorem dL_get_18 : decode cL_get 18 = .ok (.ireturn, 1) := by decide +kernel
def m_L_get_N (a1 : Int32) (a2 : Int32) (pv : Nat → Int32) (dc : Nat → Option Nat) (v : Nat → Int32) (b : Nat → Int32) (ov : Nat → Int64)  : Option ((Int32) × (Nat → Int64)) := (m_P_get_N a1 a2 pv dc v b).bind (fun q1 => zix 0 1 ((some (0, (vp_updL ov (0 : Int32).toNatClampNeg ((q1).toInt64))))))
section
variable {p : Program} {l : Launch} {e : Env} {s : State} {m : MethodId} {args : Array Value} {below : List Frame} {meth : Method} {c : Code} {D : va_G} {w0 : va_W} {aQ aY aS aNs aTs aEs aDc aN bN aO : Nat} {cd c1 co : ClassId} {pv : Nat → Int32} {dc : Nat → Option Nat} {v : Nat → Int32} {b : Nat → Int32} {a1 : Int32}
end
set_option maxRecDepth 100000 in
set_option maxHeartbeats 4000000 in
theorem k_L_get_N (l : Launch) (D : va_G) (aQ aY aS aNs aTs aEs aDc aN bN aO : Nat) (cd c1 co : ClassId) (sz : Nat) (a1 : Int32) (a2 : Int32) (pv : Nat → Int32) (dc : Nat → Option Nat) (v : Nat → Int32) (b : Nat → Int32) (ov : Nat → Int64) (hd : dc a1.toNatClampNeg = some aN) (res : (Int32) × (Nat → Int64)) (hm : m_L_get_N a1 a2 pv dc v b ov  = some res) : Met l yL_get (Cond.codeWith yL_get cL_get 5 (some .int) [(0, 10, 13, 21)] :: zBIG) (zR 2 45) (va_Pc [.ref aQ, .int a1, .int a2, .ref aO] (zP zW D vwCl (wQDNO_t cd c1 co) (wQDNO aQ aY aS aNs aTs aEs aDc aN bN aO cd c1 co pv dc v b ov) sz)) (zQi D vwCl (wQDNO aQ aY aS aNs aTs aEs aDc aN bN aO cd c1 co pv dc v b ov) (wQDNO aQ aY aS aNs aTs aEs aDc aN bN aO cd c1 co pv dc v b res.2) sz res.1) 0 0 (va_A (wQDNO aQ aY aS aNs aTs aEs aDc aN bN aO cd c1 co pv dc v b ov) sz) := by
  refine zEnterW RL [.ref aQ, .int a1, .int a2, .ref aO] (by decide) rfl (Nat.le_of_ble_eq_true rfl) (fun p e s m below meth c ls htb G hK hX hP hD hsz hl => ?_)
  subst hsz
  unfold m_L_get_N at hm
  have hl : lv_has ls 5 [(0, .ref aQ), (1, .int a1), (2, .int a2), (3, .ref aO)] := hl
  have hS : va_S (va_A (wQDNO aQ aY aS aNs aTs aEs aDc aN bN aO cd c1 co pv dc v b ov) s.heap.size) s.heap s.heap [] := va_S.rf
  have hA : ∀ q, s.heap.size ≤ q → va_A (wQDNO aQ aY aS aNs aTs aEs aDc aN bN aO cd c1 co pv dc v b ov) s.heap.size q := fun q h => Or.inr h
  have G0 := G
  obtain ⟨hx, hb, hr, hml, hown, hw, hlk⟩ := G
  refine lv_aload_n hx hb dL_get_0 rfl (lv_at hl 3 rfl) ?_
  refine lv_iconst (v := 0) hx hb dL_get_1 (by decide) ?_
  refine lv_aload_n hx hb dL_get_2 rfl (lv_at hl 0 rfl) ?_
  refine lv_iload_n hx hb dL_get_3 rfl (lv_at hl 1 rfl) ?_
  refine lv_iload_n hx hb dL_get_4 rfl (lv_at hl 2 rfl) ?_
  obtain ⟨q1, hq1, hm⟩ := zbind hm
  have hPc := hP.sub (ws' := (wQDN aQ aY aS aNs aTs aEs aDc aN bN cd c1 pv dc v b)) [0, 1, 2, 3] rfl
  have hDc := hD.sub (ws' := (wQDN aQ aY aS aNs aTs aEs aDc aN bN cd c1 pv dc v b)) [0, 1, 2, 3] (by decide) rfl
  have hKc := hK.sub (tys' := wQDN_t cd c1) [0, 1] rfl
  have hFc := va_free (wc := (wQDN aQ aY aS aNs aTs aEs aDc aN bN cd c1 pv dc v b)) hD hS hA [0, 1, 2, 3] rfl
  refine zbSi (wr := [(aO, .inl (co, 1, .inr (.inl ov)))]) (w1 := (wQDN aQ aY aS aNs aTs aEs aDc aN bN cd c1 pv dc v b)) (w' := (wQDNO aQ aY aS aNs aTs aEs aDc aN bN aO cd c1 co pv dc v b ov)) (va_runV (As := [.int a1, .int a2]) (rest := [.int 0, .ref aO]) ⟨hx, hb, hml, hown, hw⟩ (k_P_get_N l D aQ aY aS aNs aTs aEs aDc aN bN cd c1 _ a1 a2 pv dc v b hd q1 hq1) (zcV (C := RX5) 2 hw (zgood zw518) rfl rfl rfl zw176 zw520 zw519 zw521 hdX5_get ⟨Nat.le_of_ble_eq_true rfl, Nat.le_of_ble_eq_true rfl⟩) (zpreV (zpre zC_ok hX.1.1 hS hFc hPc hKc hDc) (va_recv hK hP rfl (q0 := 0) rfl)) rfl rfl hl.1 rfl (lv_room (Nat.le_of_ble_eq_true rfl)) dL_get_5 ⟨Nat.zero_le _, Nat.zero_le _⟩) hP hD hS hFc [0, 1, 2, 3] [4] [1, 2, 3, 4, 0] rfl rfl (by decide) (by decide) rfl (by decide) (fun H locs hP hD hS => ?_)
  refine lv_i2l (v := ((q1).toInt64)) hx hb dL_get_8 rfl ?_
  obtain ⟨hi2, hm⟩ := zix_s hm
  refine va_last (i := 0) (x := ((q1).toInt64)) (f := ov) (n := 1) hx hb hK hP hD hS 4 2 rfl rfl hi2 dL_get_9 (fun H locs hP hD hS => ?_)
  have hP : va_P D vwCl (wQDNO aQ aY aS aNs aTs aEs aDc aN bN aO cd c1 co pv dc v b (vp_updL ov (0 : Int32).toNatClampNeg ((q1).toInt64))) H := hP
  have hD : va_D _ (wQDNO aQ aY aS aNs aTs aEs aDc aN bN aO cd c1 co pv dc v b (vp_updL ov (0 : Int32).toNatClampNeg ((q1).toInt64))) := hD
  refine lv_goto (tgt := 17) hx hb dL_get_10 rfl ?_
  refine lv_iconst (v := 0) hx hb dL_get_17 (by decide) ?_
  cases hm
  exact zreti hx hb hr hlk hP hD hS dL_get_18

theorem dL_set_0 : decode cL_set 0 = .ok (.aload_n 0, 1) := by decide +kernel
theorem dL_set_1 : decode cL_set 1 = .ok (.iload_n 1, 1) := by decide +kernel
theorem dL_set_2 : decode cL_set 2 = .ok (.iload_n 2, 1) := by decide +kernel
theorem dL_set_3 : decode cL_set 3 = .ok (.iload_n 3, 1) := by decide +kernel
theorem dL_set_4 : decode cL_set 4 = .ok (.invokevirtual 26, 3) := by decide +kernel
theorem dL_set_7 : decode cL_set 7 = .ok (.goto 11, 3) := by decide +kernel
theorem dL_set_10 : decode cL_set 10 = .ok (.astore 4, 2) := by decide +kernel
theorem dL_set_12 : decode cL_set 12 = .ok (.iconst 1, 1) := by decide +kernel
theorem dL_set_13 : decode cL_set 13 = .ok (.ireturn, 1) := by decide +kernel
theorem dL_set_14 : decode cL_set 14 = .ok (.astore 4, 2) := by decide +kernel
theorem dL_set_16 : decode cL_set 16 = .ok (.iconst 2, 1) := by decide +kernel
theorem dL_set_17 : decode cL_set 17 = .ok (.ireturn, 1) := by decide +kernel
theorem dL_set_18 : decode cL_set 18 = .ok (.iconst 0, 1) := by decide +kernel
theorem dL_set_19 : decode cL_set 19 = .ok (.ireturn, 1) := by decide +kernel
def m_L_set_N (a1 : Int32) (a2 : Int32) (a3 : Int32) (pv : Nat → Int32) (dc : Nat → Option Nat) (v : Nat → Int32) (b : Nat → Int32)  : Option ((Int32) × (Nat → Int32)) := (m_P_set_N a1 a2 a3 pv dc v b).bind (fun q1 => (some (0, q1)))
section
variable {p : Program} {l : Launch} {e : Env} {s : State} {m : MethodId} {args : Array Value} {below : List Frame} {meth : Method} {c : Code} {D : va_G} {w0 : va_W} {aQ aY aS aNs aTs aEs aDc aN bN : Nat} {cd c1 : ClassId} {pv : Nat → Int32} {dc : Nat → Option Nat} {v : Nat → Int32} {a1 : Int32}
end
set_option maxRecDepth 100000 in
set_option maxHeartbeats 4000000 in
theorem k_L_set_N (l : Launch) (D : va_G) (aQ aY aS aNs aTs aEs aDc aN bN : Nat) (cd c1 : ClassId) (sz : Nat) (a1 : Int32) (a2 : Int32) (a3 : Int32) (pv : Nat → Int32) (dc : Nat → Option Nat) (v : Nat → Int32) (b : Nat → Int32) (hd : dc a1.toNatClampNeg = some aN) (res : (Int32) × (Nat → Int32)) (hm : m_L_set_N a1 a2 a3 pv dc v b  = some res) : Met l yL_set (Cond.codeWith yL_set cL_set 5 (some .int) [(0, 7, 10, 21), (0, 7, 14, 15)] :: zBIG) (zR 2 46) (va_Pc [.ref aQ, .int a1, .int a2, .int a3] (zP zW D vwCl (wQDN_t cd c1) (wQDN aQ aY aS aNs aTs aEs aDc aN bN cd c1 pv dc v b) sz)) (zQi D vwCl (wQDN aQ aY aS aNs aTs aEs aDc aN bN cd c1 pv dc v b) (wQDN aQ aY aS aNs aTs aEs aDc aN bN cd c1 pv dc v res.2) sz res.1) 0 0 (va_A (wQDN aQ aY aS aNs aTs aEs aDc aN bN cd c1 pv dc v b) sz) := by
  refine zEnterW RL [.ref aQ, .int a1, .int a2, .int a3] (by decide) rfl (Nat.le_of_ble_eq_true rfl) (fun p e s m below meth c ls htb G hK hX hP hD hsz hl => ?_)
  subst hsz
  unfold m_L_set_N at hm
  have hl : lv_has ls 5 [(0, .ref aQ), (1, .int a1), (2, .int a2), (3, .int a3)] := hl
  have hS : va_S (va_A (wQDN aQ aY aS aNs aTs aEs aDc aN bN cd c1 pv dc v b) s.heap.size) s.heap s.heap [] := va_S.rf
  have hA : ∀ q, s.heap.size ≤ q → va_A (wQDN aQ aY aS aNs aTs aEs aDc aN bN cd c1 pv dc v b) s.heap.size q := fun q h => Or.inr h
  have G0 := G
  obtain ⟨hx, hb, hr, hml, hown, hw, hlk⟩ := G
  refine lv_aload_n hx hb dL_set_0 rfl (lv_at hl 0 rfl) ?_
  refine lv_iload_n hx hb dL_set_1 rfl (lv_at hl 1 rfl) ?_
  refine lv_iload_n hx hb dL_set_2 rfl (lv_at hl 2 rfl) ?_
  refine lv_iload_n hx hb dL_set_3 rfl (lv_at hl 3 rfl) ?_
  obtain ⟨q1, hq1, hm⟩ := zbind hm
  refine zbWv (va_runV (As := [.int a1, .int a2, .int a3]) (rest := []) ⟨hx, hb, hml, hown, hw⟩ (k_P_set_N l D aQ aY aS aNs aTs aEs aDc aN bN cd c1 _ a1 a2 a3 pv dc v b hd q1 hq1) (zcV (C := RX5) 3 hw (zgood zw522) rfl rfl rfl zw176 zw524 zw523 zw525 hdX5_set ⟨Nat.le_of_ble_eq_true rfl, Nat.le_of_ble_eq_true rfl⟩) (zpreV (zpre zC_ok hX.1.1 hS (zfree hD hS hA) hP hK hD) (va_recv hK hP rfl (q0 := 0) rfl)) rfl rfl hl.1 rfl (lv_room (Nat.le_of_ble_eq_true rfl)) dL_set_4 ⟨Nat.zero_le _, Nat.zero_le _⟩) hS (zfree hD hS hA) (fun H locs hP hD hS => ?_)
  have hP : va_P D vwCl (wQDN aQ aY aS aNs aTs aEs aDc aN bN cd c1 pv dc v q1) H := hP
  have hD : va_D _ (wQDN aQ aY aS aNs aTs aEs aDc aN bN cd c1 pv dc v q1) := hD
  refine lv_goto (tgt := 18) hx hb dL_set_7 rfl ?_
  refine lv_iconst (v := 0) hx hb dL_set_18 (by decide) ?_
  cases hm
  exact zreti hx hb hr hlk hP hD hS dL_set_19

theorem dL_value_0 : decode cL_value 0 = .ok (.aload_n 2, 1) := by decide +kernel
theorem dL_value_1 : decode cL_value 1 = .ok (.iconst 0, 1) := by decide +kernel
theorem dL_value_2 : decode cL_value 2 = .ok (.aload_n 0, 1) := by decide +kernel
theorem dL_value_3 : decode cL_value 3 = .ok (.iload_n 1, 1) := by decide +kernel
theorem dL_value_4 : decode cL_value 4 = .ok (.invokevirtual 40, 3) := by decide +kernel
theorem dL_value_7 : decode cL_value 7 = .ok (.lastore, 1) := by decide +kernel
theorem dL_value_8 : decode cL_value 8 = .ok (.goto 6, 3) := by decide +kernel
theorem dL_value_11 : decode cL_value 11 = .ok (.astore_n 3, 1) := by decide +kernel
theorem dL_value_12 : decode cL_value 12 = .ok (.iconst 1, 1) := by decide +kernel
theorem dL_value_13 : decode cL_value 13 = .ok (.ireturn, 1) := by decide +kernel
theorem dL_value_14 : decode cL_value 14 = .ok (.iconst 0, 1) := by decide +kernel
theorem dL_value_15 : decode cL_value 15 = .ok (.ireturn, 1) := by decide +kernel
def m_L_value_N (a1 : Int32) (pv : Nat → Int32) (dc : Nat → Option Nat) (v : Nat → Int32) (b : Nat → Int32) (ov : Nat → Int64)  : Option ((Int32) × (Nat → Int64)) := (m_P_value_N a1 pv dc v b).bind (fun q1 => zix 0 1 ((some (0, (vp_updL ov (0 : Int32).toNatClampNeg q1)))))
section
variable {p : Program} {l : Launch} {e : Env} {s : State} {m : MethodId} {args : Array Value} {below : List Frame} {meth : Method} {c : Code} {D : va_G} {w0 : va_W} {aQ aY aS aNs aTs aEs aDc aN bN aO : Nat} {cd c1 co : ClassId} {pv : Nat → Int32} {dc : Nat → Option Nat} {v : Nat → Int32} {b : Nat → Int32} {a1 : Int32}
end
set_option maxRecDepth 100000 in
set_option maxHeartbeats 4000000 in
theorem k_L_value_N (l : Launch) (D : va_G) (aQ aY aS aNs aTs aEs aDc aN bN aO : Nat) (cd c1 co : ClassId) (sz : Nat) (a1 : Int32) (pv : Nat → Int32) (dc : Nat → Option Nat) (v : Nat → Int32) (b : Nat → Int32) (ov : Nat → Int64) (hd : dc a1.toNatClampNeg = some aN) (res : (Int32) × (Nat → Int64)) (hm : m_L_value_N a1 pv dc v b ov  = some res) : Met l yL_value (Cond.codeWith yL_value cL_value 4 (some .int) [(0, 8, 11, 21)] :: zBIG) (zR 3 65) (va_Pc [.ref aQ, .int a1, .ref aO] (zP zW D vwCl (wQDNO_t cd c1 co) (wQDNO aQ aY aS aNs aTs aEs aDc aN bN aO cd c1 co pv dc v b ov) sz)) (zQi D vwCl (wQDNO aQ aY aS aNs aTs aEs aDc aN bN aO cd c1 co pv dc v b ov) (wQDNO aQ aY aS aNs aTs aEs aDc aN bN aO cd c1 co pv dc v b res.2) sz res.1) 0 0 (va_A (wQDNO aQ aY aS aNs aTs aEs aDc aN bN aO cd c1 co pv dc v b ov) sz) := by
  refine zEnterW RL [.ref aQ, .int a1, .ref aO] (by decide) rfl (Nat.le_of_ble_eq_true rfl) (fun p e s m below meth c ls htb G hK hX hP hD hsz hl => ?_)
  subst hsz
  unfold m_L_value_N at hm
  have hl : lv_has ls 4 [(0, .ref aQ), (1, .int a1), (2, .ref aO)] := hl
  have hS : va_S (va_A (wQDNO aQ aY aS aNs aTs aEs aDc aN bN aO cd c1 co pv dc v b ov) s.heap.size) s.heap s.heap [] := va_S.rf
  have hA : ∀ q, s.heap.size ≤ q → va_A (wQDNO aQ aY aS aNs aTs aEs aDc aN bN aO cd c1 co pv dc v b ov) s.heap.size q := fun q h => Or.inr h
  have G0 := G
  obtain ⟨hx, hb, hr, hml, hown, hw, hlk⟩ := G
  refine lv_aload_n hx hb dL_value_0 rfl (lv_at hl 2 rfl) ?_
  refine lv_iconst (v := 0) hx hb dL_value_1 (by decide) ?_
  refine lv_aload_n hx hb dL_value_2 rfl (lv_at hl 0 rfl) ?_
  refine lv_iload_n hx hb dL_value_3 rfl (lv_at hl 1 rfl) ?_
  obtain ⟨q1, hq1, hm⟩ := zbind hm
  have hPc := hP.sub (ws' := (wQDN aQ aY aS aNs aTs aEs aDc aN bN cd c1 pv dc v b)) [0, 1, 2, 3] rfl
  have hDc := hD.sub (ws' := (wQDN aQ aY aS aNs aTs aEs aDc aN bN cd c1 pv dc v b)) [0, 1, 2, 3] (by decide) rfl
  have hKc := hK.sub (tys' := wQDN_t cd c1) [0, 1] rfl
  have hFc := va_free (wc := (wQDN aQ aY aS aNs aTs aEs aDc aN bN cd c1 pv dc v b)) hD hS hA [0, 1, 2, 3] rfl
  refine zbSl (wr := [(aO, .inl (co, 1, .inr (.inl ov)))]) (w1 := (wQDN aQ aY aS aNs aTs aEs aDc aN bN cd c1 pv dc v b)) (w' := (wQDNO aQ aY aS aNs aTs aEs aDc aN bN aO cd c1 co pv dc v b ov)) (va_runV (As := [.int a1]) (rest := [.int 0, .ref aO]) ⟨hx, hb, hml, hown, hw⟩ (k_P_value_N l D aQ aY aS aNs aTs aEs aDc aN bN cd c1 _ a1 pv dc v b hd q1 hq1) (zcV (C := RX5) 1 hw (zgood zw526) rfl rfl rfl zw176 zw528 zw527 zw529 hdX5_value ⟨Nat.le_of_ble_eq_true rfl, Nat.le_of_ble_eq_true rfl⟩) (zpreV (zpre zC_ok hX.1.1 hS hFc hPc hKc hDc) (va_recv hK hP rfl (q0 := 0) rfl)) rfl rfl hl.1 rfl (lv_room (Nat.le_of_ble_eq_true rfl)) dL_value_4 ⟨Nat.zero_le _, Nat.zero_le _⟩) hP hD hS hFc [0, 1, 2, 3] [4] [1, 2, 3, 4, 0] rfl rfl (by decide) (by decide) rfl (by decide) (fun H locs hP hD hS => ?_)
  obtain ⟨hi2, hm⟩ := zix_s hm
  refine va_last (i := 0) (x := q1) (f := ov) (n := 1) hx hb hK hP hD hS 4 2 rfl rfl hi2 dL_value_7 (fun H locs hP hD hS => ?_)
  have hP : va_P D vwCl (wQDNO aQ aY aS aNs aTs aEs aDc aN bN aO cd c1 co pv dc v b (vp_updL ov (0 : Int32).toNatClampNeg q1)) H := hP
  have hD : va_D _ (wQDNO aQ aY aS aNs aTs aEs aDc aN bN aO cd c1 co pv dc v b (vp_updL ov (0 : Int32).toNatClampNeg q1)) := hD
  refine lv_goto (tgt := 14) hx hb dL_value_8 rfl ?_
  refine lv_iconst (v := 0) hx hb dL_value_14 (by decide) ?_
  cases hm
  exact zreti hx hb hr hlk hP hD hS dL_value_15

def m_L_get_n2N (a1 : Int32) (a2 : Int32) (pv : Nat → Int32) (dc : Nat → Option Nat) (v : Nat → Int32) (b : Nat → Int32)  : Option ((Int32)) := (m_Px2_get_N a1 a2 pv dc v b).bind (fun q1 => (some 1))
section
variable {p : Program} {l : Launch} {e : Env} {s : State} {m : MethodId} {args : Array Value} {below : List Frame} {meth : Method} {c : Code} {D : va_G} {w0 : va_W} {aQ aY aS aNs aTs aEs aDc aN bN aO : Nat} {cd c1 : ClassId} {pv : Nat → Int32} {dc : Nat → Option Nat} {v : Nat → Int32} {b : Nat → Int32} {a1 : Int32}
end
set_option maxRecDepth 100000 in
set_option maxHeartbeats 4000000 in
theorem k_L_get_n2N (l : Launch) (D : va_G) (aQ aY aS aNs aTs aEs aDc aN bN aO : Nat) (cd c1 : ClassId) (sz : Nat) (a1 : Int32) (a2 : Int32) (pv : Nat → Int32) (dc : Nat → Option Nat) (v : Nat → Int32) (b : Nat → Int32) (hl0 : l.stackTraces = false) (hd : dc a1.toNatClampNeg = some aN) (res : (Int32)) (hm : m_L_get_n2N a1 a2 pv dc v b  = some res) : Met l yL_get (Cond.codeWith yL_get cL_get 5 (some .int) [(0, 10, 13, 21)] :: zBIG) (zRx 7 113) (va_Pc [.ref aQ, .int a1, .int a2, .ref aO] (zP zW D vwCl (wQDNo_t cd c1) (wQDNo aQ aY aS aNs aTs aEs aDc aN bN aO cd c1 pv dc v b) sz)) (zQi D vwCl (wQDNo aQ aY aS aNs aTs aEs aDc aN bN aO cd c1 pv dc v b) (wQDNo aQ aY aS aNs aTs aEs aDc aN bN aO cd c1 pv dc v b) sz res) 1 6 (va_A (wQDNo aQ aY aS aNs aTs aEs aDc aN bN aO cd c1 pv dc v b) sz) := by
  refine zEnterW RL [.ref aQ, .int a1, .int a2, .ref aO] (by decide) rfl (Nat.le_of_ble_eq_true rfl) (fun p e s m below meth c ls htb G hK hX hP hD hsz hl => ?_)
  subst hsz
  unfold m_L_get_n2N at hm
  have hl : lv_has ls 5 [(0, .ref aQ), (1, .int a1), (2, .int a2), (3, .ref aO)] := hl
  have hS : va_S (va_A (wQDNo aQ aY aS aNs aTs aEs aDc aN bN aO cd c1 pv dc v b) s.heap.size) s.heap s.heap [] := va_S.rf
  have hA : ∀ q, s.heap.size ≤ q → va_A (wQDNo aQ aY aS aNs aTs aEs aDc aN bN aO cd c1 pv dc v b) s.heap.size q := fun q h => Or.inr h
  have G0 := G
  obtain ⟨hx, hb, hr, hml, hown, hw, hlk⟩ := G
  refine lv_aload_n hx hb dL_get_0 rfl (lv_at hl 3 rfl) ?_
  refine lv_iconst (v := 0) hx hb dL_get_1 (by decide) ?_
  refine lv_aload_n hx hb dL_get_2 rfl (lv_at hl 0 rfl) ?_
  refine lv_iload_n hx hb dL_get_3 rfl (lv_at hl 1 rfl) ?_
  refine lv_iload_n hx hb dL_get_4 rfl (lv_at hl 2 rfl) ?_
  obtain ⟨q1, hq1, hm⟩ := zbind hm
  refine zxC (name := "java/util/NoSuchElementException") (vx_runV (As := [.int a1, .int a2]) (rest := [.int 0, .ref aO]) ⟨hx, hb, hml, hown, hw⟩ (k_Px2_get_N l D aQ aY aS aNs aTs aEs aDc aN bN cd c1 _ a1 a2 pv dc v b hl0 hd q1 hq1) (zcVx (C := RX5) 2 hw (zgood zw518) rfl rfl rfl zw176 zw520 zw519 zw521 hdX5_get ⟨Nat.le_of_ble_eq_true rfl, Nat.le_of_ble_eq_true rfl⟩) (zpreV (zpre zD_ok hX.1 hS (zfree hD hS hA) hP hK hD) (va_recv hK hP rfl (q0 := 0) rfl)) rfl rfl hl.1 rfl (lv_room (Nat.le_of_ble_eq_true rfl)) dL_get_5 ⟨Nat.le_of_ble_eq_true rfl, Nat.le_of_ble_eq_true rfl⟩) hS (zfree hD hS hA) hown [] ⟨0, 10, 13, 21⟩ [] (by rw [htb]; rfl) (fun _ h => absurd h List.not_mem_nil) (by decide) (by decide) (hw _ zw530) (va_Nw.use rfl (hX.1.1.1 _ zn19)) (fun q9 H locs hP hD hS => ?_)
  refine W.widen (k := 1) (n := 6) (by decide) (by decide) ?_
  have hP : va_P D vwCl (wQDNo aQ aY aS aNs aTs aEs aDc aN bN aO cd c1 pv dc v b) H := hP
  have hD : va_D _ (wQDNo aQ aY aS aNs aTs aEs aDc aN bN aO cd c1 pv dc v b) := hD
  refine lv_astore (lv' := [(4, .ref q9), (0, .ref aQ), (1, .int a1), (2, .int a2), (3, .ref aO)]) hx hb dL_get_13 hl (by decide) rfl (fun ls hl => ?_)
  refine lv_iconst (v := 1) hx hb dL_get_15 (by decide) ?_
  cases hm
  exact zreti1 hx hb hr hlk hP hD hS dL_get_16

def m_L_set_n2N (a1 : Int32) (a2 : Int32) (a3 : Int32) (pv : Nat → Int32) (dc : Nat → Option Nat) (v : Nat → Int32) (b : Nat → Int32)  : Option ((Int32) × (Nat → Int32)) := (m_Px2_set_N a1 a2 a3 pv dc v b).bind (fun q1 => (some (1, q1)))
section
variable {p : Program} {l : Launch} {e : Env} {s : State} {m : MethodId} {args : Array Value} {below : List Frame} {meth : Method} {c : Code} {D : va_G} {w0 : va_W} {aQ aY aS aNs aTs aEs aDc aN bN : Nat} {cd c1 : ClassId} {pv : Nat → Int32} {dc : Nat → Option Nat} {v : Nat → Int32} {a1 : Int32}
end
set_option maxRecDepth 100000 in
set_option maxHeartbeats 4000000 in
theorem k_L_set_n2N (l : Launch) (D : va_G) (aQ aY aS aNs aTs aEs aDc aN bN : Nat) (cd c1 : ClassId) (sz : Nat) (a1 : Int32) (a2 : Int32) (a3 : Int32) (pv : Nat → Int32) (dc : Nat → Option Nat) (v : Nat → Int32) (b : Nat → Int32) (hl0 : l.stackTraces = false) (hd : dc a1.toNatClampNeg = some aN) (res : (Int32) × (Nat → Int32)) (hm : m_L_set_n2N a1 a2 a3 pv dc v b  = some res) : Met l yL_set (Cond.codeWith yL_set cL_set 5 (some .int) [(0, 7, 10, 21), (0, 7, 14, 15)] :: zBIG) (zRx 7 114) (va_Pc [.ref aQ, .int a1, .int a2, .int a3] (zP zW D vwCl (wQDN_t cd c1) (wQDN aQ aY aS aNs aTs aEs aDc aN bN cd c1 pv dc v b) sz)) (zQi D vwCl (wQDN aQ aY aS aNs aTs aEs aDc aN bN cd c1 pv dc v b) (wQDN aQ aY aS aNs aTs aEs aDc aN bN cd c1 pv dc v res.2) sz res.1) 1 6 (va_A (wQDN aQ aY aS aNs aTs aEs aDc aN bN cd c1 pv dc v b) sz) := by
  refine zEnterW RL [.ref aQ, .int a1, .int a2, .int a3] (by decide) rfl (Nat.le_of_ble_eq_true rfl) (fun p e s m below meth c ls htb G hK hX hP hD hsz hl => ?_)
  subst hsz
  unfold m_L_set_n2N at hm
  have hl : lv_has ls 5 [(0, .ref aQ), (1, .int a1), (2, .int a2), (3, .int a3)] := hl
  have hS : va_S (va_A (wQDN aQ aY aS aNs aTs aEs aDc aN bN cd c1 pv dc v b) s.heap.size) s.heap s.heap [] := va_S.rf
  have hA : ∀ q, s.heap.size ≤ q → va_A (wQDN aQ aY aS aNs aTs aEs aDc aN bN cd c1 pv dc v b) s.heap.size q := fun q h => Or.inr h
  have G0 := G
  obtain ⟨hx, hb, hr, hml, hown, hw, hlk⟩ := G
  refine lv_aload_n hx hb dL_set_0 rfl (lv_at hl 0 rfl) ?_
  refine lv_iload_n hx hb dL_set_1 rfl (lv_at hl 1 rfl) ?_
  refine lv_iload_n hx hb dL_set_2 rfl (lv_at hl 2 rfl) ?_
  refine lv_iload_n hx hb dL_set_3 rfl (lv_at hl 3 rfl) ?_
  obtain ⟨q1, hq1, hm⟩ := zbind hm
  refine zxC (name := "java/util/NoSuchElementException") (vx_runV (As := [.int a1, .int a2, .int a3]) (rest := []) ⟨hx, hb, hml, hown, hw⟩ (k_Px2_set_N l D aQ aY aS aNs aTs aEs aDc aN bN cd c1 _ a1 a2 a3 pv dc v b hl0 hd q1 hq1) (zcVx (C := RX5) 3 hw (zgood zw522) rfl rfl rfl zw176 zw524 zw523 zw525 hdX5_set ⟨Nat.le_of_ble_eq_true rfl, Nat.le_of_ble_eq_true rfl⟩) (zpreV (zpre zD_ok hX.1 hS (zfree hD hS hA) hP hK hD) (va_recv hK hP rfl (q0 := 0) rfl)) rfl rfl hl.1 rfl (lv_room (Nat.le_of_ble_eq_true rfl)) dL_set_4 ⟨Nat.le_of_ble_eq_true rfl, Nat.le_of_ble_eq_true rfl⟩) hS (zfree hD hS hA) hown [] ⟨0, 7, 10, 21⟩ [⟨0, 7, 14, 15⟩] (by rw [htb]; rfl) (fun _ h => absurd h List.not_mem_nil) (by decide) (by decide) (hw _ zw530) (va_Nw.use rfl (hX.1.1.1 _ zn19)) (fun q9 H locs hP hD hS => ?_)
  refine W.widen (k := 1) (n := 6) (by decide) (by decide) ?_
  have hP : va_P D vwCl (wQDN aQ aY aS aNs aTs aEs aDc aN bN cd c1 pv dc v q1) H := hP
  have hD : va_D _ (wQDN aQ aY aS aNs aTs aEs aDc aN bN cd c1 pv dc v q1) := hD
  refine lv_astore (lv' := [(4, .ref q9), (0, .ref aQ), (1, .int a1), (2, .int a2), (3, .int a3)]) hx hb dL_set_10 hl (by decide) rfl (fun ls hl => ?_)
  refine lv_iconst (v := 1) hx hb dL_set_12 (by decide) ?_
  cases hm
  exact zreti1 hx hb hr hlk hP hD hS dL_set_13

def m_L_set_iN (a1 : Int32) (a2 : Int32) (a3 : Int32) (pv : Nat → Int32) (dc : Nat → Option Nat) (v : Nat → Int32) (b : Nat → Int32)  : Option ((Int32) × (Nat → Int32)) := (m_Pi_set_N a1 a2 a3 pv dc v b).bind (fun q1 => (some (2, q1)))
section
variable {p : Program} {l : Launch} {e : Env} {s : State} {m : MethodId} {args : Array Value} {below : List Frame} {meth : Method} {c : Code} {D : va_G} {w0 : va_W} {aQ aY aS aNs aTs aEs aDc aN bN : Nat} {cd c1 : ClassId} {pv : Nat → Int32} {dc : Nat → Option Nat} {v : Nat → Int32} {a1 : Int32}
end
set_option maxRecDepth 100000 in
set_option maxHeartbeats 4000000 in
theorem k_L_set_iN (l : Launch) (D : va_G) (aQ aY aS aNs aTs aEs aDc aN bN : Nat) (cd c1 : ClassId) (sz : Nat) (a1 : Int32) (a2 : Int32) (a3 : Int32) (pv : Nat → Int32) (dc : Nat → Option Nat) (v : Nat → Int32) (b : Nat → Int32) (hl0 : l.stackTraces = false) (hd : dc a1.toNatClampNeg = some aN) (res : (Int32) × (Nat → Int32)) (hm : m_L_set_iN a1 a2 a3 pv dc v b  = some res) : Met l yL_set (Cond.codeWith yL_set cL_set 5 (some .int) [(0, 7, 10, 21), (0, 7, 14, 15)] :: zBIG) (zRx 7 114) (va_Pc [.ref aQ, .int a1, .int a2, .int a3] (zP zW D vwCl (wQDN_t cd c1) (wQDN aQ aY aS aNs aTs aEs aDc aN bN cd c1 pv dc v b) sz)) (zQi D vwCl (wQDN aQ aY aS aNs aTs aEs aDc aN bN cd c1 pv dc v b) (wQDN aQ aY aS aNs aTs aEs aDc aN bN cd c1 pv dc v res.2) sz res.1) 1 6 (va_A (wQDN aQ aY aS aNs aTs aEs aDc aN bN cd c1 pv dc v b) sz) := by
  refine zEnterW RL [.ref aQ, .int a1, .int a2, .int a3] (by decide) rfl (Nat.le_of_ble_eq_true rfl) (fun p e s m below meth c ls htb G hK hX hP hD hsz hl => ?_)
  subst hsz
  unfold m_L_set_iN at hm
  have hl : lv_has ls 5 [(0, .ref aQ), (1, .int a1), (2, .int a2), (3, .int a3)] := hl
  have hS : va_S (va_A (wQDN aQ aY aS aNs aTs aEs aDc aN bN cd c1 pv dc v b) s.heap.size) s.heap s.heap [] := va_S.rf
  have hA : ∀ q, s.heap.size ≤ q → va_A (wQDN aQ aY aS aNs aTs aEs aDc aN bN cd c1 pv dc v b) s.heap.size q := fun q h => Or.inr h
  have G0 := G
  obtain ⟨hx, hb, hr, hml, hown, hw, hlk⟩ := G
  refine lv_aload_n hx hb dL_set_0 rfl (lv_at hl 0 rfl) ?_
  refine lv_iload_n hx hb dL_set_1 rfl (lv_at hl 1 rfl) ?_
  refine lv_iload_n hx hb dL_set_2 rfl (lv_at hl 2 rfl) ?_
  refine lv_iload_n hx hb dL_set_3 rfl (lv_at hl 3 rfl) ?_
  obtain ⟨q1, hq1, hm⟩ := zbind hm
  refine zxC (name := "java/lang/IllegalArgumentException") (vx_runV (As := [.int a1, .int a2, .int a3]) (rest := []) ⟨hx, hb, hml, hown, hw⟩ (k_Pi_set_N l D aQ aY aS aNs aTs aEs aDc aN bN cd c1 _ a1 a2 a3 pv dc v b hl0 hd q1 hq1) (zcVx (C := RX5) 3 hw (zgood zw522) rfl rfl rfl zw176 zw524 zw523 zw525 hdX5_set ⟨Nat.le_of_ble_eq_true rfl, Nat.le_of_ble_eq_true rfl⟩) (zpreV (zpre zD_ok hX.1 hS (zfree hD hS hA) hP hK hD) (va_recv hK hP rfl (q0 := 0) rfl)) rfl rfl hl.1 rfl (lv_room (Nat.le_of_ble_eq_true rfl)) dL_set_4 ⟨Nat.le_of_ble_eq_true rfl, Nat.le_of_ble_eq_true rfl⟩) hS (zfree hD hS hA) hown [⟨0, 7, 10, 21⟩] ⟨0, 7, 14, 15⟩ [] (by rw [htb]; rfl) (List.forall_mem_cons.mpr ⟨Or.inr ⟨by decide, "java/util/NoSuchElementException", hw _ zw530, hX.2.2.1⟩, fun _ h => absurd h List.not_mem_nil⟩) (by decide) (by decide) (hw _ zw513) (va_Nw.use rfl (hX.1.1.1 _ zn18)) (fun q9 H locs hP hD hS => ?_)
  refine W.widen (k := 1) (n := 6) (by decide) (by decide) ?_
  have hP : va_P D vwCl (wQDN aQ aY aS aNs aTs aEs aDc aN bN cd c1 pv dc v q1) H := hP
  have hD : va_D _ (wQDN aQ aY aS aNs aTs aEs aDc aN bN cd c1 pv dc v q1) := hD
  refine lv_astore (lv' := [(4, .ref q9), (0, .ref aQ), (1, .int a1), (2, .int a2), (3, .int a3)]) hx hb dL_set_14 hl (by decide) rfl (fun ls hl => ?_)
  refine lv_iconst (v := 2) hx hb dL_set_16 (by decide) ?_
  cases hm
  exact zreti1 hx hb hr hlk hP hD hS dL_set_17

theorem dL_put_0 : decode cL_put 0 = .ok (.aload_n 0, 1) := by decide +kernel
theorem dL_put_1 : decode cL_put 1 = .ok (.iload_n 1, 1) := by decide +kernel
theorem dL_put_2 : decode cL_put 2 = .ok (.lload_n 2, 1) := by decide +kernel
theorem dL_put_3 : decode cL_put 3 = .ok (.iload 4, 2) := by decide +kernel
theorem dL_put_5 : decode cL_put 5 = .ok (.invokevirtual 30, 3) := by decide +kernel
theorem dL_put_8 : decode cL_put 8 = .ok (.goto 15, 3) := by decide +kernel
theorem dL_put_11 : decode cL_put 11 = .ok (.astore 5, 2) := by decide +kernel
theorem dL_put_13 : decode cL_put 13 = .ok (.iconst 1, 1) := by decide +kernel
theorem dL_put_14 : decode cL_put 14 = .ok (.ireturn, 1) := by decide +kernel
theorem dL_put_15 : decode cL_put 15 = .ok (.astore 5, 2) := by decide +kernel
theorem dL_put_17 : decode cL_put 17 = .ok (.iconst 2, 1) := by decide +kernel
theorem dL_put_18 : decode cL_put 18 = .ok (.ireturn, 1) := by decide +kernel
theorem dL_put_19 : decode cL_put 19 = .ok (.astore 5, 2) := by decide +kernel
theorem dL_put_21 : decode cL_put 21 = .ok (.iconst 3, 1) := by decide +kernel
theorem dL_put_22 : decode cL_put 22 = .ok (.ireturn, 1) := by decide +kernel
theorem dL_put_23 : decode cL_put 23 = .ok (.iconst 0, 1) := by decide +kernel
theorem dL_put_24 : decode cL_put 24 = .ok (.ireturn, 1) := by decide +kernel
def m_L_put_N (a1 : Int32) (a2 : Int64) (a3 : Int32) (pv : Nat → Int32) (dc : Nat → Option Nat) (v : Nat → Int32) (b : Nat → Int32)  : Option ((Int32) × (Nat → Int32)) := (m_P_put_N a1 a2 a3 pv dc v b).bind (fun q1 => (some (0, q1)))
section
variable {p : Program} {l : Launch} {e : Env} {s : State} {m : MethodId} {args : Array Value} {below : List Frame} {meth : Method} {c : Code} {D : va_G} {w0 : va_W} {aQ aY aS aNs aTs aEs aDc aN bN : Nat} {cd c1 : ClassId} {pv : Nat → Int32} {dc : Nat → Option Nat} {v : Nat → Int32} {a1 : Int32}
end
set_option maxRecDepth 100000 in
set_option maxHeartbeats 4000000 in
theorem k_L_put_N (l : Launch) (D : va_G) (aQ aY aS aNs aTs aEs aDc aN bN : Nat) (cd c1 : ClassId) (sz : Nat) (a1 : Int32) (a2 : Int64) (a3 : Int32) (pv : Nat → Int32) (dc : Nat → Option Nat) (v : Nat → Int32) (b : Nat → Int32) (hd : dc a1.toNatClampNeg = some aN) (res : (Int32) × (Nat → Int32)) (hm : m_L_put_N a1 a2 a3 pv dc v b  = some res) : Met l yL_put (Cond.codeWith yL_put cL_put 6 (some .int) [(0, 8, 11, 21), (0, 8, 15, 15), (0, 8, 19, 34)] :: zBIG) (zR 4 96) (va_Pc [.ref aQ, .int a1, .long a2, .int a3] (zP zW D vwCl (wQDN_t cd c1) (wQDN aQ aY aS aNs aTs aEs aDc aN bN cd c1 pv dc v b) sz)) (zQi D vwCl (wQDN aQ aY aS aNs aTs aEs aDc aN bN cd c1 pv dc v b) (wQDN aQ aY aS aNs aTs aEs aDc aN bN cd c1 pv dc v res.2) sz res.1) 0 0 (va_A (wQDN aQ aY aS aNs aTs aEs aDc aN bN cd c1 pv dc v b) sz) := by
  refine zEnterW RL [.ref aQ, .int a1, .long a2, .int a3] (by decide) rfl (Nat.le_of_ble_eq_true rfl) (fun p e s m below meth c ls htb G hK hX hP hD hsz hl => ?_)
  subst hsz
  unfold m_L_put_N at hm
  have hl : lv_has ls 6 [(0, .ref aQ), (1, .int a1), (2, .long a2), (4, .int a3)] := hl
  have hS : va_S (va_A (wQDN aQ aY aS aNs aTs aEs aDc aN bN cd c1 pv dc v b) s.heap.size) s.heap s.heap [] := va_S.rf
  have hA : ∀ q, s.heap.size ≤ q → va_A (wQDN aQ aY aS aNs aTs aEs aDc aN bN cd c1 pv dc v b) s.heap.size q := fun q h => Or.inr h
  have G0 := G
  obtain ⟨hx, hb, hr, hml, hown, hw, hlk⟩ := G
  refine lv_aload_n hx hb dL_put_0 rfl (lv_at hl 0 rfl) ?_
  refine lv_iload_n hx hb dL_put_1 rfl (lv_at hl 1 rfl) ?_
  refine lv_lload_n hx hb dL_put_2 rfl (lv_at hl 2 rfl) ?_
  refine lv_iload hx hb dL_put_3 (lv_at hl 3 rfl) ?_
  obtain ⟨q1, hq1, hm⟩ := zbind hm
  refine zbWv (va_runV (As := [.int a1, .long a2, .int a3]) (rest := []) ⟨hx, hb, hml, hown, hw⟩ (k_P_put_N l D aQ aY aS aNs aTs aEs aDc aN bN cd c1 _ a1 a2 a3 pv dc v b hd q1 hq1) (zcV (C := RX5) 3 hw (zgood zw531) rfl rfl rfl zw176 zw533 zw532 zw534 hdX5_put ⟨Nat.le_of_ble_eq_true rfl, Nat.le_of_ble_eq_true rfl⟩) (zpreV (zpre zC_ok hX.1.1 hS (zfree hD hS hA) hP hK hD) (va_recv hK hP rfl (q0 := 0) rfl)) rfl rfl hl.1 rfl (lv_room (Nat.le_of_ble_eq_true rfl)) dL_put_5 ⟨Nat.zero_le _, Nat.zero_le _⟩) hS (zfree hD hS hA) (fun H locs hP hD hS => ?_)
  have hP : va_P D vwCl (wQDN aQ aY aS aNs aTs aEs aDc aN bN cd c1 pv dc v q1) H := hP
  have hD : va_D _ (wQDN aQ aY aS aNs aTs aEs aDc aN bN cd c1 pv dc v q1) := hD
  refine lv_goto (tgt := 23) hx hb dL_put_8 rfl ?_
  refine lv_iconst (v := 0) hx hb dL_put_23 (by decide) ?_
  cases hm
  exact zreti hx hb hr hlk hP hD hS dL_put_24

theorem dL_move_0 : decode cL_move 0 = .ok (.aload_n 0, 1) := by decide +kernel
theorem dL_move_1 : decode cL_move 1 = .ok (.iload_n 1, 1) := by decide +kernel
theorem dL_move_2 : decode cL_move 2 = .ok (.iload_n 2, 1) := by decide +kernel
theorem dL_move_3 : decode cL_move 3 = .ok (.invokevirtual 36, 3) := by decide +kernel
theorem dL_move_6 : decode cL_move 6 = .ok (.goto 9, 3) := by decide +kernel
theorem dL_move_9 : decode cL_move 9 = .ok (.astore_n 3, 1) := by decide +kernel
theorem dL_move_10 : decode cL_move 10 = .ok (.iconst 1, 1) := by decide +kernel
theorem dL_move_11 : decode cL_move 11 = .ok (.ireturn, 1) := by decide +kernel
theorem dL_move_12 : decode cL_move 12 = .ok (.astore_n 3, 1) := by decide +kernel
theorem dL_move_13 : decode cL_move 13 = .ok (.iconst 2, 1) := by decide +kernel
theorem dL_move_14 : decode cL_move 14 = .ok (.ireturn, 1) := by decide +kernel
theorem dL_move_15 : decode cL_move 15 = .ok (.iconst 0, 1) := by decide +kernel
theorem dL_move_16 : decode cL_move 16 = .ok (.ireturn, 1) := by decide +kernel
def m_L_move_N (a1 : Int32) (a2 : Int32) (pv : Nat → Int32) (dc : Nat → Option Nat) (v : Nat → Int32) (b : Nat → Int32)  : Option ((Int32) × (Nat → Int32)) := (m_P_move_N a1 a2 pv dc v b).bind (fun q1 => (some (0, q1)))
section
variable {p : Program} {l : Launch} {e : Env} {s : State} {m : MethodId} {args : Array Value} {below : List Frame} {meth : Method} {c : Code} {D : va_G} {w0 : va_W} {aQ aY aS aNs aTs aEs aDc aN bN : Nat} {cd c1 : ClassId} {pv : Nat → Int32} {dc : Nat → Option Nat} {v : Nat → Int32} {a1 : Int32} {a2 : Int32}
end
set_option maxRecDepth 100000 in
set_option maxHeartbeats 4000000 in
theorem k_L_move_N (l : Launch) (D : va_G) (aQ aY aS aNs aTs aEs aDc aN bN : Nat) (cd c1 : ClassId) (sz : Nat) (a1 : Int32) (a2 : Int32) (pv : Nat → Int32) (dc : Nat → Option Nat) (v : Nat → Int32) (b : Nat → Int32) (hd : dc a1.toNatClampNeg = some aN) (hd2 : dc a2.toNatClampNeg = some aN) (res : (Int32) × (Nat → Int32)) (hm : m_L_move_N a1 a2 pv dc v b  = some res) : Met l yL_move (Cond.codeWith yL_move cL_move 4 (some .int) [(0, 6, 9, 21), (0, 6, 12, 34)] :: zBIG) (zR 5 116) (va_Pc [.ref aQ, .int a1, .int a2] (zP zW D vwCl (wQDN_t cd c1) (wQDN aQ aY aS aNs aTs aEs aDc aN bN cd c1 pv dc v b) sz)) (zQi D vwCl (wQDN aQ aY aS aNs aTs aEs aDc aN bN cd c1 pv dc v b) (wQDN aQ aY aS aNs aTs aEs aDc aN bN cd c1 pv dc v res.2) sz res.1) 0 0 (va_A (wQDN aQ aY aS aNs aTs aEs aDc aN bN cd c1 pv dc v b) sz) := by
  refine zEnterW RL [.ref aQ, .int a1, .int a2] (by decide) rfl (Nat.le_of_ble_eq_true rfl) (fun p e s m below meth c ls htb G hK hX hP hD hsz hl => ?_)
  subst hsz
  unfold m_L_move_N at hm
  have hl : lv_has ls 4 [(0, .ref aQ), (1, .int a1), (2, .int a2)] := hl
  have hS : va_S (va_A (wQDN aQ aY aS aNs aTs aEs aDc aN bN cd c1 pv dc v b) s.heap.size) s.heap s.heap [] := va_S.rf
  have hA : ∀ q, s.heap.size ≤ q → va_A (wQDN aQ aY aS aNs aTs aEs aDc aN bN cd c1 pv dc v b) s.heap.size q := fun q h => Or.inr h
  have G0 := G
  obtain ⟨hx, hb, hr, hml, hown, hw, hlk⟩ := G
  refine lv_aload_n hx hb dL_move_0 rfl (lv_at hl 0 rfl) ?_
  refine lv_iload_n hx hb dL_move_1 rfl (lv_at hl 1 rfl) ?_
  refine lv_iload_n hx hb dL_move_2 rfl (lv_at hl 2 rfl) ?_
  obtain ⟨q1, hq1, hm⟩ := zbind hm
  refine zbWv (va_runV (As := [.int a1, .int a2]) (rest := []) ⟨hx, hb, hml, hown, hw⟩ (k_P_move_N l D aQ aY aS aNs aTs aEs aDc aN bN cd c1 _ a1 a2 pv dc v b hd hd2 q1 hq1) (zcV (C := RX5) 2 hw (zgood zw535) rfl rfl rfl zw176 zw537 zw536 zw538 hdX5_move ⟨Nat.le_of_ble_eq_true rfl, Nat.le_of_ble_eq_true rfl⟩) (zpreV (zpre zC_ok hX.1.1 hS (zfree hD hS hA) hP hK hD) (va_recv hK hP rfl (q0 := 0) rfl)) rfl rfl hl.1 rfl (lv_room (Nat.le_of_ble_eq_true rfl)) dL_move_3 ⟨Nat.zero_le _, Nat.zero_le _⟩) hS (zfree hD hS hA) (fun H locs hP hD hS => ?_)
  have hP : va_P D vwCl (wQDN aQ aY aS aNs aTs aEs aDc aN bN cd c1 pv dc v q1) H := hP
  have hD : va_D _ (wQDN aQ aY aS aNs aTs aEs aDc aN bN cd c1 pv dc v q1) := hD
  refine lv_goto (tgt := 15) hx hb dL_move_6 rfl ?_
  refine lv_iconst (v := 0) hx hb dL_move_15 (by decide) ?_
  cases hm
  exact zreti hx hb hr hlk hP hD hS dL_move_16

def m_L_move_NN (a1 : Int32) (a2 : Int32) (pv : Nat → Int32) (dc : Nat → Option Nat) (v : Nat → Int32) (b : Nat → Int32) (v2 : Nat → Int32) (b2 : Nat → Int32)  : Option ((Int32) × (Nat → Int32)) := (m_P_move_NN a1 a2 pv dc v b v2 b2).bind (fun q1 => (some (0, q1)))
section
variable {p : Program} {l : Launch} {e : Env} {s : State} {m : MethodId} {args : Array Value} {below : List Frame} {meth : Method} {c : Code} {D : va_G} {w0 : va_W} {aQ aY aS aNs aTs aEs aDc aN bN aN2 bN2 : Nat} {cd c1 c12 : ClassId} {pv : Nat → Int32} {dc : Nat → Option Nat} {v : Nat → Int32} {v2 : Nat → Int32} {b2 : Nat → Int32} {a1 : Int32} {a2 : Int32}
end
set_option maxRecDepth 100000 in
set_option maxHeartbeats 4000000 in
theorem k_L_move_NN (l : Launch) (D : va_G) (aQ aY aS aNs aTs aEs aDc aN bN aN2 bN2 : Nat) (cd c1 c12 : ClassId) (sz : Nat) (a1 : Int32) (a2 : Int32) (pv : Nat → Int32) (dc : Nat → Option Nat) (v : Nat → Int32) (b : Nat → Int32) (v2 : Nat → Int32) (b2 : Nat → Int32) (hd : dc a1.toNatClampNeg = some aN2) (hd2 : dc a2.toNatClampNeg = some aN) (res : (Int32) × (Nat → Int32)) (hm : m_L_move_NN a1 a2 pv dc v b v2 b2  = some res) : Met l yL_move (Cond.codeWith yL_move cL_move 4 (some .int) [(0, 6, 9, 21), (0, 6, 12, 34)] :: zBIG) (zR 5 116) (va_Pc [.ref aQ, .int a1, .int a2] (zP zW D vwCl (wQDNN2_t cd c1 c12) (wQDNN2 aQ aY aS aNs aTs aEs aDc aN bN aN2 bN2 cd c1 c12 pv dc v b v2 b2) sz)) (zQi D vwCl (wQDNN2 aQ aY aS aNs aTs aEs aDc aN bN aN2 bN2 cd c1 c12 pv dc v b v2 b2) (wQDNN2 aQ aY aS aNs aTs aEs aDc aN bN aN2 bN2 cd c1 c12 pv dc v res.2 v2 b2) sz res.1) 0 0 (va_A (wQDNN2 aQ aY aS aNs aTs aEs aDc aN bN aN2 bN2 cd c1 c12 pv dc v b v2 b2) sz) := by
  refine zEnterW RL [.ref aQ, .int a1, .int a2] (by decide) rfl (Nat.le_of_ble_eq_true rfl) (fun p e s m below meth c ls htb G hK hX hP hD hsz hl => ?_)
  subst hsz
  unfold m_L_move_NN at hm
  have hl : lv_has ls 4 [(0, .ref aQ), (1, .int a1), (2, .int a2)] := hl
  have hS : va_S (va_A (wQDNN2 aQ aY aS aNs aTs aEs aDc aN bN aN2 bN2 cd c1 c12 pv dc v b v2 b2) s.heap.size) s.heap s.heap [] := va_S.rf
  have hA : ∀ q, s.heap.size ≤ q → va_A (wQDNN2 aQ aY aS aNs aTs aEs aDc aN bN aN2 bN2 cd c1 c12 pv dc v b v2 b2) s.heap.size q := fun q h => Or.inr h
  have G0 := G
  obtain ⟨hx, hb, hr, hml, hown, hw, hlk⟩ := G
  refine lv_aload_n hx hb dL_move_0 rfl (lv_at hl 0 rfl) ?_
  refine lv_iload_n hx hb dL_move_1 rfl (lv_at hl 1 rfl) ?_
  refine lv_iload_n hx hb dL_move_2 rfl (lv_at hl 2 rfl) ?_
  obtain ⟨q1, hq1, hm⟩ := zbind hm
  refine zbWv (va_runV (As := [.int a1, .int a2]) (rest := []) ⟨hx, hb, hml, hown, hw⟩ (k_P_move_NN l D aQ aY aS aNs aTs aEs aDc aN bN aN2 bN2 cd c1 c12 _ a1 a2 pv dc v b v2 b2 hd hd2 q1 hq1) (zcV (C := RX5) 2 hw (zgood zw535) rfl rfl rfl zw176 zw537 zw536 zw538 hdX5_move ⟨Nat.le_of_ble_eq_true rfl, Nat.le_of_ble_eq_true rfl⟩) (zpreV (zpre zC_ok hX.1.1 hS (zfree hD hS hA) hP hK hD) (va_recv hK hP rfl (q0 := 0) rfl)) rfl rfl hl.1 rfl (lv_room (Nat.le_of_ble_eq_true rfl)) dL_move_3 ⟨Nat.zero_le _, Nat.zero_le _⟩) hS (zfree hD hS hA) (fun H locs hP hD hS => ?_)
  have hP : va_P D vwCl (wQDNN2 aQ aY aS aNs aTs aEs aDc aN bN aN2 bN2 cd c1 c12 pv dc v q1 v2 b2) H := hP
  have hD : va_D _ (wQDNN2 aQ aY aS aNs aTs aEs aDc aN bN aN2 bN2 cd c1 c12 pv dc v q1 v2 b2) := hD
  refine lv_goto (tgt := 15) hx hb dL_move_6 rfl ?_
  refine lv_iconst (v := 0) hx hb dL_move_15 (by decide) ?_
  cases hm
  exact zreti hx hb hr hlk hP hD hS dL_move_16

def m_L_move_NT (a1 : Int32) (a2 : Int32) (pv : Nat → Int32) (dc : Nat → Option Nat) (v : Nat → Int32) (b : Nat → Int32) (v2 : Nat → Int32) (b2 : Nat → Int32)  : Option ((Int32) × (Nat → Int32)) := (m_P_move_NT a1 a2 pv dc v b v2 b2).bind (fun q1 => (some (0, q1)))
section
variable {p : Program} {l : Launch} {e : Env} {s : State} {m : MethodId} {args : Array Value} {below : List Frame} {meth : Method} {c : Code} {D : va_G} {w0 : va_W} {aQ aY aS aNs aTs aEs aDc aN bN aT2 bT2 : Nat} {cd c1 c12 : ClassId} {pv : Nat → Int32} {dc : Nat → Option Nat} {v : Nat → Int32} {v2 : Nat → Int32} {b2 : Nat → Int32} {a1 : Int32} {a2 : Int32}
end
set_option maxRecDepth 100000 in
set_option maxHeartbeats 4000000 in
theorem k_L_move_NT (l : Launch) (D : va_G) (aQ aY aS aNs aTs aEs aDc aN bN aT2 bT2 : Nat) (cd c1 c12 : ClassId) (sz : Nat) (a1 : Int32) (a2 : Int32) (pv : Nat → Int32) (dc : Nat → Option Nat) (v : Nat → Int32) (b : Nat → Int32) (v2 : Nat → Int32) (b2 : Nat → Int32) (hd : dc a1.toNatClampNeg = some aT2) (hd2 : dc a2.toNatClampNeg = some aN) (res : (Int32) × (Nat → Int32)) (hm : m_L_move_NT a1 a2 pv dc v b v2 b2  = some res) : Met l yL_move (Cond.codeWith yL_move cL_move 4 (some .int) [(0, 6, 9, 21), (0, 6, 12, 34)] :: zBIG) (zR 5 116) (va_Pc [.ref aQ, .int a1, .int a2] (zP zW D vwCl (wQDNT2_t cd c1 c12) (wQDNT2 aQ aY aS aNs aTs aEs aDc aN bN aT2 bT2 cd c1 c12 pv dc v b v2 b2) sz)) (zQi D vwCl (wQDNT2 aQ aY aS aNs aTs aEs aDc aN bN aT2 bT2 cd c1 c12 pv dc v b v2 b2) (wQDNT2 aQ aY aS aNs aTs aEs aDc aN bN aT2 bT2 cd c1 c12 pv dc v res.2 v2 b2) sz res.1) 0 0 (va_A (wQDNT2 aQ aY aS aNs aTs aEs aDc aN bN aT2 bT2 cd c1 c12 pv dc v b v2 b2) sz) := by
  refine zEnterW RL [.ref aQ, .int a1, .int a2] (by decide) rfl (Nat.le_of_ble_eq_true rfl) (fun p e s m below meth c ls htb G hK hX hP hD hsz hl => ?_)
  subst hsz
  unfold m_L_move_NT at hm
  have hl : lv_has ls 4 [(0, .ref aQ), (1, .int a1), (2, .int a2)] := hl
  have hS : va_S (va_A (wQDNT2 aQ aY aS aNs aTs aEs aDc aN bN aT2 bT2 cd c1 c12 pv dc v b v2 b2) s.heap.size) s.heap s.heap [] := va_S.rf
  have hA : ∀ q, s.heap.size ≤ q → va_A (wQDNT2 aQ aY aS aNs aTs aEs aDc aN bN aT2 bT2 cd c1 c12 pv dc v b v2 b2) s.heap.size q := fun q h => Or.inr h
  have G0 := G
  obtain ⟨hx, hb, hr, hml, hown, hw, hlk⟩ := G
  refine lv_aload_n hx hb dL_move_0 rfl (lv_at hl 0 rfl) ?_
  refine lv_iload_n hx hb dL_move_1 rfl (lv_at hl 1 rfl) ?_
  refine lv_iload_n hx hb dL_move_2 rfl (lv_at hl 2 rfl) ?_
  obtain ⟨q1, hq1, hm⟩ := zbind hm
  refine zbWv (va_runV (As := [.int a1, .int a2]) (rest := []) ⟨hx, hb, hml, hown, hw⟩ (k_P_move_NT l D aQ aY aS aNs aTs aEs aDc aN bN aT2 bT2 cd c1 c12 _ a1 a2 pv dc v b v2 b2 hd hd2 q1 hq1) (zcV (C := RX5) 2 hw (zgood zw535) rfl rfl rfl zw176 zw537 zw536 zw538 hdX5_move ⟨Nat.le_of_ble_eq_true rfl, Nat.le_of_ble_eq_true rfl⟩) (zpreV (zpre zC_ok hX.1.1 hS (zfree hD hS hA) hP hK hD) (va_recv hK hP rfl (q0 := 0) rfl)) rfl rfl hl.1 rfl (lv_room (Nat.le_of_ble_eq_true rfl)) dL_move_3 ⟨Nat.zero_le _, Nat.zero_le _⟩) hS (zfree hD hS hA) (fun H locs hP hD hS => ?_)
  have hP : va_P D vwCl (wQDNT2 aQ aY aS aNs aTs aEs aDc aN bN aT2 bT2 cd c1 c12 pv dc v q1 v2 b2) H := hP
  have hD : va_D _ (wQDNT2 aQ aY aS aNs aTs aEs aDc aN bN aT2 bT2 cd c1 c12 pv dc v q1 v2 b2) := hD
  refine lv_goto (tgt := 15) hx hb dL_move_6 rfl ?_
  refine lv_iconst (v := 0) hx hb dL_move_15 (by decide) ?_
  cases hm
  exact zreti hx hb hr hlk hP hD hS dL_move_16

def m_L_move_NE (a1 : Int32) (a2 : Int32) (pv : Nat → Int32) (dc : Nat → Option Nat) (v : Nat → Int32) (b : Nat → Int32) (v2 : Nat → Int32) (b2 : Nat → Int32) (rw2 : Nat → Int32) (pw2 : Nat → Int32)  : Option ((Int32) × (Nat → Int32)) := (m_P_move_NE a1 a2 pv dc v b v2 b2 rw2 pw2).bind (fun q1 => (some (0, q1)))
section
variable {p : Program} {l : Launch} {e : Env} {s : State} {m : MethodId} {args : Array Value} {below : List Frame} {meth : Method} {c : Code} {D : va_G} {w0 : va_W} {aQ aY aS aNs aTs aEs aDc aN bN aE2 bE2 rE2 pE2 : Nat} {cd c1 c12 c22 c32 : ClassId} {pv : Nat → Int32} {dc : Nat → Option Nat} {v : Nat → Int32} {v2 : Nat → Int32} {b2 : Nat → Int32} {rw2 : Nat → Int32} {pw2 : Nat → Int32} {a1 : Int32} {a2 : Int32}
end
set_option maxRecDepth 100000 in
set_option maxHeartbeats 4000000 in
theorem k_L_move_NE (l : Launch) (D : va_G) (aQ aY aS aNs aTs aEs aDc aN bN aE2 bE2 rE2 pE2 : Nat) (cd c1 c12 c22 c32 : ClassId) (sz : Nat) (a1 : Int32) (a2 : Int32) (pv : Nat → Int32) (dc : Nat → Option Nat) (v : Nat → Int32) (b : Nat → Int32) (v2 : Nat → Int32) (b2 : Nat → Int32) (rw2 : Nat → Int32) (pw2 : Nat → Int32) (hd : dc a1.toNatClampNeg = some aE2) (hd2 : dc a2.toNatClampNeg = some aN) (res : (Int32) × (Nat → Int32)) (hm : m_L_move_NE a1 a2 pv dc v b v2 b2 rw2 pw2  = some res) : Met l yL_move (Cond.codeWith yL_move cL_move 4 (some .int) [(0, 6, 9, 21), (0, 6, 12, 34)] :: zBIG) (zR 5 116) (va_Pc [.ref aQ, .int a1, .int a2] (zP zW D vwCl (wQDNE2_t cd c1 c12 c22 c32) (wQDNE2 aQ aY aS aNs aTs aEs aDc aN bN aE2 bE2 rE2 pE2 cd c1 c12 c22 c32 pv dc v b v2 b2 rw2 pw2) sz)) (zQi D vwCl (wQDNE2 aQ aY aS aNs aTs aEs aDc aN bN aE2 bE2 rE2 pE2 cd c1 c12 c22 c32 pv dc v b v2 b2 rw2 pw2) (wQDNE2 aQ aY aS aNs aTs aEs aDc aN bN aE2 bE2 rE2 pE2 cd c1 c12 c22 c32 pv dc v res.2 v2 b2 rw2 pw2) sz res.1) 0 0 (va_A (wQDNE2 aQ aY aS aNs aTs aEs aDc aN bN aE2 bE2 rE2 pE2 cd c1 c12 c22 c32 pv dc v b v2 b2 rw2 pw2) sz) := by
  refine zEnterW RL [.ref aQ, .int a1, .int a2] (by decide) rfl (Nat.le_of_ble_eq_true rfl) (fun p e s m below meth c ls htb G hK hX hP hD hsz hl => ?_)
  subst hsz
  unfold m_L_move_NE at hm
  have hl : lv_has ls 4 [(0, .ref aQ), (1, .int a1), (2, .int a2)] := hl
  have hS : va_S (va_A (wQDNE2 aQ aY aS aNs aTs aEs aDc aN bN aE2 bE2 rE2 pE2 cd c1 c12 c22 c32 pv dc v b v2 b2 rw2 pw2) s.heap.size) s.heap s.heap [] := va_S.rf
  have hA : ∀ q, s.heap.size ≤ q → va_A (wQDNE2 aQ aY aS aNs aTs aEs aDc aN bN aE2 bE2 rE2 pE2 cd c1 c12 c22 c32 pv dc v b v2 b2 rw2 pw2) s.heap.size q := fun q h => Or.inr h
  have G0 := G
  obtain ⟨hx, hb, hr, hml, hown, hw, hlk⟩ := G
  refine lv_aload_n hx hb dL_move_0 rfl (lv_at hl 0 rfl) ?_
  refine lv_iload_n hx hb dL_move_1 rfl (lv_at hl 1 rfl) ?_
  refine lv_iload_n hx hb dL_move_2 rfl (lv_at hl 2 rfl) ?_
  obtain ⟨q1, hq1, hm⟩ := zbind hm
  refine zbWv (va_runV (As := [.int a1, .int a2]) (rest := []) ⟨hx, hb, hml, hown, hw⟩ (k_P_move_NE l D aQ aY aS aNs aTs aEs aDc aN bN aE2 bE2 rE2 pE2 cd c1 c12 c22 c32 _ a1 a2 pv dc v b v2 b2 rw2 pw2 hd hd2 q1 hq1) (zcV (C := RX5) 2 hw (zgood zw535) rfl rfl rfl zw176 zw537 zw536 zw538 hdX5_move ⟨Nat.le_of_ble_eq_true rfl, Nat.le_of_ble_eq_true rfl⟩) (zpreV (zpre zC_ok hX.1.1 hS (zfree hD hS hA) hP hK hD) (va_recv hK hP rfl (q0 := 0) rfl)) rfl rfl hl.1 rfl (lv_room (Nat.le_of_ble_eq_true rfl)) dL_move_3 ⟨Nat.zero_le _, Nat.zero_le _⟩) hS (zfree hD hS hA) (fun H locs hP hD hS => ?_)
  have hP : va_P D vwCl (wQDNE2 aQ aY aS aNs aTs aEs aDc aN bN aE2 bE2 rE2 pE2 cd c1 c12 c22 c32 pv dc v q1 v2 b2 rw2 pw2) H := hP
  have hD : va_D _ (wQDNE2 aQ aY aS aNs aTs aEs aDc aN bN aE2 bE2 rE2 pE2 cd c1 c12 c22 c32 pv dc v q1 v2 b2 rw2 pw2) := hD
  refine lv_goto (tgt := 15) hx hb dL_move_6 rfl ?_
  refine lv_iconst (v := 0) hx hb dL_move_15 (by decide) ?_
  cases hm
  exact zreti hx hb hr hlk hP hD hS dL_move_16

def m_L_look_T (a1 : Int32) (a2 : Int32) (pv : Nat → Int32) (dc : Nat → Option Nat) (v : Nat → Int32) (b : Nat → Int32) (ov : Nat → Int64)  : Option ((Int32) × (Nat → Int64)) := (m_P_look_T a1 a2 pv dc v b).bind (fun q1 => zix 0 1 ((some (0, (vp_updL ov (0 : Int32).toNatClampNeg ((q1).toInt64))))))
section
variable {p : Program} {l : Launch} {e : Env} {s : State} {m : MethodId} {args : Array Value} {below : List Frame} {meth : Method} {c : Code} {D : va_G} {w0 : va_W} {aQ aY aS aNs aTs aEs aDc aT bT aO : Nat} {cd c1 co : ClassId} {pv : Nat → Int32} {dc : Nat → Option Nat} {v : Nat → Int32} {b : Nat → Int32} {a1 : Int32}
end
set_option maxRecDepth 100000 in
set_option maxHeartbeats 4000000 in
theorem k_L_look_T (l : Launch) (D : va_G) (aQ aY aS aNs aTs aEs aDc aT bT aO : Nat) (cd c1 co : ClassId) (sz : Nat) (a1 : Int32) (a2 : Int32) (pv : Nat → Int32) (dc : Nat → Option Nat) (v : Nat → Int32) (b : Nat → Int32) (ov : Nat → Int64) (hd : dc a1.toNatClampNeg = some aT) (res : (Int32) × (Nat → Int64)) (hm : m_L_look_T a1 a2 pv dc v b ov  = some res) : Met l yL_look (Cond.codeWith yL_look cL_look 5 (some .int) [(0, 10, 13, 21), (0, 10, 17, 15)] :: zBIG) (zR 2 45) (va_Pc [.ref aQ, .int a1, .int a2, .ref aO] (zP zW D vwCl (wQDTO_t cd c1 co) (wQDTO aQ aY aS aNs aTs aEs aDc aT bT aO cd c1 co pv dc v b ov) sz)) (zQi D vwCl (wQDTO aQ aY aS aNs aTs aEs aDc aT bT aO cd c1 co pv dc v b ov) (wQDTO aQ aY aS aNs aTs aEs aDc aT bT aO cd c1 co pv dc v b res.2) sz res.1) 0 0 (va_A (wQDTO aQ aY aS aNs aTs aEs aDc aT bT aO cd c1 co pv dc v b ov) sz) := by
  refine zEnterW RL [.ref aQ, .int a1, .int a2, .ref aO] (by decide) rfl (Nat.le_of_ble_eq_true rfl) (fun p e s m below meth c ls htb G hK hX hP hD hsz hl => ?_)
  subst hsz
  unfold m_L_look_T at hm
  have hl : lv_has ls 5 [(0, .ref aQ), (1, .int a1), (2, .int a2), (3, .ref aO)] := hl
  have hS : va_S (va_A (wQDTO aQ aY aS aNs aTs aEs aDc aT bT aO cd c1 co pv dc v b ov) s.heap.size) s.heap s.heap [] := va_S.rf
  have hA : ∀ q, s.heap.size ≤ q → va_A (wQDTO aQ aY aS aNs aTs aEs aDc aT bT aO cd c1 co pv dc v b ov) s.heap.size q := fun q h => Or.inr h
  have G0 := G
  obtain ⟨hx, hb, hr, hml, hown, hw, hlk⟩ := G
  refine lv_aload_n hx hb dL_look_0 rfl (lv_at hl 3 rfl) ?_
  refine lv_iconst (v := 0) hx hb dL_look_1 (by decide) ?_
  refine lv_aload_n hx hb dL_look_2 rfl (lv_at hl 0 rfl) ?_
  refine lv_iload_n hx hb dL_look_3 rfl (lv_at hl 1 rfl) ?_
  refine lv_iload_n hx hb dL_look_4 rfl (lv_at hl 2 rfl) ?_
  obtain ⟨q1, hq1, hm⟩ := zbind hm
  have hPc := hP.sub (ws' := (wQDT aQ aY aS aNs aTs aEs aDc aT bT cd c1 pv dc v b)) [0, 1, 2, 3] rfl
  have hDc := hD.sub (ws' := (wQDT aQ aY aS aNs aTs aEs aDc aT bT cd c1 pv dc v b)) [0, 1, 2, 3] (by decide) rfl
  have hKc := hK.sub (tys' := wQDT_t cd c1) [0, 1] rfl
  have hFc := va_free (wc := (wQDT aQ aY aS aNs aTs aEs aDc aT bT cd c1 pv dc v b)) hD hS hA [0, 1, 2, 3] rfl
  refine zbSi (wr := [(aO, .inl (co, 1, .inr (.inl ov)))]) (w1 := (wQDT aQ aY aS aNs aTs aEs aDc aT bT cd c1 pv dc v b)) (w' := (wQDTO aQ aY aS aNs aTs aEs aDc aT bT aO cd c1 co pv dc v b ov)) (va_runV (As := [.int a1, .int a2]) (rest := [.int 0, .ref aO]) ⟨hx, hb, hml, hown, hw⟩ (k_P_look_T l D aQ aY aS aNs aTs aEs aDc aT bT cd c1 _ a1 a2 pv dc v b hd q1 hq1) (zcV (C := RX5) 2 hw (zgood zw514) rfl rfl rfl zw176 zw516 zw515 zw517 hdX5_look ⟨Nat.le_of_ble_eq_true rfl, Nat.le_of_ble_eq_true rfl⟩) (zpreV (zpre zC_ok hX.1.1 hS hFc hPc hKc hDc) (va_recv hK hP rfl (q0 := 0) rfl)) rfl rfl hl.1 rfl (lv_room (Nat.le_of_ble_eq_true rfl)) dL_look_5 ⟨Nat.zero_le _, Nat.zero_le _⟩) hP hD hS hFc [0, 1, 2, 3] [4] [1, 2, 3, 4, 0] rfl rfl (by decide) (by decide) rfl (by decide) (fun H locs hP hD hS => ?_)
  refine lv_i2l (v := ((q1).toInt64)) hx hb dL_look_8 rfl ?_
  obtain ⟨hi2, hm⟩ := zix_s hm
  refine va_last (i := 0) (x := ((q1).toInt64)) (f := ov) (n := 1) hx hb hK hP hD hS 4 2 rfl rfl hi2 dL_look_9 (fun H locs hP hD hS => ?_)
  have hP : va_P D vwCl (wQDTO aQ aY aS aNs aTs aEs aDc aT bT aO cd c1 co pv dc v b (vp_updL ov (0 : Int32).toNatClampNeg ((q1).toInt64))) H := hP
  have hD : va_D _ (wQDTO aQ aY aS aNs aTs aEs aDc aT bT aO cd c1 co pv dc v b (vp_updL ov (0 : Int32).toNatClampNeg ((q1).toInt64))) := hD
  refine lv_goto (tgt := 21) hx hb dL_look_10 rfl ?_
  refine lv_iconst (v := 0) hx hb dL_look_21 (by decide) ?_
  cases hm
  exact zreti hx hb hr hlk hP hD hS dL_look_22

def m_L_get_T (a1 : Int32) (a2 : Int32) (pv : Nat → Int32) (dc : Nat → Option Nat) (v : Nat → Int32) (b : Nat → Int32) (ov : Nat → Int64)  : Option ((Int32) × (Nat → Int64)) := (m_P_get_T a1 a2 pv dc v b).bind (fun q1 => zix 0 1 ((some (0, (vp_updL ov (0 : Int32).toNatClampNeg ((q1).toInt64))))))
section
variable {p : Program} {l : Launch} {e : Env} {s : State} {m : MethodId} {args : Array Value} {below : List Frame} {meth : Method} {c : Code} {D : va_G} {w0 : va_W} {aQ aY aS aNs aTs aEs aDc aT bT aO : Nat} {cd c1 co : ClassId} {pv : Nat → Int32} {dc : Nat → Option Nat} {v : Nat → Int32} {b : Nat → Int32} {a1 : Int32}
end
set_option maxRecDepth 100000 in
set_option maxHeartbeats 4000000 in
theorem k_L_get_T (l : Launch) (D : va_G) (aQ aY aS aNs aTs aEs aDc aT bT aO : Nat) (cd c1 co : ClassId) (sz : Nat) (a1 : Int32) (a2 : Int32) (pv : Nat → Int32) (dc : Nat → Option Nat) (v : Nat → Int32) (b : Nat → Int32) (ov : Nat → Int64) (hd : dc a1.toNatClampNeg = some aT) (res : (Int32) × (Nat → Int64)) (hm : m_L_get_T a1 a2 pv dc v b ov  = some res) : Met l yL_get (Cond.codeWith yL_get cL_get 5 (some .int) [(0, 10, 13, 21)] :: zBIG) (zR 2 45) (va_Pc [.ref aQ, .int a1, .int a2, .ref aO] (zP zW D vwCl (wQDTO_t cd c1 co) (wQDTO aQ aY aS aNs aTs aEs aDc aT bT aO cd c1 co pv dc v b ov) sz)) (zQi D vwCl (wQDTO aQ aY aS aNs aTs aEs aDc aT bT aO cd c1 co pv dc v b ov) (wQDTO aQ aY aS aNs aTs aEs aDc aT bT aO cd c1 co pv dc v b res.2) sz res.1) 0 0 (va_A (wQDTO aQ aY aS aNs aTs aEs aDc aT bT aO cd c1 co pv dc v b ov) sz) := by
  refine zEnterW RL [.ref aQ, .int a1, .int a2, .ref aO] (by decide) rfl (Nat.le_of_ble_eq_true rfl) (fun p e s m below meth c ls htb G hK hX hP hD hsz hl => ?_)
  subst hsz
  unfold m_L_get_T at hm
  have hl : lv_has ls 5 [(0, .ref aQ), (1, .int a1), (2, .int a2), (3, .ref aO)] := hl
  have hS : va_S (va_A (wQDTO aQ aY aS aNs aTs aEs aDc aT bT aO cd c1 co pv dc v b ov) s.heap.size) s.heap s.heap [] := va_S.rf
  have hA : ∀ q, s.heap.size ≤ q → va_A (wQDTO aQ aY aS aNs aTs aEs aDc aT bT aO cd c1 co pv dc v b ov) s.heap.size q := fun q h => Or.inr h
  have G0 := G
  obtain ⟨hx, hb, hr, hml, hown, hw, hlk⟩ := G
  refine lv_aload_n hx hb dL_get_0 rfl (lv_at hl 3 rfl) ?_
  refine lv_iconst (v := 0) hx hb dL_get_1 (by decide) ?_
  refine lv_aload_n hx hb dL_get_2 rfl (lv_at hl 0 rfl) ?_
  refine lv_iload_n hx hb dL_get_3 rfl (lv_at hl 1 rfl) ?_
  refine lv_iload_n hx hb dL_get_4 rfl (lv_at hl 2 rfl) ?_
  obtain ⟨q1, hq1, hm⟩ := zbind hm
  have hPc := hP.sub (ws' := (wQDT aQ aY aS aNs aTs aEs aDc aT bT cd c1 pv dc v b)) [0, 1, 2, 3] rfl
  have hDc := hD.sub (ws' := (wQDT aQ aY aS aNs aTs aEs aDc aT bT cd c1 pv dc v b)) [0, 1, 2, 3] (by decide) rfl
  have hKc := hK.sub (tys' := wQDT_t cd c1) [0, 1] rfl
  have hFc := va_free (wc := (wQDT aQ aY aS aNs aTs aEs aDc aT bT cd c1 pv dc v b)) hD hS hA [0, 1, 2, 3] rfl
  refine zbSi (wr := [(aO, .inl (co, 1, .inr (.inl ov)))]) (w1 := (wQDT aQ aY aS aNs aTs aEs aDc aT bT cd c1 pv dc v b)) (w' := (wQDTO aQ aY aS aNs aTs aEs aDc aT bT aO cd c1 co pv dc v b ov)) (va_runV (As := [.int a1, .int a2]) (rest := [.int 0, .ref aO]) ⟨hx, hb, hml, hown, hw⟩ (k_P_get_T l D aQ aY aS aNs aTs aEs aDc aT bT cd c1 _ a1 a2 pv dc v b hd q1 hq1) (zcV (C := RX5) 2 hw (zgood zw518) rfl rfl rfl zw176 zw520 zw519 zw521 hdX5_get ⟨Nat.le_of_ble_eq_true rfl, Nat.le_of_ble_eq_true rfl⟩) (zpreV (zpre zC_ok hX.1.1 hS hFc hPc hKc hDc) (va_recv hK hP rfl (q0 := 0) rfl)) rfl rfl hl.1 rfl (lv_room (Nat.le_of_ble_eq_true rfl)) dL_get_5 ⟨Nat.zero_le _, Nat.zero_le _⟩) hP hD hS hFc [0, 1, 2, 3] [4] [1, 2, 3, 4, 0] rfl rfl (by decide) (by decide) rfl (by decide) (fun H locs hP hD hS => ?_)
  refine lv_i2l (v := ((q1).toInt64)) hx hb dL_get_8 rfl ?_
  obtain ⟨hi2, hm⟩ := zix_s hm
  refine va_last (i := 0) (x := ((q1).toInt64)) (f := ov) (n := 1) hx hb hK hP hD hS 4 2 rfl rfl hi2 dL_get_9 (fun H locs hP hD hS => ?_)
  have hP : va_P D vwCl (wQDTO aQ aY aS aNs aTs aEs aDc aT bT aO cd c1 co pv dc v b (vp_updL ov (0 : Int32).toNatClampNeg ((q1).toInt64))) H := hP
  have hD : va_D _ (wQDTO aQ aY aS aNs aTs aEs aDc aT bT aO cd c1 co pv dc v b (vp_updL ov (0 : Int32).toNatClampNeg ((q1).toInt64))) := hD
  refine lv_goto (tgt := 17) hx hb dL_get_10 rfl ?_
  refine lv_iconst (v := 0) hx hb dL_get_17 (by decide) ?_
  cases hm
  exact zreti hx hb hr hlk hP hD hS dL_get_18

def m_L_set_T (a1 : Int32) (a2 : Int32) (a3 : Int32) (pv : Nat → Int32) (dc : Nat → Option Nat) (v : Nat → Int32) (b : Nat → Int32)  : Option ((Int32) × (Nat → Int32)) := (m_P_set_T a1 a2 a3 pv dc v b).bind (fun q1 => (some (0, q1)))
section
variable {p : Program} {l : Launch} {e : Env} {s : State} {m : MethodId} {args : Array Value} {below : List Frame} {meth : Method} {c : Code} {D : va_G} {w0 : va_W} {aQ aY aS aNs aTs aEs aDc aT bT : Nat} {cd c1 : ClassId} {pv : Nat → Int32} {dc : Nat → Option Nat} {v : Nat → Int32} {a1 : Int32}
end
set_option maxRecDepth 100000 in
set_option maxHeartbeats 4000000 in
theorem k_L_set_T (l : Launch) (D : va_G) (aQ aY aS aNs aTs aEs aDc aT bT : Nat) (cd c1 : ClassId) (sz : Nat) (a1 : Int32) (a2 : Int32) (a3 : Int32) (pv : Nat → Int32) (dc : Nat → Option Nat) (v : Nat → Int32) (b : Nat → Int32) (hd : dc a1.toNatClampNeg = some aT) (res : (Int32) × (Nat → Int32)) (hm : m_L_set_T a1 a2 a3 pv dc v b  = some res) : Met l yL_set (Cond.codeWith yL_set cL_set 5 (some .int) [(0, 7, 10, 21), (0, 7, 14, 15)] :: zBIG) (zR 2 46) (va_Pc [.ref aQ, .int a1, .int a2, .int a3] (zP zW D vwCl (wQDT_t cd c1) (wQDT aQ aY aS aNs aTs aEs aDc aT bT cd c1 pv dc v b) sz)) (zQi D vwCl (wQDT aQ aY aS aNs aTs aEs aDc aT bT cd c1 pv dc v b) (wQDT aQ aY aS aNs aTs aEs aDc aT bT cd c1 pv dc v res.2) sz res.1) 0 0 (va_A (wQDT aQ aY aS aNs aTs aEs aDc aT bT cd c1 pv dc v b) sz) := by
  refine zEnterW RL [.ref aQ, .int a1, .int a2, .int a3] (by decide) rfl (Nat.le_of_ble_eq_true rfl) (fun p e s m below meth c ls htb G hK hX hP hD hsz hl => ?_)
  subst hsz
  unfold m_L_set_T at hm
  have hl : lv_has ls 5 [(0, .ref aQ), (1, .int a1), (2, .int a2), (3, .int a3)] := hl
  have hS : va_S (va_A (wQDT aQ aY aS aNs aTs aEs aDc aT bT cd c1 pv dc v b) s.heap.size) s.heap s.heap [] := va_S.rf
  have hA : ∀ q, s.heap.size ≤ q → va_A (wQDT aQ aY aS aNs aTs aEs aDc aT bT cd c1 pv dc v b) s.heap.size q := fun q h => Or.inr h
  have G0 := G
  obtain ⟨hx, hb, hr, hml, hown, hw, hlk⟩ := G
  refine lv_aload_n hx hb dL_set_0 rfl (lv_at hl 0 rfl) ?_
  refine lv_iload_n hx hb dL_set_1 rfl (lv_at hl 1 rfl) ?_
  refine lv_iload_n hx hb dL_set_2 rfl (lv_at hl 2 rfl) ?_
  refine lv_iload_n hx hb dL_set_3 rfl (lv_at hl 3 rfl) ?_
  obtain ⟨q1, hq1, hm⟩ := zbind hm
  refine zbWv (va_runV (As := [.int a1, .int a2, .int a3]) (rest := []) ⟨hx, hb, hml, hown, hw⟩ (k_P_set_T l D aQ aY aS aNs aTs aEs aDc aT bT cd c1 _ a1 a2 a3 pv dc v b hd q1 hq1) (zcV (C := RX5) 3 hw (zgood zw522) rfl rfl rfl zw176 zw524 zw523 zw525 hdX5_set ⟨Nat.le_of_ble_eq_true rfl, Nat.le_of_ble_eq_true rfl⟩) (zpreV (zpre zC_ok hX.1.1 hS (zfree hD hS hA) hP hK hD) (va_recv hK hP rfl (q0 := 0) rfl)) rfl rfl hl.1 rfl (lv_room (Nat.le_of_ble_eq_true rfl)) dL_set_4 ⟨Nat.zero_le _, Nat.zero_le _⟩) hS (zfree hD hS hA) (fun H locs hP hD hS => ?_)
  have hP : va_P D vwCl (wQDT aQ aY aS aNs aTs aEs aDc aT bT cd c1 pv dc v q1) H := hP
  have hD : va_D _ (wQDT aQ aY aS aNs aTs aEs aDc aT bT cd c1 pv dc v q1) := hD
  refine lv_goto (tgt := 18) hx hb dL_set_7 rfl ?_
  refine lv_iconst (v := 0) hx hb dL_set_18 (by decide) ?_
  cases hm
  exact zreti hx hb hr hlk hP hD hS dL_set_19

def m_L_value_T (a1 : Int32) (pv : Nat → Int32) (dc : Nat → Option Nat) (v : Nat → Int32) (b : Nat → Int32) (ov : Nat → Int64)  : Option ((Int32) × (Nat → Int64)) := (m_P_value_T a1 pv dc v b).bind (fun q1 => zix 0 1 ((some (0, (vp_updL ov (0 : Int32).toNatClampNeg q1)))))
section
variable {p : Program} {l : Launch} {e : Env} {s : State} {m : MethodId} {args : Array Value} {below : List Frame} {meth : Method} {c : Code} {D : va_G} {w0 : va_W} {aQ aY aS aNs aTs aEs aDc aT bT aO : Nat} {cd c1 co : ClassId} {pv : Nat → Int32} {dc : Nat → Option Nat} {v : Nat → Int32} {b : Nat → Int32} {a1 : Int32}
end
set_option maxRecDepth 100000 in
set_option maxHeartbeats 4000000 in
theorem k_L_value_T (l : Launch) (D : va_G) (aQ aY aS aNs aTs aEs aDc aT bT aO : Nat) (cd c1 co : ClassId) (sz : Nat) (a1 : Int32) (pv : Nat → Int32) (dc : Nat → Option Nat) (v : Nat → Int32) (b : Nat → Int32) (ov : Nat → Int64) (hd : dc a1.toNatClampNeg = some aT) (res : (Int32) × (Nat → Int64)) (hm : m_L_value_T a1 pv dc v b ov  = some res) : Met l yL_value (Cond.codeWith yL_value cL_value 4 (some .int) [(0, 8, 11, 21)] :: zBIG) (zR 3 65) (va_Pc [.ref aQ, .int a1, .ref aO] (zP zW D vwCl (wQDTO_t cd c1 co) (wQDTO aQ aY aS aNs aTs aEs aDc aT bT aO cd c1 co pv dc v b ov) sz)) (zQi D vwCl (wQDTO aQ aY aS aNs aTs aEs aDc aT bT aO cd c1 co pv dc v b ov) (wQDTO aQ aY aS aNs aTs aEs aDc aT bT aO cd c1 co pv dc v b res.2) sz res.1) 0 0 (va_A (wQDTO aQ aY aS aNs aTs aEs aDc aT bT aO cd c1 co pv dc v b ov) sz) := by
  refine zEnterW RL [.ref aQ, .int a1, .ref aO] (by decide) rfl (Nat.le_of_ble_eq_true rfl) (fun p e s m below meth c ls htb G hK hX hP hD hsz hl => ?_)
  subst hsz
  unfold m_L_value_T at hm
  have hl : lv_has ls 4 [(0, .ref aQ), (1, .int a1), (2, .ref aO)] := hl
  have hS : va_S (va_A (wQDTO aQ aY aS aNs aTs aEs aDc aT bT aO cd c1 co pv dc v b ov) s.heap.size) s.heap s.heap [] := va_S.rf
  have hA : ∀ q, s.heap.size ≤ q → va_A (wQDTO aQ aY aS aNs aTs aEs aDc aT bT aO cd c1 co pv dc v b ov) s.heap.size q := fun q h => Or.inr h
  have G0 := G
  obtain ⟨hx, hb, hr, hml, hown, hw, hlk⟩ := G
  refine lv_aload_n hx hb dL_value_0 rfl (lv_at hl 2 rfl) ?_
  refine lv_iconst (v := 0) hx hb dL_value_1 (by decide) ?_
  refine lv_aload_n hx hb dL_value_2 rfl (lv_at hl 0 rfl) ?_
  refine lv_iload_n hx hb dL_value_3 rfl (lv_at hl 1 rfl) ?_
  obtain ⟨q1, hq1, hm⟩ := zbind hm
  have hPc := hP.sub (ws' := (wQDT aQ aY aS aNs aTs aEs aDc aT bT cd c1 pv dc v b)) [0, 1, 2, 3] rfl
  have hDc := hD.sub (ws' := (wQDT aQ aY aS aNs aTs aEs aDc aT bT cd c1 pv dc v b)) [0, 1, 2, 3] (by decide) rfl
  have hKc := hK.sub (tys' := wQDT_t cd c1) [0, 1] rfl
  have hFc := va_free (wc := (wQDT aQ aY aS aNs aTs aEs aDc aT bT cd c1 pv dc v b)) hD hS hA [0, 1, 2, 3] rfl
  refine zbSl (wr := [(aO, .inl (co, 1, .inr (.inl ov)))]) (w1 := (wQDT aQ aY aS aNs aTs aEs aDc aT bT cd c1 pv dc v b)) (w' := (wQDTO aQ aY aS aNs aTs aEs aDc aT bT aO cd c1 co pv dc v b ov)) (va_runV (As := [.int a1]) (rest := [.int 0, .ref aO]) ⟨hx, hb, hml, hown, hw⟩ (k_P_value_T l D aQ aY aS aNs aTs aEs aDc aT bT cd c1 _ a1 pv dc v b hd q1 hq1) (zcV (C := RX5) 1 hw (zgood zw526) rfl rfl rfl zw176 zw528 zw527 zw529 hdX5_value ⟨Nat.le_of_ble_eq_true rfl, Nat.le_of_ble_eq_true rfl⟩) (zpreV (zpre zC_ok hX.1.1 hS hFc hPc hKc hDc) (va_recv hK hP rfl (q0 := 0) rfl)) rfl rfl hl.1 rfl (lv_room (Nat.le_of_ble_eq_true rfl)) dL_value_4 ⟨Nat.zero_le _, Nat.zero_le _⟩) hP hD hS hFc [0, 1, 2, 3] [4] [1, 2, 3, 4, 0] rfl rfl (by decide) (by decide) rfl (by decide) (fun H locs hP hD hS => ?_)
  obtain ⟨hi2, hm⟩ := zix_s hm
  refine va_last (i := 0) (x := q1) (f := ov) (n := 1) hx hb hK hP hD hS 4 2 rfl rfl hi2 dL_value_7 (fun H locs hP hD hS => ?_)
  have hP : va_P D vwCl (wQDTO aQ aY aS aNs aTs aEs aDc aT bT aO cd c1 co pv dc v b (vp_updL ov (0 : Int32).toNatClampNeg q1)) H := hP
  have hD : va_D _ (wQDTO aQ aY aS aNs aTs aEs aDc aT bT aO cd c1 co pv dc v b (vp_updL ov (0 : Int32).toNatClampNeg q1)) := hD
  refine lv_goto (tgt := 14) hx hb dL_value_8 rfl ?_
  refine lv_iconst (v := 0) hx hb dL_value_14 (by decide) ?_
  cases hm
  exact zreti hx hb hr hlk hP hD hS dL_value_15

def m_L_get_n2T (a1 : Int32) (a2 : Int32) (pv : Nat → Int32) (dc : Nat → Option Nat) (v : Nat → Int32) (b : Nat → Int32)  : Option ((Int32)) := (m_Px2_get_T a1 a2 pv dc v b).bind (fun q1 => (some 1))
section
variable {p : Program} {l : Launch} {e : Env} {s : State} {m : MethodId} {args : Array Value} {below : List Frame} {meth : Method} {c : Code} {D : va_G} {w0 : va_W} {aQ aY aS aNs aTs aEs aDc aT bT aO : Nat} {cd c1 : ClassId} {pv : Nat → Int32} {dc : Nat → Option Nat} {v : Nat → Int32} {b : Nat → Int32} {a1 : Int32}
end
set_option maxRecDepth 100000 in
set_option maxHeartbeats 4000000 in
theorem k_L_get_n2T (l : Launch) (D : va_G) (aQ aY aS aNs aTs aEs aDc aT bT aO : Nat) (cd c1 : ClassId) (sz : Nat) (a1 : Int32) (a2 : Int32) (pv : Nat → Int32) (dc : Nat → Option Nat) (v : Nat → Int32) (b : Nat → Int32) (hl0 : l.stackTraces = false) (hd : dc a1.toNatClampNeg = some aT) (res : (Int32)) (hm : m_L_get_n2T a1 a2 pv dc v b  = some res) : Met l yL_get (Cond.codeWith yL_get cL_get 5 (some .int) [(0, 10, 13, 21)] :: zBIG) (zRx 7 113) (va_Pc [.ref aQ, .int a1, .int a2, .ref aO] (zP zW D vwCl (wQDTo_t cd c1) (wQDTo aQ aY aS aNs aTs aEs aDc aT bT aO cd c1 pv dc v b) sz)) (zQi D vwCl (wQDTo aQ aY aS aNs aTs aEs aDc aT bT aO cd c1 pv dc v b) (wQDTo aQ aY aS aNs aTs aEs aDc aT bT aO cd c1 pv dc v b) sz res) 1 6 (va_A (wQDTo aQ aY aS aNs aTs aEs aDc aT bT aO cd c1 pv dc v b) sz) := by
  refine zEnterW RL [.ref aQ, .int a1, .int a2, .ref aO] (by decide) rfl (Nat.le_of_ble_eq_true rfl) (fun p e s m below meth c ls htb G hK hX hP hD hsz hl => ?_)
  subst hsz
  unfold m_L_get_n2T at hm
  have hl : lv_has ls 5 [(0, .ref aQ), (1, .int a1), (2, .int a2), (3, .ref aO)] := hl
  have hS : va_S (va_A (wQDTo aQ aY aS aNs aTs aEs aDc aT bT aO cd c1 pv dc v b) s.heap.size) s.heap s.heap [] := va_S.rf
  have hA : ∀ q, s.heap.size ≤ q → va_A (wQDTo aQ aY aS aNs aTs aEs aDc aT bT aO cd c1 pv dc v b) s.heap.size q := fun q h => Or.inr h
  have G0 := G
  obtain ⟨hx, hb, hr, hml, hown, hw, hlk⟩ := G
  refine lv_aload_n hx hb dL_get_0 rfl (lv_at hl 3 rfl) ?_
  refine lv_iconst (v := 0) hx hb dL_get_1 (by decide) ?_
  refine lv_aload_n hx hb dL_get_2 rfl (lv_at hl 0 rfl) ?_
  refine lv_iload_n hx hb dL_get_3 rfl (lv_at hl 1 rfl) ?_
  refine lv_iload_n hx hb dL_get_4 rfl (lv_at hl 2 rfl) ?_
  obtain ⟨q1, hq1, hm⟩ := zbind hm
  refine zxC (name := "java/util/NoSuchElementException") (vx_runV (As := [.int a1, .int a2]) (rest := [.int 0, .ref aO]) ⟨hx, hb, hml, hown, hw⟩ (k_Px2_get_T l D aQ aY aS aNs aTs aEs aDc aT bT cd c1 _ a1 a2 pv dc v b hl0 hd q1 hq1) (zcVx (C := RX5) 2 hw (zgood zw518) rfl rfl rfl zw176 zw520 zw519 zw521 hdX5_get ⟨Nat.le_of_ble_eq_true rfl, Nat.le_of_ble_eq_true rfl⟩) (zpreV (zpre zD_ok hX.1 hS (zfree hD hS hA) hP hK hD) (va_recv hK hP rfl (q0 := 0) rfl)) rfl rfl hl.1 rfl (lv_room (Nat.le_of_ble_eq_true rfl)) dL_get_5 ⟨Nat.le_of_ble_eq_true rfl, Nat.le_of_ble_eq_true rfl⟩) hS (zfree hD hS hA) hown [] ⟨0, 10, 13, 21⟩ [] (by rw [htb]; rfl) (fun _ h => absurd h List.not_mem_nil) (by decide) (by decide) (hw _ zw530) (va_Nw.use rfl (hX.1.1.1 _ zn19)) (fun q9 H locs hP hD hS => ?_)
  refine W.widen (k := 1) (n := 6) (by decide) (by decide) ?_
  have hP : va_P D vwCl (wQDTo aQ aY aS aNs aTs aEs aDc aT bT aO cd c1 pv dc v b) H := hP
  have hD : va_D _ (wQDTo aQ aY aS aNs aTs aEs aDc aT bT aO cd c1 pv dc v b) := hD
  refine lv_astore (lv' := [(4, .ref q9), (0, .ref aQ), (1, .int a1), (2, .int a2), (3, .ref aO)]) hx hb dL_get_13 hl (by decide) rfl (fun ls hl => ?_)
  refine lv_iconst (v := 1) hx hb dL_get_15 (by decide) ?_
  cases hm
  exact zreti1 hx hb hr hlk hP hD hS dL_get_16

def m_L_set_n2T (a1 : Int32) (a2 : Int32) (a3 : Int32) (pv : Nat → Int32) (dc : Nat → Option Nat) (v : Nat → Int32) (b : Nat → Int32)  : Option ((Int32) × (Nat → Int32)) := (m_Px2_set_T a1 a2 a3 pv dc v b).bind (fun q1 => (some (1, q1)))
section
variable {p : Program} {l : Launch} {e : Env} {s : State} {m : MethodId} {args : Array Value} {below : List Frame} {meth : Method} {c : Code} {D : va_G} {w0 : va_W} {aQ aY aS aNs aTs aEs aDc aT bT : Nat} {cd c1 : ClassId} {pv : Nat → Int32} {dc : Nat → Option Nat} {v : Nat → Int32} {a1 : Int32}
end
set_option maxRecDepth 100000 in
set_option maxHeartbeats 4000000 in
theorem k_L_set_n2T (l : Launch) (D : va_G) (aQ aY aS aNs aTs aEs aDc aT bT : Nat) (cd c1 : ClassId) (sz : Nat) (a1 : Int32) (a2 : Int32) (a3 : Int32) (pv : Nat → Int32) (dc : Nat → Option Nat) (v : Nat → Int32) (b : Nat → Int32) (hl0 : l.stackTraces = false) (hd : dc a1.toNatClampNeg = some aT) (res : (Int32) × (Nat → Int32)) (hm : m_L_set_n2T a1 a2 a3 pv dc v b  = some res) : Met l yL_set (Cond.codeWith yL_set cL_set 5 (some .int) [(0, 7, 10, 21), (0, 7, 14, 15)] :: zBIG) (zRx 7 114) (va_Pc [.ref aQ, .int a1, .int a2, .int a3] (zP zW D vwCl (wQDT_t cd c1) (wQDT aQ aY aS aNs aTs aEs aDc aT bT cd c1 pv dc v b) sz)) (zQi D vwCl (wQDT aQ aY aS aNs aTs aEs aDc aT bT cd c1 pv dc v b) (wQDT aQ aY aS aNs aTs aEs aDc aT bT cd c1 pv dc v res.2) sz res.1) 1 6 (va_A (wQDT aQ aY aS aNs aTs aEs aDc aT bT cd c1 pv dc v b) sz) := by
  refine zEnterW RL [.ref aQ, .int a1, .int a2, .int a3] (by decide) rfl (Nat.le_of_ble_eq_true rfl) (fun p e s m below meth c ls htb G hK hX hP hD hsz hl => ?_)
  subst hsz
  unfold m_L_set_n2T at hm
  have hl : lv_has ls 5 [(0, .ref aQ), (1, .int a1), (2, .int a2), (3, .int a3)] := hl
  have hS : va_S (va_A (wQDT aQ aY aS aNs aTs aEs aDc aT bT cd c1 pv dc v b) s.heap.size) s.heap s.heap [] := va_S.rf
  have hA : ∀ q, s.heap.size ≤ q → va_A (wQDT aQ aY aS aNs aTs aEs aDc aT bT cd c1 pv dc v b) s.heap.size q := fun q h => Or.inr h
  have G0 := G
  obtain ⟨hx, hb, hr, hml, hown, hw, hlk⟩ := G
  refine lv_aload_n hx hb dL_set_0 rfl (lv_at hl 0 rfl) ?_
  refine lv_iload_n hx hb dL_set_1 rfl (lv_at hl 1 rfl) ?_
  refine lv_iload_n hx hb dL_set_2 rfl (lv_at hl 2 rfl) ?_
  refine lv_iload_n hx hb dL_set_3 rfl (lv_at hl 3 rfl) ?_
  obtain ⟨q1, hq1, hm⟩ := zbind hm
  refine zxC (name := "java/util/NoSuchElementException") (vx_runV (As := [.int a1, .int a2, .int a3]) (rest := []) ⟨hx, hb, hml, hown, hw⟩ (k_Px2_set_T l D aQ aY aS aNs aTs aEs aDc aT bT cd c1 _ a1 a2 a3 pv dc v b hl0 hd q1 hq1) (zcVx (C := RX5) 3 hw (zgood zw522) rfl rfl rfl zw176 zw524 zw523 zw525 hdX5_set ⟨Nat.le_of_ble_eq_true rfl, Nat.le_of_ble_eq_true rfl⟩) (zpreV (zpre zD_ok hX.1 hS (zfree hD hS hA) hP hK hD) (va_recv hK hP rfl (q0 := 0) rfl)) rfl rfl hl.1 rfl (lv_room (Nat.le_of_ble_eq_true rfl)) dL_set_4 ⟨Nat.le_of_ble_eq_true rfl, Nat.le_of_ble_eq_true rfl⟩) hS (zfree hD hS hA) hown [] ⟨0, 7, 10, 21⟩ [⟨0, 7, 14, 15⟩] (by rw [htb]; rfl) (fun _ h => absurd h List.not_mem_nil) (by decide) (by decide) (hw _ zw530) (va_Nw.use rfl (hX.1.1.1 _ zn19)) (fun q9 H locs hP hD hS => ?_)
  refine W.widen (k := 1) (n := 6) (by decide) (by decide) ?_
  have hP : va_P D vwCl (wQDT aQ aY aS aNs aTs aEs aDc aT bT cd c1 pv dc v q1) H := hP
  have hD : va_D _ (wQDT aQ aY aS aNs aTs aEs aDc aT bT cd c1 pv dc v q1) := hD
  refine lv_astore (lv' := [(4, .ref q9), (0, .ref aQ), (1, .int a1), (2, .int a2), (3, .int a3)]) hx hb dL_set_10 hl (by decide) rfl (fun ls hl => ?_)
  refine lv_iconst (v := 1) hx hb dL_set_12 (by decide) ?_
  cases hm
  exact zreti1 hx hb hr hlk hP hD hS dL_set_13

def m_L_set_iT (a1 : Int32) (a2 : Int32) (a3 : Int32) (pv : Nat → Int32) (dc : Nat → Option Nat) (v : Nat → Int32) (b : Nat → Int32)  : Option ((Int32) × (Nat → Int32)) := (m_Pi_set_T a1 a2 a3 pv dc v b).bind (fun q1 => (some (2, q1)))
section
variable {p : Program} {l : Launch} {e : Env} {s : State} {m : MethodId} {args : Array Value} {below : List Frame} {meth : Method} {c : Code} {D : va_G} {w0 : va_W} {aQ aY aS aNs aTs aEs aDc aT bT : Nat} {cd c1 : ClassId} {pv : Nat → Int32} {dc : Nat → Option Nat} {v : Nat → Int32} {a1 : Int32}
end
set_option maxRecDepth 100000 in
set_option maxHeartbeats 4000000 in
theorem k_L_set_iT (l : Launch) (D : va_G) (aQ aY aS aNs aTs aEs aDc aT bT : Nat) (cd c1 : ClassId) (sz : Nat) (a1 : Int32) (a2 : Int32) (a3 : Int32) (pv : Nat → Int32) (dc : Nat → Option Nat) (v : Nat → Int32) (b : Nat → Int32) (hl0 : l.stackTraces = false) (hd : dc a1.toNatClampNeg = some aT) (res : (Int32) × (Nat → Int32)) (hm : m_L_set_iT a1 a2 a3 pv dc v b  = some res) : Met l yL_set (Cond.codeWith yL_set cL_set 5 (some .int) [(0, 7, 10, 21), (0, 7, 14, 15)] :: zBIG) (zRx 7 114) (va_Pc [.ref aQ, .int a1, .int a2, .int a3] (zP zW D vwCl (wQDT_t cd c1) (wQDT aQ aY aS aNs aTs aEs aDc aT bT cd c1 pv dc v b) sz)) (zQi D vwCl (wQDT aQ aY aS aNs aTs aEs aDc aT bT cd c1 pv dc v b) (wQDT aQ aY aS aNs aTs aEs aDc aT bT cd c1 pv dc v res.2) sz res.1) 1 6 (va_A (wQDT aQ aY aS aNs aTs aEs aDc aT bT cd c1 pv dc v b) sz) := by
  refine zEnterW RL [.ref aQ, .int a1, .int a2, .int a3] (by decide) rfl (Nat.le_of_ble_eq_true rfl) (fun p e s m below meth c ls htb G hK hX hP hD hsz hl => ?_)
  subst hsz
  unfold m_L_set_iT at hm
  have hl : lv_has ls 5 [(0, .ref aQ), (1, .int a1), (2, .int a2), (3, .int a3)] := hl
  have hS : va_S (va_A (wQDT aQ aY aS aNs aTs aEs aDc aT bT cd c1 pv dc v b) s.heap.size) s.heap s.heap [] := va_S.rf
  have hA : ∀ q, s.heap.size ≤ q → va_A (wQDT aQ aY aS aNs aTs aEs aDc aT bT cd c1 pv dc v b) s.heap.size q := fun q h => Or.inr h
  have G0 := G
  obtain ⟨hx, hb, hr, hml, hown, hw, hlk⟩ := G
  refine lv_aload_n hx hb dL_set_0 rfl (lv_at hl 0 rfl) ?_
  refine lv_iload_n hx hb dL_set_1 rfl (lv_at hl 1 rfl) ?_
  refine lv_iload_n hx hb dL_set_2 rfl (lv_at hl 2 rfl) ?_
  refine lv_iload_n hx hb dL_set_3 rfl (lv_at hl 3 rfl) ?_
  obtain ⟨q1, hq1, hm⟩ := zbind hm
  refine zxC (name := "java/lang/IllegalArgumentException") (vx_runV (As := [.int a1, .int a2, .int a3]) (rest := []) ⟨hx, hb, hml, hown, hw⟩ (k_Pi_set_T l D aQ aY aS aNs aTs aEs aDc aT bT cd c1 _ a1 a2 a3 pv dc v b hl0 hd q1 hq1) (zcVx (C := RX5) 3 hw (zgood zw522) rfl rfl rfl zw176 zw524 zw523 zw525 hdX5_set ⟨Nat.le_of_ble_eq_true rfl, Nat.le_of_ble_eq_true rfl⟩) (zpreV (zpre zD_ok hX.1 hS (zfree hD hS hA) hP hK hD) (va_recv hK hP rfl (q0 := 0) rfl)) rfl rfl hl.1 rfl (lv_room (Nat.le_of_ble_eq_true rfl)) dL_set_4 ⟨Nat.le_of_ble_eq_true rfl, Nat.le_of_ble_eq_true rfl⟩) hS (zfree hD hS hA) hown [⟨0, 7, 10, 21⟩] ⟨0, 7, 14, 15⟩ [] (by rw [htb]; rfl) (List.forall_mem_cons.mpr ⟨Or.inr ⟨by decide, "java/util/NoSuchElementException", hw _ zw530, hX.2.2.1⟩, fun _ h => absurd h List.not_mem_nil⟩) (by decide) (by decide) (hw _ zw513) (va_Nw.use rfl (hX.1.1.1 _ zn18)) (fun q9 H locs hP hD hS => ?_)
  refine W.widen (k := 1) (n := 6) (by decide) (by decide) ?_
  have hP : va_P D vwCl (wQDT aQ aY aS aNs aTs aEs aDc aT bT cd c1 pv dc v q1) H := hP
  have hD : va_D _ (wQDT aQ aY aS aNs aTs aEs aDc aT bT cd c1 pv dc v q1) := hD
  refine lv_astore (lv' := [(4, .ref q9), (0, .ref aQ), (1, .int a1), (2, .int a2), (3, .int a3)]) hx hb dL_set_14 hl (by decide) rfl (fun ls hl => ?_)
  refine lv_iconst (v := 2) hx hb dL_set_16 (by decide) ?_
  cases hm
  exact zreti1 hx hb hr hlk hP hD hS dL_set_17

def m_L_move_T (a1 : Int32) (a2 : Int32) (pv : Nat → Int32) (dc : Nat → Option Nat) (v : Nat → Int32) (b : Nat → Int32)  : Option ((Int32) × (Nat → Int32)) := (m_P_move_T a1 a2 pv dc v b).bind (fun q1 => (some (0, q1)))
section
variable {p : Program} {l : Launch} {e : Env} {s : State} {m : MethodId} {args : Array Value} {below : List Frame} {meth : Method} {c : Code} {D : va_G} {w0 : va_W} {aQ aY aS aNs aTs aEs aDc aT bT : Nat} {cd c1 : ClassId} {pv : Nat → Int32} {dc : Nat → Option Nat} {v : Nat → Int32} {a1 : Int32} {a2 : Int32}
end
set_option maxRecDepth 100000 in
set_option maxHeartbeats 4000000 in
theorem k_L_move_T (l : Launch) (D : va_G) (aQ aY aS aNs aTs aEs aDc aT bT : Nat) (cd c1 : ClassId) (sz : Nat) (a1 : Int32) (a2 : Int32) (pv : Nat → Int32) (dc : Nat → Option Nat) (v : Nat → Int32) (b : Nat → Int32) (hd : dc a1.toNatClampNeg = some aT) (hd2 : dc a2.toNatClampNeg = some aT) (res : (Int32) × (Nat → Int32)) (hm : m_L_move_T a1 a2 pv dc v b  = some res) : Met l yL_move (Cond.codeWith yL_move cL_move 4 (some .int) [(0, 6, 9, 21), (0, 6, 12, 34)] :: zBIG) (zR 3 68) (va_Pc [.ref aQ, .int a1, .int a2] (zP zW D vwCl (wQDT_t cd c1) (wQDT aQ aY aS aNs aTs aEs aDc aT bT cd c1 pv dc v b) sz)) (zQi D vwCl (wQDT aQ aY aS aNs aTs aEs aDc aT bT cd c1 pv dc v b) (wQDT aQ aY aS aNs aTs aEs aDc aT bT cd c1 pv dc v res.2) sz res.1) 0 0 (va_A (wQDT aQ aY aS aNs aTs aEs aDc aT bT cd c1 pv dc v b) sz) := by
  refine zEnterW RL [.ref aQ, .int a1, .int a2] (by decide) rfl (Nat.le_of_ble_eq_true rfl) (fun p e s m below meth c ls htb G hK hX hP hD hsz hl => ?_)
  subst hsz
  unfold m_L_move_T at hm
  have hl : lv_has ls 4 [(0, .ref aQ), (1, .int a1), (2, .int a2)] := hl
  have hS : va_S (va_A (wQDT aQ aY aS aNs aTs aEs aDc aT bT cd c1 pv dc v b) s.heap.size) s.heap s.heap [] := va_S.rf
  have hA : ∀ q, s.heap.size ≤ q → va_A (wQDT aQ aY aS aNs aTs aEs aDc aT bT cd c1 pv dc v b) s.heap.size q := fun q h => Or.inr h
  have G0 := G
  obtain ⟨hx, hb, hr, hml, hown, hw, hlk⟩ := G
  refine lv_aload_n hx hb dL_move_0 rfl (lv_at hl 0 rfl) ?_
  refine lv_iload_n hx hb dL_move_1 rfl (lv_at hl 1 rfl) ?_
  refine lv_iload_n hx hb dL_move_2 rfl (lv_at hl 2 rfl) ?_
  obtain ⟨q1, hq1, hm⟩ := zbind hm
  refine zbWv (va_runV (As := [.int a1, .int a2]) (rest := []) ⟨hx, hb, hml, hown, hw⟩ (k_P_move_T l D aQ aY aS aNs aTs aEs aDc aT bT cd c1 _ a1 a2 pv dc v b hd hd2 q1 hq1) (zcV (C := RX5) 2 hw (zgood zw535) rfl rfl rfl zw176 zw537 zw536 zw538 hdX5_move ⟨Nat.le_of_ble_eq_true rfl, Nat.le_of_ble_eq_true rfl⟩) (zpreV (zpre zC_ok hX.1.1 hS (zfree hD hS hA) hP hK hD) (va_recv hK hP rfl (q0 := 0) rfl)) rfl rfl hl.1 rfl (lv_room (Nat.le_of_ble_eq_true rfl)) dL_move_3 ⟨Nat.zero_le _, Nat.zero_le _⟩) hS (zfree hD hS hA) (fun H locs hP hD hS => ?_)
  have hP : va_P D vwCl (wQDT aQ aY aS aNs aTs aEs aDc aT bT cd c1 pv dc v q1) H := hP
  have hD : va_D _ (wQDT aQ aY aS aNs aTs aEs aDc aT bT cd c1 pv dc v q1) := hD
  refine lv_goto (tgt := 15) hx hb dL_move_6 rfl ?_
  refine lv_iconst (v := 0) hx hb dL_move_15 (by decide) ?_
  cases hm
  exact zreti hx hb hr hlk hP hD hS dL_move_16

def m_L_move_TN (a1 : Int32) (a2 : Int32) (pv : Nat → Int32) (dc : Nat → Option Nat) (v : Nat → Int32) (b : Nat → Int32) (v2 : Nat → Int32) (b2 : Nat → Int32)  : Option ((Int32) × (Nat → Int32)) := (m_P_move_TN a1 a2 pv dc v b v2 b2).bind (fun q1 => (some (0, q1)))
section
variable {p : Program} {l : Launch} {e : Env} {s : State} {m : MethodId} {args : Array Value} {below : List Frame} {meth : Method} {c : Code} {D : va_G} {w0 : va_W} {aQ aY aS aNs aTs aEs aDc aT bT aN2 bN2 : Nat} {cd c1 c12 : ClassId} {pv : Nat → Int32} {dc : Nat → Option Nat} {v : Nat → Int32} {v2 : Nat → Int32} {b2 : Nat → Int32} {a1 : Int32} {a2 : Int32}
end
set_option maxRecDepth 100000 in
set_option maxHeartbeats 4000000 in
theorem k_L_move_TN (l : Launch) (D : va_G) (aQ aY aS aNs aTs aEs aDc aT bT aN2 bN2 : Nat) (cd c1 c12 : ClassId) (sz : Nat) (a1 : Int32) (a2 : Int32) (pv : Nat → Int32) (dc : Nat → Option Nat) (v : Nat → Int32) (b : Nat → Int32) (v2 : Nat → Int32) (b2 : Nat → Int32) (hd : dc a1.toNatClampNeg = some aN2) (hd2 : dc a2.toNatClampNeg = some aT) (res : (Int32) × (Nat → Int32)) (hm : m_L_move_TN a1 a2 pv dc v b v2 b2  = some res) : Met l yL_move (Cond.codeWith yL_move cL_move 4 (some .int) [(0, 6, 9, 21), (0, 6, 12, 34)] :: zBIG) (zR 5 115) (va_Pc [.ref aQ, .int a1, .int a2] (zP zW D vwCl (wQDTN2_t cd c1 c12) (wQDTN2 aQ aY aS aNs aTs aEs aDc aT bT aN2 bN2 cd c1 c12 pv dc v b v2 b2) sz)) (zQi D vwCl (wQDTN2 aQ aY aS aNs aTs aEs aDc aT bT aN2 bN2 cd c1 c12 pv dc v b v2 b2) (wQDTN2 aQ aY aS aNs aTs aEs aDc aT bT aN2 bN2 cd c1 c12 pv dc v res.2 v2 b2) sz res.1) 0 0 (va_A (wQDTN2 aQ aY aS aNs aTs aEs aDc aT bT aN2 bN2 cd c1 c12 pv dc v b v2 b2) sz) := by
  refine zEnterW RL [.ref aQ, .int a1, .int a2] (by decide) rfl (Nat.le_of_ble_eq_true rfl) (fun p e s m below meth c ls htb G hK hX hP hD hsz hl => ?_)
  subst hsz
  unfold m_L_move_TN at hm
  have hl : lv_has ls 4 [(0, .ref aQ), (1, .int a1), (2, .int a2)] := hl
  have hS : va_S (va_A (wQDTN2 aQ aY aS aNs aTs aEs aDc aT bT aN2 bN2 cd c1 c12 pv dc v b v2 b2) s.heap.size) s.heap s.heap [] := va_S.rf
  have hA : ∀ q, s.heap.size ≤ q → va_A (wQDTN2 aQ aY aS aNs aTs aEs aDc aT bT aN2 bN2 cd c1 c12 pv dc v b v2 b2) s.heap.size q := fun q h => Or.inr h
  have G0 := G
  obtain ⟨hx, hb, hr, hml, hown, hw, hlk⟩ := G
  refine lv_aload_n hx hb dL_move_0 rfl (lv_at hl 0 rfl) ?_
  refine lv_iload_n hx hb dL_move_1 rfl (lv_at hl 1 rfl) ?_
  refine lv_iload_n hx hb dL_move_2 rfl (lv_at hl 2 rfl) ?_
  obtain ⟨q1, hq1, hm⟩ := zbind hm
  refine zbWv (va_runV (As := [.int a1, .int a2]) (rest := []) ⟨hx, hb, hml, hown, hw⟩ (k_P_move_TN l D aQ aY aS aNs aTs aEs aDc aT bT aN2 bN2 cd c1 c12 _ a1 a2 pv dc v b v2 b2 hd hd2 q1 hq1) (zcV (C := RX5) 2 hw (zgood zw535) rfl rfl rfl zw176 zw537 zw536 zw538 hdX5_move ⟨Nat.le_of_ble_eq_true rfl, Nat.le_of_ble_eq_true rfl⟩) (zpreV (zpre zC_ok hX.1.1 hS (zfree hD hS hA) hP hK hD) (va_recv hK hP rfl (q0 := 0) rfl)) rfl rfl hl.1 rfl (lv_room (Nat.le_of_ble_eq_true rfl)) dL_move_3 ⟨Nat.zero_le _, Nat.zero_le _⟩) hS (zfree hD hS hA) (fun H locs hP hD hS => ?_)
  have hP : va_P D vwCl (wQDTN2 aQ aY aS aNs aTs aEs aDc aT bT aN2 bN2 cd c1 c12 pv dc v q1 v2 b2) H := hP
  have hD : va_D _ (wQDTN2 aQ aY aS aNs aTs aEs aDc aT bT aN2 bN2 cd c1 c12 pv dc v q1 v2 b2) := hD
  refine lv_goto (tgt := 15) hx hb dL_move_6 rfl ?_
  refine lv_iconst (v := 0) hx hb dL_move_15 (by decide) ?_
  cases hm
  exact zreti hx hb hr hlk hP hD hS dL_move_16

def m_L_move_TT (a1 : Int32) (a2 : Int32) (pv : Nat → Int32) (dc : Nat → Option Nat) (v : Nat → Int32) (b : Nat → Int32) (v2 : Nat → Int32) (b2 : Nat → Int32)  : Option ((Int32) × (Nat → Int32)) := (m_P_move_TT a1 a2 pv dc v b v2 b2).bind (fun q1 => (some (0, q1)))
section
variable {p : Program} {l : Launch} {e : Env} {s : State} {m : MethodId} {args : Array Value} {below : List Frame} {meth : Method} {c : Code} {D : va_G} {w0 : va_W} {aQ aY aS aNs aTs aEs aDc aT bT aT2 bT2 : Nat} {cd c1 c12 : ClassId} {pv : Nat → Int32} {dc : Nat → Option Nat} {v : Nat → Int32} {v2 : Nat → Int32} {b2 : Nat → Int32} {a1 : Int32} {a2 : Int32}
end
set_option maxRecDepth 100000 in
set_option maxHeartbeats 4000000 in
theorem k_L_move_TT (l : Launch) (D : va_G) (aQ aY aS aNs aTs aEs aDc aT bT aT2 bT2 : Nat) (cd c1 c12 : ClassId) (sz : Nat) (a1 : Int32) (a2 : Int32) (pv : Nat → Int32) (dc : Nat → Option Nat) (v : Nat → Int32) (b : Nat → Int32) (v2 : Nat → Int32) (b2 : Nat → Int32) (hd : dc a1.toNatClampNeg = some aT2) (hd2 : dc a2.toNatClampNeg = some aT) (res : (Int32) × (Nat → Int32)) (hm : m_L_move_TT a1 a2 pv dc v b v2 b2  = some res) : Met l yL_move (Cond.codeWith yL_move cL_move 4 (some .int) [(0, 6, 9, 21), (0, 6, 12, 34)] :: zBIG) (zR 3 68) (va_Pc [.ref aQ, .int a1, .int a2] (zP zW D vwCl (wQDTT2_t cd c1 c12) (wQDTT2 aQ aY aS aNs aTs aEs aDc aT bT aT2 bT2 cd c1 c12 pv dc v b v2 b2) sz)) (zQi D vwCl (wQDTT2 aQ aY aS aNs aTs aEs aDc aT bT aT2 bT2 cd c1 c12 pv dc v b v2 b2) (wQDTT2 aQ aY aS aNs aTs aEs aDc aT bT aT2 bT2 cd c1 c12 pv dc v res.2 v2 b2) sz res.1) 0 0 (va_A (wQDTT2 aQ aY aS aNs aTs aEs aDc aT bT aT2 bT2 cd c1 c12 pv dc v b v2 b2) sz) := by
  refine zEnterW RL [.ref aQ, .int a1, .int a2] (by decide) rfl (Nat.le_of_ble_eq_true rfl) (fun p e s m below meth c ls htb G hK hX hP hD hsz hl => ?_)
  subst hsz
  unfold m_L_move_TT at hm
  have hl : lv_has ls 4 [(0, .ref aQ), (1, .int a1), (2, .int a2)] := hl
  have hS : va_S (va_A (wQDTT2 aQ aY aS aNs aTs aEs aDc aT bT aT2 bT2 cd c1 c12 pv dc v b v2 b2) s.heap.size) s.heap s.heap [] := va_S.rf
  have hA : ∀ q, s.heap.size ≤ q → va_A (wQDTT2 aQ aY aS aNs aTs aEs aDc aT bT aT2 bT2 cd c1 c12 pv dc v b v2 b2) s.heap.size q := fun q h => Or.inr h
  have G0 := G
  obtain ⟨hx, hb, hr, hml, hown, hw, hlk⟩ := G
  refine lv_aload_n hx hb dL_move_0 rfl (lv_at hl 0 rfl) ?_
  refine lv_iload_n hx hb dL_move_1 rfl (lv_at hl 1 rfl) ?_
  refine lv_iload_n hx hb dL_move_2 rfl (lv_at hl 2 rfl) ?_
  obtain ⟨q1, hq1, hm⟩ := zbind hm
  refine zbWv (va_runV (As := [.int a1, .int a2]) (rest := []) ⟨hx, hb, hml, hown, hw⟩ (k_P_move_TT l D aQ aY aS aNs aTs aEs aDc aT bT aT2 bT2 cd c1 c12 _ a1 a2 pv dc v b v2 b2 hd hd2 q1 hq1) (zcV (C := RX5) 2 hw (zgood zw535) rfl rfl rfl zw176 zw537 zw536 zw538 hdX5_move ⟨Nat.le_of_ble_eq_true rfl, Nat.le_of_ble_eq_true rfl⟩) (zpreV (zpre zC_ok hX.1.1 hS (zfree hD hS hA) hP hK hD) (va_recv hK hP rfl (q0 := 0) rfl)) rfl rfl hl.1 rfl (lv_room (Nat.le_of_ble_eq_true rfl)) dL_move_3 ⟨Nat.zero_le _, Nat.zero_le _⟩) hS (zfree hD hS hA) (fun H locs hP hD hS => ?_)
  have hP : va_P D vwCl (wQDTT2 aQ aY aS aNs aTs aEs aDc aT bT aT2 bT2 cd c1 c12 pv dc v q1 v2 b2) H := hP
  have hD : va_D _ (wQDTT2 aQ aY aS aNs aTs aEs aDc aT bT aT2 bT2 cd c1 c12 pv dc v q1 v2 b2) := hD
  refine lv_goto (tgt := 15) hx hb dL_move_6 rfl ?_
  refine lv_iconst (v := 0) hx hb dL_move_15 (by decide) ?_
  cases hm
  exact zreti hx hb hr hlk hP hD hS dL_move_16

def m_L_move_TE (a1 : Int32) (a2 : Int32) (pv : Nat → Int32) (dc : Nat → Option Nat) (v : Nat → Int32) (b : Nat → Int32) (v2 : Nat → Int32) (b2 : Nat → Int32) (rw2 : Nat → Int32) (pw2 : Nat → Int32)  : Option ((Int32) × (Nat → Int32)) := (m_P_move_TE a1 a2 pv dc v b v2 b2 rw2 pw2).bind (fun q1 => (some (0, q1)))
section
variable {p : Program} {l : Launch} {e : Env} {s : State} {m : MethodId} {args : Array Value} {below : List Frame} {meth : Method} {c : Code} {D : va_G} {w0 : va_W} {aQ aY aS aNs aTs aEs aDc aT bT aE2 bE2 rE2 pE2 : Nat} {cd c1 c12 c22 c32 : ClassId} {pv : Nat → Int32} {dc : Nat → Option Nat} {v : Nat → Int32} {v2 : Nat → Int32} {b2 : Nat → Int32} {rw2 : Nat → Int32} {pw2 : Nat → Int32} {a1 : Int32} {a2 : Int32}
end
set_option maxRecDepth 100000 in
set_option maxHeartbeats 4000000 in
theorem k_L_move_TE (l : Launch) (D : va_G) (aQ aY aS aNs aTs aEs aDc aT bT aE2 bE2 rE2 pE2 : Nat) (cd c1 c12 c22 c32 : ClassId) (sz : Nat) (a1 : Int32) (a2 : Int32) (pv : Nat → Int32) (dc : Nat → Option Nat) (v : Nat → Int32) (b : Nat → Int32) (v2 : Nat → Int32) (b2 : Nat → Int32) (rw2 : Nat → Int32) (pw2 : Nat → Int32) (hd : dc a1.toNatClampNeg = some aE2) (hd2 : dc a2.toNatClampNeg = some aT) (res : (Int32) × (Nat → Int32)) (hm : m_L_move_TE a1 a2 pv dc v b v2 b2 rw2 pw2  = some res) : Met l yL_move (Cond.codeWith yL_move cL_move 4 (some .int) [(0, 6, 9, 21), (0, 6, 12, 34)] :: zBIG) (zR 3 68) (va_Pc [.ref aQ, .int a1, .int a2] (zP zW D vwCl (wQDTE2_t cd c1 c12 c22 c32) (wQDTE2 aQ aY aS aNs aTs aEs aDc aT bT aE2 bE2 rE2 pE2 cd c1 c12 c22 c32 pv dc v b v2 b2 rw2 pw2) sz)) (zQi D vwCl (wQDTE2 aQ aY aS aNs aTs aEs aDc aT bT aE2 bE2 rE2 pE2 cd c1 c12 c22 c32 pv dc v b v2 b2 rw2 pw2) (wQDTE2 aQ aY aS aNs aTs aEs aDc aT bT aE2 bE2 rE2 pE2 cd c1 c12 c22 c32 pv dc v res.2 v2 b2 rw2 pw2) sz res.1) 0 0 (va_A (wQDTE2 aQ aY aS aNs aTs aEs aDc aT bT aE2 bE2 rE2 pE2 cd c1 c12 c22 c32 pv dc v b v2 b2 rw2 pw2) sz) := by
  refine zEnterW RL [.ref aQ, .int a1, .int a2] (by decide) rfl (Nat.le_of_ble_eq_true rfl) (fun p e s m below meth c ls htb G hK hX hP hD hsz hl => ?_)
  subst hsz
  unfold m_L_move_TE at hm
  have hl : lv_has ls 4 [(0, .ref aQ), (1, .int a1), (2, .int a2)] := hl
  have hS : va_S (va_A (wQDTE2 aQ aY aS aNs aTs aEs aDc aT bT aE2 bE2 rE2 pE2 cd c1 c12 c22 c32 pv dc v b v2 b2 rw2 pw2) s.heap.size) s.heap s.heap [] := va_S.rf
  have hA : ∀ q, s.heap.size ≤ q → va_A (wQDTE2 aQ aY aS aNs aTs aEs aDc aT bT aE2 bE2 rE2 pE2 cd c1 c12 c22 c32 pv dc v b v2 b2 rw2 pw2) s.heap.size q := fun q h => Or.inr h
  have G0 := G
  obtain ⟨hx, hb, hr, hml, hown, hw, hlk⟩ := G
  refine lv_aload_n hx hb dL_move_0 rfl (lv_at hl 0 rfl) ?_
  refine lv_iload_n hx hb dL_move_1 rfl (lv_at hl 1 rfl) ?_
  refine lv_iload_n hx hb dL_move_2 rfl (lv_at hl 2 rfl) ?_
  obtain ⟨q1, hq1, hm⟩ := zbind hm
  refine zbWv (va_runV (As := [.int a1, .int a2]) (rest := []) ⟨hx, hb, hml, hown, hw⟩ (k_P_move_TE l D aQ aY aS aNs aTs aEs aDc aT bT aE2 bE2 rE2 pE2 cd c1 c12 c22 c32 _ a1 a2 pv dc v b v2 b2 rw2 pw2 hd hd2 q1 hq1) (zcV (C := RX5) 2 hw (zgood zw535) rfl rfl rfl zw176 zw537 zw536 zw538 hdX5_move ⟨Nat.le_of_ble_eq_true rfl, Nat.le_of_ble_eq_true rfl⟩) (zpreV (zpre zC_ok hX.1.1 hS (zfree hD hS hA) hP hK hD) (va_recv hK hP rfl (q0 := 0) rfl)) rfl rfl hl.1 rfl (lv_room (Nat.le_of_ble_eq_true rfl)) dL_move_3 ⟨Nat.zero_le _, Nat.zero_le _⟩) hS (zfree hD hS hA) (fun H locs hP hD hS => ?_)
  have hP : va_P D vwCl (wQDTE2 aQ aY aS aNs aTs aEs aDc aT bT aE2 bE2 rE2 pE2 cd c1 c12 c22 c32 pv dc v q1 v2 b2 rw2 pw2) H := hP
  have hD : va_D _ (wQDTE2 aQ aY aS aNs aTs aEs aDc aT bT aE2 bE2 rE2 pE2 cd c1 c12 c22 c32 pv dc v q1 v2 b2 rw2 pw2) := hD
  refine lv_goto (tgt := 15) hx hb dL_move_6 rfl ?_
  refine lv_iconst (v := 0) hx hb dL_move_15 (by decide) ?_
  cases hm
  exact zreti hx hb hr hlk hP hD hS dL_move_16

def m_L_look_E (a1 : Int32) (a2 : Int32) (pv : Nat → Int32) (dc : Nat → Option Nat) (v : Nat → Int32) (b : Nat → Int32) (rw : Nat → Int32) (pw : Nat → Int32) (ov : Nat → Int64)  : Option ((Int32) × (Nat → Int64)) := (m_P_look_E a1 a2 pv dc v b rw pw).bind (fun q1 => zix 0 1 ((some (0, (vp_updL ov (0 : Int32).toNatClampNeg ((q1).toInt64))))))
section
variable {p : Program} {l : Launch} {e : Env} {s : State} {m : MethodId} {args : Array Value} {below : List Frame} {meth : Method} {c : Code} {D : va_G} {w0 : va_W} {aQ aY aS aNs aTs aEs aDc aE bE rE pE aO : Nat} {cd c1 c2 c3 co : ClassId} {pv : Nat → Int32} {dc : Nat → Option Nat} {v : Nat → Int32} {b : Nat → Int32} {rw : Nat → Int32} {pw : Nat → Int32} {a1 : Int32}
end
set_option maxRecDepth 100000 in
set_option maxHeartbeats 4000000 in
theorem k_L_look_E (l : Launch) (D : va_G) (aQ aY aS aNs aTs aEs aDc aE bE rE pE aO : Nat) (cd c1 c2 c3 co : ClassId) (sz : Nat) (a1 : Int32) (a2 : Int32) (pv : Nat → Int32) (dc : Nat → Option Nat) (v : Nat → Int32) (b : Nat → Int32) (rw : Nat → Int32) (pw : Nat → Int32) (ov : Nat → Int64) (hd : dc a1.toNatClampNeg = some aE) (res : (Int32) × (Nat → Int64)) (hm : m_L_look_E a1 a2 pv dc v b rw pw ov  = some res) : Met l yL_look (Cond.codeWith yL_look cL_look 5 (some .int) [(0, 10, 13, 21), (0, 10, 17, 15)] :: zBIG) (zR 2 45) (va_Pc [.ref aQ, .int a1, .int a2, .ref aO] (zP zW D vwCl (wQDEO_t cd c1 c2 c3 co) (wQDEO aQ aY aS aNs aTs aEs aDc aE bE rE pE aO cd c1 c2 c3 co pv dc v b rw pw ov) sz)) (zQi D vwCl (wQDEO aQ aY aS aNs aTs aEs aDc aE bE rE pE aO cd c1 c2 c3 co pv dc v b rw pw ov) (wQDEO aQ aY aS aNs aTs aEs aDc aE bE rE pE aO cd c1 c2 c3 co pv dc v b rw pw res.2) sz res.1) 0 0 (va_A (wQDEO aQ aY aS aNs aTs aEs aDc aE bE rE pE aO cd c1 c2 c3 co pv dc v b rw pw ov) sz) := by
  refine zEnterW RL [.ref aQ, .int a1, .int a2, .ref aO] (by decide) rfl (Nat.le_of_ble_eq_true rfl) (fun p e s m below meth c ls htb G hK hX hP hD hsz hl => ?_)
  subst hsz
  unfold m_L_look_E at hm
  have hl : lv_has ls 5 [(0, .ref aQ), (1, .int a1), (2, .int a2), (3, .ref aO)] := hl
  have hS : va_S (va_A (wQDEO aQ aY aS aNs aTs aEs aDc aE bE rE pE aO cd c1 c2 c3 co pv dc v b rw pw ov) s.heap.size) s.heap s.heap [] := va_S.rf
  have hA : ∀ q, s.heap.size ≤ q → va_A (wQDEO aQ aY aS aNs aTs aEs aDc aE bE rE pE aO cd c1 c2 c3 co pv dc v b rw pw ov) s.heap.size q := fun q h => Or.inr h
  have G0 := G
  obtain ⟨hx, hb, hr, hml, hown, hw, hlk⟩ := G
  refine lv_aload_n hx hb dL_look_0 rfl (lv_at hl 3 rfl) ?_
  refine lv_iconst (v := 0) hx hb dL_look_1 (by decide) ?_
  refine lv_aload_n hx hb dL_look_2 rfl (lv_at hl 0 rfl) ?_
  refine lv_iload_n hx hb dL_look_3 rfl (lv_at hl 1 rfl) ?_
  refine lv_iload_n hx hb dL_look_4 rfl (lv_at hl 2 rfl) ?_
  obtain ⟨q1, hq1, hm⟩ := zbind hm
  have hPc := hP.sub (ws' := (wQDE aQ aY aS aNs aTs aEs aDc aE bE rE pE cd c1 c2 c3 pv dc v b rw pw)) [0, 1, 2, 3, 4, 5] rfl
  have hDc := hD.sub (ws' := (wQDE aQ aY aS aNs aTs aEs aDc aE bE rE pE cd c1 c2 c3 pv dc v b rw pw)) [0, 1, 2, 3, 4, 5] (by decide) rfl
  have hKc := hK.sub (tys' := wQDE_t cd c1 c2 c3) [0, 1, 2, 3] rfl
  have hFc := va_free (wc := (wQDE aQ aY aS aNs aTs aEs aDc aE bE rE pE cd c1 c2 c3 pv dc v b rw pw)) hD hS hA [0, 1, 2, 3, 4, 5] rfl
  refine zbSi (wr := [(aO, .inl (co, 1, .inr (.inl ov)))]) (w1 := (wQDE aQ aY aS aNs aTs aEs aDc aE bE rE pE cd c1 c2 c3 pv dc v b rw pw)) (w' := (wQDEO aQ aY aS aNs aTs aEs aDc aE bE rE pE aO cd c1 c2 c3 co pv dc v b rw pw ov)) (va_runV (As := [.int a1, .int a2]) (rest := [.int 0, .ref aO]) ⟨hx, hb, hml, hown, hw⟩ (k_P_look_E l D aQ aY aS aNs aTs aEs aDc aE bE rE pE cd c1 c2 c3 _ a1 a2 pv dc v b rw pw hd q1 hq1) (zcV (C := RX5) 2 hw (zgood zw514) rfl rfl rfl zw176 zw516 zw515 zw517 hdX5_look ⟨Nat.le_of_ble_eq_true rfl, Nat.le_of_ble_eq_true rfl⟩) (zpreV (zpre zC_ok hX.1.1 hS hFc hPc hKc hDc) (va_recv hK hP rfl (q0 := 0) rfl)) rfl rfl hl.1 rfl (lv_room (Nat.le_of_ble_eq_true rfl)) dL_look_5 ⟨Nat.zero_le _, Nat.zero_le _⟩) hP hD hS hFc [0, 1, 2, 3, 4, 5] [6] [1, 2, 3, 4, 5, 6, 0] rfl rfl (by decide) (by decide) rfl (by decide) (fun H locs hP hD hS => ?_)
  refine lv_i2l (v := ((q1).toInt64)) hx hb dL_look_8 rfl ?_
  obtain ⟨hi2, hm⟩ := zix_s hm
  refine va_last (i := 0) (x := ((q1).toInt64)) (f := ov) (n := 1) hx hb hK hP hD hS 6 4 rfl rfl hi2 dL_look_9 (fun H locs hP hD hS => ?_)
  have hP : va_P D vwCl (wQDEO aQ aY aS aNs aTs aEs aDc aE bE rE pE aO cd c1 c2 c3 co pv dc v b rw pw (vp_updL ov (0 : Int32).toNatClampNeg ((q1).toInt64))) H := hP
  have hD : va_D _ (wQDEO aQ aY aS aNs aTs aEs aDc aE bE rE pE aO cd c1 c2 c3 co pv dc v b rw pw (vp_updL ov (0 : Int32).toNatClampNeg ((q1).toInt64))) := hD
  refine lv_goto (tgt := 21) hx hb dL_look_10 rfl ?_
  refine lv_iconst (v := 0) hx hb dL_look_21 (by decide) ?_
  cases hm
  exact zreti hx hb hr hlk hP hD hS dL_look_22

def m_L_get_E (a1 : Int32) (a2 : Int32) (pv : Nat → Int32) (dc : Nat → Option Nat) (v : Nat → Int32) (b : Nat → Int32) (rw : Nat → Int32) (pw : Nat → Int32) (ov : Nat → Int64)  : Option ((Int32) × (Nat → Int64)) := (m_P_get_E a1 a2 pv dc v b rw pw).bind (fun q1 => zix 0 1 ((some (0, (vp_updL ov (0 : Int32).toNatClampNeg ((q1).toInt64))))))
section
variable {p : Program} {l : Launch} {e : Env} {s : State} {m : MethodId} {args : Array Value} {below : List Frame} {meth : Method} {c : Code} {D : va_G} {w0 : va_W} {aQ aY aS aNs aTs aEs aDc aE bE rE pE aO : Nat} {cd c1 c2 c3 co : ClassId} {pv : Nat → Int32} {dc : Nat → Option Nat} {v : Nat → Int32} {b : Nat → Int32} {rw : Nat → Int32} {pw : Nat → Int32} {a1 : Int32}
end
set_option maxRecDepth 100000 in
set_option maxHeartbeats 4000000 in
theorem k_L_get_E (l : Launch) (D : va_G) (aQ aY aS aNs aTs aEs aDc aE bE rE pE aO : Nat) (cd c1 c2 c3 co : ClassId) (sz : Nat) (a1 : Int32) (a2 : Int32) (pv : Nat → Int32) (dc : Nat → Option Nat) (v : Nat → Int32) (b : Nat → Int32) (rw : Nat → Int32) (pw : Nat → Int32) (ov : Nat → Int64) (hd : dc a1.toNatClampNeg = some aE) (res : (Int32) × (Nat → Int64)) (hm : m_L_get_E a1 a2 pv dc v b rw pw ov  = some res) : Met l yL_get (Cond.codeWith yL_get cL_get 5 (some .int) [(0, 10, 13, 21)] :: zBIG) (zR 2 45) (va_Pc [.ref aQ, .int a1, .int a2, .ref aO] (zP zW D vwCl (wQDEO_t cd c1 c2 c3 co) (wQDEO aQ aY aS aNs aTs aEs aDc aE bE rE pE aO cd c1 c2 c3 co pv dc v b rw pw ov) sz)) (zQi D vwCl (wQDEO aQ aY aS aNs aTs aEs aDc aE bE rE pE aO cd c1 c2 c3 co pv dc v b rw pw ov) (wQDEO aQ aY aS aNs aTs aEs aDc aE bE rE pE aO cd c1 c2 c3 co pv dc v b rw pw res.2) sz res.1) 0 0 (va_A (wQDEO aQ aY aS aNs aTs aEs aDc aE bE rE pE aO cd c1 c2 c3 co pv dc v b rw pw ov) sz) := by
  refine zEnterW RL [.ref aQ, .int a1, .int a2, .ref aO] (by decide) rfl (Nat.le_of_ble_eq_true rfl) (fun p e s m below meth c ls htb G hK hX hP hD hsz hl => ?_)
  subst hsz
  unfold m_L_get_E at hm
  have hl : lv_has ls 5 [(0, .ref aQ), (1, .int a1), (2, .int a2), (3, .ref aO)] := hl
  have hS : va_S (va_A (wQDEO aQ aY aS aNs aTs aEs aDc aE bE rE pE aO cd c1 c2 c3 co pv dc v b rw pw ov) s.heap.size) s.heap s.heap [] := va_S.rf
  have hA : ∀ q, s.heap.size ≤ q → va_A (wQDEO aQ aY aS aNs aTs aEs aDc aE bE rE pE aO cd c1 c2 c3 co pv dc v b rw pw ov) s.heap.size q := fun q h => Or.inr h
  have G0 := G
  obtain ⟨hx, hb, hr, hml, hown, hw, hlk⟩ := G
  refine lv_aload_n hx hb dL_get_0 rfl (lv_at hl 3 rfl) ?_
  refine lv_iconst (v := 0) hx hb dL_get_1 (by decide) ?_
  refine lv_aload_n hx hb dL_get_2 rfl (lv_at hl 0 rfl) ?_
  refine lv_iload_n hx hb dL_get_3 rfl (lv_at hl 1 rfl) ?_
  refine lv_iload_n hx hb dL_get_4 rfl (lv_at hl 2 rfl) ?_
  obtain ⟨q1, hq1, hm⟩ := zbind hm
  have hPc := hP.sub (ws' := (wQDE aQ aY aS aNs aTs aEs aDc aE bE rE pE cd c1 c2 c3 pv dc v b rw pw)) [0, 1, 2, 3, 4, 5] rfl
  have hDc := hD.sub (ws' := (wQDE aQ aY aS aNs aTs aEs aDc aE bE rE pE cd c1 c2 c3 pv dc v b rw pw)) [0, 1, 2, 3, 4, 5] (by decide) rfl
  have hKc := hK.sub (tys' := wQDE_t cd c1 c2 c3) [0, 1, 2, 3] rfl
  have hFc := va_free (wc := (wQDE aQ aY aS aNs aTs aEs aDc aE bE rE pE cd c1 c2 c3 pv dc v b rw pw)) hD hS hA [0, 1, 2, 3, 4, 5] rfl
  refine zbSi (wr := [(aO, .inl (co, 1, .inr (.inl ov)))]) (w1 := (wQDE aQ aY aS aNs aTs aEs aDc aE bE rE pE cd c1 c2 c3 pv dc v b rw pw)) (w' := (wQDEO aQ aY aS aNs aTs aEs aDc aE bE rE pE aO cd c1 c2 c3 co pv dc v b rw pw ov)) (va_runV (As := [.int a1, .int a2]) (rest := [.int 0, .ref aO]) ⟨hx, hb, hml, hown, hw⟩ (k_P_get_E l D aQ aY aS aNs aTs aEs aDc aE bE rE pE cd c1 c2 c3 _ a1 a2 pv dc v b rw pw hd q1 hq1) (zcV (C := RX5) 2 hw (zgood zw518) rfl rfl rfl zw176 zw520 zw519 zw521 hdX5_get ⟨Nat.le_of_ble_eq_true rfl, Nat.le_of_ble_eq_true rfl⟩) (zpreV (zpre zC_ok hX.1.1 hS hFc hPc hKc hDc) (va_recv hK hP rfl (q0 := 0) rfl)) rfl rfl hl.1 rfl (lv_room (Nat.le_of_ble_eq_true rfl)) dL_get_5 ⟨Nat.zero_le _, Nat.zero_le _⟩) hP hD hS hFc [0, 1, 2, 3, 4, 5] [6] [1, 2, 3, 4, 5, 6, 0] rfl rfl (by decide) (by decide) rfl (by decide) (fun H locs hP hD hS => ?_)
  refine lv_i2l (v := ((q1).toInt64)) hx hb dL_get_8 rfl ?_
  obtain ⟨hi2, hm⟩ := zix_s hm
  refine va_last (i := 0) (x := ((q1).toInt64)) (f := ov) (n := 1) hx hb hK hP hD hS 6 4 rfl rfl hi2 dL_get_9 (fun H locs hP hD hS => ?_)
  have hP : va_P D vwCl (wQDEO aQ aY aS aNs aTs aEs aDc aE bE rE pE aO cd c1 c2 c3 co pv dc v b rw pw (vp_updL ov (0 : Int32).toNatClampNeg ((q1).toInt64))) H := hP
  have hD : va_D _ (wQDEO aQ aY aS aNs aTs aEs aDc aE bE rE pE aO cd c1 c2 c3 co pv dc v b rw pw (vp_updL ov (0 : Int32).toNatClampNeg ((q1).toInt64))) := hD
  refine lv_goto (tgt := 17) hx hb dL_get_10 rfl ?_
  refine lv_iconst (v := 0) hx hb dL_get_17 (by decide) ?_
  cases hm
  exact zreti hx hb hr hlk hP hD hS dL_get_18

def m_L_set_E (a1 : Int32) (a2 : Int32) (a3 : Int32) (pv : Nat → Int32) (dc : Nat → Option Nat) (v : Nat → Int32) (b : Nat → Int32) (rw : Nat → Int32) (pw : Nat → Int32)  : Option ((Int32) × (Nat → Int32)) := (m_P_set_E a1 a2 a3 pv dc v b rw pw).bind (fun q1 => (some (0, q1)))
section
variable {p : Program} {l : Launch} {e : Env} {s : State} {m : MethodId} {args : Array Value} {below : List Frame} {meth : Method} {c : Code} {D : va_G} {w0 : va_W} {aQ aY aS aNs aTs aEs aDc aE bE rE pE : Nat} {cd c1 c2 c3 : ClassId} {pv : Nat → Int32} {dc : Nat → Option Nat} {v : Nat → Int32} {rw : Nat → Int32} {pw : Nat → Int32} {a1 : Int32}
end
set_option maxRecDepth 100000 in
set_option maxHeartbeats 4000000 in
theorem k_L_set_E (l : Launch) (D : va_G) (aQ aY aS aNs aTs aEs aDc aE bE rE pE : Nat) (cd c1 c2 c3 : ClassId) (sz : Nat) (a1 : Int32) (a2 : Int32) (a3 : Int32) (pv : Nat → Int32) (dc : Nat → Option Nat) (v : Nat → Int32) (b : Nat → Int32) (rw : Nat → Int32) (pw : Nat → Int32) (hd : dc a1.toNatClampNeg = some aE) (res : (Int32) × (Nat → Int32)) (hm : m_L_set_E a1 a2 a3 pv dc v b rw pw  = some res) : Met l yL_set (Cond.codeWith yL_set cL_set 5 (some .int) [(0, 7, 10, 21), (0, 7, 14, 15)] :: zBIG) (zR 2 46) (va_Pc [.ref aQ, .int a1, .int a2, .int a3] (zP zW D vwCl (wQDE_t cd c1 c2 c3) (wQDE aQ aY aS aNs aTs aEs aDc aE bE rE pE cd c1 c2 c3 pv dc v b rw pw) sz)) (zQi D vwCl (wQDE aQ aY aS aNs aTs aEs aDc aE bE rE pE cd c1 c2 c3 pv dc v b rw pw) (wQDE aQ aY aS aNs aTs aEs aDc aE bE rE pE cd c1 c2 c3 pv dc v res.2 rw pw) sz res.1) 0 0 (va_A (wQDE aQ aY aS aNs aTs aEs aDc aE bE rE pE cd c1 c2 c3 pv dc v b rw pw) sz) := by
  refine zEnterW RL [.ref aQ, .int a1, .int a2, .int a3] (by decide) rfl (Nat.le_of_ble_eq_true rfl) (fun p e s m below meth c ls htb G hK hX hP hD hsz hl => ?_)
  subst hsz
  unfold m_L_set_E at hm
  have hl : lv_has ls 5 [(0, .ref aQ), (1, .int a1), (2, .int a2), (3, .int a3)] := hl
  have hS : va_S (va_A (wQDE aQ aY aS aNs aTs aEs aDc aE bE rE pE cd c1 c2 c3 pv dc v b rw pw) s.heap.size) s.heap s.heap [] := va_S.rf
  have hA : ∀ q, s.heap.size ≤ q → va_A (wQDE aQ aY aS aNs aTs aEs aDc aE bE rE pE cd c1 c2 c3 pv dc v b rw pw) s.heap.size q := fun q h => Or.inr h
  have G0 := G
  obtain ⟨hx, hb, hr, hml, hown, hw, hlk⟩ := G
  refine lv_aload_n hx hb dL_set_0 rfl (lv_at hl 0 rfl) ?_
  refine lv_iload_n hx hb dL_set_1 rfl (lv_at hl 1 rfl) ?_
  refine lv_iload_n hx hb dL_set_2 rfl (lv_at hl 2 rfl) ?_
  refine lv_iload_n hx hb dL_set_3 rfl (lv_at hl 3 rfl) ?_
  obtain ⟨q1, hq1, hm⟩ := zbind hm
  refine zbWv (va_runV (As := [.int a1, .int a2, .int a3]) (rest := []) ⟨hx, hb, hml, hown, hw⟩ (k_P_set_E l D aQ aY aS aNs aTs aEs aDc aE bE rE pE cd c1 c2 c3 _ a1 a2 a3 pv dc v b rw pw hd q1 hq1) (zcV (C := RX5) 3 hw (zgood zw522) rfl rfl rfl zw176 zw524 zw523 zw525 hdX5_set ⟨Nat.le_of_ble_eq_true rfl, Nat.le_of_ble_eq_true rfl⟩) (zpreV (zpre zC_ok hX.1.1 hS (zfree hD hS hA) hP hK hD) (va_recv hK hP rfl (q0 := 0) rfl)) rfl rfl hl.1 rfl (lv_room (Nat.le_of_ble_eq_true rfl)) dL_set_4 ⟨Nat.zero_le _, Nat.zero_le _⟩) hS (zfree hD hS hA) (fun H locs hP hD hS => ?_)
  have hP : va_P D vwCl (wQDE aQ aY aS aNs aTs aEs aDc aE bE rE pE cd c1 c2 c3 pv dc v q1 rw pw) H := hP
  have hD : va_D _ (wQDE aQ aY aS aNs aTs aEs aDc aE bE rE pE cd c1 c2 c3 pv dc v q1 rw pw) := hD
  refine lv_goto (tgt := 18) hx hb dL_set_7 rfl ?_
  refine lv_iconst (v := 0) hx hb dL_set_18 (by decide) ?_
  cases hm
  exact zreti hx hb hr hlk hP hD hS dL_set_19

def m_L_value_E (a1 : Int32) (pv : Nat → Int32) (dc : Nat → Option Nat) (v : Nat → Int32) (b : Nat → Int32) (rw : Nat → Int32) (pw : Nat → Int32) (ov : Nat → Int64)  : Option ((Int32) × (Nat → Int64)) := (m_P_value_E a1 pv dc v b rw pw).bind (fun q1 => zix 0 1 ((some (0, (vp_updL ov (0 : Int32).toNatClampNeg q1)))))
section
variable {p : Program} {l : Launch} {e : Env} {s : State} {m : MethodId} {args : Array Value} {below : List Frame} {meth : Method} {c : Code} {D : va_G} {w0 : va_W} {aQ aY aS aNs aTs aEs aDc aE bE rE pE aO : Nat} {cd c1 c2 c3 co : ClassId} {pv : Nat → Int32} {dc : Nat → Option Nat} {v : Nat → Int32} {b : Nat → Int32} {rw : Nat → Int32} {pw : Nat → Int32} {a1 : Int32}
end
set_option maxRecDepth 100000 in
set_option maxHeartbeats 4000000 in
theorem k_L_value_E (l : Launch) (D : va_G) (aQ aY aS aNs aTs aEs aDc aE bE rE pE aO : Nat) (cd c1 c2 c3 co : ClassId) (sz : Nat) (a1 : Int32) (pv : Nat → Int32) (dc : Nat → Option Nat) (v : Nat → Int32) (b : Nat → Int32) (rw : Nat → Int32) (pw : Nat → Int32) (ov : Nat → Int64) (hd : dc a1.toNatClampNeg = some aE) (res : (Int32) × (Nat → Int64)) (hm : m_L_value_E a1 pv dc v b rw pw ov  = some res) : Met l yL_value (Cond.codeWith yL_value cL_value 4 (some .int) [(0, 8, 11, 21)] :: zBIG) (zR 4 86) (va_Pc [.ref aQ, .int a1, .ref aO] (zP zW D vwCl (wQDEO_t cd c1 c2 c3 co) (wQDEO aQ aY aS aNs aTs aEs aDc aE bE rE pE aO cd c1 c2 c3 co pv dc v b rw pw ov) sz)) (zQi D vwCl (wQDEO aQ aY aS aNs aTs aEs aDc aE bE rE pE aO cd c1 c2 c3 co pv dc v b rw pw ov) (wQDEO aQ aY aS aNs aTs aEs aDc aE bE rE pE aO cd c1 c2 c3 co pv dc v b rw pw res.2) sz res.1) 0 0 (va_A (wQDEO aQ aY aS aNs aTs aEs aDc aE bE rE pE aO cd c1 c2 c3 co pv dc v b rw pw ov) sz) := by
  refine zEnterW RL [.ref aQ, .int a1, .ref aO] (by decide) rfl (Nat.le_of_ble_eq_true rfl) (fun p e s m below meth c ls htb G hK hX hP hD hsz hl => ?_)
  subst hsz
  unfold m_L_value_E at hm
  have hl : lv_has ls 4 [(0, .ref aQ), (1, .int a1), (2, .ref aO)] := hl
  have hS : va_S (va_A (wQDEO aQ aY aS aNs aTs aEs aDc aE bE rE pE aO cd c1 c2 c3 co pv dc v b rw pw ov) s.heap.size) s.heap s.heap [] := va_S.rf
  have hA : ∀ q, s.heap.size ≤ q → va_A (wQDEO aQ aY aS aNs aTs aEs aDc aE bE rE pE aO cd c1 c2 c3 co pv dc v b rw pw ov) s.heap.size q := fun q h => Or.inr h
  have G0 := G
  obtain ⟨hx, hb, hr, hml, hown, hw, hlk⟩ := G
  refine lv_aload_n hx hb dL_value_0 rfl (lv_at hl 2 rfl) ?_
  refine lv_iconst (v := 0) hx hb dL_value_1 (by decide) ?_
  refine lv_aload_n hx hb dL_value_2 rfl (lv_at hl 0 rfl) ?_
  refine lv_iload_n hx hb dL_value_3 rfl (lv_at hl 1 rfl) ?_
  obtain ⟨q1, hq1, hm⟩ := zbind hm
  have hPc := hP.sub (ws' := (wQDE aQ aY aS aNs aTs aEs aDc aE bE rE pE cd c1 c2 c3 pv dc v b rw pw)) [0, 1, 2, 3, 4, 5] rfl
  have hDc := hD.sub (ws' := (wQDE aQ aY aS aNs aTs aEs aDc aE bE rE pE cd c1 c2 c3 pv dc v b rw pw)) [0, 1, 2, 3, 4, 5] (by decide) rfl
  have hKc := hK.sub (tys' := wQDE_t cd c1 c2 c3) [0, 1, 2, 3] rfl
  have hFc := va_free (wc := (wQDE aQ aY aS aNs aTs aEs aDc aE bE rE pE cd c1 c2 c3 pv dc v b rw pw)) hD hS hA [0, 1, 2, 3, 4, 5] rfl
  refine zbSl (wr := [(aO, .inl (co, 1, .inr (.inl ov)))]) (w1 := (wQDE aQ aY aS aNs aTs aEs aDc aE bE rE pE cd c1 c2 c3 pv dc v b rw pw)) (w' := (wQDEO aQ aY aS aNs aTs aEs aDc aE bE rE pE aO cd c1 c2 c3 co pv dc v b rw pw ov)) (va_runV (As := [.int a1]) (rest := [.int 0, .ref aO]) ⟨hx, hb, hml, hown, hw⟩ (k_P_value_E l D aQ aY aS aNs aTs aEs aDc aE bE rE pE cd c1 c2 c3 _ a1 pv dc v b rw pw hd q1 hq1) (zcV (C := RX5) 1 hw (zgood zw526) rfl rfl rfl zw176 zw528 zw527 zw529 hdX5_value ⟨Nat.le_of_ble_eq_true rfl, Nat.le_of_ble_eq_true rfl⟩) (zpreV (zpre zC_ok hX.1.1 hS hFc hPc hKc hDc) (va_recv hK hP rfl (q0 := 0) rfl)) rfl rfl hl.1 rfl (lv_room (Nat.le_of_ble_eq_true rfl)) dL_value_4 ⟨Nat.zero_le _, Nat.zero_le _⟩) hP hD hS hFc [0, 1, 2, 3, 4, 5] [6] [1, 2, 3, 4, 5, 6, 0] rfl rfl (by decide) (by decide) rfl (by decide) (fun H locs hP hD hS => ?_)
  obtain ⟨hi2, hm⟩ := zix_s hm
  refine va_last (i := 0) (x := q1) (f := ov) (n := 1) hx hb hK hP hD hS 6 4 rfl rfl hi2 dL_value_7 (fun H locs hP hD hS => ?_)
  have hP : va_P D vwCl (wQDEO aQ aY aS aNs aTs aEs aDc aE bE rE pE aO cd c1 c2 c3 co pv dc v b rw pw (vp_updL ov (0 : Int32).toNatClampNeg q1)) H := hP
  have hD : va_D _ (wQDEO aQ aY aS aNs aTs aEs aDc aE bE rE pE aO cd c1 c2 c3 co pv dc v b rw pw (vp_updL ov (0 : Int32).toNatClampNeg q1)) := hD
  refine lv_goto (tgt := 14) hx hb dL_value_8 rfl ?_
  refine lv_iconst (v := 0) hx hb dL_value_14 (by decide) ?_
  cases hm
  exact zreti hx hb hr hlk hP hD hS dL_value_15

def m_L_get_n2E (a1 : Int32) (a2 : Int32) (pv : Nat → Int32) (dc : Nat → Option Nat) (v : Nat → Int32) (b : Nat → Int32) (rw : Nat → Int32) (pw : Nat → Int32)  : Option ((Int32)) := (m_Px2_get_E a1 a2 pv dc v b rw pw).bind (fun q1 => (some 1))
section
variable {p : Program} {l : Launch} {e : Env} {s : State} {m : MethodId} {args : Array Value} {below : List Frame} {meth : Method} {c : Code} {D : va_G} {w0 : va_W} {aQ aY aS aNs aTs aEs aDc aE bE rE pE aO : Nat} {cd c1 c2 c3 : ClassId} {pv : Nat → Int32} {dc : Nat → Option Nat} {v : Nat → Int32} {b : Nat → Int32} {rw : Nat → Int32} {pw : Nat → Int32} {a1 : Int32}
end
set_option maxRecDepth 100000 in
set_option maxHeartbeats 4000000 in
theorem k_L_get_n2E (l : Launch) (D : va_G) (aQ aY aS aNs aTs aEs aDc aE bE rE pE aO : Nat) (cd c1 c2 c3 : ClassId) (sz : Nat) (a1 : Int32) (a2 : Int32) (pv : Nat → Int32) (dc : Nat → Option Nat) (v : Nat → Int32) (b : Nat → Int32) (rw : Nat → Int32) (pw : Nat → Int32) (hl0 : l.stackTraces = false) (hd : dc a1.toNatClampNeg = some aE) (res : (Int32)) (hm : m_L_get_n2E a1 a2 pv dc v b rw pw  = some res) : Met l yL_get (Cond.codeWith yL_get cL_get 5 (some .int) [(0, 10, 13, 21)] :: zBIG) (zRx 7 113) (va_Pc [.ref aQ, .int a1, .int a2, .ref aO] (zP zW D vwCl (wQDEo_t cd c1 c2 c3) (wQDEo aQ aY aS aNs aTs aEs aDc aE bE rE pE aO cd c1 c2 c3 pv dc v b rw pw) sz)) (zQi D vwCl (wQDEo aQ aY aS aNs aTs aEs aDc aE bE rE pE aO cd c1 c2 c3 pv dc v b rw pw) (wQDEo aQ aY aS aNs aTs aEs aDc aE bE rE pE aO cd c1 c2 c3 pv dc v b rw pw) sz res) 1 6 (va_A (wQDEo aQ aY aS aNs aTs aEs aDc aE bE rE pE aO cd c1 c2 c3 pv dc v b rw pw) sz) := by
  refine zEnterW RL [.ref aQ, .int a1, .int a2, .ref aO] (by decide) rfl (Nat.le_of_ble_eq_true rfl) (fun p e s m below meth c ls htb G hK hX hP hD hsz hl => ?_)
  subst hsz
  unfold m_L_get_n2E at hm
  have hl : lv_has ls 5 [(0, .ref aQ), (1, .int a1), (2, .int a2), (3, .ref aO)] := hl
  have hS : va_S (va_A (wQDEo aQ aY aS aNs aTs aEs aDc aE bE rE pE aO cd c1 c2 c3 pv dc v b rw pw) s.heap.size) s.heap s.heap [] := va_S.rf
  have hA : ∀ q, s.heap.size ≤ q → va_A (wQDEo aQ aY aS aNs aTs aEs aDc aE bE rE pE aO cd c1 c2 c3 pv dc v b rw pw) s.heap.size q := fun q h => Or.inr h
  have G0 := G
  obtain ⟨hx, hb, hr, hml, hown, hw, hlk⟩ := G
  refine lv_aload_n hx hb dL_get_0 rfl (lv_at hl 3 rfl) ?_
  refine lv_iconst (v := 0) hx hb dL_get_1 (by decide) ?_
  refine lv_aload_n hx hb dL_get_2 rfl (lv_at hl 0 rfl) ?_
  refine lv_iload_n hx hb dL_get_3 rfl (lv_at hl 1 rfl) ?_
  refine lv_iload_n hx hb dL_get_4 rfl (lv_at hl 2 rfl) ?_
  obtain ⟨q1, hq1, hm⟩ := zbind hm
  refine zxC (name := "java/util/NoSuchElementException") (vx_runV (As := [.int a1, .int a2]) (rest := [.int 0, .ref aO]) ⟨hx, hb, hml, hown, hw⟩ (k_Px2_get_E l D aQ aY aS aNs aTs aEs aDc aE bE rE pE cd c1 c2 c3 _ a1 a2 pv dc v b rw pw hl0 hd q1 hq1) (zcVx (C := RX5) 2 hw (zgood zw518) rfl rfl rfl zw176 zw520 zw519 zw521 hdX5_get ⟨Nat.le_of_ble_eq_true rfl, Nat.le_of_ble_eq_true rfl⟩) (zpreV (zpre zD_ok hX.1 hS (zfree hD hS hA) hP hK hD) (va_recv hK hP rfl (q0 := 0) rfl)) rfl rfl hl.1 rfl (lv_room (Nat.le_of_ble_eq_true rfl)) dL_get_5 ⟨Nat.le_of_ble_eq_true rfl, Nat.le_of_ble_eq_true rfl⟩) hS (zfree hD hS hA) hown [] ⟨0, 10, 13, 21⟩ [] (by rw [htb]; rfl) (fun _ h => absurd h List.not_mem_nil) (by decide) (by decide) (hw _ zw530) (va_Nw.use rfl (hX.1.1.1 _ zn19)) (fun q9 H locs hP hD hS => ?_)
  refine W.widen (k := 1) (n := 6) (by decide) (by decide) ?_
  have hP : va_P D vwCl (wQDEo aQ aY aS aNs aTs aEs aDc aE bE rE pE aO cd c1 c2 c3 pv dc v b rw pw) H := hP
  have hD : va_D _ (wQDEo aQ aY aS aNs aTs aEs aDc aE bE rE pE aO cd c1 c2 c3 pv dc v b rw pw) := hD
  refine lv_astore (lv' := [(4, .ref q9), (0, .ref aQ), (1, .int a1), (2, .int a2), (3, .ref aO)]) hx hb dL_get_13 hl (by decide) rfl (fun ls hl => ?_)
  refine lv_iconst (v := 1) hx hb dL_get_15 (by decide) ?_
  cases hm
  exact zreti1 hx hb hr hlk hP hD hS dL_get_16

def m_L_set_n2E (a1 : Int32) (a2 : Int32) (a3 : Int32) (pv : Nat → Int32) (dc : Nat → Option Nat) (v : Nat → Int32) (b : Nat → Int32) (rw : Nat → Int32) (pw : Nat → Int32)  : Option ((Int32) × (Nat → Int32)) := (m_Px2_set_E a1 a2 a3 pv dc v b rw pw).bind (fun q1 => (some (1, q1)))
section
variable {p : Program} {l : Launch} {e : Env} {s : State} {m : MethodId} {args : Array Value} {below : List Frame} {meth : Method} {c : Code} {D : va_G} {w0 : va_W} {aQ aY aS aNs aTs aEs aDc aE bE rE pE : Nat} {cd c1 c2 c3 : ClassId} {pv : Nat → Int32} {dc : Nat → Option Nat} {v : Nat → Int32} {rw : Nat → Int32} {pw : Nat → Int32} {a1 : Int32}
end
set_option maxRecDepth 100000 in
set_option maxHeartbeats 4000000 in
theorem k_L_set_n2E (l : Launch) (D : va_G) (aQ aY aS aNs aTs aEs aDc aE bE rE pE : Nat) (cd c1 c2 c3 : ClassId) (sz : Nat) (a1 : Int32) (a2 : Int32) (a3 : Int32) (pv : Nat → Int32) (dc : Nat → Option Nat) (v : Nat → Int32) (b : Nat → Int32) (rw : Nat → Int32) (pw : Nat → Int32) (hl0 : l.stackTraces = false) (hd : dc a1.toNatClampNeg = some aE) (res : (Int32) × (Nat → Int32)) (hm : m_L_set_n2E a1 a2 a3 pv dc v b rw pw  = some res) : Met l yL_set (Cond.codeWith yL_set cL_set 5 (some .int) [(0, 7, 10, 21), (0, 7, 14, 15)] :: zBIG) (zRx 7 114) (va_Pc [.ref aQ, .int a1, .int a2, .int a3] (zP zW D vwCl (wQDE_t cd c1 c2 c3) (wQDE aQ aY aS aNs aTs aEs aDc aE bE rE pE cd c1 c2 c3 pv dc v b rw pw) sz)) (zQi D vwCl (wQDE aQ aY aS aNs aTs aEs aDc aE bE rE pE cd c1 c2 c3 pv dc v b rw pw) (wQDE aQ aY aS aNs aTs aEs aDc aE bE rE pE cd c1 c2 c3 pv dc v res.2 rw pw) sz res.1) 1 6 (va_A (wQDE aQ aY aS aNs aTs aEs aDc aE bE rE pE cd c1 c2 c3 pv dc v b rw pw) sz) := by
  refine zEnterW RL [.ref aQ, .int a1, .int a2, .int a3] (by decide) rfl (Nat.le_of_ble_eq_true rfl) (fun p e s m below meth c ls htb G hK hX hP hD hsz hl => ?_)
  subst hsz
  unfold m_L_set_n2E at hm
  have hl : lv_has ls 5 [(0, .ref aQ), (1, .int a1), (2, .int a2), (3, .int a3)] := hl
  have hS : va_S (va_A (wQDE aQ aY aS aNs aTs aEs aDc aE bE rE pE cd c1 c2 c3 pv dc v b rw pw) s.heap.size) s.heap s.heap [] := va_S.rf
  have hA : ∀ q, s.heap.size ≤ q → va_A (wQDE aQ aY aS aNs aTs aEs aDc aE bE rE pE cd c1 c2 c3 pv dc v b rw pw) s.heap.size q := fun q h => Or.inr h
  have G0 := G
  obtain ⟨hx, hb, hr, hml, hown, hw, hlk⟩ := G
  refine lv_aload_n hx hb dL_set_0 rfl (lv_at hl 0 rfl) ?_
  refine lv_iload_n hx hb dL_set_1 rfl (lv_at hl 1 rfl) ?_
  refine lv_iload_n hx hb dL_set_2 rfl (lv_at hl 2 rfl) ?_
  refine lv_iload_n hx hb dL_set_3 rfl (lv_at hl 3 rfl) ?_
  obtain ⟨q1, hq1, hm⟩ := zbind hm
  refine zxC (name := "java/util/NoSuchElementException") (vx_runV (As := [.int a1, .int a2, .int a3]) (rest := []) ⟨hx, hb, hml, hown, hw⟩ (k_Px2_set_E l D aQ aY aS aNs aTs aEs aDc aE bE rE pE cd c1 c2 c3 _ a1 a2 a3 pv dc v b rw pw hl0 hd q1 hq1) (zcVx (C := RX5) 3 hw (zgood zw522) rfl rfl rfl zw176 zw524 zw523 zw525 hdX5_set ⟨Nat.le_of_ble_eq_true rfl, Nat.le_of_ble_eq_true rfl⟩) (zpreV (zpre zD_ok hX.1 hS (zfree hD hS hA) hP hK hD) (va_recv hK hP rfl (q0 := 0) rfl)) rfl rfl hl.1 rfl (lv_room (Nat.le_of_ble_eq_true rfl)) dL_set_4 ⟨Nat.le_of_ble_eq_true rfl, Nat.le_of_ble_eq_true rfl⟩) hS (zfree hD hS hA) hown [] ⟨0, 7, 10, 21⟩ [⟨0, 7, 14, 15⟩] (by rw [htb]; rfl) (fun _ h => absurd h List.not_mem_nil) (by decide) (by decide) (hw _ zw530) (va_Nw.use rfl (hX.1.1.1 _ zn19)) (fun q9 H locs hP hD hS => ?_)
  refine W.widen (k := 1) (n := 6) (by decide) (by decide) ?_
  have hP : va_P D vwCl (wQDE aQ aY aS aNs aTs aEs aDc aE bE rE pE cd c1 c2 c3 pv dc v q1 rw pw) H := hP
  have hD : va_D _ (wQDE aQ aY aS aNs aTs aEs aDc aE bE rE pE cd c1 c2 c3 pv dc v q1 rw pw) := hD
  refine lv_astore (lv' := [(4, .ref q9), (0, .ref aQ), (1, .int a1), (2, .int a2), (3, .int a3)]) hx hb dL_set_10 hl (by decide) rfl (fun ls hl => ?_)
  refine lv_iconst (v := 1) hx hb dL_set_12 (by decide) ?_
  cases hm
  exact zreti1 hx hb hr hlk hP hD hS dL_set_13

def m_L_set_iE (a1 : Int32) (a2 : Int32) (a3 : Int32) (pv : Nat → Int32) (dc : Nat → Option Nat) (v : Nat → Int32) (b : Nat → Int32) (rw : Nat → Int32) (pw : Nat → Int32)  : Option ((Int32) × (Nat → Int32)) := (m_Pi_set_E a1 a2 a3 pv dc v b rw pw).bind (fun q1 => (some (2, q1)))
section
variable {p : Program} {l : Launch} {e : Env} {s : State} {m : MethodId} {args : Array Value} {below : List Frame} {meth : Method} {c : Code} {D : va_G} {w0 : va_W} {aQ aY aS aNs aTs aEs aDc aE bE rE pE : Nat} {cd c1 c2 c3 : ClassId} {pv : Nat → Int32} {dc : Nat → Option Nat} {v : Nat → Int32} {rw : Nat → Int32} {pw : Nat → Int32} {a1 : Int32}
end
set_option maxRecDepth 100000 in
set_option maxHeartbeats 4000000 in
theorem k_L_set_iE (l : Launch) (D : va_G) (aQ aY aS aNs aTs aEs aDc aE bE rE pE : Nat) (cd c1 c2 c3 : ClassId) (sz : Nat) (a1 : Int32) (a2 : Int32) (a3 : Int32) (pv : Nat → Int32) (dc : Nat → Option Nat) (v : Nat → Int32) (b : Nat → Int32) (rw : Nat → Int32) (pw : Nat → Int32) (hl0 : l.stackTraces = false) (hd : dc a1.toNatClampNeg = some aE) (res : (Int32) × (Nat → Int32)) (hm : m_L_set_iE a1 a2 a3 pv dc v b rw pw  = some res) : Met l yL_set (Cond.codeWith yL_set cL_set 5 (some .int) [(0, 7, 10, 21), (0, 7, 14, 15)] :: zBIG) (zRx 7 114) (va_Pc [.ref aQ, .int a1, .int a2, .int a3] (zP zW D vwCl (wQDE_t cd c1 c2 c3) (wQDE aQ aY aS aNs aTs aEs aDc aE bE rE pE cd c1 c2 c3 pv dc v b rw pw) sz)) (zQi D vwCl (wQDE aQ aY aS aNs aTs aEs aDc aE bE rE pE cd c1 c2 c3 pv dc v b rw pw) (wQDE aQ aY aS aNs aTs aEs aDc aE bE rE pE cd c1 c2 c3 pv dc v res.2 rw pw) sz res.1) 1 6 (va_A (wQDE aQ aY aS aNs aTs aEs aDc aE bE rE pE cd c1 c2 c3 pv dc v b rw pw) sz) := by
  refine zEnterW RL [.ref aQ, .int a1, .int a2, .int a3] (by decide) rfl (Nat.le_of_ble_eq_true rfl) (fun p e s m below meth c ls htb G hK hX hP hD hsz hl => ?_)
  subst hsz
  unfold m_L_set_iE at hm
  have hl : lv_has ls 5 [(0, .ref aQ), (1, .int a1), (2, .int a2), (3, .int a3)] := hl
  have hS : va_S (va_A (wQDE aQ aY aS aNs aTs aEs aDc aE bE rE pE cd c1 c2 c3 pv dc v b rw pw) s.heap.size) s.heap s.heap [] := va_S.rf
  have hA : ∀ q, s.heap.size ≤ q → va_A (wQDE aQ aY aS aNs aTs aEs aDc aE bE rE pE cd c1 c2 c3 pv dc v b rw pw) s.heap.size q := fun q h => Or.inr h
  have G0 := G
  obtain ⟨hx, hb, hr, hml, hown, hw, hlk⟩ := G
  refine lv_aload_n hx hb dL_set_0 rfl (lv_at hl 0 rfl) ?_
  refine lv_iload_n hx hb dL_set_1 rfl (lv_at hl 1 rfl) ?_
  refine lv_iload_n hx hb dL_set_2 rfl (lv_at hl 2 rfl) ?_
  refine lv_iload_n hx hb dL_set_3 rfl (lv_at hl 3 rfl) ?_
  obtain ⟨q1, hq1, hm⟩ := zbind hm
  refine zxC (name := "java/lang/IllegalArgumentException") (vx_runV (As := [.int a1, .int a2, .int a3]) (rest := []) ⟨hx, hb, hml, hown, hw⟩ (k_Pi_set_E l D aQ aY aS aNs aTs aEs aDc aE bE rE pE cd c1 c2 c3 _ a1 a2 a3 pv dc v b rw pw hl0 hd q1 hq1) (zcVx (C := RX5) 3 hw (zgood zw522) rfl rfl rfl zw176 zw524 zw523 zw525 hdX5_set ⟨Nat.le_of_ble_eq_true rfl, Nat.le_of_ble_eq_true rfl⟩) (zpreV (zpre zD_ok hX.1 hS (zfree hD hS hA) hP hK hD) (va_recv hK hP rfl (q0 := 0) rfl)) rfl rfl hl.1 rfl (lv_room (Nat.le_of_ble_eq_true rfl)) dL_set_4 ⟨Nat.le_of_ble_eq_true rfl, Nat.le_of_ble_eq_true rfl⟩) hS (zfree hD hS hA) hown [⟨0, 7, 10, 21⟩] ⟨0, 7, 14, 15⟩ [] (by rw [htb]; rfl) (List.forall_mem_cons.mpr ⟨Or.inr ⟨by decide, "java/util/NoSuchElementException", hw _ zw530, hX.2.2.1⟩, fun _ h => absurd h List.not_mem_nil⟩) (by decide) (by decide) (hw _ zw513) (va_Nw.use rfl (hX.1.1.1 _ zn18)) (fun q9 H locs hP hD hS => ?_)
  refine W.widen (k := 1) (n := 6) (by decide) (by decide) ?_
  have hP : va_P D vwCl (wQDE aQ aY aS aNs aTs aEs aDc aE bE rE pE cd c1 c2 c3 pv dc v q1 rw pw) H := hP
  have hD : va_D _ (wQDE aQ aY aS aNs aTs aEs aDc aE bE rE pE cd c1 c2 c3 pv dc v q1 rw pw) := hD
  refine lv_astore (lv' := [(4, .ref q9), (0, .ref aQ), (1, .int a1), (2, .int a2), (3, .int a3)]) hx hb dL_set_14 hl (by decide) rfl (fun ls hl => ?_)
  refine lv_iconst (v := 2) hx hb dL_set_16 (by decide) ?_
  cases hm
  exact zreti1 hx hb hr hlk hP hD hS dL_set_17

def m_L_put_E (a1 : Int32) (a2 : Int64) (a3 : Int32) (pv : Nat → Int32) (dc : Nat → Option Nat) (v : Nat → Int32) (b : Nat → Int32) (rw : Nat → Int32) (pw : Nat → Int32)  : Option ((Int32) × (Nat → Int32)) := (m_P_put_E a1 a2 a3 pv dc v b rw pw).bind (fun q1 => (some (0, q1)))
section
variable {p : Program} {l : Launch} {e : Env} {s : State} {m : MethodId} {args : Array Value} {below : List Frame} {meth : Method} {c : Code} {D : va_G} {w0 : va_W} {aQ aY aS aNs aTs aEs aDc aE bE rE pE : Nat} {cd c1 c2 c3 : ClassId} {pv : Nat → Int32} {dc : Nat → Option Nat} {v : Nat → Int32} {rw : Nat → Int32} {pw : Nat → Int32} {a1 : Int32}
end
set_option maxRecDepth 100000 in
set_option maxHeartbeats 4000000 in
theorem k_L_put_E (l : Launch) (D : va_G) (aQ aY aS aNs aTs aEs aDc aE bE rE pE : Nat) (cd c1 c2 c3 : ClassId) (sz : Nat) (a1 : Int32) (a2 : Int64) (a3 : Int32) (pv : Nat → Int32) (dc : Nat → Option Nat) (v : Nat → Int32) (b : Nat → Int32) (rw : Nat → Int32) (pw : Nat → Int32) (hd : dc a1.toNatClampNeg = some aE) (res : (Int32) × (Nat → Int32)) (hm : m_L_put_E a1 a2 a3 pv dc v b rw pw  = some res) : Met l yL_put (Cond.codeWith yL_put cL_put 6 (some .int) [(0, 8, 11, 21), (0, 8, 15, 15), (0, 8, 19, 34)] :: zBIG) (zR 6 144) (va_Pc [.ref aQ, .int a1, .long a2, .int a3] (zP zW D vwCl (wQDE_t cd c1 c2 c3) (wQDE aQ aY aS aNs aTs aEs aDc aE bE rE pE cd c1 c2 c3 pv dc v b rw pw) sz)) (zQi D vwCl (wQDE aQ aY aS aNs aTs aEs aDc aE bE rE pE cd c1 c2 c3 pv dc v b rw pw) (wQDE aQ aY aS aNs aTs aEs aDc aE bE rE pE cd c1 c2 c3 pv dc v res.2 rw pw) sz res.1) 0 0 (va_A (wQDE aQ aY aS aNs aTs aEs aDc aE bE rE pE cd c1 c2 c3 pv dc v b rw pw) sz) := by
  refine zEnterW RL [.ref aQ, .int a1, .long a2, .int a3] (by decide) rfl (Nat.le_of_ble_eq_true rfl) (fun p e s m below meth c ls htb G hK hX hP hD hsz hl => ?_)
  subst hsz
  unfold m_L_put_E at hm
  have hl : lv_has ls 6 [(0, .ref aQ), (1, .int a1), (2, .long a2), (4, .int a3)] := hl
  have hS : va_S (va_A (wQDE aQ aY aS aNs aTs aEs aDc aE bE rE pE cd c1 c2 c3 pv dc v b rw pw) s.heap.size) s.heap s.heap [] := va_S.rf
  have hA : ∀ q, s.heap.size ≤ q → va_A (wQDE aQ aY aS aNs aTs aEs aDc aE bE rE pE cd c1 c2 c3 pv dc v b rw pw) s.heap.size q := fun q h => Or.inr h
  have G0 := G
  obtain ⟨hx, hb, hr, hml, hown, hw, hlk⟩ := G
  refine lv_aload_n hx hb dL_put_0 rfl (lv_at hl 0 rfl) ?_
  refine lv_iload_n hx hb dL_put_1 rfl (lv_at hl 1 rfl) ?_
  refine lv_lload_n hx hb dL_put_2 rfl (lv_at hl 2 rfl) ?_
  refine lv_iload hx hb dL_put_3 (lv_at hl 3 rfl) ?_
  obtain ⟨q1, hq1, hm⟩ := zbind hm
  refine zbWv (va_runV (As := [.int a1, .long a2, .int a3]) (rest := []) ⟨hx, hb, hml, hown, hw⟩ (k_P_put_E l D aQ aY aS aNs aTs aEs aDc aE bE rE pE cd c1 c2 c3 _ a1 a2 a3 pv dc v b rw pw hd q1 hq1) (zcV (C := RX5) 3 hw (zgood zw531) rfl rfl rfl zw176 zw533 zw532 zw534 hdX5_put ⟨Nat.le_of_ble_eq_true rfl, Nat.le_of_ble_eq_true rfl⟩) (zpreV (zpre zC_ok hX.1.1 hS (zfree hD hS hA) hP hK hD) (va_recv hK hP rfl (q0 := 0) rfl)) rfl rfl hl.1 rfl (lv_room (Nat.le_of_ble_eq_true rfl)) dL_put_5 ⟨Nat.zero_le _, Nat.zero_le _⟩) hS (zfree hD hS hA) (fun H locs hP hD hS => ?_)
  have hP : va_P D vwCl (wQDE aQ aY aS aNs aTs aEs aDc aE bE rE pE cd c1 c2 c3 pv dc v q1 rw pw) H := hP
  have hD : va_D _ (wQDE aQ aY aS aNs aTs aEs aDc aE bE rE pE cd c1 c2 c3 pv dc v q1 rw pw) := hD
  refine lv_goto (tgt := 23) hx hb dL_put_8 rfl ?_
  refine lv_iconst (v := 0) hx hb dL_put_23 (by decide) ?_
  cases hm
  exact zreti hx hb hr hlk hP hD hS dL_put_24

def m_L_move_E (a1 : Int32) (a2 : Int32) (pv : Nat → Int32) (dc : Nat → Option Nat) (v : Nat → Int32) (b : Nat → Int32) (rw : Nat → Int32) (pw : Nat → Int32)  : Option ((Int32) × (Nat → Int32)) := (m_P_move_E a1 a2 pv dc v b rw pw).bind (fun q1 => (some (0, q1)))
section
variable {p : Program} {l : Launch} {e : Env} {s : State} {m : MethodId} {args : Array Value} {below : List Frame} {meth : Method} {c : Code} {D : va_G} {w0 : va_W} {aQ aY aS aNs aTs aEs aDc aE bE rE pE : Nat} {cd c1 c2 c3 : ClassId} {pv : Nat → Int32} {dc : Nat → Option Nat} {v : Nat → Int32} {rw : Nat → Int32} {pw : Nat → Int32} {a1 : Int32} {a2 : Int32}
end
set_option maxRecDepth 100000 in
set_option maxHeartbeats 4000000 in
theorem k_L_move_E (l : Launch) (D : va_G) (aQ aY aS aNs aTs aEs aDc aE bE rE pE : Nat) (cd c1 c2 c3 : ClassId) (sz : Nat) (a1 : Int32) (a2 : Int32) (pv : Nat → Int32) (dc : Nat → Option Nat) (v : Nat → Int32) (b : Nat → Int32) (rw : Nat → Int32) (pw : Nat → Int32) (hd : dc a1.toNatClampNeg = some aE) (hd2 : dc a2.toNatClampNeg = some aE) (res : (Int32) × (Nat → Int32)) (hm : m_L_move_E a1 a2 pv dc v b rw pw  = some res) : Met l yL_move (Cond.codeWith yL_move cL_move 4 (some .int) [(0, 6, 9, 21), (0, 6, 12, 34)] :: zBIG) (zR 7 164) (va_Pc [.ref aQ, .int a1, .int a2] (zP zW D vwCl (wQDE_t cd c1 c2 c3) (wQDE aQ aY aS aNs aTs aEs aDc aE bE rE pE cd c1 c2 c3 pv dc v b rw pw) sz)) (zQi D vwCl (wQDE aQ aY aS aNs aTs aEs aDc aE bE rE pE cd c1 c2 c3 pv dc v b rw pw) (wQDE aQ aY aS aNs aTs aEs aDc aE bE rE pE cd c1 c2 c3 pv dc v res.2 rw pw) sz res.1) 0 0 (va_A (wQDE aQ aY aS aNs aTs aEs aDc aE bE rE pE cd c1 c2 c3 pv dc v b rw pw) sz) := by
  refine zEnterW RL [.ref aQ, .int a1, .int a2] (by decide) rfl (Nat.le_of_ble_eq_true rfl) (fun p e s m below meth c ls htb G hK hX hP hD hsz hl => ?_)
  subst hsz
  unfold m_L_move_E at hm
  have hl : lv_has ls 4 [(0, .ref aQ), (1, .int a1), (2, .int a2)] := hl
  have hS : va_S (va_A (wQDE aQ aY aS aNs aTs aEs aDc aE bE rE pE cd c1 c2 c3 pv dc v b rw pw) s.heap.size) s.heap s.heap [] := va_S.rf
  have hA : ∀ q, s.heap.size ≤ q → va_A (wQDE aQ aY aS aNs aTs aEs aDc aE bE rE pE cd c1 c2 c3 pv dc v b rw pw) s.heap.size q := fun q h => Or.inr h
  have G0 := G
  obtain ⟨hx, hb, hr, hml, hown, hw, hlk⟩ := G
  refine lv_aload_n hx hb dL_move_0 rfl (lv_at hl 0 rfl) ?_
  refine lv_iload_n hx hb dL_move_1 rfl (lv_at hl 1 rfl) ?_
  refine lv_iload_n hx hb dL_move_2 rfl (lv_at hl 2 rfl) ?_
  obtain ⟨q1, hq1, hm⟩ := zbind hm
  refine zbWv (va_runV (As := [.int a1, .int a2]) (rest := []) ⟨hx, hb, hml, hown, hw⟩ (k_P_move_E l D aQ aY aS aNs aTs aEs aDc aE bE rE pE cd c1 c2 c3 _ a1 a2 pv dc v b rw pw hd hd2 q1 hq1) (zcV (C := RX5) 2 hw (zgood zw535) rfl rfl rfl zw176 zw537 zw536 zw538 hdX5_move ⟨Nat.le_of_ble_eq_true rfl, Nat.le_of_ble_eq_true rfl⟩) (zpreV (zpre zC_ok hX.1.1 hS (zfree hD hS hA) hP hK hD) (va_recv hK hP rfl (q0 := 0) rfl)) rfl rfl hl.1 rfl (lv_room (Nat.le_of_ble_eq_true rfl)) dL_move_3 ⟨Nat.zero_le _, Nat.zero_le _⟩) hS (zfree hD hS hA) (fun H locs hP hD hS => ?_)
  have hP : va_P D vwCl (wQDE aQ aY aS aNs aTs aEs aDc aE bE rE pE cd c1 c2 c3 pv dc v q1 rw pw) H := hP
  have hD : va_D _ (wQDE aQ aY aS aNs aTs aEs aDc aE bE rE pE cd c1 c2 c3 pv dc v q1 rw pw) := hD
  refine lv_goto (tgt := 15) hx hb dL_move_6 rfl ?_
  refine lv_iconst (v := 0) hx hb dL_move_15 (by decide) ?_
  cases hm
  exact zreti hx hb hr hlk hP hD hS dL_move_16

def m_L_move_EN (a1 : Int32) (a2 : Int32) (pv : Nat → Int32) (dc : Nat → Option Nat) (v : Nat → Int32) (b : Nat → Int32) (rw : Nat → Int32) (pw : Nat → Int32) (v2 : Nat → Int32) (b2 : Nat → Int32)  : Option ((Int32) × (Nat → Int32)) := (m_P_move_EN a1 a2 pv dc v b rw pw v2 b2).bind (fun q1 => (some (0, q1)))
section
variable {p : Program} {l : Launch} {e : Env} {s : State} {m : MethodId} {args : Array Value} {below : List Frame} {meth : Method} {c : Code} {D : va_G} {w0 : va_W} {aQ aY aS aNs aTs aEs aDc aE bE rE pE aN2 bN2 : Nat} {cd c1 c2 c3 c12 : ClassId} {pv : Nat → Int32} {dc : Nat → Option Nat} {v : Nat → Int32} {rw : Nat → Int32} {pw : Nat → Int32} {v2 : Nat → Int32} {b2 : Nat → Int32} {a1 : Int32} {a2 : Int32}
end
set_option maxRecDepth 100000 in
set_option maxHeartbeats 4000000 in
theorem k_L_move_EN (l : Launch) (D : va_G) (aQ aY aS aNs aTs aEs aDc aE bE rE pE aN2 bN2 : Nat) (cd c1 c2 c3 c12 : ClassId) (sz : Nat) (a1 : Int32) (a2 : Int32) (pv : Nat → Int32) (dc : Nat → Option Nat) (v : Nat → Int32) (b : Nat → Int32) (rw : Nat → Int32) (pw : Nat → Int32) (v2 : Nat → Int32) (b2 : Nat → Int32) (hd : dc a1.toNatClampNeg = some aN2) (hd2 : dc a2.toNatClampNeg = some aE) (res : (Int32) × (Nat → Int32)) (hm : m_L_move_EN a1 a2 pv dc v b rw pw v2 b2  = some res) : Met l yL_move (Cond.codeWith yL_move cL_move 4 (some .int) [(0, 6, 9, 21), (0, 6, 12, 34)] :: zBIG) (zR 7 164) (va_Pc [.ref aQ, .int a1, .int a2] (zP zW D vwCl (wQDEN2_t cd c1 c2 c3 c12) (wQDEN2 aQ aY aS aNs aTs aEs aDc aE bE rE pE aN2 bN2 cd c1 c2 c3 c12 pv dc v b rw pw v2 b2) sz)) (zQi D vwCl (wQDEN2 aQ aY aS aNs aTs aEs aDc aE bE rE pE aN2 bN2 cd c1 c2 c3 c12 pv dc v b rw pw v2 b2) (wQDEN2 aQ aY aS aNs aTs aEs aDc aE bE rE pE aN2 bN2 cd c1 c2 c3 c12 pv dc v res.2 rw pw v2 b2) sz res.1) 0 0 (va_A (wQDEN2 aQ aY aS aNs aTs aEs aDc aE bE rE pE aN2 bN2 cd c1 c2 c3 c12 pv dc v b rw pw v2 b2) sz) := by
  refine zEnterW RL [.ref aQ, .int a1, .int a2] (by decide) rfl (Nat.le_of_ble_eq_true rfl) (fun p e s m below meth c ls htb G hK hX hP hD hsz hl => ?_)
  subst hsz
  unfold m_L_move_EN at hm
  have hl : lv_has ls 4 [(0, .ref aQ), (1, .int a1), (2, .int a2)] := hl
  have hS : va_S (va_A (wQDEN2 aQ aY aS aNs aTs aEs aDc aE bE rE pE aN2 bN2 cd c1 c2 c3 c12 pv dc v b rw pw v2 b2) s.heap.size) s.heap s.heap [] := va_S.rf
  have hA : ∀ q, s.heap.size ≤ q → va_A (wQDEN2 aQ aY aS aNs aTs aEs aDc aE bE rE pE aN2 bN2 cd c1 c2 c3 c12 pv dc v b rw pw v2 b2) s.heap.size q := fun q h => Or.inr h
  have G0 := G
  obtain ⟨hx, hb, hr, hml, hown, hw, hlk⟩ := G
  refine lv_aload_n hx hb dL_move_0 rfl (lv_at hl 0 rfl) ?_
  refine lv_iload_n hx hb dL_move_1 rfl (lv_at hl 1 rfl) ?_
  refine lv_iload_n hx hb dL_move_2 rfl (lv_at hl 2 rfl) ?_
  obtain ⟨q1, hq1, hm⟩ := zbind hm
  refine zbWv (va_runV (As := [.int a1, .int a2]) (rest := []) ⟨hx, hb, hml, hown, hw⟩ (k_P_move_EN l D aQ aY aS aNs aTs aEs aDc aE bE rE pE aN2 bN2 cd c1 c2 c3 c12 _ a1 a2 pv dc v b rw pw v2 b2 hd hd2 q1 hq1) (zcV (C := RX5) 2 hw (zgood zw535) rfl rfl rfl zw176 zw537 zw536 zw538 hdX5_move ⟨Nat.le_of_ble_eq_true rfl, Nat.le_of_ble_eq_true rfl⟩) (zpreV (zpre zC_ok hX.1.1 hS (zfree hD hS hA) hP hK hD) (va_recv hK hP rfl (q0 := 0) rfl)) rfl rfl hl.1 rfl (lv_room (Nat.le_of_ble_eq_true rfl)) dL_move_3 ⟨Nat.zero_le _, Nat.zero_le _⟩) hS (zfree hD hS hA) (fun H locs hP hD hS => ?_)
  have hP : va_P D vwCl (wQDEN2 aQ aY aS aNs aTs aEs aDc aE bE rE pE aN2 bN2 cd c1 c2 c3 c12 pv dc v q1 rw pw v2 b2) H := hP
  have hD : va_D _ (wQDEN2 aQ aY aS aNs aTs aEs aDc aE bE rE pE aN2 bN2 cd c1 c2 c3 c12 pv dc v q1 rw pw v2 b2) := hD
  refine lv_goto (tgt := 15) hx hb dL_move_6 rfl ?_
  refine lv_iconst (v := 0) hx hb dL_move_15 (by decide) ?_
  cases hm
  exact zreti hx hb hr hlk hP hD hS dL_move_16

def m_L_move_ET (a1 : Int32) (a2 : Int32) (pv : Nat → Int32) (dc : Nat → Option Nat) (v : Nat → Int32) (b : Nat → Int32) (rw : Nat → Int32) (pw : Nat → Int32) (v2 : Nat → Int32) (b2 : Nat → Int32)  : Option ((Int32) × (Nat → Int32)) := (m_P_move_ET a1 a2 pv dc v b rw pw v2 b2).bind (fun q1 => (some (0, q1)))
section
variable {p : Program} {l : Launch} {e : Env} {s : State} {m : MethodId} {args : Array Value} {below : List Frame} {meth : Method} {c : Code} {D : va_G} {w0 : va_W} {aQ aY aS aNs aTs aEs aDc aE bE rE pE aT2 bT2 : Nat} {cd c1 c2 c3 c12 : ClassId} {pv : Nat → Int32} {dc : Nat → Option Nat} {v : Nat → Int32} {rw : Nat → Int32} {pw : Nat → Int32} {v2 : Nat → Int32} {b2 : Nat → Int32} {a1 : Int32} {a2 : Int32}
end
set_option maxRecDepth 100000 in
set_option maxHeartbeats 4000000 in
theorem k_L_move_ET (l : Launch) (D : va_G) (aQ aY aS aNs aTs aEs aDc aE bE rE pE aT2 bT2 : Nat) (cd c1 c2 c3 c12 : ClassId) (sz : Nat) (a1 : Int32) (a2 : Int32) (pv : Nat → Int32) (dc : Nat → Option Nat) (v : Nat → Int32) (b : Nat → Int32) (rw : Nat → Int32) (pw : Nat → Int32) (v2 : Nat → Int32) (b2 : Nat → Int32) (hd : dc a1.toNatClampNeg = some aT2) (hd2 : dc a2.toNatClampNeg = some aE) (res : (Int32) × (Nat → Int32)) (hm : m_L_move_ET a1 a2 pv dc v b rw pw v2 b2  = some res) : Met l yL_move (Cond.codeWith yL_move cL_move 4 (some .int) [(0, 6, 9, 21), (0, 6, 12, 34)] :: zBIG) (zR 7 164) (va_Pc [.ref aQ, .int a1, .int a2] (zP zW D vwCl (wQDET2_t cd c1 c2 c3 c12) (wQDET2 aQ aY aS aNs aTs aEs aDc aE bE rE pE aT2 bT2 cd c1 c2 c3 c12 pv dc v b rw pw v2 b2) sz)) (zQi D vwCl (wQDET2 aQ aY aS aNs aTs aEs aDc aE bE rE pE aT2 bT2 cd c1 c2 c3 c12 pv dc v b rw pw v2 b2) (wQDET2 aQ aY aS aNs aTs aEs aDc aE bE rE pE aT2 bT2 cd c1 c2 c3 c12 pv dc v res.2 rw pw v2 b2) sz res.1) 0 0 (va_A (wQDET2 aQ aY aS aNs aTs aEs aDc aE bE rE pE aT2 bT2 cd c1 c2 c3 c12 pv dc v b rw pw v2 b2) sz) := by
  refine zEnterW RL [.ref aQ, .int a1, .int a2] (by decide) rfl (Nat.le_of_ble_eq_true rfl) (fun p e s m below meth c ls htb G hK hX hP hD hsz hl => ?_)
  subst hsz
  unfold m_L_move_ET at hm
  have hl : lv_has ls 4 [(0, .ref aQ), (1, .int a1), (2, .int a2)] := hl
  have hS : va_S (va_A (wQDET2 aQ aY aS aNs aTs aEs aDc aE bE rE pE aT2 bT2 cd c1 c2 c3 c12 pv dc v b rw pw v2 b2) s.heap.size) s.heap s.heap [] := va_S.rf
  have hA : ∀ q, s.heap.size ≤ q → va_A (wQDET2 aQ aY aS aNs aTs aEs aDc aE bE rE pE aT2 bT2 cd c1 c2 c3 c12 pv dc v b rw pw v2 b2) s.heap.size q := fun q h => Or.inr h
  have G0 := G
  obtain ⟨hx, hb, hr, hml, hown, hw, hlk⟩ := G
  refine lv_aload_n hx hb dL_move_0 rfl (lv_at hl 0 rfl) ?_
  refine lv_iload_n hx hb dL_move_1 rfl (lv_at hl 1 rfl) ?_
  refine lv_iload_n hx hb dL_move_2 rfl (lv_at hl 2 rfl) ?_
  obtain ⟨q1, hq1, hm⟩ := zbind hm
  refine zbWv (va_runV (As := [.int a1, .int a2]) (rest := []) ⟨hx, hb, hml, hown, hw⟩ (k_P_move_ET l D aQ aY aS aNs aTs aEs aDc aE bE rE pE aT2 bT2 cd c1 c2 c3 c12 _ a1 a2 pv dc v b rw pw v2 b2 hd hd2 q1 hq1) (zcV (C := RX5) 2 hw (zgood zw535) rfl rfl rfl zw176 zw537 zw536 zw538 hdX5_move ⟨Nat.le_of_ble_eq_true rfl, Nat.le_of_ble_eq_true rfl⟩) (zpreV (zpre zC_ok hX.1.1 hS (zfree hD hS hA) hP hK hD) (va_recv hK hP rfl (q0 := 0) rfl)) rfl rfl hl.1 rfl (lv_room (Nat.le_of_ble_eq_true rfl)) dL_move_3 ⟨Nat.zero_le _, Nat.zero_le _⟩) hS (zfree hD hS hA) (fun H locs hP hD hS => ?_)
  have hP : va_P D vwCl (wQDET2 aQ aY aS aNs aTs aEs aDc aE bE rE pE aT2 bT2 cd c1 c2 c3 c12 pv dc v q1 rw pw v2 b2) H := hP
  have hD : va_D _ (wQDET2 aQ aY aS aNs aTs aEs aDc aE bE rE pE aT2 bT2 cd c1 c2 c3 c12 pv dc v q1 rw pw v2 b2) := hD
  refine lv_goto (tgt := 15) hx hb dL_move_6 rfl ?_
  refine lv_iconst (v := 0) hx hb dL_move_15 (by decide) ?_
  cases hm
  exact zreti hx hb hr hlk hP hD hS dL_move_16

def m_L_move_EE (a1 : Int32) (a2 : Int32) (pv : Nat → Int32) (dc : Nat → Option Nat) (v : Nat → Int32) (b : Nat → Int32) (rw : Nat → Int32) (pw : Nat → Int32) (v2 : Nat → Int32) (b2 : Nat → Int32) (rw2 : Nat → Int32) (pw2 : Nat → Int32)  : Option ((Int32) × (Nat → Int32)) := (m_P_move_EE a1 a2 pv dc v b rw pw v2 b2 rw2 pw2).bind (fun q1 => (some (0, q1)))
section
variable {p : Program} {l : Launch} {e : Env} {s : State} {m : MethodId} {args : Array Value} {below : List Frame} {meth : Method} {c : Code} {D : va_G} {w0 : va_W} {aQ aY aS aNs aTs aEs aDc aE bE rE pE aE2 bE2 rE2 pE2 : Nat} {cd c1 c2 c3 c12 c22 c32 : ClassId} {pv : Nat → Int32} {dc : Nat → Option Nat} {v : Nat → Int32} {rw : Nat → Int32} {pw : Nat → Int32} {v2 : Nat → Int32} {b2 : Nat → Int32} {rw2 : Nat → Int32} {pw2 : Nat → Int32} {a1 : Int32} {a2 : Int32}
end
set_option maxRecDepth 100000 in
set_option maxHeartbeats 4000000 in
theorem k_L_move_EE (l : Launch) (D : va_G) (aQ aY aS aNs aTs aEs aDc aE bE rE pE aE2 bE2 rE2 pE2 : Nat) (cd c1 c2 c3 c12 c22 c32 : ClassId) (sz : Nat) (a1 : Int32) (a2 : Int32) (pv : Nat → Int32) (dc : Nat → Option Nat) (v : Nat → Int32) (b : Nat → Int32) (rw : Nat → Int32) (pw : Nat → Int32) (v2 : Nat → Int32) (b2 : Nat → Int32) (rw2 : Nat → Int32) (pw2 : Nat → Int32) (hd : dc a1.toNatClampNeg = some aE2) (hd2 : dc a2.toNatClampNeg = some aE) (res : (Int32) × (Nat → Int32)) (hm : m_L_move_EE a1 a2 pv dc v b rw pw v2 b2 rw2 pw2  = some res) : Met l yL_move (Cond.codeWith yL_move cL_move 4 (some .int) [(0, 6, 9, 21), (0, 6, 12, 34)] :: zBIG) (zR 7 164) (va_Pc [.ref aQ, .int a1, .int a2] (zP zW D vwCl (wQDEE2_t cd c1 c2 c3 c12 c22 c32) (wQDEE2 aQ aY aS aNs aTs aEs aDc aE bE rE pE aE2 bE2 rE2 pE2 cd c1 c2 c3 c12 c22 c32 pv dc v b rw pw v2 b2 rw2 pw2) sz)) (zQi D vwCl (wQDEE2 aQ aY aS aNs aTs aEs aDc aE bE rE pE aE2 bE2 rE2 pE2 cd c1 c2 c3 c12 c22 c32 pv dc v b rw pw v2 b2 rw2 pw2) (wQDEE2 aQ aY aS aNs aTs aEs aDc aE bE rE pE aE2 bE2 rE2 pE2 cd c1 c2 c3 c12 c22 c32 pv dc v res.2 rw pw v2 b2 rw2 pw2) sz res.1) 0 0 (va_A (wQDEE2 aQ aY aS aNs aTs aEs aDc aE bE rE pE aE2 bE2 rE2 pE2 cd c1 c2 c3 c12 c22 c32 pv dc v b rw pw v2 b2 rw2 pw2) sz) := by
  refine zEnterW RL [.ref aQ, .int a1, .int a2] (by decide) rfl (Nat.le_of_ble_eq_true rfl) (fun p e s m below meth c ls htb G hK hX hP hD hsz hl => ?_)
  subst hsz
  unfold m_L_move_EE at hm
  have hl : lv_has ls 4 [(0, .ref aQ), (1, .int a1), (2, .int a2)] := hl
  have hS : va_S (va_A (wQDEE2 aQ aY aS aNs aTs aEs aDc aE bE rE pE aE2 bE2 rE2 pE2 cd c1 c2 c3 c12 c22 c32 pv dc v b rw pw v2 b2 rw2 pw2) s.heap.size) s.heap s.heap [] := va_S.rf
  have hA : ∀ q, s.heap.size ≤ q → va_A (wQDEE2 aQ aY aS aNs aTs aEs aDc aE bE rE pE aE2 bE2 rE2 pE2 cd c1 c2 c3 c12 c22 c32 pv dc v b rw pw v2 b2 rw2 pw2) s.heap.size q := fun q h => Or.inr h
  have G0 := G
  obtain ⟨hx, hb, hr, hml, hown, hw, hlk⟩ := G
  refine lv_aload_n hx hb dL_move_0 rfl (lv_at hl 0 rfl) ?_
  refine lv_iload_n hx hb dL_move_1 rfl (lv_at hl 1 rfl) ?_
  refine lv_iload_n hx hb dL_move_2 rfl (lv_at hl 2 rfl) ?_
  obtain ⟨q1, hq1, hm⟩ := zbind hm
  refine zbWv (va_runV (As := [.int a1, .int a2]) (rest := []) ⟨hx, hb, hml, hown, hw⟩ (k_P_move_EE l D aQ aY aS aNs aTs aEs aDc aE bE rE pE aE2 bE2 rE2 pE2 cd c1 c2 c3 c12 c22 c32 _ a1 a2 pv dc v b rw pw v2 b2 rw2 pw2 hd hd2 q1 hq1) (zcV (C := RX5) 2 hw (zgood zw535) rfl rfl rfl zw176 zw537 zw536 zw538 hdX5_move ⟨Nat.le_of_ble_eq_true rfl, Nat.le_of_ble_eq_true rfl⟩) (zpreV (zpre zC_ok hX.1.1 hS (zfree hD hS hA) hP hK hD) (va_recv hK hP rfl (q0 := 0) rfl)) rfl rfl hl.1 rfl (lv_room (Nat.le_of_ble_eq_true rfl)) dL_move_3 ⟨Nat.zero_le _, Nat.zero_le _⟩) hS (zfree hD hS hA) (fun H locs hP hD hS => ?_)
  have hP : va_P D vwCl (wQDEE2 aQ aY aS aNs aTs aEs aDc aE bE rE pE aE2 bE2 rE2 pE2 cd c1 c2 c3 c12 c22 c32 pv dc v q1 rw pw v2 b2 rw2 pw2) H := hP
  have hD : va_D _ (wQDEE2 aQ aY aS aNs aTs aEs aDc aE bE rE pE aE2 bE2 rE2 pE2 cd c1 c2 c3 c12 c22 c32 pv dc v q1 rw pw v2 b2 rw2 pw2) := hD
  refine lv_goto (tgt := 15) hx hb dL_move_6 rfl ?_
  refine lv_iconst (v := 0) hx hb dL_move_15 (by decide) ?_
  cases hm
  exact zreti hx hb hr hlk hP hD hS dL_move_16

def m_L_look_n (a1 : Int32) (a2 : Int32) (pv : Nat → Int32) (dc : Nat → Option Nat)  : Option ((Int32)) := (m_Px_look a1 a2 pv dc).bind (fun q1 => (some 1))
section
variable {p : Program} {l : Launch} {e : Env} {s : State} {m : MethodId} {args : Array Value} {below : List Frame} {meth : Method} {c : Code} {D : va_G} {w0 : va_W} {aQ aY aS aNs aTs aEs aDc aO : Nat} {cd : ClassId} {pv : Nat → Int32} {dc : Nat → Option Nat}
end
set_option maxRecDepth 100000 in
set_option maxHeartbeats 4000000 in
theorem k_L_look_n (l : Launch) (D : va_G) (aQ aY aS aNs aTs aEs aDc aO : Nat) (cd : ClassId) (sz : Nat) (a1 : Int32) (a2 : Int32) (pv : Nat → Int32) (dc : Nat → Option Nat) (hl0 : l.stackTraces = false) (res : (Int32)) (hm : m_L_look_n a1 a2 pv dc  = some res) : Met l yL_look (Cond.codeWith yL_look cL_look 5 (some .int) [(0, 10, 13, 21), (0, 10, 17, 15)] :: zBIG) (zRx 8 135) (va_Pc [.ref aQ, .int a1, .int a2, .ref aO] (zP zW D vwCl (wQDo_t cd) (wQDo aQ aY aS aNs aTs aEs aDc aO cd pv dc) sz)) (zQi D vwCl (wQDo aQ aY aS aNs aTs aEs aDc aO cd pv dc) (wQDo aQ aY aS aNs aTs aEs aDc aO cd pv dc) sz res) 1 6 (va_A (wQDo aQ aY aS aNs aTs aEs aDc aO cd pv dc) sz) := by
  refine zEnterW RL [.ref aQ, .int a1, .int a2, .ref aO] (by decide) rfl (Nat.le_of_ble_eq_true rfl) (fun p e s m below meth c ls htb G hK hX hP hD hsz hl => ?_)
  subst hsz
  unfold m_L_look_n at hm
  have hl : lv_has ls 5 [(0, .ref aQ), (1, .int a1), (2, .int a2), (3, .ref aO)] := hl
  have hS : va_S (va_A (wQDo aQ aY aS aNs aTs aEs aDc aO cd pv dc) s.heap.size) s.heap s.heap [] := va_S.rf
  have hA : ∀ q, s.heap.size ≤ q → va_A (wQDo aQ aY aS aNs aTs aEs aDc aO cd pv dc) s.heap.size q := fun q h => Or.inr h
  have G0 := G
  obtain ⟨hx, hb, hr, hml, hown, hw, hlk⟩ := G
  refine lv_aload_n hx hb dL_look_0 rfl (lv_at hl 3 rfl) ?_
  refine lv_iconst (v := 0) hx hb dL_look_1 (by decide) ?_
  refine lv_aload_n hx hb dL_look_2 rfl (lv_at hl 0 rfl) ?_
  refine lv_iload_n hx hb dL_look_3 rfl (lv_at hl 1 rfl) ?_
  refine lv_iload_n hx hb dL_look_4 rfl (lv_at hl 2 rfl) ?_
  obtain ⟨q1, hq1, hm⟩ := zbind hm
  refine zxC (name := "java/util/NoSuchElementException") (vx_runV (As := [.int a1, .int a2]) (rest := [.int 0, .ref aO]) ⟨hx, hb, hml, hown, hw⟩ (k_Px_look l D aQ aY aS aNs aTs aEs aDc cd _ a1 a2 pv dc hl0 q1 hq1) (zcVx (C := RX5) 2 hw (zgood zw514) rfl rfl rfl zw176 zw516 zw515 zw517 hdX5_look ⟨Nat.le_of_ble_eq_true rfl, Nat.le_of_ble_eq_true rfl⟩) (zpreV (zpre zD_ok hX.1 hS (zfree hD hS hA) hP hK hD) (va_recv hK hP rfl (q0 := 0) rfl)) rfl rfl hl.1 rfl (lv_room (Nat.le_of_ble_eq_true rfl)) dL_look_5 ⟨Nat.le_of_ble_eq_true rfl, Nat.le_of_ble_eq_true rfl⟩) hS (zfree hD hS hA) hown [] ⟨0, 10, 13, 21⟩ [⟨0, 10, 17, 15⟩] (by rw [htb]; rfl) (fun _ h => absurd h List.not_mem_nil) (by decide) (by decide) (hw _ zw530) (va_Nw.use rfl (hX.1.1.1 _ zn19)) (fun q9 H locs hP hD hS => ?_)
  refine W.widen (k := 1) (n := 6) (by decide) (by decide) ?_
  have hP : va_P D vwCl (wQDo aQ aY aS aNs aTs aEs aDc aO cd pv dc) H := hP
  have hD : va_D _ (wQDo aQ aY aS aNs aTs aEs aDc aO cd pv dc) := hD
  refine lv_astore (lv' := [(4, .ref q9), (0, .ref aQ), (1, .int a1), (2, .int a2), (3, .ref aO)]) hx hb dL_look_13 hl (by decide) rfl (fun ls hl => ?_)
  refine lv_iconst (v := 1) hx hb dL_look_15 (by decide) ?_
  cases hm
  exact zreti1 hx hb hr hlk hP hD hS dL_look_16

def m_L_get_n (a1 : Int32) (a2 : Int32) (pv : Nat → Int32) (dc : Nat → Option Nat)  : Option ((Int32)) := (m_Px_get a1 a2 pv dc).bind (fun q1 => (some 1))
section
variable {p : Program} {l : Launch} {e : Env} {s : State} {m : MethodId} {args : Array Value} {below : List Frame} {meth : Method} {c : Code} {D : va_G} {w0 : va_W} {aQ aY aS aNs aTs aEs aDc aO : Nat} {cd : ClassId} {pv : Nat → Int32} {dc : Nat → Option Nat}
end
set_option maxRecDepth 100000 in
set_option maxHeartbeats 4000000 in
theorem k_L_get_n (l : Launch) (D : va_G) (aQ aY aS aNs aTs aEs aDc aO : Nat) (cd : ClassId) (sz : Nat) (a1 : Int32) (a2 : Int32) (pv : Nat → Int32) (dc : Nat → Option Nat) (hl0 : l.stackTraces = false) (res : (Int32)) (hm : m_L_get_n a1 a2 pv dc  = some res) : Met l yL_get (Cond.codeWith yL_get cL_get 5 (some .int) [(0, 10, 13, 21)] :: zBIG) (zRx 8 135) (va_Pc [.ref aQ, .int a1, .int a2, .ref aO] (zP zW D vwCl (wQDo_t cd) (wQDo aQ aY aS aNs aTs aEs aDc aO cd pv dc) sz)) (zQi D vwCl (wQDo aQ aY aS aNs aTs aEs aDc aO cd pv dc) (wQDo aQ aY aS aNs aTs aEs aDc aO cd pv dc) sz res) 1 6 (va_A (wQDo aQ aY aS aNs aTs aEs aDc aO cd pv dc) sz) := by
  refine zEnterW RL [.ref aQ, .int a1, .int a2, .ref aO] (by decide) rfl (Nat.le_of_ble_eq_true rfl) (fun p e s m below meth c ls htb G hK hX hP hD hsz hl => ?_)
  subst hsz
  unfold m_L_get_n at hm
  have hl : lv_has ls 5 [(0, .ref aQ), (1, .int a1), (2, .int a2), (3, .ref aO)] := hl
  have hS : va_S (va_A (wQDo aQ aY aS aNs aTs aEs aDc aO cd pv dc) s.heap.size) s.heap s.heap [] := va_S.rf
  have hA : ∀ q, s.heap.size ≤ q → va_A (wQDo aQ aY aS aNs aTs aEs aDc aO cd pv dc) s.heap.size q := fun q h => Or.inr h
  have G0 := G
  obtain ⟨hx, hb, hr, hml, hown, hw, hlk⟩ := G
  refine lv_aload_n hx hb dL_get_0 rfl (lv_at hl 3 rfl) ?_
  refine lv_iconst (v := 0) hx hb dL_get_1 (by decide) ?_
  refine lv_aload_n hx hb dL_get_2 rfl (lv_at hl 0 rfl) ?_
  refine lv_iload_n hx hb dL_get_3 rfl (lv_at hl 1 rfl) ?_
  refine lv_iload_n hx hb dL_get_4 rfl (lv_at hl 2 rfl) ?_
  obtain ⟨q1, hq1, hm⟩ := zbind hm
  refine zxC (name := "java/util/NoSuchElementException") (vx_runV (As := [.int a1, .int a2]) (rest := [.int 0, .ref aO]) ⟨hx, hb, hml, hown, hw⟩ (k_Px_get l D aQ aY aS aNs aTs aEs aDc cd _ a1 a2 pv dc hl0 q1 hq1) (zcVx (C := RX5) 2 hw (zgood zw518) rfl rfl rfl zw176 zw520 zw519 zw521 hdX5_get ⟨Nat.le_of_ble_eq_true rfl, Nat.le_of_ble_eq_true rfl⟩) (zpreV (zpre zD_ok hX.1 hS (zfree hD hS hA) hP hK hD) (va_recv hK hP rfl (q0 := 0) rfl)) rfl rfl hl.1 rfl (lv_room (Nat.le_of_ble_eq_true rfl)) dL_get_5 ⟨Nat.le_of_ble_eq_true rfl, Nat.le_of_ble_eq_true rfl⟩) hS (zfree hD hS hA) hown [] ⟨0, 10, 13, 21⟩ [] (by rw [htb]; rfl) (fun _ h => absurd h List.not_mem_nil) (by decide) (by decide) (hw _ zw530) (va_Nw.use rfl (hX.1.1.1 _ zn19)) (fun q9 H locs hP hD hS => ?_)
  refine W.widen (k := 1) (n := 6) (by decide) (by decide) ?_
  have hP : va_P D vwCl (wQDo aQ aY aS aNs aTs aEs aDc aO cd pv dc) H := hP
  have hD : va_D _ (wQDo aQ aY aS aNs aTs aEs aDc aO cd pv dc) := hD
  refine lv_astore (lv' := [(4, .ref q9), (0, .ref aQ), (1, .int a1), (2, .int a2), (3, .ref aO)]) hx hb dL_get_13 hl (by decide) rfl (fun ls hl => ?_)
  refine lv_iconst (v := 1) hx hb dL_get_15 (by decide) ?_
  cases hm
  exact zreti1 hx hb hr hlk hP hD hS dL_get_16

def m_L_set_n (a1 : Int32) (a2 : Int32) (a3 : Int32) (pv : Nat → Int32) (dc : Nat → Option Nat)  : Option ((Int32)) := (m_Px_set a1 a2 a3 pv dc).bind (fun q1 => (some 1))
section
variable {p : Program} {l : Launch} {e : Env} {s : State} {m : MethodId} {args : Array Value} {below : List Frame} {meth : Method} {c : Code} {D : va_G} {w0 : va_W} {aQ aY aS aNs aTs aEs aDc : Nat} {cd : ClassId} {pv : Nat → Int32} {dc : Nat → Option Nat}
end
set_option maxRecDepth 100000 in
set_option maxHeartbeats 4000000 in
theorem k_L_set_n (l : Launch) (D : va_G) (aQ aY aS aNs aTs aEs aDc : Nat) (cd : ClassId) (sz : Nat) (a1 : Int32) (a2 : Int32) (a3 : Int32) (pv : Nat → Int32) (dc : Nat → Option Nat) (hl0 : l.stackTraces = false) (res : (Int32)) (hm : m_L_set_n a1 a2 a3 pv dc  = some res) : Met l yL_set (Cond.codeWith yL_set cL_set 5 (some .int) [(0, 7, 10, 21), (0, 7, 14, 15)] :: zBIG) (zRx 8 136) (va_Pc [.ref aQ, .int a1, .int a2, .int a3] (zP zW D vwCl (wQD_t cd) (wQD aQ aY aS aNs aTs aEs aDc cd pv dc) sz)) (zQi D vwCl (wQD aQ aY aS aNs aTs aEs aDc cd pv dc) (wQD aQ aY aS aNs aTs aEs aDc cd pv dc) sz res) 1 6 (va_A (wQD aQ aY aS aNs aTs aEs aDc cd pv dc) sz) := by
  refine zEnterW RL [.ref aQ, .int a1, .int a2, .int a3] (by decide) rfl (Nat.le_of_ble_eq_true rfl) (fun p e s m below meth c ls htb G hK hX hP hD hsz hl => ?_)
  subst hsz
  unfold m_L_set_n at hm
  have hl : lv_has ls 5 [(0, .ref aQ), (1, .int a1), (2, .int a2), (3, .int a3)] := hl
  have hS : va_S (va_A (wQD aQ aY aS aNs aTs aEs aDc cd pv dc) s.heap.size) s.heap s.heap [] := va_S.rf
  have hA : ∀ q, s.heap.size ≤ q → va_A (wQD aQ aY aS aNs aTs aEs aDc cd pv dc) s.heap.size q := fun q h => Or.inr h
  have G0 := G
  obtain ⟨hx, hb, hr, hml, hown, hw, hlk⟩ := G
  refine lv_aload_n hx hb dL_set_0 rfl (lv_at hl 0 rfl) ?_
  refine lv_iload_n hx hb dL_set_1 rfl (lv_at hl 1 rfl) ?_
  refine lv_iload_n hx hb dL_set_2 rfl (lv_at hl 2 rfl) ?_
  refine lv_iload_n hx hb dL_set_3 rfl (lv_at hl 3 rfl) ?_
  obtain ⟨q1, hq1, hm⟩ := zbind hm
  refine zxC (name := "java/util/NoSuchElementException") (vx_runV (As := [.int a1, .int a2, .int a3]) (rest := []) ⟨hx, hb, hml, hown, hw⟩ (k_Px_set l D aQ aY aS aNs aTs aEs aDc cd _ a1 a2 a3 pv dc hl0 q1 hq1) (zcVx (C := RX5) 3 hw (zgood zw522) rfl rfl rfl zw176 zw524 zw523 zw525 hdX5_set ⟨Nat.le_of_ble_eq_true rfl, Nat.le_of_ble_eq_true rfl⟩) (zpreV (zpre zD_ok hX.1 hS (zfree hD hS hA) hP hK hD) (va_recv hK hP rfl (q0 := 0) rfl)) rfl rfl hl.1 rfl (lv_room (Nat.le_of_ble_eq_true rfl)) dL_set_4 ⟨Nat.le_of_ble_eq_true rfl, Nat.le_of_ble_eq_true rfl⟩) hS (zfree hD hS hA) hown [] ⟨0, 7, 10, 21⟩ [⟨0, 7, 14, 15⟩] (by rw [htb]; rfl) (fun _ h => absurd h List.not_mem_nil) (by decide) (by decide) (hw _ zw530) (va_Nw.use rfl (hX.1.1.1 _ zn19)) (fun q9 H locs hP hD hS => ?_)
  refine W.widen (k := 1) (n := 6) (by decide) (by decide) ?_
  have hP : va_P D vwCl (wQD aQ aY aS aNs aTs aEs aDc cd pv dc) H := hP
  have hD : va_D _ (wQD aQ aY aS aNs aTs aEs aDc cd pv dc) := hD
  refine lv_astore (lv' := [(4, .ref q9), (0, .ref aQ), (1, .int a1), (2, .int a2), (3, .int a3)]) hx hb dL_set_10 hl (by decide) rfl (fun ls hl => ?_)
  refine lv_iconst (v := 1) hx hb dL_set_12 (by decide) ?_
  cases hm
  exact zreti1 hx hb hr hlk hP hD hS dL_set_13

def m_L_put_n (a1 : Int32) (a2 : Int64) (a3 : Int32) (pv : Nat → Int32) (dc : Nat → Option Nat)  : Option ((Int32)) := (m_Px_put a1 a2 a3 pv dc).bind (fun q1 => (some 1))
section
variable {p : Program} {l : Launch} {e : Env} {s : State} {m : MethodId} {args : Array Value} {below : List Frame} {meth : Method} {c : Code} {D : va_G} {w0 : va_W} {aQ aY aS aNs aTs aEs aDc : Nat} {cd : ClassId} {pv : Nat → Int32} {dc : Nat → Option Nat}
end
set_option maxRecDepth 100000 in
set_option maxHeartbeats 4000000 in
theorem k_L_put_n (l : Launch) (D : va_G) (aQ aY aS aNs aTs aEs aDc : Nat) (cd : ClassId) (sz : Nat) (a1 : Int32) (a2 : Int64) (a3 : Int32) (pv : Nat → Int32) (dc : Nat → Option Nat) (hl0 : l.stackTraces = false) (res : (Int32)) (hm : m_L_put_n a1 a2 a3 pv dc  = some res) : Met l yL_put (Cond.codeWith yL_put cL_put 6 (some .int) [(0, 8, 11, 21), (0, 8, 15, 15), (0, 8, 19, 34)] :: zBIG) (zRx 8 137) (va_Pc [.ref aQ, .int a1, .long a2, .int a3] (zP zW D vwCl (wQD_t cd) (wQD aQ aY aS aNs aTs aEs aDc cd pv dc) sz)) (zQi D vwCl (wQD aQ aY aS aNs aTs aEs aDc cd pv dc) (wQD aQ aY aS aNs aTs aEs aDc cd pv dc) sz res) 1 6 (va_A (wQD aQ aY aS aNs aTs aEs aDc cd pv dc) sz) := by
  refine zEnterW RL [.ref aQ, .int a1, .long a2, .int a3] (by decide) rfl (Nat.le_of_ble_eq_true rfl) (fun p e s m below meth c ls htb G hK hX hP hD hsz hl => ?_)
  subst hsz
  unfold m_L_put_n at hm
  have hl : lv_has ls 6 [(0, .ref aQ), (1, .int a1), (2, .long a2), (4, .int a3)] := hl
  have hS : va_S (va_A (wQD aQ aY aS aNs aTs aEs aDc cd pv dc) s.heap.size) s.heap s.heap [] := va_S.rf
  have hA : ∀ q, s.heap.size ≤ q → va_A (wQD aQ aY aS aNs aTs aEs aDc cd pv dc) s.heap.size q := fun q h => Or.inr h
  have G0 := G
  obtain ⟨hx, hb, hr, hml, hown, hw, hlk⟩ := G
  refine lv_aload_n hx hb dL_put_0 rfl (lv_at hl 0 rfl) ?_
  refine lv_iload_n hx hb dL_put_1 rfl (lv_at hl 1 rfl) ?_
  refine lv_lload_n hx hb dL_put_2 rfl (lv_at hl 2 rfl) ?_
  refine lv_iload hx hb dL_put_3 (lv_at hl 3 rfl) ?_
  obtain ⟨q1, hq1, hm⟩ := zbind hm
  refine zxC (name := "java/util/NoSuchElementException") (vx_runV (As := [.int a1, .long a2, .int a3]) (rest := []) ⟨hx, hb, hml, hown, hw⟩ (k_Px_put l D aQ aY aS aNs aTs aEs aDc cd _ a1 a2 a3 pv dc hl0 q1 hq1) (zcVx (C := RX5) 3 hw (zgood zw531) rfl rfl rfl zw176 zw533 zw532 zw534 hdX5_put ⟨Nat.le_of_ble_eq_true rfl, Nat.le_of_ble_eq_true rfl⟩) (zpreV (zpre zD_ok hX.1 hS (zfree hD hS hA) hP hK hD) (va_recv hK hP rfl (q0 := 0) rfl)) rfl rfl hl.1 rfl (lv_room (Nat.le_of_ble_eq_true rfl)) dL_put_5 ⟨Nat.le_of_ble_eq_true rfl, Nat.le_of_ble_eq_true rfl⟩) hS (zfree hD hS hA) hown [] ⟨0, 8, 11, 21⟩ [⟨0, 8, 15, 15⟩, ⟨0, 8, 19, 34⟩] (by rw [htb]; rfl) (fun _ h => absurd h List.not_mem_nil) (by decide) (by decide) (hw _ zw530) (va_Nw.use rfl (hX.1.1.1 _ zn19)) (fun q9 H locs hP hD hS => ?_)
  refine W.widen (k := 1) (n := 6) (by decide) (by decide) ?_
  have hP : va_P D vwCl (wQD aQ aY aS aNs aTs aEs aDc cd pv dc) H := hP
  have hD : va_D _ (wQD aQ aY aS aNs aTs aEs aDc cd pv dc) := hD
  refine lv_astore (lv' := [(5, .ref q9), (0, .ref aQ), (1, .int a1), (2, .long a2), (4, .int a3)]) hx hb dL_put_11 hl (by decide) rfl (fun ls hl => ?_)
  refine lv_iconst (v := 1) hx hb dL_put_13 (by decide) ?_
  cases hm
  exact zreti1 hx hb hr hlk hP hD hS dL_put_14

def m_L_move_n (a1 : Int32) (a2 : Int32) (pv : Nat → Int32) (dc : Nat → Option Nat)  : Option ((Int32)) := (m_Px_move a1 a2 pv dc).bind (fun q1 => (some 1))
section
variable {p : Program} {l : Launch} {e : Env} {s : State} {m : MethodId} {args : Array Value} {below : List Frame} {meth : Method} {c : Code} {D : va_G} {w0 : va_W} {aQ aY aS aNs aTs aEs aDc : Nat} {cd : ClassId} {pv : Nat → Int32} {dc : Nat → Option Nat}
end
set_option maxRecDepth 100000 in
set_option maxHeartbeats 4000000 in
theorem k_L_move_n (l : Launch) (D : va_G) (aQ aY aS aNs aTs aEs aDc : Nat) (cd : ClassId) (sz : Nat) (a1 : Int32) (a2 : Int32) (pv : Nat → Int32) (dc : Nat → Option Nat) (hl0 : l.stackTraces = false) (res : (Int32)) (hm : m_L_move_n a1 a2 pv dc  = some res) : Met l yL_move (Cond.codeWith yL_move cL_move 4 (some .int) [(0, 6, 9, 21), (0, 6, 12, 34)] :: zBIG) (zRx 8 136) (va_Pc [.ref aQ, .int a1, .int a2] (zP zW D vwCl (wQD_t cd) (wQD aQ aY aS aNs aTs aEs aDc cd pv dc) sz)) (zQi D vwCl (wQD aQ aY aS aNs aTs aEs aDc cd pv dc) (wQD aQ aY aS aNs aTs aEs aDc cd pv dc) sz res) 1 6 (va_A (wQD aQ aY aS aNs aTs aEs aDc cd pv dc) sz) := by
  refine zEnterW RL [.ref aQ, .int a1, .int a2] (by decide) rfl (Nat.le_of_ble_eq_true rfl) (fun p e s m below meth c ls htb G hK hX hP hD hsz hl => ?_)
  subst hsz
  unfold m_L_move_n at hm
  have hl : lv_has ls 4 [(0, .ref aQ), (1, .int a1), (2, .int a2)] := hl
  have hS : va_S (va_A (wQD aQ aY aS aNs aTs aEs aDc cd pv dc) s.heap.size) s.heap s.heap [] := va_S.rf
  have hA : ∀ q, s.heap.size ≤ q → va_A (wQD aQ aY aS aNs aTs aEs aDc cd pv dc) s.heap.size q := fun q h => Or.inr h
  have G0 := G
  obtain ⟨hx, hb, hr, hml, hown, hw, hlk⟩ := G
  refine lv_aload_n hx hb dL_move_0 rfl (lv_at hl 0 rfl) ?_
  refine lv_iload_n hx hb dL_move_1 rfl (lv_at hl 1 rfl) ?_
  refine lv_iload_n hx hb dL_move_2 rfl (lv_at hl 2 rfl) ?_
  obtain ⟨q1, hq1, hm⟩ := zbind hm
  refine zxC (name := "java/util/NoSuchElementException") (vx_runV (As := [.int a1, .int a2]) (rest := []) ⟨hx, hb, hml, hown, hw⟩ (k_Px_move l D aQ aY aS aNs aTs aEs aDc cd _ a1 a2 pv dc hl0 q1 hq1) (zcVx (C := RX5) 2 hw (zgood zw535) rfl rfl rfl zw176 zw537 zw536 zw538 hdX5_move ⟨Nat.le_of_ble_eq_true rfl, Nat.le_of_ble_eq_true rfl⟩) (zpreV (zpre zD_ok hX.1 hS (zfree hD hS hA) hP hK hD) (va_recv hK hP rfl (q0 := 0) rfl)) rfl rfl hl.1 rfl (lv_room (Nat.le_of_ble_eq_true rfl)) dL_move_3 ⟨Nat.le_of_ble_eq_true rfl, Nat.le_of_ble_eq_true rfl⟩) hS (zfree hD hS hA) hown [] ⟨0, 6, 9, 21⟩ [⟨0, 6, 12, 34⟩] (by rw [htb]; rfl) (fun _ h => absurd h List.not_mem_nil) (by decide) (by decide) (hw _ zw530) (va_Nw.use rfl (hX.1.1.1 _ zn19)) (fun q9 H locs hP hD hS => ?_)
  refine W.widen (k := 1) (n := 6) (by decide) (by decide) ?_
  have hP : va_P D vwCl (wQD aQ aY aS aNs aTs aEs aDc cd pv dc) H := hP
  have hD : va_D _ (wQD aQ aY aS aNs aTs aEs aDc cd pv dc) := hD
  refine lv_astore_n (lv' := [(3, .ref q9), (0, .ref aQ), (1, .int a1), (2, .int a2)]) hx hb dL_move_9 rfl hl (by decide) rfl (fun ls hl => ?_)
  refine lv_iconst (v := 1) hx hb dL_move_10 (by decide) ?_
  cases hm
  exact zreti1 hx hb hr hlk hP hD hS dL_move_11

def m_L_value_n (a1 : Int32) (pv : Nat → Int32) (dc : Nat → Option Nat)  : Option ((Int32)) := (m_Px_value a1 pv dc).bind (fun q1 => (some 1))
section
variable {p : Program} {l : Launch} {e : Env} {s : State} {m : MethodId} {args : Array Value} {below : List Frame} {meth : Method} {c : Code} {D : va_G} {w0 : va_W} {aQ aY aS aNs aTs aEs aDc aO : Nat} {cd : ClassId} {pv : Nat → Int32} {dc : Nat → Option Nat}
end
set_option maxRecDepth 100000 in
set_option maxHeartbeats 4000000 in
theorem k_L_value_n (l : Launch) (D : va_G) (aQ aY aS aNs aTs aEs aDc aO : Nat) (cd : ClassId) (sz : Nat) (a1 : Int32) (pv : Nat → Int32) (dc : Nat → Option Nat) (hl0 : l.stackTraces = false) (res : (Int32)) (hm : m_L_value_n a1 pv dc  = some res) : Met l yL_value (Cond.codeWith yL_value cL_value 4 (some .int) [(0, 8, 11, 21)] :: zBIG) (zRx 8 133) (va_Pc [.ref aQ, .int a1, .ref aO] (zP zW D vwCl (wQDo_t cd) (wQDo aQ aY aS aNs aTs aEs aDc aO cd pv dc) sz)) (zQi D vwCl (wQDo aQ aY aS aNs aTs aEs aDc aO cd pv dc) (wQDo aQ aY aS aNs aTs aEs aDc aO cd pv dc) sz res) 1 6 (va_A (wQDo aQ aY aS aNs aTs aEs aDc aO cd pv dc) sz) := by
  refine zEnterW RL [.ref aQ, .int a1, .ref aO] (by decide) rfl (Nat.le_of_ble_eq_true rfl) (fun p e s m below meth c ls htb G hK hX hP hD hsz hl => ?_)
  subst hsz
  unfold m_L_value_n at hm
  have hl : lv_has ls 4 [(0, .ref aQ), (1, .int a1), (2, .ref aO)] := hl
  have hS : va_S (va_A (wQDo aQ aY aS aNs aTs aEs aDc aO cd pv dc) s.heap.size) s.heap s.heap [] := va_S.rf
  have hA : ∀ q, s.heap.size ≤ q → va_A (wQDo aQ aY aS aNs aTs aEs aDc aO cd pv dc) s.heap.size q := fun q h => Or.inr h
  have G0 := G
  obtain ⟨hx, hb, hr, hml, hown, hw, hlk⟩ := G
  refine lv_aload_n hx hb dL_value_0 rfl (lv_at hl 2 rfl) ?_
  refine lv_iconst (v := 0) hx hb dL_value_1 (by decide) ?_
  refine lv_aload_n hx hb dL_value_2 rfl (lv_at hl 0 rfl) ?_
  refine lv_iload_n hx hb dL_value_3 rfl (lv_at hl 1 rfl) ?_
  obtain ⟨q1, hq1, hm⟩ := zbind hm
  refine zxC (name := "java/util/NoSuchElementException") (vx_runV (As := [.int a1]) (rest := [.int 0, .ref aO]) ⟨hx, hb, hml, hown, hw⟩ (k_Px_value l D aQ aY aS aNs aTs aEs aDc cd _ a1 pv dc hl0 q1 hq1) (zcVx (C := RX5) 1 hw (zgood zw526) rfl rfl rfl zw176 zw528 zw527 zw529 hdX5_value ⟨Nat.le_of_ble_eq_true rfl, Nat.le_of_ble_eq_true rfl⟩) (zpreV (zpre zD_ok hX.1 hS (zfree hD hS hA) hP hK hD) (va_recv hK hP rfl (q0 := 0) rfl)) rfl rfl hl.1 rfl (lv_room (Nat.le_of_ble_eq_true rfl)) dL_value_4 ⟨Nat.le_of_ble_eq_true rfl, Nat.le_of_ble_eq_true rfl⟩) hS (zfree hD hS hA) hown [] ⟨0, 8, 11, 21⟩ [] (by rw [htb]; rfl) (fun _ h => absurd h List.not_mem_nil) (by decide) (by decide) (hw _ zw530) (va_Nw.use rfl (hX.1.1.1 _ zn19)) (fun q9 H locs hP hD hS => ?_)
  refine W.widen (k := 1) (n := 6) (by decide) (by decide) ?_
  have hP : va_P D vwCl (wQDo aQ aY aS aNs aTs aEs aDc aO cd pv dc) H := hP
  have hD : va_D _ (wQDo aQ aY aS aNs aTs aEs aDc aO cd pv dc) := hD
  refine lv_astore_n (lv' := [(3, .ref q9), (0, .ref aQ), (1, .int a1), (2, .ref aO)]) hx hb dL_value_11 rfl hl (by decide) rfl (fun ls hl => ?_)
  refine lv_iconst (v := 1) hx hb dL_value_12 (by decide) ?_
  cases hm
  exact zreti1 hx hb hr hlk hP hD hS dL_value_13

def m_L_look_i (a1 : Int32) (a2 : Int32) (pv : Nat → Int32) (dc : Nat → Option Nat)  : Option ((Int32)) := (m_Pi_look a1 a2 pv dc).bind (fun q1 => (some 2))
section
variable {p : Program} {l : Launch} {e : Env} {s : State} {m : MethodId} {args : Array Value} {below : List Frame} {meth : Method} {c : Code} {D : va_G} {w0 : va_W} {aQ aY aS aNs aTs aEs aDc aF aO : Nat} {cd : ClassId} {pv : Nat → Int32} {dc : Nat → Option Nat} {a1 : Int32}
end
set_option maxRecDepth 100000 in
set_option maxHeartbeats 4000000 in
theorem k_L_look_i (l : Launch) (D : va_G) (aQ aY aS aNs aTs aEs aDc aF aO : Nat) (cd : ClassId) (sz : Nat) (a1 : Int32) (a2 : Int32) (pv : Nat → Int32) (dc : Nat → Option Nat) (hl0 : l.stackTraces = false) (hd : dc a1.toNatClampNeg = some aF) (res : (Int32)) (hm : m_L_look_i a1 a2 pv dc  = some res) : Met l yL_look (Cond.codeWith yL_look cL_look 5 (some .int) [(0, 10, 13, 21), (0, 10, 17, 15)] :: zBIG) (zRx 7 113) (va_Pc [.ref aQ, .int a1, .int a2, .ref aO] (zP zW D vwCl (wQDfo_t cd) (wQDfo aQ aY aS aNs aTs aEs aDc aF aO cd pv dc) sz)) (zQi D vwCl (wQDfo aQ aY aS aNs aTs aEs aDc aF aO cd pv dc) (wQDfo aQ aY aS aNs aTs aEs aDc aF aO cd pv dc) sz res) 1 6 (va_A (wQDfo aQ aY aS aNs aTs aEs aDc aF aO cd pv dc) sz) := by
  refine zEnterW RL [.ref aQ, .int a1, .int a2, .ref aO] (by decide) rfl (Nat.le_of_ble_eq_true rfl) (fun p e s m below meth c ls htb G hK hX hP hD hsz hl => ?_)
  subst hsz
  unfold m_L_look_i at hm
  have hl : lv_has ls 5 [(0, .ref aQ), (1, .int a1), (2, .int a2), (3, .ref aO)] := hl
  have hS : va_S (va_A (wQDfo aQ aY aS aNs aTs aEs aDc aF aO cd pv dc) s.heap.size) s.heap s.heap [] := va_S.rf
  have hA : ∀ q, s.heap.size ≤ q → va_A (wQDfo aQ aY aS aNs aTs aEs aDc aF aO cd pv dc) s.heap.size q := fun q h => Or.inr h
  have G0 := G
  obtain ⟨hx, hb, hr, hml, hown, hw, hlk⟩ := G
  refine lv_aload_n hx hb dL_look_0 rfl (lv_at hl 3 rfl) ?_
  refine lv_iconst (v := 0) hx hb dL_look_1 (by decide) ?_
  refine lv_aload_n hx hb dL_look_2 rfl (lv_at hl 0 rfl) ?_
  refine lv_iload_n hx hb dL_look_3 rfl (lv_at hl 1 rfl) ?_
  refine lv_iload_n hx hb dL_look_4 rfl (lv_at hl 2 rfl) ?_
  obtain ⟨q1, hq1, hm⟩ := zbind hm
  refine zxC (name := "java/lang/IllegalArgumentException") (vx_runV (As := [.int a1, .int a2]) (rest := [.int 0, .ref aO]) ⟨hx, hb, hml, hown, hw⟩ (k_Pi_look l D aQ aY aS aNs aTs aEs aDc aF cd _ a1 a2 pv dc hl0 hd q1 hq1) (zcVx (C := RX5) 2 hw (zgood zw514) rfl rfl rfl zw176 zw516 zw515 zw517 hdX5_look ⟨Nat.le_of_ble_eq_true rfl, Nat.le_of_ble_eq_true rfl⟩) (zpreV (zpre zD_ok hX.1 hS (zfree hD hS hA) hP hK hD) (va_recv hK hP rfl (q0 := 0) rfl)) rfl rfl hl.1 rfl (lv_room (Nat.le_of_ble_eq_true rfl)) dL_look_5 ⟨Nat.le_of_ble_eq_true rfl, Nat.le_of_ble_eq_true rfl⟩) hS (zfree hD hS hA) hown [⟨0, 10, 13, 21⟩] ⟨0, 10, 17, 15⟩ [] (by rw [htb]; rfl) (List.forall_mem_cons.mpr ⟨Or.inr ⟨by decide, "java/util/NoSuchElementException", hw _ zw530, hX.2.2.1⟩, fun _ h => absurd h List.not_mem_nil⟩) (by decide) (by decide) (hw _ zw513) (va_Nw.use rfl (hX.1.1.1 _ zn18)) (fun q9 H locs hP hD hS => ?_)
  refine W.widen (k := 1) (n := 6) (by decide) (by decide) ?_
  have hP : va_P D vwCl (wQDfo aQ aY aS aNs aTs aEs aDc aF aO cd pv dc) H := hP
  have hD : va_D _ (wQDfo aQ aY aS aNs aTs aEs aDc aF aO cd pv dc) := hD
  refine lv_astore (lv' := [(4, .ref q9), (0, .ref aQ), (1, .int a1), (2, .int a2), (3, .ref aO)]) hx hb dL_look_17 hl (by decide) rfl (fun ls hl => ?_)
  refine lv_iconst (v := 2) hx hb dL_look_19 (by decide) ?_
  cases hm
  exact zreti1 hx hb hr hlk hP hD hS dL_look_20

def m_L_put_i (a1 : Int32) (a2 : Int64) (a3 : Int32) (pv : Nat → Int32) (dc : Nat → Option Nat)  : Option ((Int32)) := (m_Pi_put a1 a2 a3 pv dc).bind (fun q1 => (some 2))
section
variable {p : Program} {l : Launch} {e : Env} {s : State} {m : MethodId} {args : Array Value} {below : List Frame} {meth : Method} {c : Code} {D : va_G} {w0 : va_W} {aQ aY aS aNs aTs aEs aDc aF : Nat} {cd : ClassId} {pv : Nat → Int32} {dc : Nat → Option Nat} {a1 : Int32}
end
set_option maxRecDepth 100000 in
set_option maxHeartbeats 4000000 in
theorem k_L_put_i (l : Launch) (D : va_G) (aQ aY aS aNs aTs aEs aDc aF : Nat) (cd : ClassId) (sz : Nat) (a1 : Int32) (a2 : Int64) (a3 : Int32) (pv : Nat → Int32) (dc : Nat → Option Nat) (hl0 : l.stackTraces = false) (hd : dc a1.toNatClampNeg = some aF) (res : (Int32)) (hm : m_L_put_i a1 a2 a3 pv dc  = some res) : Met l yL_put (Cond.codeWith yL_put cL_put 6 (some .int) [(0, 8, 11, 21), (0, 8, 15, 15), (0, 8, 19, 34)] :: zBIG) (zRx 7 115) (va_Pc [.ref aQ, .int a1, .long a2, .int a3] (zP zW D vwCl (wQDf_t cd) (wQDf aQ aY aS aNs aTs aEs aDc aF cd pv dc) sz)) (zQi D vwCl (wQDf aQ aY aS aNs aTs aEs aDc aF cd pv dc) (wQDf aQ aY aS aNs aTs aEs aDc aF cd pv dc) sz res) 1 6 (va_A (wQDf aQ aY aS aNs aTs aEs aDc aF cd pv dc) sz) := by
  refine zEnterW RL [.ref aQ, .int a1, .long a2, .int a3] (by decide) rfl (Nat.le_of_ble_eq_true rfl) (fun p e s m below meth c ls htb G hK hX hP hD hsz hl => ?_)
  subst hsz
  unfold m_L_put_i at hm
  have hl : lv_has ls 6 [(0, .ref aQ), (1, .int a1), (2, .long a2), (4, .int a3)] := hl
  have hS : va_S (va_A (wQDf aQ aY aS aNs aTs aEs aDc aF cd pv dc) s.heap.size) s.heap s.heap [] := va_S.rf
  have hA : ∀ q, s.heap.size ≤ q → va_A (wQDf aQ aY aS aNs aTs aEs aDc aF cd pv dc) s.heap.size q := fun q h => Or.inr h
  have G0 := G
  obtain ⟨hx, hb, hr, hml, hown, hw, hlk⟩ := G
  refine lv_aload_n hx hb dL_put_0 rfl (lv_at hl 0 rfl) ?_
  refine lv_iload_n hx hb dL_put_1 rfl (lv_at hl 1 rfl) ?_
  refine lv_lload_n hx hb dL_put_2 rfl (lv_at hl 2 rfl) ?_
  refine lv_iload hx hb dL_put_3 (lv_at hl 3 rfl) ?_
  obtain ⟨q1, hq1, hm⟩ := zbind hm
  refine zxC (name := "java/lang/IllegalArgumentException") (vx_runV (As := [.int a1, .long a2, .int a3]) (rest := []) ⟨hx, hb, hml, hown, hw⟩ (k_Pi_put l D aQ aY aS aNs aTs aEs aDc aF cd _ a1 a2 a3 pv dc hl0 hd q1 hq1) (zcVx (C := RX5) 3 hw (zgood zw531) rfl rfl rfl zw176 zw533 zw532 zw534 hdX5_put ⟨Nat.le_of_ble_eq_true rfl, Nat.le_of_ble_eq_true rfl⟩) (zpreV (zpre zD_ok hX.1 hS (zfree hD hS hA) hP hK hD) (va_recv hK hP rfl (q0 := 0) rfl)) rfl rfl hl.1 rfl (lv_room (Nat.le_of_ble_eq_true rfl)) dL_put_5 ⟨Nat.le_of_ble_eq_true rfl, Nat.le_of_ble_eq_true rfl⟩) hS (zfree hD hS hA) hown [⟨0, 8, 11, 21⟩] ⟨0, 8, 15, 15⟩ [⟨0, 8, 19, 34⟩] (by rw [htb]; rfl) (List.forall_mem_cons.mpr ⟨Or.inr ⟨by decide, "java/util/NoSuchElementException", hw _ zw530, hX.2.2.1⟩, fun _ h => absurd h List.not_mem_nil⟩) (by decide) (by decide) (hw _ zw513) (va_Nw.use rfl (hX.1.1.1 _ zn18)) (fun q9 H locs hP hD hS => ?_)
  refine W.widen (k := 1) (n := 6) (by decide) (by decide) ?_
  have hP : va_P D vwCl (wQDf aQ aY aS aNs aTs aEs aDc aF cd pv dc) H := hP
  have hD : va_D _ (wQDf aQ aY aS aNs aTs aEs aDc aF cd pv dc) := hD
  refine lv_astore (lv' := [(5, .ref q9), (0, .ref aQ), (1, .int a1), (2, .long a2), (4, .int a3)]) hx hb dL_put_15 hl (by decide) rfl (fun ls hl => ?_)
  refine lv_iconst (v := 2) hx hb dL_put_17 (by decide) ?_
  cases hm
  exact zreti1 hx hb hr hlk hP hD hS dL_put_18

def m_L_put_u (a1 : Int32) (a2 : Int64) (a3 : Int32) (pv : Nat → Int32) (dc : Nat → Option Nat) (v : Nat → Int32) (b : Nat → Int32)  : Option ((Int32)) := (m_Pu_put a1 a2 a3 pv dc v b).bind (fun q1 => (some 3))
section
variable {p : Program} {l : Launch} {e : Env} {s : State} {m : MethodId} {args : Array Value} {below : List Frame} {meth : Method} {c : Code} {D : va_G} {w0 : va_W} {aQ aY aS aNs aTs aEs aDc aT bT : Nat} {cd c1 : ClassId} {pv : Nat → Int32} {dc : Nat → Option Nat} {v : Nat → Int32} {b : Nat → Int32} {a1 : Int32}
end
set_option maxRecDepth 100000 in
set_option maxHeartbeats 4000000 in
theorem k_L_put_u (l : Launch) (D : va_G) (aQ aY aS aNs aTs aEs aDc aT bT : Nat) (cd c1 : ClassId) (sz : Nat) (a1 : Int32) (a2 : Int64) (a3 : Int32) (pv : Nat → Int32) (dc : Nat → Option Nat) (v : Nat → Int32) (b : Nat → Int32) (hl0 : l.stackTraces = false) (hd : dc a1.toNatClampNeg = some aT) (res : (Int32)) (hm : m_L_put_u a1 a2 a3 pv dc v b  = some res) : Met l yL_put (Cond.codeWith yL_put cL_put 6 (some .int) [(0, 8, 11, 21), (0, 8, 15, 15), (0, 8, 19, 34)] :: zBIG) (zRx 7 115) (va_Pc [.ref aQ, .int a1, .long a2, .int a3] (zP zW D vwCl (wQDT_t cd c1) (wQDT aQ aY aS aNs aTs aEs aDc aT bT cd c1 pv dc v b) sz)) (zQi D vwCl (wQDT aQ aY aS aNs aTs aEs aDc aT bT cd c1 pv dc v b) (wQDT aQ aY aS aNs aTs aEs aDc aT bT cd c1 pv dc v b) sz res) 1 6 (va_A (wQDT aQ aY aS aNs aTs aEs aDc aT bT cd c1 pv dc v b) sz) := by
  refine zEnterW RL [.ref aQ, .int a1, .long a2, .int a3] (by decide) rfl (Nat.le_of_ble_eq_true rfl) (fun p e s m below meth c ls htb G hK hX hP hD hsz hl => ?_)
  subst hsz
  unfold m_L_put_u at hm
  have hl : lv_has ls 6 [(0, .ref aQ), (1, .int a1), (2, .long a2), (4, .int a3)] := hl
  have hS : va_S (va_A (wQDT aQ aY aS aNs aTs aEs aDc aT bT cd c1 pv dc v b) s.heap.size) s.heap s.heap [] := va_S.rf
  have hA : ∀ q, s.heap.size ≤ q → va_A (wQDT aQ aY aS aNs aTs aEs aDc aT bT cd c1 pv dc v b) s.heap.size q := fun q h => Or.inr h
  have G0 := G
  obtain ⟨hx, hb, hr, hml, hown, hw, hlk⟩ := G
  refine lv_aload_n hx hb dL_put_0 rfl (lv_at hl 0 rfl) ?_
  refine lv_iload_n hx hb dL_put_1 rfl (lv_at hl 1 rfl) ?_
  refine lv_lload_n hx hb dL_put_2 rfl (lv_at hl 2 rfl) ?_
  refine lv_iload hx hb dL_put_3 (lv_at hl 3 rfl) ?_
  obtain ⟨q1, hq1, hm⟩ := zbind hm
  refine zxC (name := "java/lang/UnsupportedOperationException") (vx_runV (As := [.int a1, .long a2, .int a3]) (rest := []) ⟨hx, hb, hml, hown, hw⟩ (k_Pu_put l D aQ aY aS aNs aTs aEs aDc aT bT cd c1 _ a1 a2 a3 pv dc v b hl0 hd q1 hq1) (zcVx (C := RX5) 3 hw (zgood zw531) rfl rfl rfl zw176 zw533 zw532 zw534 hdX5_put ⟨Nat.le_of_ble_eq_true rfl, Nat.le_of_ble_eq_true rfl⟩) (zpreV (zpre zD_ok hX.1 hS (zfree hD hS hA) hP hK hD) (va_recv hK hP rfl (q0 := 0) rfl)) rfl rfl hl.1 rfl (lv_room (Nat.le_of_ble_eq_true rfl)) dL_put_5 ⟨Nat.le_of_ble_eq_true rfl, Nat.le_of_ble_eq_true rfl⟩) hS (zfree hD hS hA) hown [⟨0, 8, 11, 21⟩, ⟨0, 8, 15, 15⟩] ⟨0, 8, 19, 34⟩ [] (by rw [htb]; rfl) (List.forall_mem_cons.mpr ⟨Or.inr ⟨by decide, "java/util/NoSuchElementException", hw _ zw530, hX.2.2.2.1⟩, List.forall_mem_cons.mpr ⟨Or.inr ⟨by decide, "java/lang/IllegalArgumentException", hw _ zw513, hX.2.2.2.2⟩, fun _ h => absurd h List.not_mem_nil⟩⟩) (by decide) (by decide) (hw _ zw539) (va_Nw.use rfl (hX.1.1.1 _ zn20)) (fun q9 H locs hP hD hS => ?_)
  refine W.widen (k := 1) (n := 6) (by decide) (by decide) ?_
  have hP : va_P D vwCl (wQDT aQ aY aS aNs aTs aEs aDc aT bT cd c1 pv dc v b) H := hP
  have hD : va_D _ (wQDT aQ aY aS aNs aTs aEs aDc aT bT cd c1 pv dc v b) := hD
  refine lv_astore (lv' := [(5, .ref q9), (0, .ref aQ), (1, .int a1), (2, .long a2), (4, .int a3)]) hx hb dL_put_19 hl (by decide) rfl (fun ls hl => ?_)
  refine lv_iconst (v := 3) hx hb dL_put_21 (by decide) ?_
  cases hm
  exact zreti1 hx hb hr hlk hP hD hS dL_put_22

def m_L_move_n2 (a1 : Int32) (a2 : Int32) (pv : Nat → Int32) (dc : Nat → Option Nat)  : Option ((Int32)) := (m_Px2_move a1 a2 pv dc).bind (fun q1 => (some 1))
section
variable {p : Program} {l : Launch} {e : Env} {s : State} {m : MethodId} {args : Array Value} {below : List Frame} {meth : Method} {c : Code} {D : va_G} {w0 : va_W} {aQ aY aS aNs aTs aEs aDc aF : Nat} {cd : ClassId} {pv : Nat → Int32} {dc : Nat → Option Nat} {a1 : Int32}
end
set_option maxRecDepth 100000 in
set_option maxHeartbeats 4000000 in
theorem k_L_move_n2 (l : Launch) (D : va_G) (aQ aY aS aNs aTs aEs aDc aF : Nat) (cd : ClassId) (sz : Nat) (a1 : Int32) (a2 : Int32) (pv : Nat → Int32) (dc : Nat → Option Nat) (hl0 : l.stackTraces = false) (hd : dc a1.toNatClampNeg = some aF) (res : (Int32)) (hm : m_L_move_n2 a1 a2 pv dc  = some res) : Met l yL_move (Cond.codeWith yL_move cL_move 4 (some .int) [(0, 6, 9, 21), (0, 6, 12, 34)] :: zBIG) (zRx 8 136) (va_Pc [.ref aQ, .int a1, .int a2] (zP zW D vwCl (wQDf_t cd) (wQDf aQ aY aS aNs aTs aEs aDc aF cd pv dc) sz)) (zQi D vwCl (wQDf aQ aY aS aNs aTs aEs aDc aF cd pv dc) (wQDf aQ aY aS aNs aTs aEs aDc aF cd pv dc) sz res) 1 6 (va_A (wQDf aQ aY aS aNs aTs aEs aDc aF cd pv dc) sz) := by
  refine zEnterW RL [.ref aQ, .int a1, .int a2] (by decide) rfl (Nat.le_of_ble_eq_true rfl) (fun p e s m below meth c ls htb G hK hX hP hD hsz hl => ?_)
  subst hsz
  unfold m_L_move_n2 at hm
  have hl : lv_has ls 4 [(0, .ref aQ), (1, .int a1), (2, .int a2)] := hl
  have hS : va_S (va_A (wQDf aQ aY aS aNs aTs aEs aDc aF cd pv dc) s.heap.size) s.heap s.heap [] := va_S.rf
  have hA : ∀ q, s.heap.size ≤ q → va_A (wQDf aQ aY aS aNs aTs aEs aDc aF cd pv dc) s.heap.size q := fun q h => Or.inr h
  have G0 := G
  obtain ⟨hx, hb, hr, hml, hown, hw, hlk⟩ := G
  refine lv_aload_n hx hb dL_move_0 rfl (lv_at hl 0 rfl) ?_
  refine lv_iload_n hx hb dL_move_1 rfl (lv_at hl 1 rfl) ?_
  refine lv_iload_n hx hb dL_move_2 rfl (lv_at hl 2 rfl) ?_
  obtain ⟨q1, hq1, hm⟩ := zbind hm
  refine zxC (name := "java/util/NoSuchElementException") (vx_runV (As := [.int a1, .int a2]) (rest := []) ⟨hx, hb, hml, hown, hw⟩ (k_Px2_move l D aQ aY aS aNs aTs aEs aDc aF cd _ a1 a2 pv dc hl0 hd q1 hq1) (zcVx (C := RX5) 2 hw (zgood zw535) rfl rfl rfl zw176 zw537 zw536 zw538 hdX5_move ⟨Nat.le_of_ble_eq_true rfl, Nat.le_of_ble_eq_true rfl⟩) (zpreV (zpre zD_ok hX.1 hS (zfree hD hS hA) hP hK hD) (va_recv hK hP rfl (q0 := 0) rfl)) rfl rfl hl.1 rfl (lv_room (Nat.le_of_ble_eq_true rfl)) dL_move_3 ⟨Nat.le_of_ble_eq_true rfl, Nat.le_of_ble_eq_true rfl⟩) hS (zfree hD hS hA) hown [] ⟨0, 6, 9, 21⟩ [⟨0, 6, 12, 34⟩] (by rw [htb]; rfl) (fun _ h => absurd h List.not_mem_nil) (by decide) (by decide) (hw _ zw530) (va_Nw.use rfl (hX.1.1.1 _ zn19)) (fun q9 H locs hP hD hS => ?_)
  refine W.widen (k := 1) (n := 6) (by decide) (by decide) ?_
  have hP : va_P D vwCl (wQDf aQ aY aS aNs aTs aEs aDc aF cd pv dc) H := hP
  have hD : va_D _ (wQDf aQ aY aS aNs aTs aEs aDc aF cd pv dc) := hD
  refine lv_astore_n (lv' := [(3, .ref q9), (0, .ref aQ), (1, .int a1), (2, .int a2)]) hx hb dL_move_9 rfl hl (by decide) rfl (fun ls hl => ?_)
  refine lv_iconst (v := 1) hx hb dL_move_10 (by decide) ?_
  cases hm
  exact zreti1 hx hb hr hlk hP hD hS dL_move_11

def m_L_move_u (a1 : Int32) (a2 : Int32) (pv : Nat → Int32) (dc : Nat → Option Nat) (v : Nat → Int32) (b : Nat → Int32) (v2 : Nat → Int32) (b2 : Nat → Int32)  : Option ((Int32) × (Nat → Int32)) := (m_Pu_move a1 a2 pv dc v b v2 b2).bind (fun q1 => (some (2, q1)))
section
variable {p : Program} {l : Launch} {e : Env} {s : State} {m : MethodId} {args : Array Value} {below : List Frame} {meth : Method} {c : Code} {D : va_G} {w0 : va_W} {aQ aY aS aNs aTs aEs aDc aT bT aN2 bN2 : Nat} {cd c1 c12 : ClassId} {pv : Nat → Int32} {dc : Nat → Option Nat} {v : Nat → Int32} {v2 : Nat → Int32} {b2 : Nat → Int32} {a1 : Int32} {a2 : Int32}
end
set_option maxRecDepth 100000 in
set_option maxHeartbeats 4000000 in
theorem k_L_move_u (l : Launch) (D : va_G) (aQ aY aS aNs aTs aEs aDc aT bT aN2 bN2 : Nat) (cd c1 c12 : ClassId) (sz : Nat) (a1 : Int32) (a2 : Int32) (pv : Nat → Int32) (dc : Nat → Option Nat) (v : Nat → Int32) (b : Nat → Int32) (v2 : Nat → Int32) (b2 : Nat → Int32) (hl0 : l.stackTraces = false) (hd : dc a1.toNatClampNeg = some aN2) (hd2 : dc a2.toNatClampNeg = some aT) (res : (Int32) × (Nat → Int32)) (hm : m_L_move_u a1 a2 pv dc v b v2 b2  = some res) : Met l yL_move (Cond.codeWith yL_move cL_move 4 (some .int) [(0, 6, 9, 21), (0, 6, 12, 34)] :: zBIG) (zRx 7 115) (va_Pc [.ref aQ, .int a1, .int a2] (zP zW D vwCl (wQDTN2_t cd c1 c12) (wQDTN2 aQ aY aS aNs aTs aEs aDc aT bT aN2 bN2 cd c1 c12 pv dc v b v2 b2) sz)) (zQi D vwCl (wQDTN2 aQ aY aS aNs aTs aEs aDc aT bT aN2 bN2 cd c1 c12 pv dc v b v2 b2) (wQDTN2 aQ aY aS aNs aTs aEs aDc aT bT aN2 bN2 cd c1 c12 pv dc v res.2 v2 b2) sz res.1) 1 6 (va_A (wQDTN2 aQ aY aS aNs aTs aEs aDc aT bT aN2 bN2 cd c1 c12 pv dc v b v2 b2) sz) := by
  refine zEnterW RL [.ref aQ, .int a1, .int a2] (by decide) rfl (Nat.le_of_ble_eq_true rfl) (fun p e s m below meth c ls htb G hK hX hP hD hsz hl => ?_)
  subst hsz
  unfold m_L_move_u at hm
  have hl : lv_has ls 4 [(0, .ref aQ), (1, .int a1), (2, .int a2)] := hl
  have hS : va_S (va_A (wQDTN2 aQ aY aS aNs aTs aEs aDc aT bT aN2 bN2 cd c1 c12 pv dc v b v2 b2) s.heap.size) s.heap s.heap [] := va_S.rf
  have hA : ∀ q, s.heap.size ≤ q → va_A (wQDTN2 aQ aY aS aNs aTs aEs aDc aT bT aN2 bN2 cd c1 c12 pv dc v b v2 b2) s.heap.size q := fun q h => Or.inr h
  have G0 := G
  obtain ⟨hx, hb, hr, hml, hown, hw, hlk⟩ := G
  refine lv_aload_n hx hb dL_move_0 rfl (lv_at hl 0 rfl) ?_
  refine lv_iload_n hx hb dL_move_1 rfl (lv_at hl 1 rfl) ?_
  refine lv_iload_n hx hb dL_move_2 rfl (lv_at hl 2 rfl) ?_
  obtain ⟨q1, hq1, hm⟩ := zbind hm
  refine zxC (name := "java/lang/UnsupportedOperationException") (vx_runV (As := [.int a1, .int a2]) (rest := []) ⟨hx, hb, hml, hown, hw⟩ (k_Pu_move l D aQ aY aS aNs aTs aEs aDc aT bT aN2 bN2 cd c1 c12 _ a1 a2 pv dc v b v2 b2 hl0 hd hd2 q1 hq1) (zcVx (C := RX5) 2 hw (zgood zw535) rfl rfl rfl zw176 zw537 zw536 zw538 hdX5_move ⟨Nat.le_of_ble_eq_true rfl, Nat.le_of_ble_eq_true rfl⟩) (zpreV (zpre zD_ok hX.1 hS (zfree hD hS hA) hP hK hD) (va_recv hK hP rfl (q0 := 0) rfl)) rfl rfl hl.1 rfl (lv_room (Nat.le_of_ble_eq_true rfl)) dL_move_3 ⟨Nat.le_of_ble_eq_true rfl, Nat.le_of_ble_eq_true rfl⟩) hS (zfree hD hS hA) hown [⟨0, 6, 9, 21⟩] ⟨0, 6, 12, 34⟩ [] (by rw [htb]; rfl) (List.forall_mem_cons.mpr ⟨Or.inr ⟨by decide, "java/util/NoSuchElementException", hw _ zw530, hX.2.2.2.1⟩, fun _ h => absurd h List.not_mem_nil⟩) (by decide) (by decide) (hw _ zw539) (va_Nw.use rfl (hX.1.1.1 _ zn20)) (fun q9 H locs hP hD hS => ?_)
  refine W.widen (k := 1) (n := 6) (by decide) (by decide) ?_
  have hP : va_P D vwCl (wQDTN2 aQ aY aS aNs aTs aEs aDc aT bT aN2 bN2 cd c1 c12 pv dc v q1 v2 b2) H := hP
  have hD : va_D _ (wQDTN2 aQ aY aS aNs aTs aEs aDc aT bT aN2 bN2 cd c1 c12 pv dc v q1 v2 b2) := hD
  refine lv_astore_n (lv' := [(3, .ref q9), (0, .ref aQ), (1, .int a1), (2, .int a2)]) hx hb dL_move_12 rfl hl (by decide) rfl (fun ls hl => ?_)
  refine lv_iconst (v := 2) hx hb dL_move_13 (by decide) ?_
  cases hm
  exact zreti1 hx hb hr hlk hP hD hS dL_move_14

