theorem dX5_type_0 : decode cX5_type 0 = .ok (.aload_n 0, 1) := by decide +kernel
theorem dX5_type_1 : decode cX5_type 1 = .ok (.getfield 13, 3) := by decide +kernel
theorem dX5_type_4 : decode cX5_type 4 = .ok (.bipush 24, 2) := by decide +kernel
theorem dX5_type_6 : decode cX5_type 6 = .ok (.if_icmp .lt 5, 3) := by decide +kernel
theorem dX5_type_9 : decode cX5_type 9 = .ok (.iconst 0, 1) := by decide +kernel
theorem dX5_type_10 : decode cX5_type 10 = .ok (.ireturn, 1) := by decide +kernel
theorem dX5_type_11 : decode cX5_type 11 = .ok (.aload_n 0, 1) := by decide +kernel
theorem dX5_type_12 : decode cX5_type 12 = .ok (.getfield 9, 3) := by decide +kernel
theorem dX5_type_15 : decode cX5_type 15 = .ok (.aload_n 0, 1) := by decide +kernel
theorem dX5_type_16 : decode cX5_type 16 = .ok (.getfield 13, 3) := by decide +kernel
theorem dX5_type_19 : decode cX5_type 19 = .ok (.iload_n 1, 1) := by decide +kernel
theorem dX5_type_20 : decode cX5_type 20 = .ok (.iastore, 1) := by decide +kernel
theorem dX5_type_21 : decode cX5_type 21 = .ok (.aload_n 0, 1) := by decide +kernel
theorem dX5_type_22 : decode cX5_type 22 = .ok (.dup, 1) := by decide +kernel
theorem dX5_type_23 : decode cX5_type 23 = .ok (.getfield 13, 3) := by decide +kernel
theorem dX5_type_26 : decode cX5_type 26 = .ok (.iconst 1, 1) := by decide +kernel
theorem dX5_type_27 : decode cX5_type 27 = .ok (.iadd, 1) := by decide +kernel
theorem dX5_type_28 : decode cX5_type 28 = .ok (.putfield 13, 3) := by decide +kernel
theorem dX5_type_31 : decode cX5_type 31 = .ok (.iconst 1, 1) := by decide +kernel
theorem dX5_type_32 : decode cX5_type 32 = .ok (.ireturn, 1) := by decide +kernel
def m_P_type (a0 : Int32) (pv : Nat → Int32) (y : Nat → Int32)  : Option ((Int32) × (Nat → Int32) × (Nat → Int32)) := (if (pv 1) < 24 then zix (pv 1) 24 ((zbo 1 (some (1, (upd pv 1 ((pv 1) + 1)), (upd y (pv 1).toNatClampNeg a0))))) else (zbo 0 (some (0, pv, y))))
section
variable {p : Program} {l : Launch} {e : Env} {s : State} {m : MethodId} {args : Array Value} {below : List Frame} {meth : Method} {c : Code} {D : va_G} {w0 : va_W} {aQ aS aNs aTs aEs aDc aY : Nat} {cy : ClassId}
end
set_option maxRecDepth 100000 in
set_option maxHeartbeats 4000000 in
theorem k_P_type (l : Launch) (D : va_G) (aQ aS aNs aTs aEs aDc aY : Nat) (cy : ClassId) (sz : Nat) (a0 : Int32) (pv : Nat → Int32) (y : Nat → Int32) (res : (Int32) × (Nat → Int32) × (Nat → Int32)) (hm : m_P_type a0 pv y  = some res) : Met l yX5_type (Cond.code yX5_type cX5_type 2 (some .boolean) :: zBIG) (zR 0 0) (va_Pc [.ref aQ, .int a0] (zP zC D vwCl (wQY_t cy) (wQY aQ aS aNs aTs aEs aDc aY cy pv y) sz)) (zQi D vwCl (wQY aQ aS aNs aTs aEs aDc aY cy pv y) (wQY aQ aS aNs aTs aEs aDc aY cy res.2.1 res.2.2) sz res.1) 0 0 (va_A (wQY aQ aS aNs aTs aEs aDc aY cy pv y) sz) := by
  refine zEnter RX5 [.ref aQ, .int a0] (by decide) rfl (Nat.le_of_ble_eq_true rfl) (fun p e s m below meth c ls G hK hX hP hD hsz hl => ?_)
  subst hsz
  unfold m_P_type at hm
  have hl : lv_has ls 2 [(0, .ref aQ), (1, .int a0)] := hl
  have hS : va_S (va_A (wQY aQ aS aNs aTs aEs aDc aY cy pv y) s.heap.size) s.heap s.heap [] := va_S.rf
  have hA : ∀ q, s.heap.size ≤ q → va_A (wQY aQ aS aNs aTs aEs aDc aY cy pv y) s.heap.size q := fun q h => Or.inr h
  have G0 := G
  obtain ⟨hx, hb, hr, hml, hown, hw, hlk⟩ := G
  refine lv_aload_n hx hb dX5_type_0 rfl (lv_at hl 0 rfl) ?_
  refine va_get (D := D) (ci := 4) (v := .int (pv 1)) (C := RX5) (T := TX5) (N := 8) hx hb hw zinX5 hown hK hP 0 rfl rfl 1 (by decide) (hw _ zw418) (fun _ h9 => h9) rfl dX5_type_1 ?_
  refine lv_bipush (v := 24) hx hb dX5_type_4 (by decide) ?_
  refine lv_icmp_lt (tgt := 11) hx hb dX5_type_6 rfl (fun cd1 => ?_) (fun cd1 => ?_)
  · replace hm := zt cd1 hm
    refine lv_aload_n hx hb dX5_type_11 rfl (lv_at hl 0 rfl) ?_
    refine va_get (D := D) (ci := 4) (v := .ref aY) (C := RX5) (T := TX5) (N := 8) hx hb hw zinX5 hown hK hP 0 rfl rfl 0 (by decide) (hw _ zw419) (fun _ h9 => h9) rfl dX5_type_12 ?_
    refine lv_aload_n hx hb dX5_type_15 rfl (lv_at hl 0 rfl) ?_
    refine va_get (D := D) (ci := 4) (v := .int (pv 1)) (C := RX5) (T := TX5) (N := 8) hx hb hw zinX5 hown hK hP 0 rfl rfl 1 (by decide) (hw _ zw418) (fun _ h9 => h9) rfl dX5_type_16 ?_
    refine lv_iload_n hx hb dX5_type_19 rfl (lv_at hl 1 rfl) ?_
    obtain ⟨hi2, hm⟩ := zix_s hm
    refine va_iast (i := (pv 1)) (x := a0) (f := y) (n := 24) hx hb hK hP hD hS 1 0 rfl rfl hi2 dX5_type_20 (fun H locs hP hD hS => ?_)
    have hP : va_P D vwCl (wQY aQ aS aNs aTs aEs aDc aY cy pv (upd y (pv 1).toNatClampNeg a0)) H := hP
    have hD : va_D _ (wQY aQ aS aNs aTs aEs aDc aY cy pv (upd y (pv 1).toNatClampNeg a0)) := hD
    refine lv_aload_n hx hb dX5_type_21 rfl (lv_at hl 0 rfl) ?_
    refine lv_dup hx hb dX5_type_22 rfl ?_
    refine va_get (D := D) (ci := 4) (v := .int (pv 1)) (C := RX5) (T := TX5) (N := 8) hx hb hw zinX5 hown hK hP 0 rfl rfl 1 (by decide) (hw _ zw418) (fun _ h9 => h9) rfl dX5_type_23 ?_
    refine lv_iconst (v := 1) hx hb dX5_type_26 (by decide) ?_
    refine lv_iadd hx hb dX5_type_27 ?_
    refine va_put (D := D) (ci := 4) (v := .int ((pv 1) + 1)) (ty := .int) (C := RX5) (T := TX5) (N := 8) hx hb hw zinX5 tyX5 tyX5_ok nmX5 hown hK hP hD hS 0 rfl rfl 1 (by decide) (hw _ zw418) (fun _ h9 => h9) rfl (by decide +kernel) rfl rfl (Nat.le_of_ble_eq_true rfl) dX5_type_28 (fun H locs hP hD hS => ?_)
    have hP : va_P D vwCl (wQY aQ aS aNs aTs aEs aDc aY cy (upd pv 1 ((pv 1) + 1)) (upd y (pv 1).toNatClampNeg a0)) H := hP
    have hD : va_D _ (wQY aQ aS aNs aTs aEs aDc aY cy (upd pv 1 ((pv 1) + 1)) (upd y (pv 1).toNatClampNeg a0)) := hD
    refine lv_iconst (v := 1) hx hb dX5_type_31 (by decide) ?_
    obtain ⟨hz3, -, hm⟩ := zbo_s hm
    cases hm
    exact zretz hx hb hr hlk hz3 hP hD hS dX5_type_32
  · replace hm := zf cd1 hm
    refine lv_iconst (v := 0) hx hb dX5_type_9 (by decide) ?_
    obtain ⟨hz4, -, hm⟩ := zbo_s hm
    cases hm
    exact zretz hx hb hr hlk hz4 hP hD hS dX5_type_10

theorem dX5_clear_0 : decode cX5_clear 0 = .ok (.aload_n 0, 1) := by decide +kernel
theorem dX5_clear_1 : decode cX5_clear 1 = .ok (.iconst 0, 1) := by decide +kernel
theorem dX5_clear_2 : decode cX5_clear 2 = .ok (.putfield 48, 3) := by decide +kernel
theorem dX5_clear_5 : decode cX5_clear 5 = .ok (.return_, 1) := by decide +kernel
def m_P_clear  (pv : Nat → Int32)  : Option ((Nat → Int32)) := (some (upd pv 7 0))
section
variable {p : Program} {l : Launch} {e : Env} {s : State} {m : MethodId} {args : Array Value} {below : List Frame} {meth : Method} {c : Code} {D : va_G} {w0 : va_W} {aQ aY aS aNs aTs aEs aDc : Nat}
end
set_option maxRecDepth 100000 in
set_option maxHeartbeats 4000000 in
theorem k_P_clear (l : Launch) (D : va_G) (aQ aY aS aNs aTs aEs aDc : Nat) (sz : Nat)  (pv : Nat → Int32) (res : (Nat → Int32)) (hm : m_P_clear  pv  = some res) : Met l yX5_clear (Cond.code yX5_clear cX5_clear 1 none :: zBIG) (zR 0 0) (va_Pc [.ref aQ] (zP zC D vwCl [] (wQ aQ aY aS aNs aTs aEs aDc pv) sz)) (zQv D vwCl (wQ aQ aY aS aNs aTs aEs aDc pv) (wQ aQ aY aS aNs aTs aEs aDc res) sz) 0 0 (va_A (wQ aQ aY aS aNs aTs aEs aDc pv) sz) := by
  refine zEnter RX5 [.ref aQ] (by decide) rfl (Nat.le_of_ble_eq_true rfl) (fun p e s m below meth c ls G hK hX hP hD hsz hl => ?_)
  subst hsz
  unfold m_P_clear at hm
  have hl : lv_has ls 1 [(0, .ref aQ)] := hl
  have hS : va_S (va_A (wQ aQ aY aS aNs aTs aEs aDc pv) s.heap.size) s.heap s.heap [] := va_S.rf
  have hA : ∀ q, s.heap.size ≤ q → va_A (wQ aQ aY aS aNs aTs aEs aDc pv) s.heap.size q := fun q h => Or.inr h
  have G0 := G
  obtain ⟨hx, hb, hr, hml, hown, hw, hlk⟩ := G
  refine lv_aload_n hx hb dX5_clear_0 rfl (lv_at hl 0 rfl) ?_
  refine lv_iconst (v := 0) hx hb dX5_clear_1 (by decide) ?_
  refine va_put (D := D) (ci := 4) (v := .int 0) (ty := .int) (C := RX5) (T := TX5) (N := 8) hx hb hw zinX5 tyX5 tyX5_ok nmX5 hown hK hP hD hS 0 rfl rfl 7 (by decide) (hw _ zw420) (fun _ h9 => h9) rfl (by decide +kernel) rfl rfl (Nat.le_of_ble_eq_true rfl) dX5_clear_2 (fun H locs hP hD hS => ?_)
  have hP : va_P D vwCl (wQ aQ aY aS aNs aTs aEs aDc (upd pv 7 0)) H := hP
  have hD : va_D _ (wQ aQ aY aS aNs aTs aEs aDc (upd pv 7 0)) := hD
  cases hm
  exact zretv hx hb hr hlk hP hD hS dX5_clear_5

theorem dX5_fields_0 : decode cX5_fields 0 = .ok (.aload_n 0, 1) := by decide +kernel
theorem dX5_fields_1 : decode cX5_fields 1 = .ok (.getfield 48, 3) := by decide +kernel
theorem dX5_fields_4 : decode cX5_fields 4 = .ok (.ireturn, 1) := by decide +kernel
def m_P_fields  (pv : Nat → Int32)  : Option ((Int32)) := (some (pv 7))
section
variable {p : Program} {l : Launch} {e : Env} {s : State} {m : MethodId} {args : Array Value} {below : List Frame} {meth : Method} {c : Code} {D : va_G} {w0 : va_W} {aQ aY aS aNs aTs aEs aDc : Nat} {pv : Nat → Int32}
end
set_option maxRecDepth 100000 in
set_option maxHeartbeats 4000000 in
theorem k_P_fields (l : Launch) (D : va_G) (aQ aY aS aNs aTs aEs aDc : Nat) (sz : Nat)  (pv : Nat → Int32) (res : (Int32)) (hm : m_P_fields  pv  = some res) : Met l yX5_fields (Cond.code yX5_fields cX5_fields 1 (some .int) :: zBIG) (zR 0 0) (va_Pc [.ref aQ] (zP zC D vwCl [] (wQ aQ aY aS aNs aTs aEs aDc pv) sz)) (zQi D vwCl (wQ aQ aY aS aNs aTs aEs aDc pv) (wQ aQ aY aS aNs aTs aEs aDc pv) sz res) 0 0 (va_A (wQ aQ aY aS aNs aTs aEs aDc pv) sz) := by
  refine zEnter RX5 [.ref aQ] (by decide) rfl (Nat.le_of_ble_eq_true rfl) (fun p e s m below meth c ls G hK hX hP hD hsz hl => ?_)
  subst hsz
  unfold m_P_fields at hm
  have hl : lv_has ls 1 [(0, .ref aQ)] := hl
  have hS : va_S (va_A (wQ aQ aY aS aNs aTs aEs aDc pv) s.heap.size) s.heap s.heap [] := va_S.rf
  have hA : ∀ q, s.heap.size ≤ q → va_A (wQ aQ aY aS aNs aTs aEs aDc pv) s.heap.size q := fun q h => Or.inr h
  have G0 := G
  obtain ⟨hx, hb, hr, hml, hown, hw, hlk⟩ := G
  refine lv_aload_n hx hb dX5_fields_0 rfl (lv_at hl 0 rfl) ?_
  refine va_get (D := D) (ci := 4) (v := .int (pv 7)) (C := RX5) (T := TX5) (N := 8) hx hb hw zinX5 hown hK hP 0 rfl rfl 7 (by decide) (hw _ zw420) (fun _ h9 => h9) rfl dX5_fields_1 ?_
  cases hm
  exact zreti hx hb hr hlk hP hD hS dX5_fields_4

theorem dX5_existing_0 : decode cX5_existing 0 = .ok (.iload_n 1, 1) := by decide +kernel
theorem dX5_existing_1 : decode cX5_existing 1 = .ok (.ifCond .lt 11, 3) := by decide +kernel
theorem dX5_existing_4 : decode cX5_existing 4 = .ok (.iload_n 1, 1) := by decide +kernel
theorem dX5_existing_5 : decode cX5_existing 5 = .ok (.aload_n 0, 1) := by decide +kernel
theorem dX5_existing_6 : decode cX5_existing 6 = .ok (.getfield 48, 3) := by decide +kernel
theorem dX5_existing_9 : decode cX5_existing 9 = .ok (.if_icmp .lt 7, 3) := by decide +kernel
theorem dX5_existing_12 : decode cX5_existing 12 = .ok (.aconst_null, 1) := by decide +kernel
theorem dX5_existing_13 : decode cX5_existing 13 = .ok (.goto 9, 3) := by decide +kernel
theorem dX5_existing_16 : decode cX5_existing 16 = .ok (.aload_n 0, 1) := by decide +kernel
theorem dX5_existing_17 : decode cX5_existing 17 = .ok (.getfield 44, 3) := by decide +kernel
theorem dX5_existing_20 : decode cX5_existing 20 = .ok (.iload_n 1, 1) := by decide +kernel
theorem dX5_existing_21 : decode cX5_existing 21 = .ok (.aaload, 1) := by decide +kernel
theorem dX5_existing_22 : decode cX5_existing 22 = .ok (.astore_n 2, 1) := by decide +kernel
theorem dX5_existing_23 : decode cX5_existing 23 = .ok (.aload_n 2, 1) := by decide +kernel
theorem dX5_existing_24 : decode cX5_existing 24 = .ok (.ifnonnull 13, 3) := by decide +kernel
theorem dX5_existing_27 : decode cX5_existing 27 = .ok (.new 104, 3) := by decide +kernel
theorem dX5_existing_30 : decode cX5_existing 30 = .ok (.dup, 1) := by decide +kernel
theorem dX5_existing_31 : decode cX5_existing 31 = .ok (.ldc 135, 2) := by decide +kernel
theorem dX5_existing_33 : decode cX5_existing 33 = .ok (.invokespecial 108, 3) := by decide +kernel
theorem dX5_existing_36 : decode cX5_existing 36 = .ok (.athrow, 1) := by decide +kernel
theorem dX5_existing_37 : decode cX5_existing 37 = .ok (.aload_n 2, 1) := by decide +kernel
theorem dX5_existing_38 : decode cX5_existing 38 = .ok (.areturn, 1) := by decide +kernel
def m_P_existing_12 (pv : Nat → Int32) (dc : Nat → Option Nat) (a0 : Int32)   : Option (Unit) := none
def m_P_existing_22 (pv : Nat → Int32) (dc : Nat → Option Nat) (a0 : Int32)   : Option (Unit) := (some ())
def m_P_existing (a0 : Int32) (pv : Nat → Int32) (dc : Nat → Option Nat)  : Option (Unit) := (if a0 < 0 then m_P_existing_12 pv dc a0  else (if a0 < (pv 7) then zix a0 8 (m_P_existing_22 pv dc a0 ) else m_P_existing_12 pv dc a0 ))
section
variable {p : Program} {l : Launch} {e : Env} {s : State} {m : MethodId} {args : Array Value} {below : List Frame} {meth : Method} {c : Code} {D : va_G} {w0 : va_W} {aQ aY aS aNs aTs aEs aDc aF : Nat} {cd : ClassId} {pv : Nat → Int32} {dc : Nat → Option Nat} {a0 : Int32}
set_option maxRecDepth 100000 in
set_option maxHeartbeats 4000000 in
theorem b_P_existing_12 (G : zG p s m args meth c cX5_existing RX5 3 (some (.object "PictureFields$Field"))) (hK : va_K D vwCl (wQDf_t cd) s) (hX : zC (va_A w0 s.heap.size) s) (hd : dc a0.toNatClampNeg = some aF) {res : Unit} : m_P_existing_12 pv dc a0  = some res → zB p l e (zR 0 0) s m args below meth c D vwCl (va_A w0 s.heap.size) (MQ below (zQq D vwCl w0 (wQDf aQ aY aS aNs aTs aEs aDc aF cd pv dc) s.heap.size (some aF)) args s 0 0 (va_A w0 s.heap.size)) 3 (wQDf aQ aY aS aNs aTs aEs aDc aF cd pv dc) [] 12 [] := by
  intro  hm H locs ls hP hD hS hl
  unfold m_P_existing_12 at hm
  have G0 := G
  obtain ⟨hx, hb, hr, hml, hown, hw, hlk⟩ := G
  have hA : ∀ q, s.heap.size ≤ q → va_A w0 s.heap.size q := fun q h => Or.inr h
  cases hm
set_option maxRecDepth 100000 in
set_option maxHeartbeats 4000000 in
theorem b_P_existing_22 (G : zG p s m args meth c cX5_existing RX5 3 (some (.object "PictureFields$Field"))) (hK : va_K D vwCl (wQDf_t cd) s) (hX : zC (va_A w0 s.heap.size) s) (hd : dc a0.toNatClampNeg = some aF) {res : Unit} : m_P_existing_22 pv dc a0  = some res → zB p l e (zR 0 0) s m args below meth c D vwCl (va_A w0 s.heap.size) (MQ below (zQq D vwCl w0 (wQDf aQ aY aS aNs aTs aEs aDc aF cd pv dc) s.heap.size (some aF)) args s 0 0 (va_A w0 s.heap.size)) 3 (wQDf aQ aY aS aNs aTs aEs aDc aF cd pv dc) [] 22 [.ref aF] := by
  intro  hm H locs ls hP hD hS hl
  unfold m_P_existing_22 at hm
  have G0 := G
  obtain ⟨hx, hb, hr, hml, hown, hw, hlk⟩ := G
  have hA : ∀ q, s.heap.size ≤ q → va_A w0 s.heap.size q := fun q h => Or.inr h
  refine lv_astore_n (lv' := [(2, .ref aF)]) hx hb dX5_existing_22 rfl hl (by decide) rfl (fun ls hl => ?_)
  refine lv_aload_n hx hb dX5_existing_23 rfl (lv_at hl 0 rfl) ?_
  refine lv_ifnonnull (tgt := 37) hx hb dX5_existing_24 rfl ?_
  refine lv_aload_n hx hb dX5_existing_37 rfl (lv_at hl 0 rfl) ?_
  cases hm
  exact zreta hx hb hr hlk hP hD hS dX5_existing_38
end
set_option maxRecDepth 100000 in
set_option maxHeartbeats 4000000 in
theorem k_P_existing (l : Launch) (D : va_G) (aQ aY aS aNs aTs aEs aDc aF : Nat) (cd : ClassId) (sz : Nat) (a0 : Int32) (pv : Nat → Int32) (dc : Nat → Option Nat) (hd : dc a0.toNatClampNeg = some aF) (res : Unit) (hm : m_P_existing a0 pv dc  = some res) : Met l yX5_existing (Cond.code yX5_existing cX5_existing 3 (some (.object "PictureFields$Field")) :: zBIG) (zR 0 0) (va_Pc [.ref aQ, .int a0] (zP zC D vwCl (wQDf_t cd) (wQDf aQ aY aS aNs aTs aEs aDc aF cd pv dc) sz)) (zQq D vwCl (wQDf aQ aY aS aNs aTs aEs aDc aF cd pv dc) (wQDf aQ aY aS aNs aTs aEs aDc aF cd pv dc) sz (some aF)) 0 0 (va_A (wQDf aQ aY aS aNs aTs aEs aDc aF cd pv dc) sz) := by
  refine zEnter RX5 [.ref aQ, .int a0] (by decide) rfl (Nat.le_of_ble_eq_true rfl) (fun p e s m below meth c ls G hK hX hP hD hsz hl => ?_)
  subst hsz
  unfold m_P_existing at hm
  have hl : lv_has ls 3 [(0, .ref aQ), (1, .int a0)] := hl
  have hS : va_S (va_A (wQDf aQ aY aS aNs aTs aEs aDc aF cd pv dc) s.heap.size) s.heap s.heap [] := va_S.rf
  have hA : ∀ q, s.heap.size ≤ q → va_A (wQDf aQ aY aS aNs aTs aEs aDc aF cd pv dc) s.heap.size q := fun q h => Or.inr h
  have G0 := G
  obtain ⟨hx, hb, hr, hml, hown, hw, hlk⟩ := G
  refine lv_iload_n hx hb dX5_existing_0 rfl (lv_at hl 1 rfl) ?_
  refine lv_if_lt (tgt := 12) hx hb dX5_existing_1 rfl (fun cd1 => ?_) (fun cd1 => ?_)
  · replace hm := zt cd1 hm
    exact b_P_existing_12 G0 hK hX hd  hm _ _ _ hP hD hS (lv_sub hl [] rfl)
  · replace hm := zf cd1 hm
    refine lv_iload_n hx hb dX5_existing_4 rfl (lv_at hl 1 rfl) ?_
    refine lv_aload_n hx hb dX5_existing_5 rfl (lv_at hl 0 rfl) ?_
    refine va_get (D := D) (ci := 4) (v := .int (pv 7)) (C := RX5) (T := TX5) (N := 8) hx hb hw zinX5 hown hK hP 0 rfl rfl 7 (by decide) (hw _ zw420) (fun _ h9 => h9) rfl dX5_existing_6 ?_
    refine lv_icmp_lt (tgt := 16) hx hb dX5_existing_9 rfl (fun cd2 => ?_) (fun cd2 => ?_)
    · replace hm := zt cd2 hm
      refine lv_aload_n hx hb dX5_existing_16 rfl (lv_at hl 0 rfl) ?_
      refine va_get (D := D) (ci := 4) (v := .ref aDc) (C := RX5) (T := TX5) (N := 8) hx hb hw zinX5 hown hK hP 0 rfl rfl 6 (by decide) (hw _ zw421) (fun _ h9 => h9) rfl dX5_existing_17 ?_
      refine lv_iload_n hx hb dX5_existing_20 rfl (lv_at hl 1 rfl) ?_
      obtain ⟨hi3, hm⟩ := zix_s hm
      refine va_aldq (i := a0) (f := dc) (n := 8) hx hb hK hP 1 0 rfl rfl hi3 dX5_existing_21 ?_
      refine W.eq (g2 := F0 m 22 ls [.ref aF]) (by rw [hd]; rfl) ?_
      exact b_P_existing_22 G0 hK hX hd  hm _ _ _ hP hD hS (lv_sub hl [] rfl)
    · replace hm := zf cd2 hm
      exact b_P_existing_12 G0 hK hX hd  hm _ _ _ hP hD hS (lv_sub hl [] rfl)

theorem dX5_value_0 : decode cX5_value 0 = .ok (.aload_n 0, 1) := by decide +kernel
theorem dX5_value_1 : decode cX5_value 1 = .ok (.iload_n 1, 1) := by decide +kernel
theorem dX5_value_2 : decode cX5_value 2 = .ok (.invokevirtual 77, 3) := by decide +kernel
theorem dX5_value_5 : decode cX5_value 5 = .ok (.invokevirtual 131, 3) := by decide +kernel
theorem dX5_value_8 : decode cX5_value 8 = .ok (.lreturn, 1) := by decide +kernel
def m_P_value_N (a0 : Int32) (pv : Nat → Int32) (dc : Nat → Option Nat) (v : Nat → Int32) (b : Nat → Int32)  : Option ((Int64)) := (m_P_existing a0 pv dc).bind (fun q1 => (m_N_number v b).bind (fun q2 => (some q2)))
section
variable {p : Program} {l : Launch} {e : Env} {s : State} {m : MethodId} {args : Array Value} {below : List Frame} {meth : Method} {c : Code} {D : va_G} {w0 : va_W} {aQ aY aS aNs aTs aEs aDc aN bN : Nat} {cd c1 : ClassId} {pv : Nat → Int32} {dc : Nat → Option Nat} {v : Nat → Int32} {b : Nat → Int32} {a0 : Int32}
end
set_option maxRecDepth 100000 in
set_option maxHeartbeats 4000000 in
theorem k_P_value_N (l : Launch) (D : va_G) (aQ aY aS aNs aTs aEs aDc aN bN : Nat) (cd c1 : ClassId) (sz : Nat) (a0 : Int32) (pv : Nat → Int32) (dc : Nat → Option Nat) (v : Nat → Int32) (b : Nat → Int32) (hd : dc a0.toNatClampNeg = some aN) (res : (Int64)) (hm : m_P_value_N a0 pv dc v b  = some res) : Met l yX5_value (Cond.code yX5_value cX5_value 2 (some .long) :: zBIG) (zR 2 44) (va_Pc [.ref aQ, .int a0] (zP zC D vwCl (wQDN_t cd c1) (wQDN aQ aY aS aNs aTs aEs aDc aN bN cd c1 pv dc v b) sz)) (zQl D vwCl (wQDN aQ aY aS aNs aTs aEs aDc aN bN cd c1 pv dc v b) (wQDN aQ aY aS aNs aTs aEs aDc aN bN cd c1 pv dc v b) sz res) 0 0 (va_A (wQDN aQ aY aS aNs aTs aEs aDc aN bN cd c1 pv dc v b) sz) := by
  refine zEnter RX5 [.ref aQ, .int a0] (by decide) rfl (Nat.le_of_ble_eq_true rfl) (fun p e s m below meth c ls G hK hX hP hD hsz hl => ?_)
  subst hsz
  unfold m_P_value_N at hm
  have hl : lv_has ls 2 [(0, .ref aQ), (1, .int a0)] := hl
  have hS : va_S (va_A (wQDN aQ aY aS aNs aTs aEs aDc aN bN cd c1 pv dc v b) s.heap.size) s.heap s.heap [] := va_S.rf
  have hA : ∀ q, s.heap.size ≤ q → va_A (wQDN aQ aY aS aNs aTs aEs aDc aN bN cd c1 pv dc v b) s.heap.size q := fun q h => Or.inr h
  have G0 := G
  obtain ⟨hx, hb, hr, hml, hown, hw, hlk⟩ := G
  refine lv_aload_n hx hb dX5_value_0 rfl (lv_at hl 0 rfl) ?_
  refine lv_iload_n hx hb dX5_value_1 rfl (lv_at hl 1 rfl) ?_
  obtain ⟨q1, hq1, hm⟩ := zbind hm
  have hPc := hP.sub (ws' := (wQDf aQ aY aS aNs aTs aEs aDc aN cd pv dc)) [0, 1] rfl
  have hDc := hD.sub (ws' := (wQDf aQ aY aS aNs aTs aEs aDc aN cd pv dc)) [0, 1] (by decide) rfl
  have hKc := hK.sub (tys' := wQDf_t cd) [0] rfl
  have hFc := va_free (wc := (wQDf aQ aY aS aNs aTs aEs aDc aN cd pv dc)) hD hS hA [0, 1] rfl
  refine zbSq (wr := [(aN, .inr (1, [.ref bN, .int (v 1), .int (v 2), .int (v 3), .int (v 4), .int (v 5), .int (v 6), .int (v 7)])), (bN, .inl (c1, 25, .inl b))]) (w1 := (wQDf aQ aY aS aNs aTs aEs aDc aN cd pv dc)) (w' := (wQDN aQ aY aS aNs aTs aEs aDc aN bN cd c1 pv dc v b)) (va_runV (As := [.int a0]) (rest := []) ⟨hx, hb, hml, hown, hw⟩ (k_P_existing l D aQ aY aS aNs aTs aEs aDc aN cd _ a0 pv dc hd q1 hq1) (zcV (C := RX5) 1 hw (zgood zw422) rfl rfl rfl zw176 zw424 zw423 zw425 hdX5_existing ⟨Nat.le_of_ble_eq_true rfl, Nat.le_of_ble_eq_true rfl⟩) (zpreV (zpre zC_ok hX hS hFc hPc hKc hDc) (va_recv hK hP rfl (q0 := 0) rfl)) rfl rfl hl.1 rfl (lv_room (Nat.le_of_ble_eq_true rfl)) dX5_value_2 ⟨Nat.zero_le _, Nat.zero_le _⟩) hP hD hS hFc [0, 1] [2, 3] [2, 3, 0, 1] rfl rfl (by decide) (by decide) rfl (by decide) (fun H locs hP hD hS => ?_)
  obtain ⟨q2, hq2, hm⟩ := zbind hm
  have hPc := hP.sub (ws' := (wN aN bN c1 v b)) [2, 3] rfl
  have hDc := hD.sub (ws' := (wN aN bN c1 v b)) [2, 3] (by decide) rfl
  have hKc := hK.sub (tys' := wN_t c1) [1] rfl
  have hFc := va_free (wc := (wN aN bN c1 v b)) hD hS hA [2, 3] rfl
  refine zbSl (wr := [(aQ, .inr (4, [.ref aY, .int (pv 1), .ref aS, .ref aNs, .ref aTs, .ref aEs, .ref aDc, .int (pv 7)])), (aDc, .inl (cd, 8, .inr (.inr (.inr (.inr dc)))))]) (w1 := (wN aN bN c1 v b)) (w' := (wQDN aQ aY aS aNs aTs aEs aDc aN bN cd c1 pv dc v b)) (va_runU (As := []) (rest := []) ⟨hx, hb, hml, hown, hw⟩ (k_N_number l D aN bN c1 _ v b  q2 hq2) (va_cwA (C := RX2) (owner := RX1) (x := ⟨RX1, "number", "()J"⟩) 0 hw (zgoodL (List.forall_mem_cons.mpr ⟨zw426, List.forall_mem_cons.mpr ⟨zw398, List.forall_mem_cons.mpr ⟨zw399, List.forall_mem_cons.mpr ⟨zw393, List.forall_mem_cons.mpr ⟨zw210, fun _ h => absurd h List.not_mem_nil⟩⟩⟩⟩⟩) zw392) rfl rfl rfl (hX.1 _ zn12) (by decide +kernel) ⟨Nat.le_of_ble_eq_true rfl, Nat.le_of_ble_eq_true rfl⟩) (zpreV (zpre zC_ok hX hS hFc hPc hKc hDc) (va_recv hK hP rfl (q0 := 2) rfl)) rfl rfl hl.1 rfl (lv_room (Nat.le_of_ble_eq_true rfl)) dX5_value_5 ⟨Nat.zero_le _, Nat.zero_le _⟩) hP hD hS hFc [2, 3] [0, 1] [0, 1, 2, 3] rfl rfl (by decide) (by decide) rfl (by decide) (fun H locs hP hD hS => ?_)
  cases hm
  exact zretl hx hb hr hlk hP hD hS dX5_value_8

theorem dX5_look_0 : decode cX5_look 0 = .ok (.aload_n 0, 1) := by decide +kernel
theorem dX5_look_1 : decode cX5_look 1 = .ok (.iload_n 1, 1) := by decide +kernel
theorem dX5_look_2 : decode cX5_look 2 = .ok (.invokevirtual 77, 3) := by decide +kernel
theorem dX5_look_5 : decode cX5_look 5 = .ok (.astore_n 3, 1) := by decide +kernel
theorem dX5_look_6 : decode cX5_look 6 = .ok (.iload_n 2, 1) := by decide +kernel
theorem dX5_look_7 : decode cX5_look 7 = .ok (.tableswitch 66 0 4 #[33, 38, 43, 48, 53], 33) := by decide +kernel
theorem dX5_look_40 : decode cX5_look 40 = .ok (.aload_n 3, 1) := by decide +kernel
theorem dX5_look_41 : decode cX5_look 41 = .ok (.invokevirtual 81, 3) := by decide +kernel
theorem dX5_look_44 : decode cX5_look 44 = .ok (.ireturn, 1) := by decide +kernel
theorem dX5_look_45 : decode cX5_look 45 = .ok (.aload_n 3, 1) := by decide +kernel
theorem dX5_look_46 : decode cX5_look 46 = .ok (.getfield 85, 3) := by decide +kernel
theorem dX5_look_49 : decode cX5_look 49 = .ok (.ireturn, 1) := by decide +kernel
theorem dX5_look_50 : decode cX5_look 50 = .ok (.aload_n 3, 1) := by decide +kernel
theorem dX5_look_51 : decode cX5_look 51 = .ok (.getfield 88, 3) := by decide +kernel
theorem dX5_look_54 : decode cX5_look 54 = .ok (.ireturn, 1) := by decide +kernel
theorem dX5_look_55 : decode cX5_look 55 = .ok (.aload_n 3, 1) := by decide +kernel
theorem dX5_look_56 : decode cX5_look 56 = .ok (.getfield 91, 3) := by decide +kernel
theorem dX5_look_59 : decode cX5_look 59 = .ok (.ireturn, 1) := by decide +kernel
theorem dX5_look_60 : decode cX5_look 60 = .ok (.aload_n 3, 1) := by decide +kernel
theorem dX5_look_61 : decode cX5_look 61 = .ok (.getfield 94, 3) := by decide +kernel
theorem dX5_look_64 : decode cX5_look 64 = .ok (.ifCond .eq 7, 3) := by decide +kernel
theorem dX5_look_67 : decode cX5_look 67 = .ok (.iconst 1, 1) := by decide +kernel
theorem dX5_look_68 : decode cX5_look 68 = .ok (.goto 4, 3) := by decide +kernel
theorem dX5_look_71 : decode cX5_look 71 = .ok (.iconst 0, 1) := by decide +kernel
theorem dX5_look_72 : decode cX5_look 72 = .ok (.ireturn, 1) := by decide +kernel
theorem dX5_look_73 : decode cX5_look 73 = .ok (.new 69, 3) := by decide +kernel
theorem dX5_look_76 : decode cX5_look 76 = .ok (.dup, 1) := by decide +kernel
theorem dX5_look_77 : decode cX5_look 77 = .ok (.ldc 98, 2) := by decide +kernel
theorem dX5_look_79 : decode cX5_look 79 = .ok (.invokespecial 73, 3) := by decide +kernel
theorem dX5_look_82 : decode cX5_look 82 = .ok (.athrow, 1) := by decide +kernel
def m_P_look_N (a0 : Int32) (a1 : Int32) (pv : Nat → Int32) (dc : Nat → Option Nat) (v : Nat → Int32) (b : Nat → Int32)  : Option ((Int32)) := (m_P_existing a0 pv dc).bind (fun q1 => (if a1 = 0 then (m_N_kind v b).bind (fun q7 => (some q7)) else (if a1 = 1 then (some (v 1)) else (if a1 = 2 then (some (v 2)) else (if a1 = 3 then (some (v 3)) else (if a1 = 4 then (if (v 4) = 0 then (some 0) else (some 1)) else none))))))
section
variable {p : Program} {l : Launch} {e : Env} {s : State} {m : MethodId} {args : Array Value} {below : List Frame} {meth : Method} {c : Code} {D : va_G} {w0 : va_W} {aQ aY aS aNs aTs aEs aDc aN bN : Nat} {cd c1 : ClassId} {pv : Nat → Int32} {dc : Nat → Option Nat} {v : Nat → Int32} {b : Nat → Int32} {a0 : Int32}
end
set_option maxRecDepth 100000 in
set_option maxHeartbeats 4000000 in
theorem k_P_look_N (l : Launch) (D : va_G) (aQ aY aS aNs aTs aEs aDc aN bN : Nat) (cd c1 : ClassId) (sz : Nat) (a0 : Int32) (a1 : Int32) (pv : Nat → Int32) (dc : Nat → Option Nat) (v : Nat → Int32) (b : Nat → Int32) (hd : dc a0.toNatClampNeg = some aN) (res : (Int32)) (hm : m_P_look_N a0 a1 pv dc v b  = some res) : Met l yX5_look (Cond.code yX5_look cX5_look 4 (some .int) :: zBIG) (zR 1 22) (va_Pc [.ref aQ, .int a0, .int a1] (zP zC D vwCl (wQDN_t cd c1) (wQDN aQ aY aS aNs aTs aEs aDc aN bN cd c1 pv dc v b) sz)) (zQi D vwCl (wQDN aQ aY aS aNs aTs aEs aDc aN bN cd c1 pv dc v b) (wQDN aQ aY aS aNs aTs aEs aDc aN bN cd c1 pv dc v b) sz res) 0 0 (va_A (wQDN aQ aY aS aNs aTs aEs aDc aN bN cd c1 pv dc v b) sz) := by
  refine zEnter RX5 [.ref aQ, .int a0, .int a1] (by decide) rfl (Nat.le_of_ble_eq_true rfl) (fun p e s m below meth c ls G hK hX hP hD hsz hl => ?_)
  subst hsz
  unfold m_P_look_N at hm
  have hl : lv_has ls 4 [(0, .ref aQ), (1, .int a0), (2, .int a1)] := hl
  have hS : va_S (va_A (wQDN aQ aY aS aNs aTs aEs aDc aN bN cd c1 pv dc v b) s.heap.size) s.heap s.heap [] := va_S.rf
  have hA : ∀ q, s.heap.size ≤ q → va_A (wQDN aQ aY aS aNs aTs aEs aDc aN bN cd c1 pv dc v b) s.heap.size q := fun q h => Or.inr h
  have G0 := G
  obtain ⟨hx, hb, hr, hml, hown, hw, hlk⟩ := G
  refine lv_aload_n hx hb dX5_look_0 rfl (lv_at hl 0 rfl) ?_
  refine lv_iload_n hx hb dX5_look_1 rfl (lv_at hl 1 rfl) ?_
  obtain ⟨q1, hq1, hm⟩ := zbind hm
  have hPc := hP.sub (ws' := (wQDf aQ aY aS aNs aTs aEs aDc aN cd pv dc)) [0, 1] rfl
  have hDc := hD.sub (ws' := (wQDf aQ aY aS aNs aTs aEs aDc aN cd pv dc)) [0, 1] (by decide) rfl
  have hKc := hK.sub (tys' := wQDf_t cd) [0] rfl
  have hFc := va_free (wc := (wQDf aQ aY aS aNs aTs aEs aDc aN cd pv dc)) hD hS hA [0, 1] rfl
  refine zbSq (wr := [(aN, .inr (1, [.ref bN, .int (v 1), .int (v 2), .int (v 3), .int (v 4), .int (v 5), .int (v 6), .int (v 7)])), (bN, .inl (c1, 25, .inl b))]) (w1 := (wQDf aQ aY aS aNs aTs aEs aDc aN cd pv dc)) (w' := (wQDN aQ aY aS aNs aTs aEs aDc aN bN cd c1 pv dc v b)) (va_runV (As := [.int a0]) (rest := []) ⟨hx, hb, hml, hown, hw⟩ (k_P_existing l D aQ aY aS aNs aTs aEs aDc aN cd _ a0 pv dc hd q1 hq1) (zcV (C := RX5) 1 hw (zgood zw422) rfl rfl rfl zw176 zw424 zw423 zw425 hdX5_existing ⟨Nat.le_of_ble_eq_true rfl, Nat.le_of_ble_eq_true rfl⟩) (zpreV (zpre zC_ok hX hS hFc hPc hKc hDc) (va_recv hK hP rfl (q0 := 0) rfl)) rfl rfl hl.1 rfl (lv_room (Nat.le_of_ble_eq_true rfl)) dX5_look_2 ⟨Nat.zero_le _, Nat.zero_le _⟩) hP hD hS hFc [0, 1] [2, 3] [2, 3, 0, 1] rfl rfl (by decide) (by decide) rfl (by decide) (fun H locs hP hD hS => ?_)
  refine lv_astore_n (lv' := [(3, .ref aN), (0, .ref aQ), (1, .int a0), (2, .int a1)]) hx hb dX5_look_5 rfl hl (by decide) rfl (fun ls hl => ?_)
  refine lv_iload_n hx hb dX5_look_6 rfl (lv_at hl 3 rfl) ?_
  by_cases cd2 : a1 = 0
  · replace hm := zt cd2 hm
    refine lv_tableIn (off := 33) (tgt := 40) hx hb dX5_look_7 (by rw [cd2]; decide) (by rw [cd2]; decide) (by rw [cd2]; decide) rfl ?_
    refine lv_aload_n hx hb dX5_look_40 rfl (lv_at hl 0 rfl) ?_
    obtain ⟨q7, hq7, hm⟩ := zbind hm
    have hPc := hP.sub (ws' := (wN aN bN c1 v b)) [2, 3] rfl
    have hDc := hD.sub (ws' := (wN aN bN c1 v b)) [2, 3] (by decide) rfl
    have hKc := hK.sub (tys' := wN_t c1) [1] rfl
    have hFc := va_free (wc := (wN aN bN c1 v b)) hD hS hA [2, 3] rfl
    refine zbSi (wr := [(aQ, .inr (4, [.ref aY, .int (pv 1), .ref aS, .ref aNs, .ref aTs, .ref aEs, .ref aDc, .int (pv 7)])), (aDc, .inl (cd, 8, .inr (.inr (.inr (.inr dc)))))]) (w1 := (wN aN bN c1 v b)) (w' := (wQDN aQ aY aS aNs aTs aEs aDc aN bN cd c1 pv dc v b)) (va_runU (As := []) (rest := []) ⟨hx, hb, hml, hown, hw⟩ (k_N_kind l D aN bN c1 _ v b  q7 hq7) (va_cwA (C := RX2) (owner := RX1) (x := ⟨RX1, "kind", "()I"⟩) 0 hw (zgoodL (List.forall_mem_cons.mpr ⟨zw429, List.forall_mem_cons.mpr ⟨zw430, List.forall_mem_cons.mpr ⟨zw431, List.forall_mem_cons.mpr ⟨zw428, List.forall_mem_cons.mpr ⟨zw210, fun _ h => absurd h List.not_mem_nil⟩⟩⟩⟩⟩) zw427) rfl rfl rfl (hX.1 _ zn13) (by decide +kernel) ⟨Nat.le_of_ble_eq_true rfl, Nat.le_of_ble_eq_true rfl⟩) (zpreV (zpre zC_ok hX hS hFc hPc hKc hDc) (va_recv hK hP rfl (q0 := 2) rfl)) rfl rfl hl.1 rfl (lv_room (Nat.le_of_ble_eq_true rfl)) dX5_look_41 ⟨Nat.zero_le _, Nat.zero_le _⟩) hP hD hS hFc [2, 3] [0, 1] [0, 1, 2, 3] rfl rfl (by decide) (by decide) rfl (by decide) (fun H locs hP hD hS => ?_)
    cases hm
    exact zreti hx hb hr hlk hP hD hS dX5_look_44
  · replace hm := zf cd2 hm
    by_cases cd3 : a1 = 1
    · replace hm := zt cd3 hm
      refine lv_tableIn (off := 38) (tgt := 45) hx hb dX5_look_7 (by rw [cd3]; decide) (by rw [cd3]; decide) (by rw [cd3]; decide) rfl ?_
      refine lv_aload_n hx hb dX5_look_45 rfl (lv_at hl 0 rfl) ?_
      refine va_get (D := D) (ci := 1) (v := .int (v 1)) (C := RX2) (T := TX2) (N := 8) hx hb hw zinX2 hown hK hP 2 rfl rfl 1 (by decide) (hw _ zw432) (fun _ h9 => h9) rfl dX5_look_46 ?_
      cases hm
      exact zreti hx hb hr hlk hP hD hS dX5_look_49
    · replace hm := zf cd3 hm
      by_cases cd4 : a1 = 2
      · replace hm := zt cd4 hm
        refine lv_tableIn (off := 43) (tgt := 50) hx hb dX5_look_7 (by rw [cd4]; decide) (by rw [cd4]; decide) (by rw [cd4]; decide) rfl ?_
        refine lv_aload_n hx hb dX5_look_50 rfl (lv_at hl 0 rfl) ?_
        refine va_get (D := D) (ci := 1) (v := .int (v 2)) (C := RX2) (T := TX2) (N := 8) hx hb hw zinX2 hown hK hP 2 rfl rfl 2 (by decide) (hw _ zw433) (fun _ h9 => h9) rfl dX5_look_51 ?_
        cases hm
        exact zreti hx hb hr hlk hP hD hS dX5_look_54
      · replace hm := zf cd4 hm
        by_cases cd5 : a1 = 3
        · replace hm := zt cd5 hm
          refine lv_tableIn (off := 48) (tgt := 55) hx hb dX5_look_7 (by rw [cd5]; decide) (by rw [cd5]; decide) (by rw [cd5]; decide) rfl ?_
          refine lv_aload_n hx hb dX5_look_55 rfl (lv_at hl 0 rfl) ?_
          refine va_get (D := D) (ci := 1) (v := .int (v 3)) (C := RX2) (T := TX2) (N := 8) hx hb hw zinX2 hown hK hP 2 rfl rfl 3 (by decide) (hw _ zw434) (fun _ h9 => h9) rfl dX5_look_56 ?_
          cases hm
          exact zreti hx hb hr hlk hP hD hS dX5_look_59
        · replace hm := zf cd5 hm
          by_cases cd6 : a1 = 4
          · replace hm := zt cd6 hm
            refine lv_tableIn (off := 53) (tgt := 60) hx hb dX5_look_7 (by rw [cd6]; decide) (by rw [cd6]; decide) (by rw [cd6]; decide) rfl ?_
            refine lv_aload_n hx hb dX5_look_60 rfl (lv_at hl 0 rfl) ?_
            refine va_get (D := D) (ci := 1) (v := .int (v 4)) (C := RX2) (T := TX2) (N := 8) hx hb hw zinX2 hown hK hP 2 rfl rfl 4 (by decide) (hw _ zw435) (fun _ h9 => h9) rfl dX5_look_61 ?_
            refine lv_if_eq (tgt := 71) hx hb dX5_look_64 rfl (fun cd8 => ?_) (fun cd8 => ?_)
            · replace hm := zt cd8 hm
              refine lv_iconst (v := 0) hx hb dX5_look_71 (by decide) ?_
              cases hm
              exact zreti hx hb hr hlk hP hD hS dX5_look_72
            · replace hm := zf cd8 hm
              refine lv_iconst (v := 1) hx hb dX5_look_67 (by decide) ?_
              refine lv_goto (tgt := 72) hx hb dX5_look_68 rfl ?_
              cases hm
              exact zreti hx hb hr hlk hP hD hS dX5_look_72
          · replace hm := zf cd6 hm
            have ecd2 := lv_neT cd2 (a := 0) (by decide)
            have ecd3 := lv_neT cd3 (a := 1) (by decide)
            have ecd4 := lv_neT cd4 (a := 2) (by decide)
            have ecd5 := lv_neT cd5 (a := 3) (by decide)
            have ecd6 := lv_neT cd6 (a := 4) (by decide)
            refine lv_tableOut (tgt := 73) hx hb dX5_look_7 (by omega) rfl ?_
            cases hm

theorem dX5_get_0 : decode cX5_get 0 = .ok (.aload_n 0, 1) := by decide +kernel
theorem dX5_get_1 : decode cX5_get 1 = .ok (.iload_n 1, 1) := by decide +kernel
theorem dX5_get_2 : decode cX5_get 2 = .ok (.invokevirtual 77, 3) := by decide +kernel
theorem dX5_get_5 : decode cX5_get 5 = .ok (.astore_n 3, 1) := by decide +kernel
theorem dX5_get_6 : decode cX5_get 6 = .ok (.aload_n 3, 1) := by decide +kernel
theorem dX5_get_7 : decode cX5_get 7 = .ok (.iload_n 2, 1) := by decide +kernel
theorem dX5_get_8 : decode cX5_get 8 = .ok (.invokevirtual 100, 3) := by decide +kernel
theorem dX5_get_11 : decode cX5_get 11 = .ok (.ifCond .ne 13, 3) := by decide +kernel
theorem dX5_get_14 : decode cX5_get 14 = .ok (.new 104, 3) := by decide +kernel
theorem dX5_get_17 : decode cX5_get 17 = .ok (.dup, 1) := by decide +kernel
theorem dX5_get_18 : decode cX5_get 18 = .ok (.ldc 106, 2) := by decide +kernel
theorem dX5_get_20 : decode cX5_get 20 = .ok (.invokespecial 108, 3) := by decide +kernel
theorem dX5_get_23 : decode cX5_get 23 = .ok (.athrow, 1) := by decide +kernel
theorem dX5_get_24 : decode cX5_get 24 = .ok (.aload_n 3, 1) := by decide +kernel
theorem dX5_get_25 : decode cX5_get 25 = .ok (.getfield 109, 3) := by decide +kernel
theorem dX5_get_28 : decode cX5_get 28 = .ok (.iload_n 2, 1) := by decide +kernel
theorem dX5_get_29 : decode cX5_get 29 = .ok (.iaload, 1) := by decide +kernel
theorem dX5_get_30 : decode cX5_get 30 = .ok (.ireturn, 1) := by decide +kernel
def m_P_get_N (a0 : Int32) (a1 : Int32) (pv : Nat → Int32) (dc : Nat → Option Nat) (v : Nat → Int32) (b : Nat → Int32)  : Option ((Int32)) := (m_P_existing a0 pv dc).bind (fun q1 => (m_F_hasByte_N a1 v b).bind (fun q2 => (if q2 = 0 then none else zix a1 25 ((some (b a1.toNatClampNeg))))))
section
variable {p : Program} {l : Launch} {e : Env} {s : State} {m : MethodId} {args : Array Value} {below : List Frame} {meth : Method} {c : Code} {D : va_G} {w0 : va_W} {aQ aY aS aNs aTs aEs aDc aN bN : Nat} {cd c1 : ClassId} {pv : Nat → Int32} {dc : Nat → Option Nat} {v : Nat → Int32} {b : Nat → Int32} {a0 : Int32}
end
set_option maxRecDepth 100000 in
set_option maxHeartbeats 4000000 in
theorem k_P_get_N (l : Launch) (D : va_G) (aQ aY aS aNs aTs aEs aDc aN bN : Nat) (cd c1 : ClassId) (sz : Nat) (a0 : Int32) (a1 : Int32) (pv : Nat → Int32) (dc : Nat → Option Nat) (v : Nat → Int32) (b : Nat → Int32) (hd : dc a0.toNatClampNeg = some aN) (res : (Int32)) (hm : m_P_get_N a0 a1 pv dc v b  = some res) : Met l yX5_get (Cond.code yX5_get cX5_get 4 (some .int) :: zBIG) (zR 1 22) (va_Pc [.ref aQ, .int a0, .int a1] (zP zC D vwCl (wQDN_t cd c1) (wQDN aQ aY aS aNs aTs aEs aDc aN bN cd c1 pv dc v b) sz)) (zQi D vwCl (wQDN aQ aY aS aNs aTs aEs aDc aN bN cd c1 pv dc v b) (wQDN aQ aY aS aNs aTs aEs aDc aN bN cd c1 pv dc v b) sz res) 0 0 (va_A (wQDN aQ aY aS aNs aTs aEs aDc aN bN cd c1 pv dc v b) sz) := by
  refine zEnter RX5 [.ref aQ, .int a0, .int a1] (by decide) rfl (Nat.le_of_ble_eq_true rfl) (fun p e s m below meth c ls G hK hX hP hD hsz hl => ?_)
  subst hsz
  unfold m_P_get_N at hm
  have hl : lv_has ls 4 [(0, .ref aQ), (1, .int a0), (2, .int a1)] := hl
  have hS : va_S (va_A (wQDN aQ aY aS aNs aTs aEs aDc aN bN cd c1 pv dc v b) s.heap.size) s.heap s.heap [] := va_S.rf
  have hA : ∀ q, s.heap.size ≤ q → va_A (wQDN aQ aY aS aNs aTs aEs aDc aN bN cd c1 pv dc v b) s.heap.size q := fun q h => Or.inr h
  have G0 := G
  obtain ⟨hx, hb, hr, hml, hown, hw, hlk⟩ := G
  refine lv_aload_n hx hb dX5_get_0 rfl (lv_at hl 0 rfl) ?_
  refine lv_iload_n hx hb dX5_get_1 rfl (lv_at hl 1 rfl) ?_
  obtain ⟨q1, hq1, hm⟩ := zbind hm
  have hPc := hP.sub (ws' := (wQDf aQ aY aS aNs aTs aEs aDc aN cd pv dc)) [0, 1] rfl
  have hDc := hD.sub (ws' := (wQDf aQ aY aS aNs aTs aEs aDc aN cd pv dc)) [0, 1] (by decide) rfl
  have hKc := hK.sub (tys' := wQDf_t cd) [0] rfl
  have hFc := va_free (wc := (wQDf aQ aY aS aNs aTs aEs aDc aN cd pv dc)) hD hS hA [0, 1] rfl
  refine zbSq (wr := [(aN, .inr (1, [.ref bN, .int (v 1), .int (v 2), .int (v 3), .int (v 4), .int (v 5), .int (v 6), .int (v 7)])), (bN, .inl (c1, 25, .inl b))]) (w1 := (wQDf aQ aY aS aNs aTs aEs aDc aN cd pv dc)) (w' := (wQDN aQ aY aS aNs aTs aEs aDc aN bN cd c1 pv dc v b)) (va_runV (As := [.int a0]) (rest := []) ⟨hx, hb, hml, hown, hw⟩ (k_P_existing l D aQ aY aS aNs aTs aEs aDc aN cd _ a0 pv dc hd q1 hq1) (zcV (C := RX5) 1 hw (zgood zw422) rfl rfl rfl zw176 zw424 zw423 zw425 hdX5_existing ⟨Nat.le_of_ble_eq_true rfl, Nat.le_of_ble_eq_true rfl⟩) (zpreV (zpre zC_ok hX hS hFc hPc hKc hDc) (va_recv hK hP rfl (q0 := 0) rfl)) rfl rfl hl.1 rfl (lv_room (Nat.le_of_ble_eq_true rfl)) dX5_get_2 ⟨Nat.zero_le _, Nat.zero_le _⟩) hP hD hS hFc [0, 1] [2, 3] [2, 3, 0, 1] rfl rfl (by decide) (by decide) rfl (by decide) (fun H locs hP hD hS => ?_)
  refine lv_astore_n (lv' := [(3, .ref aN), (0, .ref aQ), (1, .int a0), (2, .int a1)]) hx hb dX5_get_5 rfl hl (by decide) rfl (fun ls hl => ?_)
  refine lv_aload_n hx hb dX5_get_6 rfl (lv_at hl 0 rfl) ?_
  refine lv_iload_n hx hb dX5_get_7 rfl (lv_at hl 3 rfl) ?_
  obtain ⟨q2, hq2, hm⟩ := zbind hm
  have hPc := hP.sub (ws' := (wN aN bN c1 v b)) [2, 3] rfl
  have hDc := hD.sub (ws' := (wN aN bN c1 v b)) [2, 3] (by decide) rfl
  have hKc := hK.sub (tys' := wN_t c1) [1] rfl
  have hFc := va_free (wc := (wN aN bN c1 v b)) hD hS hA [2, 3] rfl
  refine zbSi (wr := [(aQ, .inr (4, [.ref aY, .int (pv 1), .ref aS, .ref aNs, .ref aTs, .ref aEs, .ref aDc, .int (pv 7)])), (aDc, .inl (cd, 8, .inr (.inr (.inr (.inr dc)))))]) (w1 := (wN aN bN c1 v b)) (w' := (wQDN aQ aY aS aNs aTs aEs aDc aN bN cd c1 pv dc v b)) (va_runU (As := [.int a1]) (rest := []) ⟨hx, hb, hml, hown, hw⟩ (k_F_hasByte_N l D aN bN c1 _ a1 v b  q2 hq2) (va_cwU (C := RX2) (owner := RX1) (x := ⟨RX1, "hasByte", "(I)Z"⟩) 1 hw (zgoodL (List.forall_mem_cons.mpr ⟨zw438, List.forall_mem_cons.mpr ⟨zw439, List.forall_mem_cons.mpr ⟨zw440, List.forall_mem_cons.mpr ⟨zw437, List.forall_mem_cons.mpr ⟨zw409, fun _ h => absurd h List.not_mem_nil⟩⟩⟩⟩⟩) zw436) rfl rfl rfl rfl (by decide +kernel) ⟨Nat.le_of_ble_eq_true rfl, Nat.le_of_ble_eq_true rfl⟩) (zpreV (zpre zC_ok hX hS hFc hPc hKc hDc) (va_recv hK hP rfl (q0 := 2) rfl)) rfl rfl hl.1 rfl (lv_room (Nat.le_of_ble_eq_true rfl)) dX5_get_8 ⟨Nat.zero_le _, Nat.zero_le _⟩) hP hD hS hFc [2, 3] [0, 1] [0, 1, 2, 3] rfl rfl (by decide) (by decide) rfl (by decide) (fun H locs hP hD hS => ?_)
  refine lv_if_ne (tgt := 24) hx hb dX5_get_11 rfl (fun cd3 => ?_) (fun cd3 => ?_)
  · replace hm := zf cd3 hm
    refine lv_aload_n hx hb dX5_get_24 rfl (lv_at hl 0 rfl) ?_
    refine va_get (D := D) (ci := 1) (v := .ref bN) (C := RX2) (T := TX2) (N := 8) hx hb hw zinX2 hown hK hP 2 rfl rfl 0 (by decide) (hw _ zw441) (fun _ h9 => h9) rfl dX5_get_25 ?_
    refine lv_iload_n hx hb dX5_get_28 rfl (lv_at hl 3 rfl) ?_
    obtain ⟨hi4, hm⟩ := zix_s hm
    refine va_iald (i := a1) (f := b) (n := 25) hx hb hK hP 3 1 rfl rfl hi4 dX5_get_29 ?_
    cases hm
    exact zreti hx hb hr hlk hP hD hS dX5_get_30
  · replace hm := zt cd3 hm
    cases hm

theorem dX5_set_0 : decode cX5_set 0 = .ok (.aload_n 0, 1) := by decide +kernel
theorem dX5_set_1 : decode cX5_set 1 = .ok (.iload_n 1, 1) := by decide +kernel
theorem dX5_set_2 : decode cX5_set 2 = .ok (.invokevirtual 77, 3) := by decide +kernel
theorem dX5_set_5 : decode cX5_set 5 = .ok (.astore 4, 2) := by decide +kernel
theorem dX5_set_7 : decode cX5_set 7 = .ok (.aload 4, 2) := by decide +kernel
theorem dX5_set_9 : decode cX5_set 9 = .ok (.iload_n 2, 1) := by decide +kernel
theorem dX5_set_10 : decode cX5_set 10 = .ok (.invokevirtual 100, 3) := by decide +kernel
theorem dX5_set_13 : decode cX5_set 13 = .ok (.ifCond .ne 13, 3) := by decide +kernel
theorem dX5_set_16 : decode cX5_set 16 = .ok (.new 104, 3) := by decide +kernel
theorem dX5_set_19 : decode cX5_set 19 = .ok (.dup, 1) := by decide +kernel
theorem dX5_set_20 : decode cX5_set 20 = .ok (.ldc 106, 2) := by decide +kernel
theorem dX5_set_22 : decode cX5_set 22 = .ok (.invokespecial 108, 3) := by decide +kernel
theorem dX5_set_25 : decode cX5_set 25 = .ok (.athrow, 1) := by decide +kernel
theorem dX5_set_26 : decode cX5_set 26 = .ok (.iload_n 3, 1) := by decide +kernel
theorem dX5_set_27 : decode cX5_set 27 = .ok (.ifCond .lt 10, 3) := by decide +kernel
theorem dX5_set_30 : decode cX5_set 30 = .ok (.iload_n 3, 1) := by decide +kernel
theorem dX5_set_31 : decode cX5_set 31 = .ok (.sipush 255, 3) := by decide +kernel
theorem dX5_set_34 : decode cX5_set 34 = .ok (.if_icmp .le 13, 3) := by decide +kernel
theorem dX5_set_37 : decode cX5_set 37 = .ok (.new 69, 3) := by decide +kernel
theorem dX5_set_40 : decode cX5_set 40 = .ok (.dup, 1) := by decide +kernel
theorem dX5_set_41 : decode cX5_set 41 = .ok (.ldc 112, 2) := by decide +kernel
theorem dX5_set_43 : decode cX5_set 43 = .ok (.invokespecial 73, 3) := by decide +kernel
theorem dX5_set_46 : decode cX5_set 46 = .ok (.athrow, 1) := by decide +kernel
theorem dX5_set_47 : decode cX5_set 47 = .ok (.aload 4, 2) := by decide +kernel
theorem dX5_set_49 : decode cX5_set 49 = .ok (.getfield 109, 3) := by decide +kernel
theorem dX5_set_52 : decode cX5_set 52 = .ok (.iload_n 2, 1) := by decide +kernel
theorem dX5_set_53 : decode cX5_set 53 = .ok (.iload_n 3, 1) := by decide +kernel
theorem dX5_set_54 : decode cX5_set 54 = .ok (.iastore, 1) := by decide +kernel
theorem dX5_set_55 : decode cX5_set 55 = .ok (.return_, 1) := by decide +kernel
def m_P_set_N_37 (pv : Nat → Int32) (dc : Nat → Option Nat) (v : Nat → Int32) (a0 : Int32)  (b : Nat → Int32) : Option ((Nat → Int32)) := none
def m_P_set_N (a0 : Int32) (a1 : Int32) (a2 : Int32) (pv : Nat → Int32) (dc : Nat → Option Nat) (v : Nat → Int32) (b : Nat → Int32)  : Option ((Nat → Int32)) := (m_P_existing a0 pv dc).bind (fun q1 => (m_F_hasByte_N a1 v b).bind (fun q2 => (if q2 = 0 then none else (if a2 < 0 then m_P_set_N_37 pv dc v a0 b else (if a2 ≤ 255 then zix a1 25 ((some (upd b a1.toNatClampNeg a2))) else m_P_set_N_37 pv dc v a0 b)))))
section
variable {p : Program} {l : Launch} {e : Env} {s : State} {m : MethodId} {args : Array Value} {below : List Frame} {meth : Method} {c : Code} {D : va_G} {w0 : va_W} {aQ aY aS aNs aTs aEs aDc aN bN : Nat} {cd c1 : ClassId} {pv : Nat → Int32} {dc : Nat → Option Nat} {v : Nat → Int32} {a0 : Int32}
set_option maxRecDepth 100000 in
set_option maxHeartbeats 4000000 in
theorem b_P_set_N_37 (G : zG p s m args meth c cX5_set RX5 5 none) (hK : va_K D vwCl (wQDN_t cd c1) s) (hX : zC (va_A w0 s.heap.size) s) (hd : dc a0.toNatClampNeg = some aN) {res : (Nat → Int32)} : ∀ (b : Nat → Int32), m_P_set_N_37 pv dc v a0 b = some res → zB p l e (zR 1 22) s m args below meth c D vwCl (va_A w0 s.heap.size) (MQ below (zQv D vwCl w0 (wQDN aQ aY aS aNs aTs aEs aDc aN bN cd c1 pv dc v res) s.heap.size) args s 0 0 (va_A w0 s.heap.size)) 5 (wQDN aQ aY aS aNs aTs aEs aDc aN bN cd c1 pv dc v b) [] 37 [] := by
  intro b hm H locs ls hP hD hS hl
  unfold m_P_set_N_37 at hm
  have G0 := G
  obtain ⟨hx, hb, hr, hml, hown, hw, hlk⟩ := G
  have hA : ∀ q, s.heap.size ≤ q → va_A w0 s.heap.size q := fun q h => Or.inr h
  cases hm
end
set_option maxRecDepth 100000 in
set_option maxHeartbeats 4000000 in
theorem k_P_set_N (l : Launch) (D : va_G) (aQ aY aS aNs aTs aEs aDc aN bN : Nat) (cd c1 : ClassId) (sz : Nat) (a0 : Int32) (a1 : Int32) (a2 : Int32) (pv : Nat → Int32) (dc : Nat → Option Nat) (v : Nat → Int32) (b : Nat → Int32) (hd : dc a0.toNatClampNeg = some aN) (res : (Nat → Int32)) (hm : m_P_set_N a0 a1 a2 pv dc v b  = some res) : Met l yX5_set (Cond.code yX5_set cX5_set 5 none :: zBIG) (zR 1 22) (va_Pc [.ref aQ, .int a0, .int a1, .int a2] (zP zC D vwCl (wQDN_t cd c1) (wQDN aQ aY aS aNs aTs aEs aDc aN bN cd c1 pv dc v b) sz)) (zQv D vwCl (wQDN aQ aY aS aNs aTs aEs aDc aN bN cd c1 pv dc v b) (wQDN aQ aY aS aNs aTs aEs aDc aN bN cd c1 pv dc v res) sz) 0 0 (va_A (wQDN aQ aY aS aNs aTs aEs aDc aN bN cd c1 pv dc v b) sz) := by
  refine zEnter RX5 [.ref aQ, .int a0, .int a1, .int a2] (by decide) rfl (Nat.le_of_ble_eq_true rfl) (fun p e s m below meth c ls G hK hX hP hD hsz hl => ?_)
  subst hsz
  unfold m_P_set_N at hm
  have hl : lv_has ls 5 [(0, .ref aQ), (1, .int a0), (2, .int a1), (3, .int a2)] := hl
  have hS : va_S (va_A (wQDN aQ aY aS aNs aTs aEs aDc aN bN cd c1 pv dc v b) s.heap.size) s.heap s.heap [] := va_S.rf
  have hA : ∀ q, s.heap.size ≤ q → va_A (wQDN aQ aY aS aNs aTs aEs aDc aN bN cd c1 pv dc v b) s.heap.size q := fun q h => Or.inr h
  have G0 := G
  obtain ⟨hx, hb, hr, hml, hown, hw, hlk⟩ := G
  refine lv_aload_n hx hb dX5_set_0 rfl (lv_at hl 0 rfl) ?_
  refine lv_iload_n hx hb dX5_set_1 rfl (lv_at hl 1 rfl) ?_
  obtain ⟨q1, hq1, hm⟩ := zbind hm
  have hPc := hP.sub (ws' := (wQDf aQ aY aS aNs aTs aEs aDc aN cd pv dc)) [0, 1] rfl
  have hDc := hD.sub (ws' := (wQDf aQ aY aS aNs aTs aEs aDc aN cd pv dc)) [0, 1] (by decide) rfl
  have hKc := hK.sub (tys' := wQDf_t cd) [0] rfl
  have hFc := va_free (wc := (wQDf aQ aY aS aNs aTs aEs aDc aN cd pv dc)) hD hS hA [0, 1] rfl
  refine zbSq (wr := [(aN, .inr (1, [.ref bN, .int (v 1), .int (v 2), .int (v 3), .int (v 4), .int (v 5), .int (v 6), .int (v 7)])), (bN, .inl (c1, 25, .inl b))]) (w1 := (wQDf aQ aY aS aNs aTs aEs aDc aN cd pv dc)) (w' := (wQDN aQ aY aS aNs aTs aEs aDc aN bN cd c1 pv dc v b)) (va_runV (As := [.int a0]) (rest := []) ⟨hx, hb, hml, hown, hw⟩ (k_P_existing l D aQ aY aS aNs aTs aEs aDc aN cd _ a0 pv dc hd q1 hq1) (zcV (C := RX5) 1 hw (zgood zw422) rfl rfl rfl zw176 zw424 zw423 zw425 hdX5_existing ⟨Nat.le_of_ble_eq_true rfl, Nat.le_of_ble_eq_true rfl⟩) (zpreV (zpre zC_ok hX hS hFc hPc hKc hDc) (va_recv hK hP rfl (q0 := 0) rfl)) rfl rfl hl.1 rfl (lv_room (Nat.le_of_ble_eq_true rfl)) dX5_set_2 ⟨Nat.zero_le _, Nat.zero_le _⟩) hP hD hS hFc [0, 1] [2, 3] [2, 3, 0, 1] rfl rfl (by decide) (by decide) rfl (by decide) (fun H locs hP hD hS => ?_)
  refine lv_astore (lv' := [(4, .ref aN), (0, .ref aQ), (1, .int a0), (2, .int a1), (3, .int a2)]) hx hb dX5_set_5 hl (by decide) rfl (fun ls hl => ?_)
  refine lv_aload hx hb dX5_set_7 (lv_at hl 0 rfl) ?_
  refine lv_iload_n hx hb dX5_set_9 rfl (lv_at hl 3 rfl) ?_
  obtain ⟨q2, hq2, hm⟩ := zbind hm
  have hPc := hP.sub (ws' := (wN aN bN c1 v b)) [2, 3] rfl
  have hDc := hD.sub (ws' := (wN aN bN c1 v b)) [2, 3] (by decide) rfl
  have hKc := hK.sub (tys' := wN_t c1) [1] rfl
  have hFc := va_free (wc := (wN aN bN c1 v b)) hD hS hA [2, 3] rfl
  refine zbSi (wr := [(aQ, .inr (4, [.ref aY, .int (pv 1), .ref aS, .ref aNs, .ref aTs, .ref aEs, .ref aDc, .int (pv 7)])), (aDc, .inl (cd, 8, .inr (.inr (.inr (.inr dc)))))]) (w1 := (wN aN bN c1 v b)) (w' := (wQDN aQ aY aS aNs aTs aEs aDc aN bN cd c1 pv dc v b)) (va_runU (As := [.int a1]) (rest := []) ⟨hx, hb, hml, hown, hw⟩ (k_F_hasByte_N l D aN bN c1 _ a1 v b  q2 hq2) (va_cwU (C := RX2) (owner := RX1) (x := ⟨RX1, "hasByte", "(I)Z"⟩) 1 hw (zgoodL (List.forall_mem_cons.mpr ⟨zw438, List.forall_mem_cons.mpr ⟨zw439, List.forall_mem_cons.mpr ⟨zw440, List.forall_mem_cons.mpr ⟨zw437, List.forall_mem_cons.mpr ⟨zw409, fun _ h => absurd h List.not_mem_nil⟩⟩⟩⟩⟩) zw436) rfl rfl rfl rfl (by decide +kernel) ⟨Nat.le_of_ble_eq_true rfl, Nat.le_of_ble_eq_true rfl⟩) (zpreV (zpre zC_ok hX hS hFc hPc hKc hDc) (va_recv hK hP rfl (q0 := 2) rfl)) rfl rfl hl.1 rfl (lv_room (Nat.le_of_ble_eq_true rfl)) dX5_set_10 ⟨Nat.zero_le _, Nat.zero_le _⟩) hP hD hS hFc [2, 3] [0, 1] [0, 1, 2, 3] rfl rfl (by decide) (by decide) rfl (by decide) (fun H locs hP hD hS => ?_)
  refine lv_if_ne (tgt := 26) hx hb dX5_set_13 rfl (fun cd3 => ?_) (fun cd3 => ?_)
  · replace hm := zf cd3 hm
    refine lv_iload_n hx hb dX5_set_26 rfl (lv_at hl 4 rfl) ?_
    refine lv_if_lt (tgt := 37) hx hb dX5_set_27 rfl (fun cd4 => ?_) (fun cd4 => ?_)
    · replace hm := zt cd4 hm
      exact b_P_set_N_37 G0 hK hX hd _ hm _ _ _ hP hD hS (lv_sub hl [] rfl)
    · replace hm := zf cd4 hm
      refine lv_iload_n hx hb dX5_set_30 rfl (lv_at hl 4 rfl) ?_
      refine lv_sipush (v := 255) hx hb dX5_set_31 (by decide) ?_
      refine lv_icmp_le (tgt := 47) hx hb dX5_set_34 rfl (fun cd5 => ?_) (fun cd5 => ?_)
      · replace hm := zt cd5 hm
        refine lv_aload hx hb dX5_set_47 (lv_at hl 0 rfl) ?_
        refine va_get (D := D) (ci := 1) (v := .ref bN) (C := RX2) (T := TX2) (N := 8) hx hb hw zinX2 hown hK hP 2 rfl rfl 0 (by decide) (hw _ zw441) (fun _ h9 => h9) rfl dX5_set_49 ?_
        refine lv_iload_n hx hb dX5_set_52 rfl (lv_at hl 3 rfl) ?_
        refine lv_iload_n hx hb dX5_set_53 rfl (lv_at hl 4 rfl) ?_
        obtain ⟨hi6, hm⟩ := zix_s hm
        refine va_iast (i := a1) (x := a2) (f := b) (n := 25) hx hb hK hP hD hS 3 1 rfl rfl hi6 dX5_set_54 (fun H locs hP hD hS => ?_)
        have hP : va_P D vwCl (wQDN aQ aY aS aNs aTs aEs aDc aN bN cd c1 pv dc v (upd b a1.toNatClampNeg a2)) H := hP
        have hD : va_D _ (wQDN aQ aY aS aNs aTs aEs aDc aN bN cd c1 pv dc v (upd b a1.toNatClampNeg a2)) := hD
        cases hm
        exact zretv hx hb hr hlk hP hD hS dX5_set_55
      · replace hm := zf cd5 hm
        exact b_P_set_N_37 G0 hK hX hd _ hm _ _ _ hP hD hS (lv_sub hl [] rfl)
  · replace hm := zt cd3 hm
    cases hm

theorem dX5_put_0 : decode cX5_put 0 = .ok (.aload_n 0, 1) := by decide +kernel
theorem dX5_put_1 : decode cX5_put 1 = .ok (.iload_n 1, 1) := by decide +kernel
theorem dX5_put_2 : decode cX5_put 2 = .ok (.invokevirtual 77, 3) := by decide +kernel
theorem dX5_put_5 : decode cX5_put 5 = .ok (.astore 5, 2) := by decide +kernel
theorem dX5_put_7 : decode cX5_put 7 = .ok (.iload 4, 2) := by decide +kernel
theorem dX5_put_9 : decode cX5_put 9 = .ok (.ifCond .lt 10, 3) := by decide +kernel
theorem dX5_put_12 : decode cX5_put 12 = .ok (.iload 4, 2) := by decide +kernel
theorem dX5_put_14 : decode cX5_put 14 = .ok (.bipush 6, 2) := by decide +kernel
theorem dX5_put_16 : decode cX5_put 16 = .ok (.if_icmp .le 13, 3) := by decide +kernel
theorem dX5_put_19 : decode cX5_put 19 = .ok (.new 69, 3) := by decide +kernel
theorem dX5_put_22 : decode cX5_put 22 = .ok (.dup, 1) := by decide +kernel
theorem dX5_put_23 : decode cX5_put 23 = .ok (.ldc 114, 2) := by decide +kernel
theorem dX5_put_25 : decode cX5_put 25 = .ok (.invokespecial 73, 3) := by decide +kernel
theorem dX5_put_28 : decode cX5_put 28 = .ok (.athrow, 1) := by decide +kernel
theorem dX5_put_29 : decode cX5_put 29 = .ok (.aload 5, 2) := by decide +kernel
theorem dX5_put_31 : decode cX5_put 31 = .ok (.lload_n 2, 1) := by decide +kernel
theorem dX5_put_32 : decode cX5_put 32 = .ok (.iload 4, 2) := by decide +kernel
theorem dX5_put_34 : decode cX5_put 34 = .ok (.invokevirtual 116, 3) := by decide +kernel
theorem dX5_put_37 : decode cX5_put 37 = .ok (.ifCond .ne 13, 3) := by decide +kernel
theorem dX5_put_40 : decode cX5_put 40 = .ok (.new 120, 3) := by decide +kernel
theorem dX5_put_43 : decode cX5_put 43 = .ok (.dup, 1) := by decide +kernel
theorem dX5_put_44 : decode cX5_put 44 = .ok (.ldc 122, 2) := by decide +kernel
theorem dX5_put_46 : decode cX5_put 46 = .ok (.invokespecial 124, 3) := by decide +kernel
theorem dX5_put_49 : decode cX5_put 49 = .ok (.athrow, 1) := by decide +kernel
theorem dX5_put_50 : decode cX5_put 50 = .ok (.return_, 1) := by decide +kernel
def m_P_put_N_19 (pv : Nat → Int32) (dc : Nat → Option Nat) (v : Nat → Int32) (a0 : Int32)  (b : Nat → Int32) : Option ((Nat → Int32)) := none
def m_P_put_N (a0 : Int32) (a1 : Int64) (a2 : Int32) (pv : Nat → Int32) (dc : Nat → Option Nat) (v : Nat → Int32) (b : Nat → Int32)  : Option ((Nat → Int32)) := (m_P_existing a0 pv dc).bind (fun q1 => (if a2 < 0 then m_P_put_N_19 pv dc v a0 b else (if a2 ≤ 6 then (m_N_takeNumber a1 a2 v b).bind (fun q4 => (if q4.1 = 0 then none else (some q4.2))) else m_P_put_N_19 pv dc v a0 b)))
section
variable {p : Program} {l : Launch} {e : Env} {s : State} {m : MethodId} {args : Array Value} {below : List Frame} {meth : Method} {c : Code} {D : va_G} {w0 : va_W} {aQ aY aS aNs aTs aEs aDc aN bN : Nat} {cd c1 : ClassId} {pv : Nat → Int32} {dc : Nat → Option Nat} {v : Nat → Int32} {a0 : Int32}
set_option maxRecDepth 100000 in
set_option maxHeartbeats 4000000 in
theorem b_P_put_N_19 (G : zG p s m args meth c cX5_put RX5 6 none) (hK : va_K D vwCl (wQDN_t cd c1) s) (hX : zC (va_A w0 s.heap.size) s) (hd : dc a0.toNatClampNeg = some aN) {res : (Nat → Int32)} : ∀ (b : Nat → Int32), m_P_put_N_19 pv dc v a0 b = some res → zB p l e (zR 3 71) s m args below meth c D vwCl (va_A w0 s.heap.size) (MQ below (zQv D vwCl w0 (wQDN aQ aY aS aNs aTs aEs aDc aN bN cd c1 pv dc v res) s.heap.size) args s 0 0 (va_A w0 s.heap.size)) 6 (wQDN aQ aY aS aNs aTs aEs aDc aN bN cd c1 pv dc v b) [] 19 [] := by
  intro b hm H locs ls hP hD hS hl
  unfold m_P_put_N_19 at hm
  have G0 := G
  obtain ⟨hx, hb, hr, hml, hown, hw, hlk⟩ := G
  have hA : ∀ q, s.heap.size ≤ q → va_A w0 s.heap.size q := fun q h => Or.inr h
  cases hm
end
set_option maxRecDepth 100000 in
set_option maxHeartbeats 4000000 in
theorem k_P_put_N (l : Launch) (D : va_G) (aQ aY aS aNs aTs aEs aDc aN bN : Nat) (cd c1 : ClassId) (sz : Nat) (a0 : Int32) (a1 : Int64) (a2 : Int32) (pv : Nat → Int32) (dc : Nat → Option Nat) (v : Nat → Int32) (b : Nat → Int32) (hd : dc a0.toNatClampNeg = some aN) (res : (Nat → Int32)) (hm : m_P_put_N a0 a1 a2 pv dc v b  = some res) : Met l yX5_put (Cond.code yX5_put cX5_put 6 none :: zBIG) (zR 3 71) (va_Pc [.ref aQ, .int a0, .long a1, .int a2] (zP zC D vwCl (wQDN_t cd c1) (wQDN aQ aY aS aNs aTs aEs aDc aN bN cd c1 pv dc v b) sz)) (zQv D vwCl (wQDN aQ aY aS aNs aTs aEs aDc aN bN cd c1 pv dc v b) (wQDN aQ aY aS aNs aTs aEs aDc aN bN cd c1 pv dc v res) sz) 0 0 (va_A (wQDN aQ aY aS aNs aTs aEs aDc aN bN cd c1 pv dc v b) sz) := by
  refine zEnter RX5 [.ref aQ, .int a0, .long a1, .int a2] (by decide) rfl (Nat.le_of_ble_eq_true rfl) (fun p e s m below meth c ls G hK hX hP hD hsz hl => ?_)
  subst hsz
  unfold m_P_put_N at hm
  have hl : lv_has ls 6 [(0, .ref aQ), (1, .int a0), (2, .long a1), (4, .int a2)] := hl
  have hS : va_S (va_A (wQDN aQ aY aS aNs aTs aEs aDc aN bN cd c1 pv dc v b) s.heap.size) s.heap s.heap [] := va_S.rf
  have hA : ∀ q, s.heap.size ≤ q → va_A (wQDN aQ aY aS aNs aTs aEs aDc aN bN cd c1 pv dc v b) s.heap.size q := fun q h => Or.inr h
  have G0 := G
  obtain ⟨hx, hb, hr, hml, hown, hw, hlk⟩ := G
  refine lv_aload_n hx hb dX5_put_0 rfl (lv_at hl 0 rfl) ?_
  refine lv_iload_n hx hb dX5_put_1 rfl (lv_at hl 1 rfl) ?_
  obtain ⟨q1, hq1, hm⟩ := zbind hm
  have hPc := hP.sub (ws' := (wQDf aQ aY aS aNs aTs aEs aDc aN cd pv dc)) [0, 1] rfl
  have hDc := hD.sub (ws' := (wQDf aQ aY aS aNs aTs aEs aDc aN cd pv dc)) [0, 1] (by decide) rfl
  have hKc := hK.sub (tys' := wQDf_t cd) [0] rfl
  have hFc := va_free (wc := (wQDf aQ aY aS aNs aTs aEs aDc aN cd pv dc)) hD hS hA [0, 1] rfl
  refine zbSq (wr := [(aN, .inr (1, [.ref bN, .int (v 1), .int (v 2), .int (v 3), .int (v 4), .int (v 5), .int (v 6), .int (v 7)])), (bN, .inl (c1, 25, .inl b))]) (w1 := (wQDf aQ aY aS aNs aTs aEs aDc aN cd pv dc)) (w' := (wQDN aQ aY aS aNs aTs aEs aDc aN bN cd c1 pv dc v b)) (va_runV (As := [.int a0]) (rest := []) ⟨hx, hb, hml, hown, hw⟩ (k_P_existing l D aQ aY aS aNs aTs aEs aDc aN cd _ a0 pv dc hd q1 hq1) (zcV (C := RX5) 1 hw (zgood zw422) rfl rfl rfl zw176 zw424 zw423 zw425 hdX5_existing ⟨Nat.le_of_ble_eq_true rfl, Nat.le_of_ble_eq_true rfl⟩) (zpreV (zpre zC_ok hX hS hFc hPc hKc hDc) (va_recv hK hP rfl (q0 := 0) rfl)) rfl rfl hl.1 rfl (lv_room (Nat.le_of_ble_eq_true rfl)) dX5_put_2 ⟨Nat.zero_le _, Nat.zero_le _⟩) hP hD hS hFc [0, 1] [2, 3] [2, 3, 0, 1] rfl rfl (by decide) (by decide) rfl (by decide) (fun H locs hP hD hS => ?_)
  refine lv_astore (lv' := [(5, .ref aN), (0, .ref aQ), (1, .int a0), (2, .long a1), (4, .int a2)]) hx hb dX5_put_5 hl (by decide) rfl (fun ls hl => ?_)
  refine lv_iload hx hb dX5_put_7 (lv_at hl 4 rfl) ?_
  refine lv_if_lt (tgt := 19) hx hb dX5_put_9 rfl (fun cd2 => ?_) (fun cd2 => ?_)
  · replace hm := zt cd2 hm
    exact b_P_put_N_19 G0 hK hX hd _ hm _ _ _ hP hD hS (lv_sub hl [] rfl)
  · replace hm := zf cd2 hm
    refine lv_iload hx hb dX5_put_12 (lv_at hl 4 rfl) ?_
    refine lv_bipush (v := 6) hx hb dX5_put_14 (by decide) ?_
    refine lv_icmp_le (tgt := 29) hx hb dX5_put_16 rfl (fun cd3 => ?_) (fun cd3 => ?_)
    · replace hm := zt cd3 hm
      refine lv_aload hx hb dX5_put_29 (lv_at hl 0 rfl) ?_
      refine lv_lload_n hx hb dX5_put_31 rfl (lv_at hl 3 rfl) ?_
      refine lv_iload hx hb dX5_put_32 (lv_at hl 4 rfl) ?_
      obtain ⟨q4, hq4, hm⟩ := zbind hm
      have hPc := hP.sub (ws' := (wN aN bN c1 v b)) [2, 3] rfl
      have hDc := hD.sub (ws' := (wN aN bN c1 v b)) [2, 3] (by decide) rfl
      have hKc := hK.sub (tys' := wN_t c1) [1] rfl
      have hFc := va_free (wc := (wN aN bN c1 v b)) hD hS hA [2, 3] rfl
      refine zbSi (wr := [(aQ, .inr (4, [.ref aY, .int (pv 1), .ref aS, .ref aNs, .ref aTs, .ref aEs, .ref aDc, .int (pv 7)])), (aDc, .inl (cd, 8, .inr (.inr (.inr (.inr dc)))))]) (w1 := (wN aN bN c1 v q4.2)) (w' := (wQDN aQ aY aS aNs aTs aEs aDc aN bN cd c1 pv dc v q4.2)) (va_runU (As := [.long a1, .int a2]) (rest := []) ⟨hx, hb, hml, hown, hw⟩ (k_N_takeNumber l D aN bN c1 _ a1 a2 v b  q4 hq4) (va_cwA (C := RX2) (owner := RX1) (x := ⟨RX1, "takeNumber", "(JI)Z"⟩) 2 hw (zgoodL (List.forall_mem_cons.mpr ⟨zw442, List.forall_mem_cons.mpr ⟨zw387, List.forall_mem_cons.mpr ⟨zw388, List.forall_mem_cons.mpr ⟨zw385, List.forall_mem_cons.mpr ⟨zw210, fun _ h => absurd h List.not_mem_nil⟩⟩⟩⟩⟩) zw384) rfl rfl rfl (hX.1 _ zn11) (by decide +kernel) ⟨Nat.le_of_ble_eq_true rfl, Nat.le_of_ble_eq_true rfl⟩) (zpreV (zpre zC_ok hX hS hFc hPc hKc hDc) (va_recv hK hP rfl (q0 := 2) rfl)) rfl rfl hl.1 rfl (lv_room (Nat.le_of_ble_eq_true rfl)) dX5_put_34 ⟨Nat.zero_le _, Nat.zero_le _⟩) hP hD hS hFc [2, 3] [0, 1] [0, 1, 2, 3] rfl rfl (by decide) (by decide) rfl (by decide) (fun H locs hP hD hS => ?_)
      refine lv_if_ne (tgt := 50) hx hb dX5_put_37 rfl (fun cd5 => ?_) (fun cd5 => ?_)
      · replace hm := zf cd5 hm
        cases hm
        exact zretv hx hb hr hlk hP hD hS dX5_put_50
      · replace hm := zt cd5 hm
        cases hm
    · replace hm := zf cd3 hm
      exact b_P_put_N_19 G0 hK hX hd _ hm _ _ _ hP hD hS (lv_sub hl [] rfl)

def m_P_value_T (a0 : Int32) (pv : Nat → Int32) (dc : Nat → Option Nat) (v : Nat → Int32) (b : Nat → Int32)  : Option ((Int64)) := (m_P_existing a0 pv dc).bind (fun q1 => (m_T_number v b).bind (fun q2 => (some q2)))
section
variable {p : Program} {l : Launch} {e : Env} {s : State} {m : MethodId} {args : Array Value} {below : List Frame} {meth : Method} {c : Code} {D : va_G} {w0 : va_W} {aQ aY aS aNs aTs aEs aDc aT bT : Nat} {cd c1 : ClassId} {pv : Nat → Int32} {dc : Nat → Option Nat} {v : Nat → Int32} {b : Nat → Int32} {a0 : Int32}
end
set_option maxRecDepth 100000 in
set_option maxHeartbeats 4000000 in
theorem k_P_value_T (l : Launch) (D : va_G) (aQ aY aS aNs aTs aEs aDc aT bT : Nat) (cd c1 : ClassId) (sz : Nat) (a0 : Int32) (pv : Nat → Int32) (dc : Nat → Option Nat) (v : Nat → Int32) (b : Nat → Int32) (hd : dc a0.toNatClampNeg = some aT) (res : (Int64)) (hm : m_P_value_T a0 pv dc v b  = some res) : Met l yX5_value (Cond.code yX5_value cX5_value 2 (some .long) :: zBIG) (zR 2 44) (va_Pc [.ref aQ, .int a0] (zP zC D vwCl (wQDT_t cd c1) (wQDT aQ aY aS aNs aTs aEs aDc aT bT cd c1 pv dc v b) sz)) (zQl D vwCl (wQDT aQ aY aS aNs aTs aEs aDc aT bT cd c1 pv dc v b) (wQDT aQ aY aS aNs aTs aEs aDc aT bT cd c1 pv dc v b) sz res) 0 0 (va_A (wQDT aQ aY aS aNs aTs aEs aDc aT bT cd c1 pv dc v b) sz) := by
  refine zEnter RX5 [.ref aQ, .int a0] (by decide) rfl (Nat.le_of_ble_eq_true rfl) (fun p e s m below meth c ls G hK hX hP hD hsz hl => ?_)
  subst hsz
  unfold m_P_value_T at hm
  have hl : lv_has ls 2 [(0, .ref aQ), (1, .int a0)] := hl
  have hS : va_S (va_A (wQDT aQ aY aS aNs aTs aEs aDc aT bT cd c1 pv dc v b) s.heap.size) s.heap s.heap [] := va_S.rf
  have hA : ∀ q, s.heap.size ≤ q → va_A (wQDT aQ aY aS aNs aTs aEs aDc aT bT cd c1 pv dc v b) s.heap.size q := fun q h => Or.inr h
  have G0 := G
  obtain ⟨hx, hb, hr, hml, hown, hw, hlk⟩ := G
  refine lv_aload_n hx hb dX5_value_0 rfl (lv_at hl 0 rfl) ?_
  refine lv_iload_n hx hb dX5_value_1 rfl (lv_at hl 1 rfl) ?_
  obtain ⟨q1, hq1, hm⟩ := zbind hm
  have hPc := hP.sub (ws' := (wQDf aQ aY aS aNs aTs aEs aDc aT cd pv dc)) [0, 1] rfl
  have hDc := hD.sub (ws' := (wQDf aQ aY aS aNs aTs aEs aDc aT cd pv dc)) [0, 1] (by decide) rfl
  have hKc := hK.sub (tys' := wQDf_t cd) [0] rfl
  have hFc := va_free (wc := (wQDf aQ aY aS aNs aTs aEs aDc aT cd pv dc)) hD hS hA [0, 1] rfl
  refine zbSq (wr := [(aT, .inr (3, [.ref bT, .int (v 1), .int (v 2), .int (v 3), .int (v 4)])), (bT, .inl (c1, 25, .inl b))]) (w1 := (wQDf aQ aY aS aNs aTs aEs aDc aT cd pv dc)) (w' := (wQDT aQ aY aS aNs aTs aEs aDc aT bT cd c1 pv dc v b)) (va_runV (As := [.int a0]) (rest := []) ⟨hx, hb, hml, hown, hw⟩ (k_P_existing l D aQ aY aS aNs aTs aEs aDc aT cd _ a0 pv dc hd q1 hq1) (zcV (C := RX5) 1 hw (zgood zw422) rfl rfl rfl zw176 zw424 zw423 zw425 hdX5_existing ⟨Nat.le_of_ble_eq_true rfl, Nat.le_of_ble_eq_true rfl⟩) (zpreV (zpre zC_ok hX hS hFc hPc hKc hDc) (va_recv hK hP rfl (q0 := 0) rfl)) rfl rfl hl.1 rfl (lv_room (Nat.le_of_ble_eq_true rfl)) dX5_value_2 ⟨Nat.zero_le _, Nat.zero_le _⟩) hP hD hS hFc [0, 1] [2, 3] [2, 3, 0, 1] rfl rfl (by decide) (by decide) rfl (by decide) (fun H locs hP hD hS => ?_)
  obtain ⟨q2, hq2, hm⟩ := zbind hm
  have hPc := hP.sub (ws' := (wT aT bT c1 v b)) [2, 3] rfl
  have hDc := hD.sub (ws' := (wT aT bT c1 v b)) [2, 3] (by decide) rfl
  have hKc := hK.sub (tys' := wT_t c1) [1] rfl
  have hFc := va_free (wc := (wT aT bT c1 v b)) hD hS hA [2, 3] rfl
  refine zbSl (wr := [(aQ, .inr (4, [.ref aY, .int (pv 1), .ref aS, .ref aNs, .ref aTs, .ref aEs, .ref aDc, .int (pv 7)])), (aDc, .inl (cd, 8, .inr (.inr (.inr (.inr dc)))))]) (w1 := (wT aT bT c1 v b)) (w' := (wQDT aQ aY aS aNs aTs aEs aDc aT bT cd c1 pv dc v b)) (va_runU (As := []) (rest := []) ⟨hx, hb, hml, hown, hw⟩ (k_T_number l D aT bT c1 _ v b  q2 hq2) (va_cwA (C := RX4) (owner := RX1) (x := ⟨RX1, "number", "()J"⟩) 0 hw (zgoodL (List.forall_mem_cons.mpr ⟨zw426, List.forall_mem_cons.mpr ⟨zw398, List.forall_mem_cons.mpr ⟨zw404, List.forall_mem_cons.mpr ⟨zw403, List.forall_mem_cons.mpr ⟨zw402, fun _ h => absurd h List.not_mem_nil⟩⟩⟩⟩⟩) zw401) rfl rfl rfl (hX.1 _ zn12) (by decide +kernel) ⟨Nat.le_of_ble_eq_true rfl, Nat.le_of_ble_eq_true rfl⟩) (zpreV (zpre zC_ok hX hS hFc hPc hKc hDc) (va_recv hK hP rfl (q0 := 2) rfl)) rfl rfl hl.1 rfl (lv_room (Nat.le_of_ble_eq_true rfl)) dX5_value_5 ⟨Nat.zero_le _, Nat.zero_le _⟩) hP hD hS hFc [2, 3] [0, 1] [0, 1, 2, 3] rfl rfl (by decide) (by decide) rfl (by decide) (fun H locs hP hD hS => ?_)
  cases hm
  exact zretl hx hb hr hlk hP hD hS dX5_value_8

def m_P_look_T (a0 : Int32) (a1 : Int32) (pv : Nat → Int32) (dc : Nat → Option Nat) (v : Nat → Int32) (b : Nat → Int32)  : Option ((Int32)) := (m_P_existing a0 pv dc).bind (fun q1 => (if a1 = 0 then (m_T_kind v b).bind (fun q7 => (some q7)) else (if a1 = 1 then (some (v 1)) else (if a1 = 2 then (some (v 2)) else (if a1 = 3 then (some (v 3)) else (if a1 = 4 then (if (v 4) = 0 then (some 0) else (some 1)) else none))))))
section
variable {p : Program} {l : Launch} {e : Env} {s : State} {m : MethodId} {args : Array Value} {below : List Frame} {meth : Method} {c : Code} {D : va_G} {w0 : va_W} {aQ aY aS aNs aTs aEs aDc aT bT : Nat} {cd c1 : ClassId} {pv : Nat → Int32} {dc : Nat → Option Nat} {v : Nat → Int32} {b : Nat → Int32} {a0 : Int32}
end
set_option maxRecDepth 100000 in
set_option maxHeartbeats 4000000 in
theorem k_P_look_T (l : Launch) (D : va_G) (aQ aY aS aNs aTs aEs aDc aT bT : Nat) (cd c1 : ClassId) (sz : Nat) (a0 : Int32) (a1 : Int32) (pv : Nat → Int32) (dc : Nat → Option Nat) (v : Nat → Int32) (b : Nat → Int32) (hd : dc a0.toNatClampNeg = some aT) (res : (Int32)) (hm : m_P_look_T a0 a1 pv dc v b  = some res) : Met l yX5_look (Cond.code yX5_look cX5_look 4 (some .int) :: zBIG) (zR 1 22) (va_Pc [.ref aQ, .int a0, .int a1] (zP zC D vwCl (wQDT_t cd c1) (wQDT aQ aY aS aNs aTs aEs aDc aT bT cd c1 pv dc v b) sz)) (zQi D vwCl (wQDT aQ aY aS aNs aTs aEs aDc aT bT cd c1 pv dc v b) (wQDT aQ aY aS aNs aTs aEs aDc aT bT cd c1 pv dc v b) sz res) 0 0 (va_A (wQDT aQ aY aS aNs aTs aEs aDc aT bT cd c1 pv dc v b) sz) := by
  refine zEnter RX5 [.ref aQ, .int a0, .int a1] (by decide) rfl (Nat.le_of_ble_eq_true rfl) (fun p e s m below meth c ls G hK hX hP hD hsz hl => ?_)
  subst hsz
  unfold m_P_look_T at hm
  have hl : lv_has ls 4 [(0, .ref aQ), (1, .int a0), (2, .int a1)] := hl
  have hS : va_S (va_A (wQDT aQ aY aS aNs aTs aEs aDc aT bT cd c1 pv dc v b) s.heap.size) s.heap s.heap [] := va_S.rf
  have hA : ∀ q, s.heap.size ≤ q → va_A (wQDT aQ aY aS aNs aTs aEs aDc aT bT cd c1 pv dc v b) s.heap.size q := fun q h => Or.inr h
  have G0 := G
  obtain ⟨hx, hb, hr, hml, hown, hw, hlk⟩ := G
  refine lv_aload_n hx hb dX5_look_0 rfl (lv_at hl 0 rfl) ?_
  refine lv_iload_n hx hb dX5_look_1 rfl (lv_at hl 1 rfl) ?_
  obtain ⟨q1, hq1, hm⟩ := zbind hm
  have hPc := hP.sub (ws' := (wQDf aQ aY aS aNs aTs aEs aDc aT cd pv dc)) [0, 1] rfl
  have hDc := hD.sub (ws' := (wQDf aQ aY aS aNs aTs aEs aDc aT cd pv dc)) [0, 1] (by decide) rfl
  have hKc := hK.sub (tys' := wQDf_t cd) [0] rfl
  have hFc := va_free (wc := (wQDf aQ aY aS aNs aTs aEs aDc aT cd pv dc)) hD hS hA [0, 1] rfl
  refine zbSq (wr := [(aT, .inr (3, [.ref bT, .int (v 1), .int (v 2), .int (v 3), .int (v 4)])), (bT, .inl (c1, 25, .inl b))]) (w1 := (wQDf aQ aY aS aNs aTs aEs aDc aT cd pv dc)) (w' := (wQDT aQ aY aS aNs aTs aEs aDc aT bT cd c1 pv dc v b)) (va_runV (As := [.int a0]) (rest := []) ⟨hx, hb, hml, hown, hw⟩ (k_P_existing l D aQ aY aS aNs aTs aEs aDc aT cd _ a0 pv dc hd q1 hq1) (zcV (C := RX5) 1 hw (zgood zw422) rfl rfl rfl zw176 zw424 zw423 zw425 hdX5_existing ⟨Nat.le_of_ble_eq_true rfl, Nat.le_of_ble_eq_true rfl⟩) (zpreV (zpre zC_ok hX hS hFc hPc hKc hDc) (va_recv hK hP rfl (q0 := 0) rfl)) rfl rfl hl.1 rfl (lv_room (Nat.le_of_ble_eq_true rfl)) dX5_look_2 ⟨Nat.zero_le _, Nat.zero_le _⟩) hP hD hS hFc [0, 1] [2, 3] [2, 3, 0, 1] rfl rfl (by decide) (by decide) rfl (by decide) (fun H locs hP hD hS => ?_)
  refine lv_astore_n (lv' := [(3, .ref aT), (0, .ref aQ), (1, .int a0), (2, .int a1)]) hx hb dX5_look_5 rfl hl (by decide) rfl (fun ls hl => ?_)
  refine lv_iload_n hx hb dX5_look_6 rfl (lv_at hl 3 rfl) ?_
  by_cases cd2 : a1 = 0
  · replace hm := zt cd2 hm
    refine lv_tableIn (off := 33) (tgt := 40) hx hb dX5_look_7 (by rw [cd2]; decide) (by rw [cd2]; decide) (by rw [cd2]; decide) rfl ?_
    refine lv_aload_n hx hb dX5_look_40 rfl (lv_at hl 0 rfl) ?_
    obtain ⟨q7, hq7, hm⟩ := zbind hm
    have hPc := hP.sub (ws' := (wT aT bT c1 v b)) [2, 3] rfl
    have hDc := hD.sub (ws' := (wT aT bT c1 v b)) [2, 3] (by decide) rfl
    have hKc := hK.sub (tys' := wT_t c1) [1] rfl
    have hFc := va_free (wc := (wT aT bT c1 v b)) hD hS hA [2, 3] rfl
    refine zbSi (wr := [(aQ, .inr (4, [.ref aY, .int (pv 1), .ref aS, .ref aNs, .ref aTs, .ref aEs, .ref aDc, .int (pv 7)])), (aDc, .inl (cd, 8, .inr (.inr (.inr (.inr dc)))))]) (w1 := (wT aT bT c1 v b)) (w' := (wQDT aQ aY aS aNs aTs aEs aDc aT bT cd c1 pv dc v b)) (va_runU (As := []) (rest := []) ⟨hx, hb, hml, hown, hw⟩ (k_T_kind l D aT bT c1 _ v b  q7 hq7) (va_cwA (C := RX4) (owner := RX1) (x := ⟨RX1, "kind", "()I"⟩) 0 hw (zgoodL (List.forall_mem_cons.mpr ⟨zw429, List.forall_mem_cons.mpr ⟨zw430, List.forall_mem_cons.mpr ⟨zw445, List.forall_mem_cons.mpr ⟨zw444, List.forall_mem_cons.mpr ⟨zw402, fun _ h => absurd h List.not_mem_nil⟩⟩⟩⟩⟩) zw443) rfl rfl rfl (hX.1 _ zn13) (by decide +kernel) ⟨Nat.le_of_ble_eq_true rfl, Nat.le_of_ble_eq_true rfl⟩) (zpreV (zpre zC_ok hX hS hFc hPc hKc hDc) (va_recv hK hP rfl (q0 := 2) rfl)) rfl rfl hl.1 rfl (lv_room (Nat.le_of_ble_eq_true rfl)) dX5_look_41 ⟨Nat.zero_le _, Nat.zero_le _⟩) hP hD hS hFc [2, 3] [0, 1] [0, 1, 2, 3] rfl rfl (by decide) (by decide) rfl (by decide) (fun H locs hP hD hS => ?_)
    cases hm
    exact zreti hx hb hr hlk hP hD hS dX5_look_44
  · replace hm := zf cd2 hm
    by_cases cd3 : a1 = 1
    · replace hm := zt cd3 hm
      refine lv_tableIn (off := 38) (tgt := 45) hx hb dX5_look_7 (by rw [cd3]; decide) (by rw [cd3]; decide) (by rw [cd3]; decide) rfl ?_
      refine lv_aload_n hx hb dX5_look_45 rfl (lv_at hl 0 rfl) ?_
      refine va_get (D := D) (ci := 3) (v := .int (v 1)) (C := RX4) (T := TX4) (N := 5) hx hb hw zinX4 hown hK hP 2 rfl rfl 1 (by decide) (hw _ zw432) (fun _ h9 => h9) rfl dX5_look_46 ?_
      cases hm
      exact zreti hx hb hr hlk hP hD hS dX5_look_49
    · replace hm := zf cd3 hm
      by_cases cd4 : a1 = 2
      · replace hm := zt cd4 hm
        refine lv_tableIn (off := 43) (tgt := 50) hx hb dX5_look_7 (by rw [cd4]; decide) (by rw [cd4]; decide) (by rw [cd4]; decide) rfl ?_
        refine lv_aload_n hx hb dX5_look_50 rfl (lv_at hl 0 rfl) ?_
        refine va_get (D := D) (ci := 3) (v := .int (v 2)) (C := RX4) (T := TX4) (N := 5) hx hb hw zinX4 hown hK hP 2 rfl rfl 2 (by decide) (hw _ zw433) (fun _ h9 => h9) rfl dX5_look_51 ?_
        cases hm
        exact zreti hx hb hr hlk hP hD hS dX5_look_54
      · replace hm := zf cd4 hm
        by_cases cd5 : a1 = 3
        · replace hm := zt cd5 hm
          refine lv_tableIn (off := 48) (tgt := 55) hx hb dX5_look_7 (by rw [cd5]; decide) (by rw [cd5]; decide) (by rw [cd5]; decide) rfl ?_
          refine lv_aload_n hx hb dX5_look_55 rfl (lv_at hl 0 rfl) ?_
          refine va_get (D := D) (ci := 3) (v := .int (v 3)) (C := RX4) (T := TX4) (N := 5) hx hb hw zinX4 hown hK hP 2 rfl rfl 3 (by decide) (hw _ zw434) (fun _ h9 => h9) rfl dX5_look_56 ?_
          cases hm
          exact zreti hx hb hr hlk hP hD hS dX5_look_59
        · replace hm := zf cd5 hm
          by_cases cd6 : a1 = 4
          · replace hm := zt cd6 hm
            refine lv_tableIn (off := 53) (tgt := 60) hx hb dX5_look_7 (by rw [cd6]; decide) (by rw [cd6]; decide) (by rw [cd6]; decide) rfl ?_
            refine lv_aload_n hx hb dX5_look_60 rfl (lv_at hl 0 rfl) ?_
            refine va_get (D := D) (ci := 3) (v := .int (v 4)) (C := RX4) (T := TX4) (N := 5) hx hb hw zinX4 hown hK hP 2 rfl rfl 4 (by decide) (hw _ zw435) (fun _ h9 => h9) rfl dX5_look_61 ?_
            refine lv_if_eq (tgt := 71) hx hb dX5_look_64 rfl (fun cd8 => ?_) (fun cd8 => ?_)
            · replace hm := zt cd8 hm
              refine lv_iconst (v := 0) hx hb dX5_look_71 (by decide) ?_
              cases hm
              exact zreti hx hb hr hlk hP hD hS dX5_look_72
            · replace hm := zf cd8 hm
              refine lv_iconst (v := 1) hx hb dX5_look_67 (by decide) ?_
              refine lv_goto (tgt := 72) hx hb dX5_look_68 rfl ?_
              cases hm
              exact zreti hx hb hr hlk hP hD hS dX5_look_72
          · replace hm := zf cd6 hm
            have ecd2 := lv_neT cd2 (a := 0) (by decide)
            have ecd3 := lv_neT cd3 (a := 1) (by decide)
            have ecd4 := lv_neT cd4 (a := 2) (by decide)
            have ecd5 := lv_neT cd5 (a := 3) (by decide)
            have ecd6 := lv_neT cd6 (a := 4) (by decide)
            refine lv_tableOut (tgt := 73) hx hb dX5_look_7 (by omega) rfl ?_
            cases hm

def m_P_get_T (a0 : Int32) (a1 : Int32) (pv : Nat → Int32) (dc : Nat → Option Nat) (v : Nat → Int32) (b : Nat → Int32)  : Option ((Int32)) := (m_P_existing a0 pv dc).bind (fun q1 => (m_F_hasByte_T a1 v b).bind (fun q2 => (if q2 = 0 then none else zix a1 25 ((some (b a1.toNatClampNeg))))))
section
variable {p : Program} {l : Launch} {e : Env} {s : State} {m : MethodId} {args : Array Value} {below : List Frame} {meth : Method} {c : Code} {D : va_G} {w0 : va_W} {aQ aY aS aNs aTs aEs aDc aT bT : Nat} {cd c1 : ClassId} {pv : Nat → Int32} {dc : Nat → Option Nat} {v : Nat → Int32} {b : Nat → Int32} {a0 : Int32}
end
set_option maxRecDepth 100000 in
set_option maxHeartbeats 4000000 in
theorem k_P_get_T (l : Launch) (D : va_G) (aQ aY aS aNs aTs aEs aDc aT bT : Nat) (cd c1 : ClassId) (sz : Nat) (a0 : Int32) (a1 : Int32) (pv : Nat → Int32) (dc : Nat → Option Nat) (v : Nat → Int32) (b : Nat → Int32) (hd : dc a0.toNatClampNeg = some aT) (res : (Int32)) (hm : m_P_get_T a0 a1 pv dc v b  = some res) : Met l yX5_get (Cond.code yX5_get cX5_get 4 (some .int) :: zBIG) (zR 1 22) (va_Pc [.ref aQ, .int a0, .int a1] (zP zC D vwCl (wQDT_t cd c1) (wQDT aQ aY aS aNs aTs aEs aDc aT bT cd c1 pv dc v b) sz)) (zQi D vwCl (wQDT aQ aY aS aNs aTs aEs aDc aT bT cd c1 pv dc v b) (wQDT aQ aY aS aNs aTs aEs aDc aT bT cd c1 pv dc v b) sz res) 0 0 (va_A (wQDT aQ aY aS aNs aTs aEs aDc aT bT cd c1 pv dc v b) sz) := by
  refine zEnter RX5 [.ref aQ, .int a0, .int a1] (by decide) rfl (Nat.le_of_ble_eq_true rfl) (fun p e s m below meth c ls G hK hX hP hD hsz hl => ?_)
  subst hsz
  unfold m_P_get_T at hm
  have hl : lv_has ls 4 [(0, .ref aQ), (1, .int a0), (2, .int a1)] := hl
  have hS : va_S (va_A (wQDT aQ aY aS aNs aTs aEs aDc aT bT cd c1 pv dc v b) s.heap.size) s.heap s.heap [] := va_S.rf
  have hA : ∀ q, s.heap.size ≤ q → va_A (wQDT aQ aY aS aNs aTs aEs aDc aT bT cd c1 pv dc v b) s.heap.size q := fun q h => Or.inr h
  have G0 := G
  obtain ⟨hx, hb, hr, hml, hown, hw, hlk⟩ := G
  refine lv_aload_n hx hb dX5_get_0 rfl (lv_at hl 0 rfl) ?_
  refine lv_iload_n hx hb dX5_get_1 rfl (lv_at hl 1 rfl) ?_
  obtain ⟨q1, hq1, hm⟩ := zbind hm
  have hPc := hP.sub (ws' := (wQDf aQ aY aS aNs aTs aEs aDc aT cd pv dc)) [0, 1] rfl
  have hDc := hD.sub (ws' := (wQDf aQ aY aS aNs aTs aEs aDc aT cd pv dc)) [0, 1] (by decide) rfl
  have hKc := hK.sub (tys' := wQDf_t cd) [0] rfl
  have hFc := va_free (wc := (wQDf aQ aY aS aNs aTs aEs aDc aT cd pv dc)) hD hS hA [0, 1] rfl
  refine zbSq (wr := [(aT, .inr (3, [.ref bT, .int (v 1), .int (v 2), .int (v 3), .int (v 4)])), (bT, .inl (c1, 25, .inl b))]) (w1 := (wQDf aQ aY aS aNs aTs aEs aDc aT cd pv dc)) (w' := (wQDT aQ aY aS aNs aTs aEs aDc aT bT cd c1 pv dc v b)) (va_runV (As := [.int a0]) (rest := []) ⟨hx, hb, hml, hown, hw⟩ (k_P_existing l D aQ aY aS aNs aTs aEs aDc aT cd _ a0 pv dc hd q1 hq1) (zcV (C := RX5) 1 hw (zgood zw422) rfl rfl rfl zw176 zw424 zw423 zw425 hdX5_existing ⟨Nat.le_of_ble_eq_true rfl, Nat.le_of_ble_eq_true rfl⟩) (zpreV (zpre zC_ok hX hS hFc hPc hKc hDc) (va_recv hK hP rfl (q0 := 0) rfl)) rfl rfl hl.1 rfl (lv_room (Nat.le_of_ble_eq_true rfl)) dX5_get_2 ⟨Nat.zero_le _, Nat.zero_le _⟩) hP hD hS hFc [0, 1] [2, 3] [2, 3, 0, 1] rfl rfl (by decide) (by decide) rfl (by decide) (fun H locs hP hD hS => ?_)
  refine lv_astore_n (lv' := [(3, .ref aT), (0, .ref aQ), (1, .int a0), (2, .int a1)]) hx hb dX5_get_5 rfl hl (by decide) rfl (fun ls hl => ?_)
  refine lv_aload_n hx hb dX5_get_6 rfl (lv_at hl 0 rfl) ?_
  refine lv_iload_n hx hb dX5_get_7 rfl (lv_at hl 3 rfl) ?_
  obtain ⟨q2, hq2, hm⟩ := zbind hm
  have hPc := hP.sub (ws' := (wT aT bT c1 v b)) [2, 3] rfl
  have hDc := hD.sub (ws' := (wT aT bT c1 v b)) [2, 3] (by decide) rfl
  have hKc := hK.sub (tys' := wT_t c1) [1] rfl
  have hFc := va_free (wc := (wT aT bT c1 v b)) hD hS hA [2, 3] rfl
  refine zbSi (wr := [(aQ, .inr (4, [.ref aY, .int (pv 1), .ref aS, .ref aNs, .ref aTs, .ref aEs, .ref aDc, .int (pv 7)])), (aDc, .inl (cd, 8, .inr (.inr (.inr (.inr dc)))))]) (w1 := (wT aT bT c1 v b)) (w' := (wQDT aQ aY aS aNs aTs aEs aDc aT bT cd c1 pv dc v b)) (va_runU (As := [.int a1]) (rest := []) ⟨hx, hb, hml, hown, hw⟩ (k_F_hasByte_T l D aT bT c1 _ a1 v b  q2 hq2) (va_cwU (C := RX4) (owner := RX1) (x := ⟨RX1, "hasByte", "(I)Z"⟩) 1 hw (zgoodL (List.forall_mem_cons.mpr ⟨zw438, List.forall_mem_cons.mpr ⟨zw439, List.forall_mem_cons.mpr ⟨zw446, List.forall_mem_cons.mpr ⟨zw437, List.forall_mem_cons.mpr ⟨zw409, fun _ h => absurd h List.not_mem_nil⟩⟩⟩⟩⟩) zw436) rfl rfl rfl rfl (by decide +kernel) ⟨Nat.le_of_ble_eq_true rfl, Nat.le_of_ble_eq_true rfl⟩) (zpreV (zpre zC_ok hX hS hFc hPc hKc hDc) (va_recv hK hP rfl (q0 := 2) rfl)) rfl rfl hl.1 rfl (lv_room (Nat.le_of_ble_eq_true rfl)) dX5_get_8 ⟨Nat.zero_le _, Nat.zero_le _⟩) hP hD hS hFc [2, 3] [0, 1] [0, 1, 2, 3] rfl rfl (by decide) (by decide) rfl (by decide) (fun H locs hP hD hS => ?_)
  refine lv_if_ne (tgt := 24) hx hb dX5_get_11 rfl (fun cd3 => ?_) (fun cd3 => ?_)
  · replace hm := zf cd3 hm
    refine lv_aload_n hx hb dX5_get_24 rfl (lv_at hl 0 rfl) ?_
    refine va_get (D := D) (ci := 3) (v := .ref bT) (C := RX4) (T := TX4) (N := 5) hx hb hw zinX4 hown hK hP 2 rfl rfl 0 (by decide) (hw _ zw441) (fun _ h9 => h9) rfl dX5_get_25 ?_
    refine lv_iload_n hx hb dX5_get_28 rfl (lv_at hl 3 rfl) ?_
    obtain ⟨hi4, hm⟩ := zix_s hm
    refine va_iald (i := a1) (f := b) (n := 25) hx hb hK hP 3 1 rfl rfl hi4 dX5_get_29 ?_
    cases hm
    exact zreti hx hb hr hlk hP hD hS dX5_get_30
  · replace hm := zt cd3 hm
    cases hm

def m_P_set_T_37 (pv : Nat → Int32) (dc : Nat → Option Nat) (v : Nat → Int32) (a0 : Int32)  (b : Nat → Int32) : Option ((Nat → Int32)) := none
def m_P_set_T (a0 : Int32) (a1 : Int32) (a2 : Int32) (pv : Nat → Int32) (dc : Nat → Option Nat) (v : Nat → Int32) (b : Nat → Int32)  : Option ((Nat → Int32)) := (m_P_existing a0 pv dc).bind (fun q1 => (m_F_hasByte_T a1 v b).bind (fun q2 => (if q2 = 0 then none else (if a2 < 0 then m_P_set_T_37 pv dc v a0 b else (if a2 ≤ 255 then zix a1 25 ((some (upd b a1.toNatClampNeg a2))) else m_P_set_T_37 pv dc v a0 b)))))
section
variable {p : Program} {l : Launch} {e : Env} {s : State} {m : MethodId} {args : Array Value} {below : List Frame} {meth : Method} {c : Code} {D : va_G} {w0 : va_W} {aQ aY aS aNs aTs aEs aDc aT bT : Nat} {cd c1 : ClassId} {pv : Nat → Int32} {dc : Nat → Option Nat} {v : Nat → Int32} {a0 : Int32}
set_option maxRecDepth 100000 in
set_option maxHeartbeats 4000000 in
theorem b_P_set_T_37 (G : zG p s m args meth c cX5_set RX5 5 none) (hK : va_K D vwCl (wQDT_t cd c1) s) (hX : zC (va_A w0 s.heap.size) s) (hd : dc a0.toNatClampNeg = some aT) {res : (Nat → Int32)} : ∀ (b : Nat → Int32), m_P_set_T_37 pv dc v a0 b = some res → zB p l e (zR 1 22) s m args below meth c D vwCl (va_A w0 s.heap.size) (MQ below (zQv D vwCl w0 (wQDT aQ aY aS aNs aTs aEs aDc aT bT cd c1 pv dc v res) s.heap.size) args s 0 0 (va_A w0 s.heap.size)) 5 (wQDT aQ aY aS aNs aTs aEs aDc aT bT cd c1 pv dc v b) [] 37 [] := by
  intro b hm H locs ls hP hD hS hl
  unfold m_P_set_T_37 at hm
  have G0 := G
  obtain ⟨hx, hb, hr, hml, hown, hw, hlk⟩ := G
  have hA : ∀ q, s.heap.size ≤ q → va_A w0 s.heap.size q := fun q h => Or.inr h
  cases hm
end
set_option maxRecDepth 100000 in
set_option maxHeartbeats 4000000 in
theorem k_P_set_T (l : Launch) (D : va_G) (aQ aY aS aNs aTs aEs aDc aT bT : Nat) (cd c1 : ClassId) (sz : Nat) (a0 : Int32) (a1 : Int32) (a2 : Int32) (pv : Nat → Int32) (dc : Nat → Option Nat) (v : Nat → Int32) (b : Nat → Int32) (hd : dc a0.toNatClampNeg = some aT) (res : (Nat → Int32)) (hm : m_P_set_T a0 a1 a2 pv dc v b  = some res) : Met l yX5_set (Cond.code yX5_set cX5_set 5 none :: zBIG) (zR 1 22) (va_Pc [.ref aQ, .int a0, .int a1, .int a2] (zP zC D vwCl (wQDT_t cd c1) (wQDT aQ aY aS aNs aTs aEs aDc aT bT cd c1 pv dc v b) sz)) (zQv D vwCl (wQDT aQ aY aS aNs aTs aEs aDc aT bT cd c1 pv dc v b) (wQDT aQ aY aS aNs aTs aEs aDc aT bT cd c1 pv dc v res) sz) 0 0 (va_A (wQDT aQ aY aS aNs aTs aEs aDc aT bT cd c1 pv dc v b) sz) := by
  refine zEnter RX5 [.ref aQ, .int a0, .int a1, .int a2] (by decide) rfl (Nat.le_of_ble_eq_true rfl) (fun p e s m below meth c ls G hK hX hP hD hsz hl => ?_)
  subst hsz
  unfold m_P_set_T at hm
  have hl : lv_has ls 5 [(0, .ref aQ), (1, .int a0), (2, .int a1), (3, .int a2)] := hl
  have hS : va_S (va_A (wQDT aQ aY aS aNs aTs aEs aDc aT bT cd c1 pv dc v b) s.heap.size) s.heap s.heap [] := va_S.rf
  have hA : ∀ q, s.heap.size ≤ q → va_A (wQDT aQ aY aS aNs aTs aEs aDc aT bT cd c1 pv dc v b) s.heap.size q := fun q h => Or.inr h
  have G0 := G
  obtain ⟨hx, hb, hr, hml, hown, hw, hlk⟩ := G
  refine lv_aload_n hx hb dX5_set_0 rfl (lv_at hl 0 rfl) ?_
  refine lv_iload_n hx hb dX5_set_1 rfl (lv_at hl 1 rfl) ?_
  obtain ⟨q1, hq1, hm⟩ := zbind hm
  have hPc := hP.sub (ws' := (wQDf aQ aY aS aNs aTs aEs aDc aT cd pv dc)) [0, 1] rfl
  have hDc := hD.sub (ws' := (wQDf aQ aY aS aNs aTs aEs aDc aT cd pv dc)) [0, 1] (by decide) rfl
  have hKc := hK.sub (tys' := wQDf_t cd) [0] rfl
  have hFc := va_free (wc := (wQDf aQ aY aS aNs aTs aEs aDc aT cd pv dc)) hD hS hA [0, 1] rfl
  refine zbSq (wr := [(aT, .inr (3, [.ref bT, .int (v 1), .int (v 2), .int (v 3), .int (v 4)])), (bT, .inl (c1, 25, .inl b))]) (w1 := (wQDf aQ aY aS aNs aTs aEs aDc aT cd pv dc)) (w' := (wQDT aQ aY aS aNs aTs aEs aDc aT bT cd c1 pv dc v b)) (va_runV (As := [.int a0]) (rest := []) ⟨hx, hb, hml, hown, hw⟩ (k_P_existing l D aQ aY aS aNs aTs aEs aDc aT cd _ a0 pv dc hd q1 hq1) (zcV (C := RX5) 1 hw (zgood zw422) rfl rfl rfl zw176 zw424 zw423 zw425 hdX5_existing ⟨Nat.le_of_ble_eq_true rfl, Nat.le_of_ble_eq_true rfl⟩) (zpreV (zpre zC_ok hX hS hFc hPc hKc hDc) (va_recv hK hP rfl (q0 := 0) rfl)) rfl rfl hl.1 rfl (lv_room (Nat.le_of_ble_eq_true rfl)) dX5_set_2 ⟨Nat.zero_le _, Nat.zero_le _⟩) hP hD hS hFc [0, 1] [2, 3] [2, 3, 0, 1] rfl rfl (by decide) (by decide) rfl (by decide) (fun H locs hP hD hS => ?_)
  refine lv_astore (lv' := [(4, .ref aT), (0, .ref aQ), (1, .int a0), (2, .int a1), (3, .int a2)]) hx hb dX5_set_5 hl (by decide) rfl (fun ls hl => ?_)
  refine lv_aload hx hb dX5_set_7 (lv_at hl 0 rfl) ?_
  refine lv_iload_n hx hb dX5_set_9 rfl (lv_at hl 3 rfl) ?_
  obtain ⟨q2, hq2, hm⟩ := zbind hm
  have hPc := hP.sub (ws' := (wT aT bT c1 v b)) [2, 3] rfl
  have hDc := hD.sub (ws' := (wT aT bT c1 v b)) [2, 3] (by decide) rfl
  have hKc := hK.sub (tys' := wT_t c1) [1] rfl
  have hFc := va_free (wc := (wT aT bT c1 v b)) hD hS hA [2, 3] rfl
  refine zbSi (wr := [(aQ, .inr (4, [.ref aY, .int (pv 1), .ref aS, .ref aNs, .ref aTs, .ref aEs, .ref aDc, .int (pv 7)])), (aDc, .inl (cd, 8, .inr (.inr (.inr (.inr dc)))))]) (w1 := (wT aT bT c1 v b)) (w' := (wQDT aQ aY aS aNs aTs aEs aDc aT bT cd c1 pv dc v b)) (va_runU (As := [.int a1]) (rest := []) ⟨hx, hb, hml, hown, hw⟩ (k_F_hasByte_T l D aT bT c1 _ a1 v b  q2 hq2) (va_cwU (C := RX4) (owner := RX1) (x := ⟨RX1, "hasByte", "(I)Z"⟩) 1 hw (zgoodL (List.forall_mem_cons.mpr ⟨zw438, List.forall_mem_cons.mpr ⟨zw439, List.forall_mem_cons.mpr ⟨zw446, List.forall_mem_cons.mpr ⟨zw437, List.forall_mem_cons.mpr ⟨zw409, fun _ h => absurd h List.not_mem_nil⟩⟩⟩⟩⟩) zw436) rfl rfl rfl rfl (by decide +kernel) ⟨Nat.le_of_ble_eq_true rfl, Nat.le_of_ble_eq_true rfl⟩) (zpreV (zpre zC_ok hX hS hFc hPc hKc hDc) (va_recv hK hP rfl (q0 := 2) rfl)) rfl rfl hl.1 rfl (lv_room (Nat.le_of_ble_eq_true rfl)) dX5_set_10 ⟨Nat.zero_le _, Nat.zero_le _⟩) hP hD hS hFc [2, 3] [0, 1] [0, 1, 2, 3] rfl rfl (by decide) (by decide) rfl (by decide) (fun H locs hP hD hS => ?_)
  refine lv_if_ne (tgt := 26) hx hb dX5_set_13 rfl (fun cd3 => ?_) (fun cd3 => ?_)
  · replace hm := zf cd3 hm
    refine lv_iload_n hx hb dX5_set_26 rfl (lv_at hl 4 rfl) ?_
    refine lv_if_lt (tgt := 37) hx hb dX5_set_27 rfl (fun cd4 => ?_) (fun cd4 => ?_)
    · replace hm := zt cd4 hm
      exact b_P_set_T_37 G0 hK hX hd _ hm _ _ _ hP hD hS (lv_sub hl [] rfl)
    · replace hm := zf cd4 hm
      refine lv_iload_n hx hb dX5_set_30 rfl (lv_at hl 4 rfl) ?_
      refine lv_sipush (v := 255) hx hb dX5_set_31 (by decide) ?_
      refine lv_icmp_le (tgt := 47) hx hb dX5_set_34 rfl (fun cd5 => ?_) (fun cd5 => ?_)
      · replace hm := zt cd5 hm
        refine lv_aload hx hb dX5_set_47 (lv_at hl 0 rfl) ?_
        refine va_get (D := D) (ci := 3) (v := .ref bT) (C := RX4) (T := TX4) (N := 5) hx hb hw zinX4 hown hK hP 2 rfl rfl 0 (by decide) (hw _ zw441) (fun _ h9 => h9) rfl dX5_set_49 ?_
        refine lv_iload_n hx hb dX5_set_52 rfl (lv_at hl 3 rfl) ?_
        refine lv_iload_n hx hb dX5_set_53 rfl (lv_at hl 4 rfl) ?_
        obtain ⟨hi6, hm⟩ := zix_s hm
        refine va_iast (i := a1) (x := a2) (f := b) (n := 25) hx hb hK hP hD hS 3 1 rfl rfl hi6 dX5_set_54 (fun H locs hP hD hS => ?_)
        have hP : va_P D vwCl (wQDT aQ aY aS aNs aTs aEs aDc aT bT cd c1 pv dc v (upd b a1.toNatClampNeg a2)) H := hP
        have hD : va_D _ (wQDT aQ aY aS aNs aTs aEs aDc aT bT cd c1 pv dc v (upd b a1.toNatClampNeg a2)) := hD
        cases hm
        exact zretv hx hb hr hlk hP hD hS dX5_set_55
      · replace hm := zf cd5 hm
        exact b_P_set_T_37 G0 hK hX hd _ hm _ _ _ hP hD hS (lv_sub hl [] rfl)
  · replace hm := zt cd3 hm
    cases hm

def m_P_value_E (a0 : Int32) (pv : Nat → Int32) (dc : Nat → Option Nat) (v : Nat → Int32) (b : Nat → Int32) (rw : Nat → Int32) (pw : Nat → Int32)  : Option ((Int64)) := (m_P_existing a0 pv dc).bind (fun q1 => (m_E_number v b rw pw).bind (fun q2 => (some q2)))
section
variable {p : Program} {l : Launch} {e : Env} {s : State} {m : MethodId} {args : Array Value} {below : List Frame} {meth : Method} {c : Code} {D : va_G} {w0 : va_W} {aQ aY aS aNs aTs aEs aDc aE bE rE pE : Nat} {cd c1 c2 c3 : ClassId} {pv : Nat → Int32} {dc : Nat → Option Nat} {v : Nat → Int32} {b : Nat → Int32} {rw : Nat → Int32} {pw : Nat → Int32} {a0 : Int32}
end
set_option maxRecDepth 100000 in
set_option maxHeartbeats 4000000 in
theorem k_P_value_E (l : Launch) (D : va_G) (aQ aY aS aNs aTs aEs aDc aE bE rE pE : Nat) (cd c1 c2 c3 : ClassId) (sz : Nat) (a0 : Int32) (pv : Nat → Int32) (dc : Nat → Option Nat) (v : Nat → Int32) (b : Nat → Int32) (rw : Nat → Int32) (pw : Nat → Int32) (hd : dc a0.toNatClampNeg = some aE) (res : (Int64)) (hm : m_P_value_E a0 pv dc v b rw pw  = some res) : Met l yX5_value (Cond.code yX5_value cX5_value 2 (some .long) :: zBIG) (zR 3 65) (va_Pc [.ref aQ, .int a0] (zP zC D vwCl (wQDE_t cd c1 c2 c3) (wQDE aQ aY aS aNs aTs aEs aDc aE bE rE pE cd c1 c2 c3 pv dc v b rw pw) sz)) (zQl D vwCl (wQDE aQ aY aS aNs aTs aEs aDc aE bE rE pE cd c1 c2 c3 pv dc v b rw pw) (wQDE aQ aY aS aNs aTs aEs aDc aE bE rE pE cd c1 c2 c3 pv dc v b rw pw) sz res) 0 0 (va_A (wQDE aQ aY aS aNs aTs aEs aDc aE bE rE pE cd c1 c2 c3 pv dc v b rw pw) sz) := by
  refine zEnter RX5 [.ref aQ, .int a0] (by decide) rfl (Nat.le_of_ble_eq_true rfl) (fun p e s m below meth c ls G hK hX hP hD hsz hl => ?_)
  subst hsz
  unfold m_P_value_E at hm
  have hl : lv_has ls 2 [(0, .ref aQ), (1, .int a0)] := hl
  have hS : va_S (va_A (wQDE aQ aY aS aNs aTs aEs aDc aE bE rE pE cd c1 c2 c3 pv dc v b rw pw) s.heap.size) s.heap s.heap [] := va_S.rf
  have hA : ∀ q, s.heap.size ≤ q → va_A (wQDE aQ aY aS aNs aTs aEs aDc aE bE rE pE cd c1 c2 c3 pv dc v b rw pw) s.heap.size q := fun q h => Or.inr h
  have G0 := G
  obtain ⟨hx, hb, hr, hml, hown, hw, hlk⟩ := G
  refine lv_aload_n hx hb dX5_value_0 rfl (lv_at hl 0 rfl) ?_
  refine lv_iload_n hx hb dX5_value_1 rfl (lv_at hl 1 rfl) ?_
  obtain ⟨q1, hq1, hm⟩ := zbind hm
  have hPc := hP.sub (ws' := (wQDf aQ aY aS aNs aTs aEs aDc aE cd pv dc)) [0, 1] rfl
  have hDc := hD.sub (ws' := (wQDf aQ aY aS aNs aTs aEs aDc aE cd pv dc)) [0, 1] (by decide) rfl
  have hKc := hK.sub (tys' := wQDf_t cd) [0] rfl
  have hFc := va_free (wc := (wQDf aQ aY aS aNs aTs aEs aDc aE cd pv dc)) hD hS hA [0, 1] rfl
  refine zbSq (wr := [(aE, .inr (0, [.ref bE, .int (v 1), .int (v 2), .int (v 3), .int (v 4), .ref rE, .ref pE, .int (v 7), .int (v 8), .int (v 9), .int (v 10), .int (v 11), .int (v 12), .int (v 13), .int (v 14), .int (v 15)])), (bE, .inl (c1, 25, .inl b)), (rE, .inl (c2, 24, .inl rw)), (pE, .inl (c3, 24, .inl pw))]) (w1 := (wQDf aQ aY aS aNs aTs aEs aDc aE cd pv dc)) (w' := (wQDE aQ aY aS aNs aTs aEs aDc aE bE rE pE cd c1 c2 c3 pv dc v b rw pw)) (va_runV (As := [.int a0]) (rest := []) ⟨hx, hb, hml, hown, hw⟩ (k_P_existing l D aQ aY aS aNs aTs aEs aDc aE cd _ a0 pv dc hd q1 hq1) (zcV (C := RX5) 1 hw (zgood zw422) rfl rfl rfl zw176 zw424 zw423 zw425 hdX5_existing ⟨Nat.le_of_ble_eq_true rfl, Nat.le_of_ble_eq_true rfl⟩) (zpreV (zpre zC_ok hX hS hFc hPc hKc hDc) (va_recv hK hP rfl (q0 := 0) rfl)) rfl rfl hl.1 rfl (lv_room (Nat.le_of_ble_eq_true rfl)) dX5_value_2 ⟨Nat.zero_le _, Nat.zero_le _⟩) hP hD hS hFc [0, 1] [2, 3, 4, 5] [4, 5, 0, 1, 2, 3] rfl rfl (by decide) (by decide) rfl (by decide) (fun H locs hP hD hS => ?_)
  obtain ⟨q2, hq2, hm⟩ := zbind hm
  have hPc := hP.sub (ws' := (wE aE bE rE pE c1 c2 c3 v b rw pw)) [2, 3, 4, 5] rfl
  have hDc := hD.sub (ws' := (wE aE bE rE pE c1 c2 c3 v b rw pw)) [2, 3, 4, 5] (by decide) rfl
  have hKc := hK.sub (tys' := wE_t c1 c2 c3) [1, 2, 3] rfl
  have hFc := va_free (wc := (wE aE bE rE pE c1 c2 c3 v b rw pw)) hD hS hA [2, 3, 4, 5] rfl
  refine zbSl (wr := [(aQ, .inr (4, [.ref aY, .int (pv 1), .ref aS, .ref aNs, .ref aTs, .ref aEs, .ref aDc, .int (pv 7)])), (aDc, .inl (cd, 8, .inr (.inr (.inr (.inr dc)))))]) (w1 := (wE aE bE rE pE c1 c2 c3 v b rw pw)) (w' := (wQDE aQ aY aS aNs aTs aEs aDc aE bE rE pE cd c1 c2 c3 pv dc v b rw pw)) (va_runU (As := []) (rest := []) ⟨hx, hb, hml, hown, hw⟩ (k_E_number l D aE bE rE pE c1 c2 c3 _ v b rw pw  q2 hq2) (va_cwA (C := RX0) (owner := RX1) (x := ⟨RX1, "number", "()J"⟩) 0 hw (zgoodL (List.forall_mem_cons.mpr ⟨zw426, List.forall_mem_cons.mpr ⟨zw398, List.forall_mem_cons.mpr ⟨zw407, List.forall_mem_cons.mpr ⟨zw406, List.forall_mem_cons.mpr ⟨zw259, fun _ h => absurd h List.not_mem_nil⟩⟩⟩⟩⟩) zw405) rfl rfl rfl (hX.1 _ zn12) (by decide +kernel) ⟨Nat.le_of_ble_eq_true rfl, Nat.le_of_ble_eq_true rfl⟩) (zpreV (zpre zC_ok hX hS hFc hPc hKc hDc) (va_recv hK hP rfl (q0 := 2) rfl)) rfl rfl hl.1 rfl (lv_room (Nat.le_of_ble_eq_true rfl)) dX5_value_5 ⟨Nat.zero_le _, Nat.zero_le _⟩) hP hD hS hFc [2, 3, 4, 5] [0, 1] [0, 1, 2, 3, 4, 5] rfl rfl (by decide) (by decide) rfl (by decide) (fun H locs hP hD hS => ?_)
  cases hm
  exact zretl hx hb hr hlk hP hD hS dX5_value_8

def m_P_look_E (a0 : Int32) (a1 : Int32) (pv : Nat → Int32) (dc : Nat → Option Nat) (v : Nat → Int32) (b : Nat → Int32) (rw : Nat → Int32) (pw : Nat → Int32)  : Option ((Int32)) := (m_P_existing a0 pv dc).bind (fun q1 => (if a1 = 0 then (m_E_kind v b rw pw).bind (fun q7 => (some q7)) else (if a1 = 1 then (some (v 1)) else (if a1 = 2 then (some (v 2)) else (if a1 = 3 then (some (v 3)) else (if a1 = 4 then (if (v 4) = 0 then (some 0) else (some 1)) else none))))))
section
variable {p : Program} {l : Launch} {e : Env} {s : State} {m : MethodId} {args : Array Value} {below : List Frame} {meth : Method} {c : Code} {D : va_G} {w0 : va_W} {aQ aY aS aNs aTs aEs aDc aE bE rE pE : Nat} {cd c1 c2 c3 : ClassId} {pv : Nat → Int32} {dc : Nat → Option Nat} {v : Nat → Int32} {b : Nat → Int32} {rw : Nat → Int32} {pw : Nat → Int32} {a0 : Int32}
end
set_option maxRecDepth 100000 in
set_option maxHeartbeats 4000000 in
theorem k_P_look_E (l : Launch) (D : va_G) (aQ aY aS aNs aTs aEs aDc aE bE rE pE : Nat) (cd c1 c2 c3 : ClassId) (sz : Nat) (a0 : Int32) (a1 : Int32) (pv : Nat → Int32) (dc : Nat → Option Nat) (v : Nat → Int32) (b : Nat → Int32) (rw : Nat → Int32) (pw : Nat → Int32) (hd : dc a0.toNatClampNeg = some aE) (res : (Int32)) (hm : m_P_look_E a0 a1 pv dc v b rw pw  = some res) : Met l yX5_look (Cond.code yX5_look cX5_look 4 (some .int) :: zBIG) (zR 1 22) (va_Pc [.ref aQ, .int a0, .int a1] (zP zC D vwCl (wQDE_t cd c1 c2 c3) (wQDE aQ aY aS aNs aTs aEs aDc aE bE rE pE cd c1 c2 c3 pv dc v b rw pw) sz)) (zQi D vwCl (wQDE aQ aY aS aNs aTs aEs aDc aE bE rE pE cd c1 c2 c3 pv dc v b rw pw) (wQDE aQ aY aS aNs aTs aEs aDc aE bE rE pE cd c1 c2 c3 pv dc v b rw pw) sz res) 0 0 (va_A (wQDE aQ aY aS aNs aTs aEs aDc aE bE rE pE cd c1 c2 c3 pv dc v b rw pw) sz) := by
  refine zEnter RX5 [.ref aQ, .int a0, .int a1] (by decide) rfl (Nat.le_of_ble_eq_true rfl) (fun p e s m below meth c ls G hK hX hP hD hsz hl => ?_)
  subst hsz
  unfold m_P_look_E at hm
  have hl : lv_has ls 4 [(0, .ref aQ), (1, .int a0), (2, .int a1)] := hl
  have hS : va_S (va_A (wQDE aQ aY aS aNs aTs aEs aDc aE bE rE pE cd c1 c2 c3 pv dc v b rw pw) s.heap.size) s.heap s.heap [] := va_S.rf
  have hA : ∀ q, s.heap.size ≤ q → va_A (wQDE aQ aY aS aNs aTs aEs aDc aE bE rE pE cd c1 c2 c3 pv dc v b rw pw) s.heap.size q := fun q h => Or.inr h
  have G0 := G
  obtain ⟨hx, hb, hr, hml, hown, hw, hlk⟩ := G
  refine lv_aload_n hx hb dX5_look_0 rfl (lv_at hl 0 rfl) ?_
  refine lv_iload_n hx hb dX5_look_1 rfl (lv_at hl 1 rfl) ?_
  obtain ⟨q1, hq1, hm⟩ := zbind hm
  have hPc := hP.sub (ws' := (wQDf aQ aY aS aNs aTs aEs aDc aE cd pv dc)) [0, 1] rfl
  have hDc := hD.sub (ws' := (wQDf aQ aY aS aNs aTs aEs aDc aE cd pv dc)) [0, 1] (by decide) rfl
  have hKc := hK.sub (tys' := wQDf_t cd) [0] rfl
  have hFc := va_free (wc := (wQDf aQ aY aS aNs aTs aEs aDc aE cd pv dc)) hD hS hA [0, 1] rfl
  refine zbSq (wr := [(aE, .inr (0, [.ref bE, .int (v 1), .int (v 2), .int (v 3), .int (v 4), .ref rE, .ref pE, .int (v 7), .int (v 8), .int (v 9), .int (v 10), .int (v 11), .int (v 12), .int (v 13), .int (v 14), .int (v 15)])), (bE, .inl (c1, 25, .inl b)), (rE, .inl (c2, 24, .inl rw)), (pE, .inl (c3, 24, .inl pw))]) (w1 := (wQDf aQ aY aS aNs aTs aEs aDc aE cd pv dc)) (w' := (wQDE aQ aY aS aNs aTs aEs aDc aE bE rE pE cd c1 c2 c3 pv dc v b rw pw)) (va_runV (As := [.int a0]) (rest := []) ⟨hx, hb, hml, hown, hw⟩ (k_P_existing l D aQ aY aS aNs aTs aEs aDc aE cd _ a0 pv dc hd q1 hq1) (zcV (C := RX5) 1 hw (zgood zw422) rfl rfl rfl zw176 zw424 zw423 zw425 hdX5_existing ⟨Nat.le_of_ble_eq_true rfl, Nat.le_of_ble_eq_true rfl⟩) (zpreV (zpre zC_ok hX hS hFc hPc hKc hDc) (va_recv hK hP rfl (q0 := 0) rfl)) rfl rfl hl.1 rfl (lv_room (Nat.le_of_ble_eq_true rfl)) dX5_look_2 ⟨Nat.zero_le _, Nat.zero_le _⟩) hP hD hS hFc [0, 1] [2, 3, 4, 5] [4, 5, 0, 1, 2, 3] rfl rfl (by decide) (by decide) rfl (by decide) (fun H locs hP hD hS => ?_)
  refine lv_astore_n (lv' := [(3, .ref aE), (0, .ref aQ), (1, .int a0), (2, .int a1)]) hx hb dX5_look_5 rfl hl (by decide) rfl (fun ls hl => ?_)
  refine lv_iload_n hx hb dX5_look_6 rfl (lv_at hl 3 rfl) ?_
  by_cases cd2 : a1 = 0
  · replace hm := zt cd2 hm
    refine lv_tableIn (off := 33) (tgt := 40) hx hb dX5_look_7 (by rw [cd2]; decide) (by rw [cd2]; decide) (by rw [cd2]; decide) rfl ?_
    refine lv_aload_n hx hb dX5_look_40 rfl (lv_at hl 0 rfl) ?_
    obtain ⟨q7, hq7, hm⟩ := zbind hm
    have hPc := hP.sub (ws' := (wE aE bE rE pE c1 c2 c3 v b rw pw)) [2, 3, 4, 5] rfl
    have hDc := hD.sub (ws' := (wE aE bE rE pE c1 c2 c3 v b rw pw)) [2, 3, 4, 5] (by decide) rfl
    have hKc := hK.sub (tys' := wE_t c1 c2 c3) [1, 2, 3] rfl
    have hFc := va_free (wc := (wE aE bE rE pE c1 c2 c3 v b rw pw)) hD hS hA [2, 3, 4, 5] rfl
    refine zbSi (wr := [(aQ, .inr (4, [.ref aY, .int (pv 1), .ref aS, .ref aNs, .ref aTs, .ref aEs, .ref aDc, .int (pv 7)])), (aDc, .inl (cd, 8, .inr (.inr (.inr (.inr dc)))))]) (w1 := (wE aE bE rE pE c1 c2 c3 v b rw pw)) (w' := (wQDE aQ aY aS aNs aTs aEs aDc aE bE rE pE cd c1 c2 c3 pv dc v b rw pw)) (va_runU (As := []) (rest := []) ⟨hx, hb, hml, hown, hw⟩ (k_E_kind l D aE bE rE pE c1 c2 c3 _ v b rw pw  q7 hq7) (va_cwA (C := RX0) (owner := RX1) (x := ⟨RX1, "kind", "()I"⟩) 0 hw (zgoodL (List.forall_mem_cons.mpr ⟨zw429, List.forall_mem_cons.mpr ⟨zw430, List.forall_mem_cons.mpr ⟨zw449, List.forall_mem_cons.mpr ⟨zw448, List.forall_mem_cons.mpr ⟨zw259, fun _ h => absurd h List.not_mem_nil⟩⟩⟩⟩⟩) zw447) rfl rfl rfl (hX.1 _ zn13) (by decide +kernel) ⟨Nat.le_of_ble_eq_true rfl, Nat.le_of_ble_eq_true rfl⟩) (zpreV (zpre zC_ok hX hS hFc hPc hKc hDc) (va_recv hK hP rfl (q0 := 2) rfl)) rfl rfl hl.1 rfl (lv_room (Nat.le_of_ble_eq_true rfl)) dX5_look_41 ⟨Nat.zero_le _, Nat.zero_le _⟩) hP hD hS hFc [2, 3, 4, 5] [0, 1] [0, 1, 2, 3, 4, 5] rfl rfl (by decide) (by decide) rfl (by decide) (fun H locs hP hD hS => ?_)
    cases hm
    exact zreti hx hb hr hlk hP hD hS dX5_look_44
  · replace hm := zf cd2 hm
    by_cases cd3 : a1 = 1
    · replace hm := zt cd3 hm
      refine lv_tableIn (off := 38) (tgt := 45) hx hb dX5_look_7 (by rw [cd3]; decide) (by rw [cd3]; decide) (by rw [cd3]; decide) rfl ?_
      refine lv_aload_n hx hb dX5_look_45 rfl (lv_at hl 0 rfl) ?_
      refine va_get (D := D) (ci := 0) (v := .int (v 1)) (C := RX0) (T := TX0) (N := 16) hx hb hw zinX0 hown hK hP 2 rfl rfl 1 (by decide) (hw _ zw432) (fun _ h9 => h9) rfl dX5_look_46 ?_
      cases hm
      exact zreti hx hb hr hlk hP hD hS dX5_look_49
    · replace hm := zf cd3 hm
      by_cases cd4 : a1 = 2
      · replace hm := zt cd4 hm
        refine lv_tableIn (off := 43) (tgt := 50) hx hb dX5_look_7 (by rw [cd4]; decide) (by rw [cd4]; decide) (by rw [cd4]; decide) rfl ?_
        refine lv_aload_n hx hb dX5_look_50 rfl (lv_at hl 0 rfl) ?_
        refine va_get (D := D) (ci := 0) (v := .int (v 2)) (C := RX0) (T := TX0) (N := 16) hx hb hw zinX0 hown hK hP 2 rfl rfl 2 (by decide) (hw _ zw433) (fun _ h9 => h9) rfl dX5_look_51 ?_
        cases hm
        exact zreti hx hb hr hlk hP hD hS dX5_look_54
      · replace hm := zf cd4 hm
        by_cases cd5 : a1 = 3
        · replace hm := zt cd5 hm
          refine lv_tableIn (off := 48) (tgt := 55) hx hb dX5_look_7 (by rw [cd5]; decide) (by rw [cd5]; decide) (by rw [cd5]; decide) rfl ?_
          refine lv_aload_n hx hb dX5_look_55 rfl (lv_at hl 0 rfl) ?_
          refine va_get (D := D) (ci := 0) (v := .int (v 3)) (C := RX0) (T := TX0) (N := 16) hx hb hw zinX0 hown hK hP 2 rfl rfl 3 (by decide) (hw _ zw434) (fun _ h9 => h9) rfl dX5_look_56 ?_
          cases hm
          exact zreti hx hb hr hlk hP hD hS dX5_look_59
        · replace hm := zf cd5 hm
          by_cases cd6 : a1 = 4
          · replace hm := zt cd6 hm
            refine lv_tableIn (off := 53) (tgt := 60) hx hb dX5_look_7 (by rw [cd6]; decide) (by rw [cd6]; decide) (by rw [cd6]; decide) rfl ?_
            refine lv_aload_n hx hb dX5_look_60 rfl (lv_at hl 0 rfl) ?_
            refine va_get (D := D) (ci := 0) (v := .int (v 4)) (C := RX0) (T := TX0) (N := 16) hx hb hw zinX0 hown hK hP 2 rfl rfl 4 (by decide) (hw _ zw435) (fun _ h9 => h9) rfl dX5_look_61 ?_
            refine lv_if_eq (tgt := 71) hx hb dX5_look_64 rfl (fun cd8 => ?_) (fun cd8 => ?_)
            · replace hm := zt cd8 hm
              refine lv_iconst (v := 0) hx hb dX5_look_71 (by decide) ?_
              cases hm
              exact zreti hx hb hr hlk hP hD hS dX5_look_72
            · replace hm := zf cd8 hm
              refine lv_iconst (v := 1) hx hb dX5_look_67 (by decide) ?_
              refine lv_goto (tgt := 72) hx hb dX5_look_68 rfl ?_
              cases hm
              exact zreti hx hb hr hlk hP hD hS dX5_look_72
          · replace hm := zf cd6 hm
            have ecd2 := lv_neT cd2 (a := 0) (by decide)
            have ecd3 := lv_neT cd3 (a := 1) (by decide)
            have ecd4 := lv_neT cd4 (a := 2) (by decide)
            have ecd5 := lv_neT cd5 (a := 3) (by decide)
            have ecd6 := lv_neT cd6 (a := 4) (by decide)
            refine lv_tableOut (tgt := 73) hx hb dX5_look_7 (by omega) rfl ?_
            cases hm

def m_P_get_E (a0 : Int32) (a1 : Int32) (pv : Nat → Int32) (dc : Nat → Option Nat) (v : Nat → Int32) (b : Nat → Int32) (rw : Nat → Int32) (pw : Nat → Int32)  : Option ((Int32)) := (m_P_existing a0 pv dc).bind (fun q1 => (m_F_hasByte_E a1 v b rw pw).bind (fun q2 => (if q2 = 0 then none else zix a1 25 ((some (b a1.toNatClampNeg))))))
section
variable {p : Program} {l : Launch} {e : Env} {s : State} {m : MethodId} {args : Array Value} {below : List Frame} {meth : Method} {c : Code} {D : va_G} {w0 : va_W} {aQ aY aS aNs aTs aEs aDc aE bE rE pE : Nat} {cd c1 c2 c3 : ClassId} {pv : Nat → Int32} {dc : Nat → Option Nat} {v : Nat → Int32} {b : Nat → Int32} {rw : Nat → Int32} {pw : Nat → Int32} {a0 : Int32}
end
set_option maxRecDepth 100000 in
set_option maxHeartbeats 4000000 in
theorem k_P_get_E (l : Launch) (D : va_G) (aQ aY aS aNs aTs aEs aDc aE bE rE pE : Nat) (cd c1 c2 c3 : ClassId) (sz : Nat) (a0 : Int32) (a1 : Int32) (pv : Nat → Int32) (dc : Nat → Option Nat) (v : Nat → Int32) (b : Nat → Int32) (rw : Nat → Int32) (pw : Nat → Int32) (hd : dc a0.toNatClampNeg = some aE) (res : (Int32)) (hm : m_P_get_E a0 a1 pv dc v b rw pw  = some res) : Met l yX5_get (Cond.code yX5_get cX5_get 4 (some .int) :: zBIG) (zR 1 22) (va_Pc [.ref aQ, .int a0, .int a1] (zP zC D vwCl (wQDE_t cd c1 c2 c3) (wQDE aQ aY aS aNs aTs aEs aDc aE bE rE pE cd c1 c2 c3 pv dc v b rw pw) sz)) (zQi D vwCl (wQDE aQ aY aS aNs aTs aEs aDc aE bE rE pE cd c1 c2 c3 pv dc v b rw pw) (wQDE aQ aY aS aNs aTs aEs aDc aE bE rE pE cd c1 c2 c3 pv dc v b rw pw) sz res) 0 0 (va_A (wQDE aQ aY aS aNs aTs aEs aDc aE bE rE pE cd c1 c2 c3 pv dc v b rw pw) sz) := by
  refine zEnter RX5 [.ref aQ, .int a0, .int a1] (by decide) rfl (Nat.le_of_ble_eq_true rfl) (fun p e s m below meth c ls G hK hX hP hD hsz hl => ?_)
  subst hsz
  unfold m_P_get_E at hm
  have hl : lv_has ls 4 [(0, .ref aQ), (1, .int a0), (2, .int a1)] := hl
  have hS : va_S (va_A (wQDE aQ aY aS aNs aTs aEs aDc aE bE rE pE cd c1 c2 c3 pv dc v b rw pw) s.heap.size) s.heap s.heap [] := va_S.rf
  have hA : ∀ q, s.heap.size ≤ q → va_A (wQDE aQ aY aS aNs aTs aEs aDc aE bE rE pE cd c1 c2 c3 pv dc v b rw pw) s.heap.size q := fun q h => Or.inr h
  have G0 := G
  obtain ⟨hx, hb, hr, hml, hown, hw, hlk⟩ := G
  refine lv_aload_n hx hb dX5_get_0 rfl (lv_at hl 0 rfl) ?_
  refine lv_iload_n hx hb dX5_get_1 rfl (lv_at hl 1 rfl) ?_
  obtain ⟨q1, hq1, hm⟩ := zbind hm
  have hPc := hP.sub (ws' := (wQDf aQ aY aS aNs aTs aEs aDc aE cd pv dc)) [0, 1] rfl
  have hDc := hD.sub (ws' := (wQDf aQ aY aS aNs aTs aEs aDc aE cd pv dc)) [0, 1] (by decide) rfl
  have hKc := hK.sub (tys' := wQDf_t cd) [0] rfl
  have hFc := va_free (wc := (wQDf aQ aY aS aNs aTs aEs aDc aE cd pv dc)) hD hS hA [0, 1] rfl
  refine zbSq (wr := [(aE, .inr (0, [.ref bE, .int (v 1), .int (v 2), .int (v 3), .int (v 4), .ref rE, .ref pE, .int (v 7), .int (v 8), .int (v 9), .int (v 10), .int (v 11), .int (v 12), .int (v 13), .int (v 14), .int (v 15)])), (bE, .inl (c1, 25, .inl b)), (rE, .inl (c2, 24, .inl rw)), (pE, .inl (c3, 24, .inl pw))]) (w1 := (wQDf aQ aY aS aNs aTs aEs aDc aE cd pv dc)) (w' := (wQDE aQ aY aS aNs aTs aEs aDc aE bE rE pE cd c1 c2 c3 pv dc v b rw pw)) (va_runV (As := [.int a0]) (rest := []) ⟨hx, hb, hml, hown, hw⟩ (k_P_existing l D aQ aY aS aNs aTs aEs aDc aE cd _ a0 pv dc hd q1 hq1) (zcV (C := RX5) 1 hw (zgood zw422) rfl rfl rfl zw176 zw424 zw423 zw425 hdX5_existing ⟨Nat.le_of_ble_eq_true rfl, Nat.le_of_ble_eq_true rfl⟩) (zpreV (zpre zC_ok hX hS hFc hPc hKc hDc) (va_recv hK hP rfl (q0 := 0) rfl)) rfl rfl hl.1 rfl (lv_room (Nat.le_of_ble_eq_true rfl)) dX5_get_2 ⟨Nat.zero_le _, Nat.zero_le _⟩) hP hD hS hFc [0, 1] [2, 3, 4, 5] [4, 5, 0, 1, 2, 3] rfl rfl (by decide) (by decide) rfl (by decide) (fun H locs hP hD hS => ?_)
  refine lv_astore_n (lv' := [(3, .ref aE), (0, .ref aQ), (1, .int a0), (2, .int a1)]) hx hb dX5_get_5 rfl hl (by decide) rfl (fun ls hl => ?_)
  refine lv_aload_n hx hb dX5_get_6 rfl (lv_at hl 0 rfl) ?_
  refine lv_iload_n hx hb dX5_get_7 rfl (lv_at hl 3 rfl) ?_
  obtain ⟨q2, hq2, hm⟩ := zbind hm
  have hPc := hP.sub (ws' := (wE aE bE rE pE c1 c2 c3 v b rw pw)) [2, 3, 4, 5] rfl
  have hDc := hD.sub (ws' := (wE aE bE rE pE c1 c2 c3 v b rw pw)) [2, 3, 4, 5] (by decide) rfl
  have hKc := hK.sub (tys' := wE_t c1 c2 c3) [1, 2, 3] rfl
  have hFc := va_free (wc := (wE aE bE rE pE c1 c2 c3 v b rw pw)) hD hS hA [2, 3, 4, 5] rfl
  refine zbSi (wr := [(aQ, .inr (4, [.ref aY, .int (pv 1), .ref aS, .ref aNs, .ref aTs, .ref aEs, .ref aDc, .int (pv 7)])), (aDc, .inl (cd, 8, .inr (.inr (.inr (.inr dc)))))]) (w1 := (wE aE bE rE pE c1 c2 c3 v b rw pw)) (w' := (wQDE aQ aY aS aNs aTs aEs aDc aE bE rE pE cd c1 c2 c3 pv dc v b rw pw)) (va_runU (As := [.int a1]) (rest := []) ⟨hx, hb, hml, hown, hw⟩ (k_F_hasByte_E l D aE bE rE pE c1 c2 c3 _ a1 v b rw pw  q2 hq2) (va_cwU (C := RX0) (owner := RX1) (x := ⟨RX1, "hasByte", "(I)Z"⟩) 1 hw (zgoodL (List.forall_mem_cons.mpr ⟨zw438, List.forall_mem_cons.mpr ⟨zw439, List.forall_mem_cons.mpr ⟨zw450, List.forall_mem_cons.mpr ⟨zw437, List.forall_mem_cons.mpr ⟨zw409, fun _ h => absurd h List.not_mem_nil⟩⟩⟩⟩⟩) zw436) rfl rfl rfl rfl (by decide +kernel) ⟨Nat.le_of_ble_eq_true rfl, Nat.le_of_ble_eq_true rfl⟩) (zpreV (zpre zC_ok hX hS hFc hPc hKc hDc) (va_recv hK hP rfl (q0 := 2) rfl)) rfl rfl hl.1 rfl (lv_room (Nat.le_of_ble_eq_true rfl)) dX5_get_8 ⟨Nat.zero_le _, Nat.zero_le _⟩) hP hD hS hFc [2, 3, 4, 5] [0, 1] [0, 1, 2, 3, 4, 5] rfl rfl (by decide) (by decide) rfl (by decide) (fun H locs hP hD hS => ?_)
  refine lv_if_ne (tgt := 24) hx hb dX5_get_11 rfl (fun cd3 => ?_) (fun cd3 => ?_)
  · replace hm := zf cd3 hm
    refine lv_aload_n hx hb dX5_get_24 rfl (lv_at hl 0 rfl) ?_
    refine va_get (D := D) (ci := 0) (v := .ref bE) (C := RX0) (T := TX0) (N := 16) hx hb hw zinX0 hown hK hP 2 rfl rfl 0 (by decide) (hw _ zw441) (fun _ h9 => h9) rfl dX5_get_25 ?_
    refine lv_iload_n hx hb dX5_get_28 rfl (lv_at hl 3 rfl) ?_
    obtain ⟨hi4, hm⟩ := zix_s hm
    refine va_iald (i := a1) (f := b) (n := 25) hx hb hK hP 3 1 rfl rfl hi4 dX5_get_29 ?_
    cases hm
    exact zreti hx hb hr hlk hP hD hS dX5_get_30
  · replace hm := zt cd3 hm
    cases hm

def m_P_set_E_37 (pv : Nat → Int32) (dc : Nat → Option Nat) (v : Nat → Int32) (rw : Nat → Int32) (pw : Nat → Int32) (a0 : Int32)  (b : Nat → Int32) : Option ((Nat → Int32)) := none
def m_P_set_E (a0 : Int32) (a1 : Int32) (a2 : Int32) (pv : Nat → Int32) (dc : Nat → Option Nat) (v : Nat → Int32) (b : Nat → Int32) (rw : Nat → Int32) (pw : Nat → Int32)  : Option ((Nat → Int32)) := (m_P_existing a0 pv dc).bind (fun q1 => (m_F_hasByte_E a1 v b rw pw).bind (fun q2 => (if q2 = 0 then none else (if a2 < 0 then m_P_set_E_37 pv dc v rw pw a0 b else (if a2 ≤ 255 then zix a1 25 ((some (upd b a1.toNatClampNeg a2))) else m_P_set_E_37 pv dc v rw pw a0 b)))))
section
variable {p : Program} {l : Launch} {e : Env} {s : State} {m : MethodId} {args : Array Value} {below : List Frame} {meth : Method} {c : Code} {D : va_G} {w0 : va_W} {aQ aY aS aNs aTs aEs aDc aE bE rE pE : Nat} {cd c1 c2 c3 : ClassId} {pv : Nat → Int32} {dc : Nat → Option Nat} {v : Nat → Int32} {rw : Nat → Int32} {pw : Nat → Int32} {a0 : Int32}
set_option maxRecDepth 100000 in
set_option maxHeartbeats 4000000 in
theorem b_P_set_E_37 (G : zG p s m args meth c cX5_set RX5 5 none) (hK : va_K D vwCl (wQDE_t cd c1 c2 c3) s) (hX : zC (va_A w0 s.heap.size) s) (hd : dc a0.toNatClampNeg = some aE) {res : (Nat → Int32)} : ∀ (b : Nat → Int32), m_P_set_E_37 pv dc v rw pw a0 b = some res → zB p l e (zR 1 22) s m args below meth c D vwCl (va_A w0 s.heap.size) (MQ below (zQv D vwCl w0 (wQDE aQ aY aS aNs aTs aEs aDc aE bE rE pE cd c1 c2 c3 pv dc v res rw pw) s.heap.size) args s 0 0 (va_A w0 s.heap.size)) 5 (wQDE aQ aY aS aNs aTs aEs aDc aE bE rE pE cd c1 c2 c3 pv dc v b rw pw) [] 37 [] := by
  intro b hm H locs ls hP hD hS hl
  unfold m_P_set_E_37 at hm
  have G0 := G
  obtain ⟨hx, hb, hr, hml, hown, hw, hlk⟩ := G
  have hA : ∀ q, s.heap.size ≤ q → va_A w0 s.heap.size q := fun q h => Or.inr h
  cases hm
end
set_option maxRecDepth 100000 in
set_option maxHeartbeats 4000000 in
theorem k_P_set_E (l : Launch) (D : va_G) (aQ aY aS aNs aTs aEs aDc aE bE rE pE : Nat) (cd c1 c2 c3 : ClassId) (sz : Nat) (a0 : Int32) (a1 : Int32) (a2 : Int32) (pv : Nat → Int32) (dc : Nat → Option Nat) (v : Nat → Int32) (b : Nat → Int32) (rw : Nat → Int32) (pw : Nat → Int32) (hd : dc a0.toNatClampNeg = some aE) (res : (Nat → Int32)) (hm : m_P_set_E a0 a1 a2 pv dc v b rw pw  = some res) : Met l yX5_set (Cond.code yX5_set cX5_set 5 none :: zBIG) (zR 1 22) (va_Pc [.ref aQ, .int a0, .int a1, .int a2] (zP zC D vwCl (wQDE_t cd c1 c2 c3) (wQDE aQ aY aS aNs aTs aEs aDc aE bE rE pE cd c1 c2 c3 pv dc v b rw pw) sz)) (zQv D vwCl (wQDE aQ aY aS aNs aTs aEs aDc aE bE rE pE cd c1 c2 c3 pv dc v b rw pw) (wQDE aQ aY aS aNs aTs aEs aDc aE bE rE pE cd c1 c2 c3 pv dc v res rw pw) sz) 0 0 (va_A (wQDE aQ aY aS aNs aTs aEs aDc aE bE rE pE cd c1 c2 c3 pv dc v b rw pw) sz) := by
  refine zEnter RX5 [.ref aQ, .int a0, .int a1, .int a2] (by decide) rfl (Nat.le_of_ble_eq_true rfl) (fun p e s m below meth c ls G hK hX hP hD hsz hl => ?_)
  subst hsz
  unfold m_P_set_E at hm
  have hl : lv_has ls 5 [(0, .ref aQ), (1, .int a0), (2, .int a1), (3, .int a2)] := hl
  have hS : va_S (va_A (wQDE aQ aY aS aNs aTs aEs aDc aE bE rE pE cd c1 c2 c3 pv dc v b rw pw) s.heap.size) s.heap s.heap [] := va_S.rf
  have hA : ∀ q, s.heap.size ≤ q → va_A (wQDE aQ aY aS aNs aTs aEs aDc aE bE rE pE cd c1 c2 c3 pv dc v b rw pw) s.heap.size q := fun q h => Or.inr h
  have G0 := G
  obtain ⟨hx, hb, hr, hml, hown, hw, hlk⟩ := G
  refine lv_aload_n hx hb dX5_set_0 rfl (lv_at hl 0 rfl) ?_
  refine lv_iload_n hx hb dX5_set_1 rfl (lv_at hl 1 rfl) ?_
  obtain ⟨q1, hq1, hm⟩ := zbind hm
  have hPc := hP.sub (ws' := (wQDf aQ aY aS aNs aTs aEs aDc aE cd pv dc)) [0, 1] rfl
  have hDc := hD.sub (ws' := (wQDf aQ aY aS aNs aTs aEs aDc aE cd pv dc)) [0, 1] (by decide) rfl
  have hKc := hK.sub (tys' := wQDf_t cd) [0] rfl
  have hFc := va_free (wc := (wQDf aQ aY aS aNs aTs aEs aDc aE cd pv dc)) hD hS hA [0, 1] rfl
  refine zbSq (wr := [(aE, .inr (0, [.ref bE, .int (v 1), .int (v 2), .int (v 3), .int (v 4), .ref rE, .ref pE, .int (v 7), .int (v 8), .int (v 9), .int (v 10), .int (v 11), .int (v 12), .int (v 13), .int (v 14), .int (v 15)])), (bE, .inl (c1, 25, .inl b)), (rE, .inl (c2, 24, .inl rw)), (pE, .inl (c3, 24, .inl pw))]) (w1 := (wQDf aQ aY aS aNs aTs aEs aDc aE cd pv dc)) (w' := (wQDE aQ aY aS aNs aTs aEs aDc aE bE rE pE cd c1 c2 c3 pv dc v b rw pw)) (va_runV (As := [.int a0]) (rest := []) ⟨hx, hb, hml, hown, hw⟩ (k_P_existing l D aQ aY aS aNs aTs aEs aDc aE cd _ a0 pv dc hd q1 hq1) (zcV (C := RX5) 1 hw (zgood zw422) rfl rfl rfl zw176 zw424 zw423 zw425 hdX5_existing ⟨Nat.le_of_ble_eq_true rfl, Nat.le_of_ble_eq_true rfl⟩) (zpreV (zpre zC_ok hX hS hFc hPc hKc hDc) (va_recv hK hP rfl (q0 := 0) rfl)) rfl rfl hl.1 rfl (lv_room (Nat.le_of_ble_eq_true rfl)) dX5_set_2 ⟨Nat.zero_le _, Nat.zero_le _⟩) hP hD hS hFc [0, 1] [2, 3, 4, 5] [4, 5, 0, 1, 2, 3] rfl rfl (by decide) (by decide) rfl (by decide) (fun H locs hP hD hS => ?_)
  refine lv_astore (lv' := [(4, .ref aE), (0, .ref aQ), (1, .int a0), (2, .int a1), (3, .int a2)]) hx hb dX5_set_5 hl (by decide) rfl (fun ls hl => ?_)
  refine lv_aload hx hb dX5_set_7 (lv_at hl 0 rfl) ?_
  refine lv_iload_n hx hb dX5_set_9 rfl (lv_at hl 3 rfl) ?_
  obtain ⟨q2, hq2, hm⟩ := zbind hm
  have hPc := hP.sub (ws' := (wE aE bE rE pE c1 c2 c3 v b rw pw)) [2, 3, 4, 5] rfl
  have hDc := hD.sub (ws' := (wE aE bE rE pE c1 c2 c3 v b rw pw)) [2, 3, 4, 5] (by decide) rfl
  have hKc := hK.sub (tys' := wE_t c1 c2 c3) [1, 2, 3] rfl
  have hFc := va_free (wc := (wE aE bE rE pE c1 c2 c3 v b rw pw)) hD hS hA [2, 3, 4, 5] rfl
  refine zbSi (wr := [(aQ, .inr (4, [.ref aY, .int (pv 1), .ref aS, .ref aNs, .ref aTs, .ref aEs, .ref aDc, .int (pv 7)])), (aDc, .inl (cd, 8, .inr (.inr (.inr (.inr dc)))))]) (w1 := (wE aE bE rE pE c1 c2 c3 v b rw pw)) (w' := (wQDE aQ aY aS aNs aTs aEs aDc aE bE rE pE cd c1 c2 c3 pv dc v b rw pw)) (va_runU (As := [.int a1]) (rest := []) ⟨hx, hb, hml, hown, hw⟩ (k_F_hasByte_E l D aE bE rE pE c1 c2 c3 _ a1 v b rw pw  q2 hq2) (va_cwU (C := RX0) (owner := RX1) (x := ⟨RX1, "hasByte", "(I)Z"⟩) 1 hw (zgoodL (List.forall_mem_cons.mpr ⟨zw438, List.forall_mem_cons.mpr ⟨zw439, List.forall_mem_cons.mpr ⟨zw450, List.forall_mem_cons.mpr ⟨zw437, List.forall_mem_cons.mpr ⟨zw409, fun _ h => absurd h List.not_mem_nil⟩⟩⟩⟩⟩) zw436) rfl rfl rfl rfl (by decide +kernel) ⟨Nat.le_of_ble_eq_true rfl, Nat.le_of_ble_eq_true rfl⟩) (zpreV (zpre zC_ok hX hS hFc hPc hKc hDc) (va_recv hK hP rfl (q0 := 2) rfl)) rfl rfl hl.1 rfl (lv_room (Nat.le_of_ble_eq_true rfl)) dX5_set_10 ⟨Nat.zero_le _, Nat.zero_le _⟩) hP hD hS hFc [2, 3, 4, 5] [0, 1] [0, 1, 2, 3, 4, 5] rfl rfl (by decide) (by decide) rfl (by decide) (fun H locs hP hD hS => ?_)
  refine lv_if_ne (tgt := 26) hx hb dX5_set_13 rfl (fun cd3 => ?_) (fun cd3 => ?_)
  · replace hm := zf cd3 hm
    refine lv_iload_n hx hb dX5_set_26 rfl (lv_at hl 4 rfl) ?_
    refine lv_if_lt (tgt := 37) hx hb dX5_set_27 rfl (fun cd4 => ?_) (fun cd4 => ?_)
    · replace hm := zt cd4 hm
      exact b_P_set_E_37 G0 hK hX hd _ hm _ _ _ hP hD hS (lv_sub hl [] rfl)
    · replace hm := zf cd4 hm
      refine lv_iload_n hx hb dX5_set_30 rfl (lv_at hl 4 rfl) ?_
      refine lv_sipush (v := 255) hx hb dX5_set_31 (by decide) ?_
      refine lv_icmp_le (tgt := 47) hx hb dX5_set_34 rfl (fun cd5 => ?_) (fun cd5 => ?_)
      · replace hm := zt cd5 hm
        refine lv_aload hx hb dX5_set_47 (lv_at hl 0 rfl) ?_
        refine va_get (D := D) (ci := 0) (v := .ref bE) (C := RX0) (T := TX0) (N := 16) hx hb hw zinX0 hown hK hP 2 rfl rfl 0 (by decide) (hw _ zw441) (fun _ h9 => h9) rfl dX5_set_49 ?_
        refine lv_iload_n hx hb dX5_set_52 rfl (lv_at hl 3 rfl) ?_
        refine lv_iload_n hx hb dX5_set_53 rfl (lv_at hl 4 rfl) ?_
        obtain ⟨hi6, hm⟩ := zix_s hm
        refine va_iast (i := a1) (x := a2) (f := b) (n := 25) hx hb hK hP hD hS 3 1 rfl rfl hi6 dX5_set_54 (fun H locs hP hD hS => ?_)
        have hP : va_P D vwCl (wQDE aQ aY aS aNs aTs aEs aDc aE bE rE pE cd c1 c2 c3 pv dc v (upd b a1.toNatClampNeg a2) rw pw) H := hP
        have hD : va_D _ (wQDE aQ aY aS aNs aTs aEs aDc aE bE rE pE cd c1 c2 c3 pv dc v (upd b a1.toNatClampNeg a2) rw pw) := hD
        cases hm
        exact zretv hx hb hr hlk hP hD hS dX5_set_55
      · replace hm := zf cd5 hm
        exact b_P_set_E_37 G0 hK hX hd _ hm _ _ _ hP hD hS (lv_sub hl [] rfl)
  · replace hm := zt cd3 hm
    cases hm

def m_P_put_E_19 (pv : Nat → Int32) (dc : Nat → Option Nat) (v : Nat → Int32) (rw : Nat → Int32) (pw : Nat → Int32) (a0 : Int32)  (b : Nat → Int32) : Option ((Nat → Int32)) := none
def m_P_put_E (a0 : Int32) (a1 : Int64) (a2 : Int32) (pv : Nat → Int32) (dc : Nat → Option Nat) (v : Nat → Int32) (b : Nat → Int32) (rw : Nat → Int32) (pw : Nat → Int32)  : Option ((Nat → Int32)) := (m_P_existing a0 pv dc).bind (fun q1 => (if a2 < 0 then m_P_put_E_19 pv dc v rw pw a0 b else (if a2 ≤ 6 then (m_E_takeNumber a1 a2 v b rw pw).bind (fun q4 => (if q4.1 = 0 then none else (some q4.2))) else m_P_put_E_19 pv dc v rw pw a0 b)))
section
variable {p : Program} {l : Launch} {e : Env} {s : State} {m : MethodId} {args : Array Value} {below : List Frame} {meth : Method} {c : Code} {D : va_G} {w0 : va_W} {aQ aY aS aNs aTs aEs aDc aE bE rE pE : Nat} {cd c1 c2 c3 : ClassId} {pv : Nat → Int32} {dc : Nat → Option Nat} {v : Nat → Int32} {rw : Nat → Int32} {pw : Nat → Int32} {a0 : Int32}
set_option maxRecDepth 100000 in
set_option maxHeartbeats 4000000 in
theorem b_P_put_E_19 (G : zG p s m args meth c cX5_put RX5 6 none) (hK : va_K D vwCl (wQDE_t cd c1 c2 c3) s) (hX : zC (va_A w0 s.heap.size) s) (hd : dc a0.toNatClampNeg = some aE) {res : (Nat → Int32)} : ∀ (b : Nat → Int32), m_P_put_E_19 pv dc v rw pw a0 b = some res → zB p l e (zR 5 119) s m args below meth c D vwCl (va_A w0 s.heap.size) (MQ below (zQv D vwCl w0 (wQDE aQ aY aS aNs aTs aEs aDc aE bE rE pE cd c1 c2 c3 pv dc v res rw pw) s.heap.size) args s 0 0 (va_A w0 s.heap.size)) 6 (wQDE aQ aY aS aNs aTs aEs aDc aE bE rE pE cd c1 c2 c3 pv dc v b rw pw) [] 19 [] := by
  intro b hm H locs ls hP hD hS hl
  unfold m_P_put_E_19 at hm
  have G0 := G
  obtain ⟨hx, hb, hr, hml, hown, hw, hlk⟩ := G
  have hA : ∀ q, s.heap.size ≤ q → va_A w0 s.heap.size q := fun q h => Or.inr h
  cases hm
end
set_option maxRecDepth 100000 in
set_option maxHeartbeats 4000000 in
theorem k_P_put_E (l : Launch) (D : va_G) (aQ aY aS aNs aTs aEs aDc aE bE rE pE : Nat) (cd c1 c2 c3 : ClassId) (sz : Nat) (a0 : Int32) (a1 : Int64) (a2 : Int32) (pv : Nat → Int32) (dc : Nat → Option Nat) (v : Nat → Int32) (b : Nat → Int32) (rw : Nat → Int32) (pw : Nat → Int32) (hd : dc a0.toNatClampNeg = some aE) (res : (Nat → Int32)) (hm : m_P_put_E a0 a1 a2 pv dc v b rw pw  = some res) : Met l yX5_put (Cond.code yX5_put cX5_put 6 none :: zBIG) (zR 5 119) (va_Pc [.ref aQ, .int a0, .long a1, .int a2] (zP zC D vwCl (wQDE_t cd c1 c2 c3) (wQDE aQ aY aS aNs aTs aEs aDc aE bE rE pE cd c1 c2 c3 pv dc v b rw pw) sz)) (zQv D vwCl (wQDE aQ aY aS aNs aTs aEs aDc aE bE rE pE cd c1 c2 c3 pv dc v b rw pw) (wQDE aQ aY aS aNs aTs aEs aDc aE bE rE pE cd c1 c2 c3 pv dc v res rw pw) sz) 0 0 (va_A (wQDE aQ aY aS aNs aTs aEs aDc aE bE rE pE cd c1 c2 c3 pv dc v b rw pw) sz) := by
  refine zEnter RX5 [.ref aQ, .int a0, .long a1, .int a2] (by decide) rfl (Nat.le_of_ble_eq_true rfl) (fun p e s m below meth c ls G hK hX hP hD hsz hl => ?_)
  subst hsz
  unfold m_P_put_E at hm
  have hl : lv_has ls 6 [(0, .ref aQ), (1, .int a0), (2, .long a1), (4, .int a2)] := hl
  have hS : va_S (va_A (wQDE aQ aY aS aNs aTs aEs aDc aE bE rE pE cd c1 c2 c3 pv dc v b rw pw) s.heap.size) s.heap s.heap [] := va_S.rf
  have hA : ∀ q, s.heap.size ≤ q → va_A (wQDE aQ aY aS aNs aTs aEs aDc aE bE rE pE cd c1 c2 c3 pv dc v b rw pw) s.heap.size q := fun q h => Or.inr h
  have G0 := G
  obtain ⟨hx, hb, hr, hml, hown, hw, hlk⟩ := G
  refine lv_aload_n hx hb dX5_put_0 rfl (lv_at hl 0 rfl) ?_
  refine lv_iload_n hx hb dX5_put_1 rfl (lv_at hl 1 rfl) ?_
  obtain ⟨q1, hq1, hm⟩ := zbind hm
  have hPc := hP.sub (ws' := (wQDf aQ aY aS aNs aTs aEs aDc aE cd pv dc)) [0, 1] rfl
  have hDc := hD.sub (ws' := (wQDf aQ aY aS aNs aTs aEs aDc aE cd pv dc)) [0, 1] (by decide) rfl
  have hKc := hK.sub (tys' := wQDf_t cd) [0] rfl
  have hFc := va_free (wc := (wQDf aQ aY aS aNs aTs aEs aDc aE cd pv dc)) hD hS hA [0, 1] rfl
  refine zbSq (wr := [(aE, .inr (0, [.ref bE, .int (v 1), .int (v 2), .int (v 3), .int (v 4), .ref rE, .ref pE, .int (v 7), .int (v 8), .int (v 9), .int (v 10), .int (v 11), .int (v 12), .int (v 13), .int (v 14), .int (v 15)])), (bE, .inl (c1, 25, .inl b)), (rE, .inl (c2, 24, .inl rw)), (pE, .inl (c3, 24, .inl pw))]) (w1 := (wQDf aQ aY aS aNs aTs aEs aDc aE cd pv dc)) (w' := (wQDE aQ aY aS aNs aTs aEs aDc aE bE rE pE cd c1 c2 c3 pv dc v b rw pw)) (va_runV (As := [.int a0]) (rest := []) ⟨hx, hb, hml, hown, hw⟩ (k_P_existing l D aQ aY aS aNs aTs aEs aDc aE cd _ a0 pv dc hd q1 hq1) (zcV (C := RX5) 1 hw (zgood zw422) rfl rfl rfl zw176 zw424 zw423 zw425 hdX5_existing ⟨Nat.le_of_ble_eq_true rfl, Nat.le_of_ble_eq_true rfl⟩) (zpreV (zpre zC_ok hX hS hFc hPc hKc hDc) (va_recv hK hP rfl (q0 := 0) rfl)) rfl rfl hl.1 rfl (lv_room (Nat.le_of_ble_eq_true rfl)) dX5_put_2 ⟨Nat.zero_le _, Nat.zero_le _⟩) hP hD hS hFc [0, 1] [2, 3, 4, 5] [4, 5, 0, 1, 2, 3] rfl rfl (by decide) (by decide) rfl (by decide) (fun H locs hP hD hS => ?_)
  refine lv_astore (lv' := [(5, .ref aE), (0, .ref aQ), (1, .int a0), (2, .long a1), (4, .int a2)]) hx hb dX5_put_5 hl (by decide) rfl (fun ls hl => ?_)
  refine lv_iload hx hb dX5_put_7 (lv_at hl 4 rfl) ?_
  refine lv_if_lt (tgt := 19) hx hb dX5_put_9 rfl (fun cd2 => ?_) (fun cd2 => ?_)
  · replace hm := zt cd2 hm
    exact b_P_put_E_19 G0 hK hX hd _ hm _ _ _ hP hD hS (lv_sub hl [] rfl)
  · replace hm := zf cd2 hm
    refine lv_iload hx hb dX5_put_12 (lv_at hl 4 rfl) ?_
    refine lv_bipush (v := 6) hx hb dX5_put_14 (by decide) ?_
    refine lv_icmp_le (tgt := 29) hx hb dX5_put_16 rfl (fun cd3 => ?_) (fun cd3 => ?_)
    · replace hm := zt cd3 hm
      refine lv_aload hx hb dX5_put_29 (lv_at hl 0 rfl) ?_
      refine lv_lload_n hx hb dX5_put_31 rfl (lv_at hl 3 rfl) ?_
      refine lv_iload hx hb dX5_put_32 (lv_at hl 4 rfl) ?_
      obtain ⟨q4, hq4, hm⟩ := zbind hm
      have hPc := hP.sub (ws' := (wE aE bE rE pE c1 c2 c3 v b rw pw)) [2, 3, 4, 5] rfl
      have hDc := hD.sub (ws' := (wE aE bE rE pE c1 c2 c3 v b rw pw)) [2, 3, 4, 5] (by decide) rfl
      have hKc := hK.sub (tys' := wE_t c1 c2 c3) [1, 2, 3] rfl
      have hFc := va_free (wc := (wE aE bE rE pE c1 c2 c3 v b rw pw)) hD hS hA [2, 3, 4, 5] rfl
      refine zbSi (wr := [(aQ, .inr (4, [.ref aY, .int (pv 1), .ref aS, .ref aNs, .ref aTs, .ref aEs, .ref aDc, .int (pv 7)])), (aDc, .inl (cd, 8, .inr (.inr (.inr (.inr dc)))))]) (w1 := (wE aE bE rE pE c1 c2 c3 v q4.2 rw pw)) (w' := (wQDE aQ aY aS aNs aTs aEs aDc aE bE rE pE cd c1 c2 c3 pv dc v q4.2 rw pw)) (va_runU (As := [.long a1, .int a2]) (rest := []) ⟨hx, hb, hml, hown, hw⟩ (k_E_takeNumber l D aE bE rE pE c1 c2 c3 _ a1 a2 v b rw pw  q4 hq4) (va_cwA (C := RX0) (owner := RX1) (x := ⟨RX1, "takeNumber", "(JI)Z"⟩) 2 hw (zgoodL (List.forall_mem_cons.mpr ⟨zw442, List.forall_mem_cons.mpr ⟨zw387, List.forall_mem_cons.mpr ⟨zw391, List.forall_mem_cons.mpr ⟨zw390, List.forall_mem_cons.mpr ⟨zw259, fun _ h => absurd h List.not_mem_nil⟩⟩⟩⟩⟩) zw389) rfl rfl rfl (hX.1 _ zn11) (by decide +kernel) ⟨Nat.le_of_ble_eq_true rfl, Nat.le_of_ble_eq_true rfl⟩) (zpreV (zpre zC_ok hX hS hFc hPc hKc hDc) (va_recv hK hP rfl (q0 := 2) rfl)) rfl rfl hl.1 rfl (lv_room (Nat.le_of_ble_eq_true rfl)) dX5_put_34 ⟨Nat.zero_le _, Nat.zero_le _⟩) hP hD hS hFc [2, 3, 4, 5] [0, 1] [0, 1, 2, 3, 4, 5] rfl rfl (by decide) (by decide) rfl (by decide) (fun H locs hP hD hS => ?_)
      refine lv_if_ne (tgt := 50) hx hb dX5_put_37 rfl (fun cd5 => ?_) (fun cd5 => ?_)
      · replace hm := zf cd5 hm
        cases hm
        exact zretv hx hb hr hlk hP hD hS dX5_put_50
      · replace hm := zt cd5 hm
        cases hm
    · replace hm := zf cd3 hm
      exact b_P_put_E_19 G0 hK hX hd _ hm _ _ _ hP hD hS (lv_sub hl [] rfl)

theorem dX5_move_0 : decode cX5_move 0 = .ok (.aload_n 0, 1) := by decide +kernel
theorem dX5_move_1 : decode cX5_move 1 = .ok (.iload_n 1, 1) := by decide +kernel
theorem dX5_move_2 : decode cX5_move 2 = .ok (.invokevirtual 77, 3) := by decide +kernel
theorem dX5_move_5 : decode cX5_move 5 = .ok (.astore_n 3, 1) := by decide +kernel
theorem dX5_move_6 : decode cX5_move 6 = .ok (.aload_n 0, 1) := by decide +kernel
theorem dX5_move_7 : decode cX5_move 7 = .ok (.iload_n 2, 1) := by decide +kernel
theorem dX5_move_8 : decode cX5_move 8 = .ok (.invokevirtual 77, 3) := by decide +kernel
theorem dX5_move_11 : decode cX5_move 11 = .ok (.astore 4, 2) := by decide +kernel
theorem dX5_move_13 : decode cX5_move 13 = .ok (.aload 4, 2) := by decide +kernel
theorem dX5_move_15 : decode cX5_move 15 = .ok (.aload_n 3, 1) := by decide +kernel
theorem dX5_move_16 : decode cX5_move 16 = .ok (.invokevirtual 125, 3) := by decide +kernel
theorem dX5_move_19 : decode cX5_move 19 = .ok (.ifCond .ne 13, 3) := by decide +kernel
theorem dX5_move_22 : decode cX5_move 22 = .ok (.new 120, 3) := by decide +kernel
theorem dX5_move_25 : decode cX5_move 25 = .ok (.dup, 1) := by decide +kernel
theorem dX5_move_26 : decode cX5_move 26 = .ok (.ldc 129, 2) := by decide +kernel
theorem dX5_move_28 : decode cX5_move 28 = .ok (.invokespecial 124, 3) := by decide +kernel
theorem dX5_move_31 : decode cX5_move 31 = .ok (.athrow, 1) := by decide +kernel
theorem dX5_move_32 : decode cX5_move 32 = .ok (.return_, 1) := by decide +kernel
def m_P_move_N (a0 : Int32) (a1 : Int32) (pv : Nat → Int32) (dc : Nat → Option Nat) (v : Nat → Int32) (b : Nat → Int32)  : Option ((Nat → Int32)) := (m_P_existing a0 pv dc).bind (fun q1 => (m_P_existing a1 pv dc).bind (fun q2 => (m_F_takeField_N v b).bind (fun q3 => (if q3.1 = 0 then none else (some q3.2)))))
section
variable {p : Program} {l : Launch} {e : Env} {s : State} {m : MethodId} {args : Array Value} {below : List Frame} {meth : Method} {c : Code} {D : va_G} {w0 : va_W} {aQ aY aS aNs aTs aEs aDc aN bN : Nat} {cd c1 : ClassId} {pv : Nat → Int32} {dc : Nat → Option Nat} {v : Nat → Int32} {a0 : Int32} {a1 : Int32}
end
set_option maxRecDepth 100000 in
set_option maxHeartbeats 4000000 in
theorem k_P_move_N (l : Launch) (D : va_G) (aQ aY aS aNs aTs aEs aDc aN bN : Nat) (cd c1 : ClassId) (sz : Nat) (a0 : Int32) (a1 : Int32) (pv : Nat → Int32) (dc : Nat → Option Nat) (v : Nat → Int32) (b : Nat → Int32) (hd : dc a0.toNatClampNeg = some aN) (hd2 : dc a1.toNatClampNeg = some aN) (res : (Nat → Int32)) (hm : m_P_move_N a0 a1 pv dc v b  = some res) : Met l yX5_move (Cond.code yX5_move cX5_move 5 none :: zBIG) (zR 4 92) (va_Pc [.ref aQ, .int a0, .int a1] (zP zC D vwCl (wQDN_t cd c1) (wQDN aQ aY aS aNs aTs aEs aDc aN bN cd c1 pv dc v b) sz)) (zQv D vwCl (wQDN aQ aY aS aNs aTs aEs aDc aN bN cd c1 pv dc v b) (wQDN aQ aY aS aNs aTs aEs aDc aN bN cd c1 pv dc v res) sz) 0 0 (va_A (wQDN aQ aY aS aNs aTs aEs aDc aN bN cd c1 pv dc v b) sz) := by
  refine zEnter RX5 [.ref aQ, .int a0, .int a1] (by decide) rfl (Nat.le_of_ble_eq_true rfl) (fun p e s m below meth c ls G hK hX hP hD hsz hl => ?_)
  subst hsz
  unfold m_P_move_N at hm
  have hl : lv_has ls 5 [(0, .ref aQ), (1, .int a0), (2, .int a1)] := hl
  have hS : va_S (va_A (wQDN aQ aY aS aNs aTs aEs aDc aN bN cd c1 pv dc v b) s.heap.size) s.heap s.heap [] := va_S.rf
  have hA : ∀ q, s.heap.size ≤ q → va_A (wQDN aQ aY aS aNs aTs aEs aDc aN bN cd c1 pv dc v b) s.heap.size q := fun q h => Or.inr h
  have G0 := G
  obtain ⟨hx, hb, hr, hml, hown, hw, hlk⟩ := G
  refine lv_aload_n hx hb dX5_move_0 rfl (lv_at hl 0 rfl) ?_
  refine lv_iload_n hx hb dX5_move_1 rfl (lv_at hl 1 rfl) ?_
  obtain ⟨q1, hq1, hm⟩ := zbind hm
  have hPc := hP.sub (ws' := (wQDf aQ aY aS aNs aTs aEs aDc aN cd pv dc)) [0, 1] rfl
  have hDc := hD.sub (ws' := (wQDf aQ aY aS aNs aTs aEs aDc aN cd pv dc)) [0, 1] (by decide) rfl
  have hKc := hK.sub (tys' := wQDf_t cd) [0] rfl
  have hFc := va_free (wc := (wQDf aQ aY aS aNs aTs aEs aDc aN cd pv dc)) hD hS hA [0, 1] rfl
  refine zbSq (wr := [(aN, .inr (1, [.ref bN, .int (v 1), .int (v 2), .int (v 3), .int (v 4), .int (v 5), .int (v 6), .int (v 7)])), (bN, .inl (c1, 25, .inl b))]) (w1 := (wQDf aQ aY aS aNs aTs aEs aDc aN cd pv dc)) (w' := (wQDN aQ aY aS aNs aTs aEs aDc aN bN cd c1 pv dc v b)) (va_runV (As := [.int a0]) (rest := []) ⟨hx, hb, hml, hown, hw⟩ (k_P_existing l D aQ aY aS aNs aTs aEs aDc aN cd _ a0 pv dc hd q1 hq1) (zcV (C := RX5) 1 hw (zgood zw422) rfl rfl rfl zw176 zw424 zw423 zw425 hdX5_existing ⟨Nat.le_of_ble_eq_true rfl, Nat.le_of_ble_eq_true rfl⟩) (zpreV (zpre zC_ok hX hS hFc hPc hKc hDc) (va_recv hK hP rfl (q0 := 0) rfl)) rfl rfl hl.1 rfl (lv_room (Nat.le_of_ble_eq_true rfl)) dX5_move_2 ⟨Nat.zero_le _, Nat.zero_le _⟩) hP hD hS hFc [0, 1] [2, 3] [2, 3, 0, 1] rfl rfl (by decide) (by decide) rfl (by decide) (fun H locs hP hD hS => ?_)
  refine lv_astore_n (lv' := [(3, .ref aN), (0, .ref aQ), (1, .int a0), (2, .int a1)]) hx hb dX5_move_5 rfl hl (by decide) rfl (fun ls hl => ?_)
  refine lv_aload_n hx hb dX5_move_6 rfl (lv_at hl 1 rfl) ?_
  refine lv_iload_n hx hb dX5_move_7 rfl (lv_at hl 3 rfl) ?_
  obtain ⟨q2, hq2, hm⟩ := zbind hm
  have hPc := hP.sub (ws' := (wQDf aQ aY aS aNs aTs aEs aDc aN cd pv dc)) [0, 1] rfl
  have hDc := hD.sub (ws' := (wQDf aQ aY aS aNs aTs aEs aDc aN cd pv dc)) [0, 1] (by decide) rfl
  have hKc := hK.sub (tys' := wQDf_t cd) [0] rfl
  have hFc := va_free (wc := (wQDf aQ aY aS aNs aTs aEs aDc aN cd pv dc)) hD hS hA [0, 1] rfl
  refine zbSq (wr := [(aN, .inr (1, [.ref bN, .int (v 1), .int (v 2), .int (v 3), .int (v 4), .int (v 5), .int (v 6), .int (v 7)])), (bN, .inl (c1, 25, .inl b))]) (w1 := (wQDf aQ aY aS aNs aTs aEs aDc aN cd pv dc)) (w' := (wQDN aQ aY aS aNs aTs aEs aDc aN bN cd c1 pv dc v b)) (va_runV (As := [.int a1]) (rest := []) ⟨hx, hb, hml, hown, hw⟩ (k_P_existing l D aQ aY aS aNs aTs aEs aDc aN cd _ a1 pv dc hd2 q2 hq2) (zcV (C := RX5) 1 hw (zgood zw422) rfl rfl rfl zw176 zw424 zw423 zw425 hdX5_existing ⟨Nat.le_of_ble_eq_true rfl, Nat.le_of_ble_eq_true rfl⟩) (zpreV (zpre zC_ok hX hS hFc hPc hKc hDc) (va_recv hK hP rfl (q0 := 0) rfl)) rfl rfl hl.1 rfl (lv_room (Nat.le_of_ble_eq_true rfl)) dX5_move_8 ⟨Nat.zero_le _, Nat.zero_le _⟩) hP hD hS hFc [0, 1] [2, 3] [2, 3, 0, 1] rfl rfl (by decide) (by decide) rfl (by decide) (fun H locs hP hD hS => ?_)
  refine lv_astore (lv' := [(4, .ref aN), (3, .ref aN), (0, .ref aQ), (1, .int a0), (2, .int a1)]) hx hb dX5_move_11 hl (by decide) rfl (fun ls hl => ?_)
  refine lv_aload hx hb dX5_move_13 (lv_at hl 0 rfl) ?_
  refine lv_aload_n hx hb dX5_move_15 rfl (lv_at hl 1 rfl) ?_
  obtain ⟨q3, hq3, hm⟩ := zbind hm
  have hPc := hP.sub (ws' := (wN aN bN c1 v b)) [2, 3] rfl
  have hDc := hD.sub (ws' := (wN aN bN c1 v b)) [2, 3] (by decide) rfl
  have hKc := hK.sub (tys' := wN_t c1) [1] rfl
  have hFc := va_free (wc := (wN aN bN c1 v b)) hD hS hA [2, 3] rfl
  refine zbSi (wr := [(aQ, .inr (4, [.ref aY, .int (pv 1), .ref aS, .ref aNs, .ref aTs, .ref aEs, .ref aDc, .int (pv 7)])), (aDc, .inl (cd, 8, .inr (.inr (.inr (.inr dc)))))]) (w1 := (wN aN bN c1 v q3.2)) (w' := (wQDN aQ aY aS aNs aTs aEs aDc aN bN cd c1 pv dc v q3.2)) (va_runU (As := [.ref aN]) (rest := []) ⟨hx, hb, hml, hown, hw⟩ (k_F_takeField_N l D aN bN c1 _ v b  q3 hq3) (va_cwU (C := RX2) (owner := RX1) (x := ⟨RX1, "takeField", "(LPictureFields$Field;)Z"⟩) 1 hw (zgoodL (List.forall_mem_cons.mpr ⟨zw453, List.forall_mem_cons.mpr ⟨zw454, List.forall_mem_cons.mpr ⟨zw455, List.forall_mem_cons.mpr ⟨zw452, List.forall_mem_cons.mpr ⟨zw409, fun _ h => absurd h List.not_mem_nil⟩⟩⟩⟩⟩) zw451) rfl rfl rfl rfl (by decide +kernel) ⟨Nat.le_of_ble_eq_true rfl, Nat.le_of_ble_eq_true rfl⟩) (zpreV (zpre zC_ok hX hS hFc hPc hKc hDc) (va_recv hK hP rfl (q0 := 2) rfl)) rfl rfl hl.1 rfl (lv_room (Nat.le_of_ble_eq_true rfl)) dX5_move_16 ⟨Nat.zero_le _, Nat.zero_le _⟩) hP hD hS hFc [2, 3] [0, 1] [0, 1, 2, 3] rfl rfl (by decide) (by decide) rfl (by decide) (fun H locs hP hD hS => ?_)
  refine lv_if_ne (tgt := 32) hx hb dX5_move_19 rfl (fun cd4 => ?_) (fun cd4 => ?_)
  · replace hm := zf cd4 hm
    cases hm
    exact zretv hx hb hr hlk hP hD hS dX5_move_32
  · replace hm := zt cd4 hm
    cases hm

def m_P_move_NN (a0 : Int32) (a1 : Int32) (pv : Nat → Int32) (dc : Nat → Option Nat) (v : Nat → Int32) (b : Nat → Int32) (v2 : Nat → Int32) (b2 : Nat → Int32)  : Option ((Nat → Int32)) := (m_P_existing a0 pv dc).bind (fun q1 => (m_P_existing a1 pv dc).bind (fun q2 => (m_F_takeField_NN v b v2 b2).bind (fun q3 => (if q3.1 = 0 then none else (some q3.2)))))
section
variable {p : Program} {l : Launch} {e : Env} {s : State} {m : MethodId} {args : Array Value} {below : List Frame} {meth : Method} {c : Code} {D : va_G} {w0 : va_W} {aQ aY aS aNs aTs aEs aDc aN bN aN2 bN2 : Nat} {cd c1 c12 : ClassId} {pv : Nat → Int32} {dc : Nat → Option Nat} {v : Nat → Int32} {v2 : Nat → Int32} {b2 : Nat → Int32} {a0 : Int32} {a1 : Int32}
end
set_option maxRecDepth 100000 in
set_option maxHeartbeats 4000000 in
theorem k_P_move_NN (l : Launch) (D : va_G) (aQ aY aS aNs aTs aEs aDc aN bN aN2 bN2 : Nat) (cd c1 c12 : ClassId) (sz : Nat) (a0 : Int32) (a1 : Int32) (pv : Nat → Int32) (dc : Nat → Option Nat) (v : Nat → Int32) (b : Nat → Int32) (v2 : Nat → Int32) (b2 : Nat → Int32) (hd : dc a0.toNatClampNeg = some aN2) (hd2 : dc a1.toNatClampNeg = some aN) (res : (Nat → Int32)) (hm : m_P_move_NN a0 a1 pv dc v b v2 b2  = some res) : Met l yX5_move (Cond.code yX5_move cX5_move 5 none :: zBIG) (zR 4 92) (va_Pc [.ref aQ, .int a0, .int a1] (zP zC D vwCl (wQDNN2_t cd c1 c12) (wQDNN2 aQ aY aS aNs aTs aEs aDc aN bN aN2 bN2 cd c1 c12 pv dc v b v2 b2) sz)) (zQv D vwCl (wQDNN2 aQ aY aS aNs aTs aEs aDc aN bN aN2 bN2 cd c1 c12 pv dc v b v2 b2) (wQDNN2 aQ aY aS aNs aTs aEs aDc aN bN aN2 bN2 cd c1 c12 pv dc v res v2 b2) sz) 0 0 (va_A (wQDNN2 aQ aY aS aNs aTs aEs aDc aN bN aN2 bN2 cd c1 c12 pv dc v b v2 b2) sz) := by
  refine zEnter RX5 [.ref aQ, .int a0, .int a1] (by decide) rfl (Nat.le_of_ble_eq_true rfl) (fun p e s m below meth c ls G hK hX hP hD hsz hl => ?_)
  subst hsz
  unfold m_P_move_NN at hm
  have hl : lv_has ls 5 [(0, .ref aQ), (1, .int a0), (2, .int a1)] := hl
  have hS : va_S (va_A (wQDNN2 aQ aY aS aNs aTs aEs aDc aN bN aN2 bN2 cd c1 c12 pv dc v b v2 b2) s.heap.size) s.heap s.heap [] := va_S.rf
  have hA : ∀ q, s.heap.size ≤ q → va_A (wQDNN2 aQ aY aS aNs aTs aEs aDc aN bN aN2 bN2 cd c1 c12 pv dc v b v2 b2) s.heap.size q := fun q h => Or.inr h
  have G0 := G
  obtain ⟨hx, hb, hr, hml, hown, hw, hlk⟩ := G
  refine lv_aload_n hx hb dX5_move_0 rfl (lv_at hl 0 rfl) ?_
  refine lv_iload_n hx hb dX5_move_1 rfl (lv_at hl 1 rfl) ?_
  obtain ⟨q1, hq1, hm⟩ := zbind hm
  have hPc := hP.sub (ws' := (wQDf aQ aY aS aNs aTs aEs aDc aN2 cd pv dc)) [0, 1] rfl
  have hDc := hD.sub (ws' := (wQDf aQ aY aS aNs aTs aEs aDc aN2 cd pv dc)) [0, 1] (by decide) rfl
  have hKc := hK.sub (tys' := wQDf_t cd) [0] rfl
  have hFc := va_free (wc := (wQDf aQ aY aS aNs aTs aEs aDc aN2 cd pv dc)) hD hS hA [0, 1] rfl
  refine zbSq (wr := [(aN, .inr (1, [.ref bN, .int (v 1), .int (v 2), .int (v 3), .int (v 4), .int (v 5), .int (v 6), .int (v 7)])), (bN, .inl (c1, 25, .inl b)), (aN2, .inr (1, [.ref bN2, .int (v2 1), .int (v2 2), .int (v2 3), .int (v2 4), .int (v2 5), .int (v2 6), .int (v2 7)])), (bN2, .inl (c12, 25, .inl b2))]) (w1 := (wQDf aQ aY aS aNs aTs aEs aDc aN2 cd pv dc)) (w' := (wQDNN2 aQ aY aS aNs aTs aEs aDc aN bN aN2 bN2 cd c1 c12 pv dc v b v2 b2)) (va_runV (As := [.int a0]) (rest := []) ⟨hx, hb, hml, hown, hw⟩ (k_P_existing l D aQ aY aS aNs aTs aEs aDc aN2 cd _ a0 pv dc hd q1 hq1) (zcV (C := RX5) 1 hw (zgood zw422) rfl rfl rfl zw176 zw424 zw423 zw425 hdX5_existing ⟨Nat.le_of_ble_eq_true rfl, Nat.le_of_ble_eq_true rfl⟩) (zpreV (zpre zC_ok hX hS hFc hPc hKc hDc) (va_recv hK hP rfl (q0 := 0) rfl)) rfl rfl hl.1 rfl (lv_room (Nat.le_of_ble_eq_true rfl)) dX5_move_2 ⟨Nat.zero_le _, Nat.zero_le _⟩) hP hD hS hFc [0, 1] [2, 3, 4, 5] [4, 5, 0, 1, 2, 3] rfl rfl (by decide) (by decide) rfl (by decide) (fun H locs hP hD hS => ?_)
  refine lv_astore_n (lv' := [(3, .ref aN2), (0, .ref aQ), (1, .int a0), (2, .int a1)]) hx hb dX5_move_5 rfl hl (by decide) rfl (fun ls hl => ?_)
  refine lv_aload_n hx hb dX5_move_6 rfl (lv_at hl 1 rfl) ?_
  refine lv_iload_n hx hb dX5_move_7 rfl (lv_at hl 3 rfl) ?_
  obtain ⟨q2, hq2, hm⟩ := zbind hm
  have hPc := hP.sub (ws' := (wQDf aQ aY aS aNs aTs aEs aDc aN cd pv dc)) [0, 1] rfl
  have hDc := hD.sub (ws' := (wQDf aQ aY aS aNs aTs aEs aDc aN cd pv dc)) [0, 1] (by decide) rfl
  have hKc := hK.sub (tys' := wQDf_t cd) [0] rfl
  have hFc := va_free (wc := (wQDf aQ aY aS aNs aTs aEs aDc aN cd pv dc)) hD hS hA [0, 1] rfl
  refine zbSq (wr := [(aN, .inr (1, [.ref bN, .int (v 1), .int (v 2), .int (v 3), .int (v 4), .int (v 5), .int (v 6), .int (v 7)])), (bN, .inl (c1, 25, .inl b)), (aN2, .inr (1, [.ref bN2, .int (v2 1), .int (v2 2), .int (v2 3), .int (v2 4), .int (v2 5), .int (v2 6), .int (v2 7)])), (bN2, .inl (c12, 25, .inl b2))]) (w1 := (wQDf aQ aY aS aNs aTs aEs aDc aN cd pv dc)) (w' := (wQDNN2 aQ aY aS aNs aTs aEs aDc aN bN aN2 bN2 cd c1 c12 pv dc v b v2 b2)) (va_runV (As := [.int a1]) (rest := []) ⟨hx, hb, hml, hown, hw⟩ (k_P_existing l D aQ aY aS aNs aTs aEs aDc aN cd _ a1 pv dc hd2 q2 hq2) (zcV (C := RX5) 1 hw (zgood zw422) rfl rfl rfl zw176 zw424 zw423 zw425 hdX5_existing ⟨Nat.le_of_ble_eq_true rfl, Nat.le_of_ble_eq_true rfl⟩) (zpreV (zpre zC_ok hX hS hFc hPc hKc hDc) (va_recv hK hP rfl (q0 := 0) rfl)) rfl rfl hl.1 rfl (lv_room (Nat.le_of_ble_eq_true rfl)) dX5_move_8 ⟨Nat.zero_le _, Nat.zero_le _⟩) hP hD hS hFc [0, 1] [2, 3, 4, 5] [4, 5, 0, 1, 2, 3] rfl rfl (by decide) (by decide) rfl (by decide) (fun H locs hP hD hS => ?_)
  refine lv_astore (lv' := [(4, .ref aN), (3, .ref aN2), (0, .ref aQ), (1, .int a0), (2, .int a1)]) hx hb dX5_move_11 hl (by decide) rfl (fun ls hl => ?_)
  refine lv_aload hx hb dX5_move_13 (lv_at hl 0 rfl) ?_
  refine lv_aload_n hx hb dX5_move_15 rfl (lv_at hl 1 rfl) ?_
  obtain ⟨q3, hq3, hm⟩ := zbind hm
  have hPc := hP.sub (ws' := (wNN2 aN bN aN2 bN2 c1 c12 v b v2 b2)) [2, 3, 4, 5] rfl
  have hDc := hD.sub (ws' := (wNN2 aN bN aN2 bN2 c1 c12 v b v2 b2)) [2, 3, 4, 5] (by decide) rfl
  have hKc := hK.sub (tys' := wNN2_t c1 c12) [1, 2] rfl
  have hFc := va_free (wc := (wNN2 aN bN aN2 bN2 c1 c12 v b v2 b2)) hD hS hA [2, 3, 4, 5] rfl
  refine zbSi (wr := [(aQ, .inr (4, [.ref aY, .int (pv 1), .ref aS, .ref aNs, .ref aTs, .ref aEs, .ref aDc, .int (pv 7)])), (aDc, .inl (cd, 8, .inr (.inr (.inr (.inr dc)))))]) (w1 := (wNN2 aN bN aN2 bN2 c1 c12 v q3.2 v2 b2)) (w' := (wQDNN2 aQ aY aS aNs aTs aEs aDc aN bN aN2 bN2 cd c1 c12 pv dc v q3.2 v2 b2)) (va_runU (As := [.ref aN2]) (rest := []) ⟨hx, hb, hml, hown, hw⟩ (k_F_takeField_NN l D aN bN aN2 bN2 c1 c12 _ v b v2 b2  q3 hq3) (va_cwU (C := RX2) (owner := RX1) (x := ⟨RX1, "takeField", "(LPictureFields$Field;)Z"⟩) 1 hw (zgoodL (List.forall_mem_cons.mpr ⟨zw453, List.forall_mem_cons.mpr ⟨zw454, List.forall_mem_cons.mpr ⟨zw455, List.forall_mem_cons.mpr ⟨zw452, List.forall_mem_cons.mpr ⟨zw409, fun _ h => absurd h List.not_mem_nil⟩⟩⟩⟩⟩) zw451) rfl rfl rfl rfl (by decide +kernel) ⟨Nat.le_of_ble_eq_true rfl, Nat.le_of_ble_eq_true rfl⟩) (zpreV (zpre zC_ok hX hS hFc hPc hKc hDc) (va_recv hK hP rfl (q0 := 2) rfl)) rfl rfl hl.1 rfl (lv_room (Nat.le_of_ble_eq_true rfl)) dX5_move_16 ⟨Nat.zero_le _, Nat.zero_le _⟩) hP hD hS hFc [2, 3, 4, 5] [0, 1] [0, 1, 2, 3, 4, 5] rfl rfl (by decide) (by decide) rfl (by decide) (fun H locs hP hD hS => ?_)
  refine lv_if_ne (tgt := 32) hx hb dX5_move_19 rfl (fun cd4 => ?_) (fun cd4 => ?_)
  · replace hm := zf cd4 hm
    cases hm
    exact zretv hx hb hr hlk hP hD hS dX5_move_32
  · replace hm := zt cd4 hm
    cases hm

def m_P_move_NT (a0 : Int32) (a1 : Int32) (pv : Nat → Int32) (dc : Nat → Option Nat) (v : Nat → Int32) (b : Nat → Int32) (v2 : Nat → Int32) (b2 : Nat → Int32)  : Option ((Nat → Int32)) := (m_P_existing a0 pv dc).bind (fun q1 => (m_P_existing a1 pv dc).bind (fun q2 => (m_F_takeField_NT v b v2 b2).bind (fun q3 => (if q3.1 = 0 then none else (some q3.2)))))
section
variable {p : Program} {l : Launch} {e : Env} {s : State} {m : MethodId} {args : Array Value} {below : List Frame} {meth : Method} {c : Code} {D : va_G} {w0 : va_W} {aQ aY aS aNs aTs aEs aDc aN bN aT2 bT2 : Nat} {cd c1 c12 : ClassId} {pv : Nat → Int32} {dc : Nat → Option Nat} {v : Nat → Int32} {v2 : Nat → Int32} {b2 : Nat → Int32} {a0 : Int32} {a1 : Int32}
end
set_option maxRecDepth 100000 in
set_option maxHeartbeats 4000000 in
theorem k_P_move_NT (l : Launch) (D : va_G) (aQ aY aS aNs aTs aEs aDc aN bN aT2 bT2 : Nat) (cd c1 c12 : ClassId) (sz : Nat) (a0 : Int32) (a1 : Int32) (pv : Nat → Int32) (dc : Nat → Option Nat) (v : Nat → Int32) (b : Nat → Int32) (v2 : Nat → Int32) (b2 : Nat → Int32) (hd : dc a0.toNatClampNeg = some aT2) (hd2 : dc a1.toNatClampNeg = some aN) (res : (Nat → Int32)) (hm : m_P_move_NT a0 a1 pv dc v b v2 b2  = some res) : Met l yX5_move (Cond.code yX5_move cX5_move 5 none :: zBIG) (zR 4 92) (va_Pc [.ref aQ, .int a0, .int a1] (zP zC D vwCl (wQDNT2_t cd c1 c12) (wQDNT2 aQ aY aS aNs aTs aEs aDc aN bN aT2 bT2 cd c1 c12 pv dc v b v2 b2) sz)) (zQv D vwCl (wQDNT2 aQ aY aS aNs aTs aEs aDc aN bN aT2 bT2 cd c1 c12 pv dc v b v2 b2) (wQDNT2 aQ aY aS aNs aTs aEs aDc aN bN aT2 bT2 cd c1 c12 pv dc v res v2 b2) sz) 0 0 (va_A (wQDNT2 aQ aY aS aNs aTs aEs aDc aN bN aT2 bT2 cd c1 c12 pv dc v b v2 b2) sz) := by
  refine zEnter RX5 [.ref aQ, .int a0, .int a1] (by decide) rfl (Nat.le_of_ble_eq_true rfl) (fun p e s m below meth c ls G hK hX hP hD hsz hl => ?_)
  subst hsz
  unfold m_P_move_NT at hm
  have hl : lv_has ls 5 [(0, .ref aQ), (1, .int a0), (2, .int a1)] := hl
  have hS : va_S (va_A (wQDNT2 aQ aY aS aNs aTs aEs aDc aN bN aT2 bT2 cd c1 c12 pv dc v b v2 b2) s.heap.size) s.heap s.heap [] := va_S.rf
  have hA : ∀ q, s.heap.size ≤ q → va_A (wQDNT2 aQ aY aS aNs aTs aEs aDc aN bN aT2 bT2 cd c1 c12 pv dc v b v2 b2) s.heap.size q := fun q h => Or.inr h
  have G0 := G
  obtain ⟨hx, hb, hr, hml, hown, hw, hlk⟩ := G
  refine lv_aload_n hx hb dX5_move_0 rfl (lv_at hl 0 rfl) ?_
  refine lv_iload_n hx hb dX5_move_1 rfl (lv_at hl 1 rfl) ?_
  obtain ⟨q1, hq1, hm⟩ := zbind hm
  have hPc := hP.sub (ws' := (wQDf aQ aY aS aNs aTs aEs aDc aT2 cd pv dc)) [0, 1] rfl
  have hDc := hD.sub (ws' := (wQDf aQ aY aS aNs aTs aEs aDc aT2 cd pv dc)) [0, 1] (by decide) rfl
  have hKc := hK.sub (tys' := wQDf_t cd) [0] rfl
  have hFc := va_free (wc := (wQDf aQ aY aS aNs aTs aEs aDc aT2 cd pv dc)) hD hS hA [0, 1] rfl
  refine zbSq (wr := [(aN, .inr (1, [.ref bN, .int (v 1), .int (v 2), .int (v 3), .int (v 4), .int (v 5), .int (v 6), .int (v 7)])), (bN, .inl (c1, 25, .inl b)), (aT2, .inr (3, [.ref bT2, .int (v2 1), .int (v2 2), .int (v2 3), .int (v2 4)])), (bT2, .inl (c12, 25, .inl b2))]) (w1 := (wQDf aQ aY aS aNs aTs aEs aDc aT2 cd pv dc)) (w' := (wQDNT2 aQ aY aS aNs aTs aEs aDc aN bN aT2 bT2 cd c1 c12 pv dc v b v2 b2)) (va_runV (As := [.int a0]) (rest := []) ⟨hx, hb, hml, hown, hw⟩ (k_P_existing l D aQ aY aS aNs aTs aEs aDc aT2 cd _ a0 pv dc hd q1 hq1) (zcV (C := RX5) 1 hw (zgood zw422) rfl rfl rfl zw176 zw424 zw423 zw425 hdX5_existing ⟨Nat.le_of_ble_eq_true rfl, Nat.le_of_ble_eq_true rfl⟩) (zpreV (zpre zC_ok hX hS hFc hPc hKc hDc) (va_recv hK hP rfl (q0 := 0) rfl)) rfl rfl hl.1 rfl (lv_room (Nat.le_of_ble_eq_true rfl)) dX5_move_2 ⟨Nat.zero_le _, Nat.zero_le _⟩) hP hD hS hFc [0, 1] [2, 3, 4, 5] [4, 5, 0, 1, 2, 3] rfl rfl (by decide) (by decide) rfl (by decide) (fun H locs hP hD hS => ?_)
  refine lv_astore_n (lv' := [(3, .ref aT2), (0, .ref aQ), (1, .int a0), (2, .int a1)]) hx hb dX5_move_5 rfl hl (by decide) rfl (fun ls hl => ?_)
  refine lv_aload_n hx hb dX5_move_6 rfl (lv_at hl 1 rfl) ?_
  refine lv_iload_n hx hb dX5_move_7 rfl (lv_at hl 3 rfl) ?_
  obtain ⟨q2, hq2, hm⟩ := zbind hm
  have hPc := hP.sub (ws' := (wQDf aQ aY aS aNs aTs aEs aDc aN cd pv dc)) [0, 1] rfl
  have hDc := hD.sub (ws' := (wQDf aQ aY aS aNs aTs aEs aDc aN cd pv dc)) [0, 1] (by decide) rfl
  have hKc := hK.sub (tys' := wQDf_t cd) [0] rfl
  have hFc := va_free (wc := (wQDf aQ aY aS aNs aTs aEs aDc aN cd pv dc)) hD hS hA [0, 1] rfl
  refine zbSq (wr := [(aN, .inr (1, [.ref bN, .int (v 1), .int (v 2), .int (v 3), .int (v 4), .int (v 5), .int (v 6), .int (v 7)])), (bN, .inl (c1, 25, .inl b)), (aT2, .inr (3, [.ref bT2, .int (v2 1), .int (v2 2), .int (v2 3), .int (v2 4)])), (bT2, .inl (c12, 25, .inl b2))]) (w1 := (wQDf aQ aY aS aNs aTs aEs aDc aN cd pv dc)) (w' := (wQDNT2 aQ aY aS aNs aTs aEs aDc aN bN aT2 bT2 cd c1 c12 pv dc v b v2 b2)) (va_runV (As := [.int a1]) (rest := []) ⟨hx, hb, hml, hown, hw⟩ (k_P_existing l D aQ aY aS aNs aTs aEs aDc aN cd _ a1 pv dc hd2 q2 hq2) (zcV (C := RX5) 1 hw (zgood zw422) rfl rfl rfl zw176 zw424 zw423 zw425 hdX5_existing ⟨Nat.le_of_ble_eq_true rfl, Nat.le_of_ble_eq_true rfl⟩) (zpreV (zpre zC_ok hX hS hFc hPc hKc hDc) (va_recv hK hP rfl (q0 := 0) rfl)) rfl rfl hl.1 rfl (lv_room (Nat.le_of_ble_eq_true rfl)) dX5_move_8 ⟨Nat.zero_le _, Nat.zero_le _⟩) hP hD hS hFc [0, 1] [2, 3, 4, 5] [4, 5, 0, 1, 2, 3] rfl rfl (by decide) (by decide) rfl (by decide) (fun H locs hP hD hS => ?_)
  refine lv_astore (lv' := [(4, .ref aN), (3, .ref aT2), (0, .ref aQ), (1, .int a0), (2, .int a1)]) hx hb dX5_move_11 hl (by decide) rfl (fun ls hl => ?_)
  refine lv_aload hx hb dX5_move_13 (lv_at hl 0 rfl) ?_
  refine lv_aload_n hx hb dX5_move_15 rfl (lv_at hl 1 rfl) ?_
  obtain ⟨q3, hq3, hm⟩ := zbind hm
  have hPc := hP.sub (ws' := (wNT2 aN bN aT2 bT2 c1 c12 v b v2 b2)) [2, 3, 4, 5] rfl
  have hDc := hD.sub (ws' := (wNT2 aN bN aT2 bT2 c1 c12 v b v2 b2)) [2, 3, 4, 5] (by decide) rfl
  have hKc := hK.sub (tys' := wNT2_t c1 c12) [1, 2] rfl
  have hFc := va_free (wc := (wNT2 aN bN aT2 bT2 c1 c12 v b v2 b2)) hD hS hA [2, 3, 4, 5] rfl
  refine zbSi (wr := [(aQ, .inr (4, [.ref aY, .int (pv 1), .ref aS, .ref aNs, .ref aTs, .ref aEs, .ref aDc, .int (pv 7)])), (aDc, .inl (cd, 8, .inr (.inr (.inr (.inr dc)))))]) (w1 := (wNT2 aN bN aT2 bT2 c1 c12 v q3.2 v2 b2)) (w' := (wQDNT2 aQ aY aS aNs aTs aEs aDc aN bN aT2 bT2 cd c1 c12 pv dc v q3.2 v2 b2)) (va_runU (As := [.ref aT2]) (rest := []) ⟨hx, hb, hml, hown, hw⟩ (k_F_takeField_NT l D aN bN aT2 bT2 c1 c12 _ v b v2 b2  q3 hq3) (va_cwU (C := RX2) (owner := RX1) (x := ⟨RX1, "takeField", "(LPictureFields$Field;)Z"⟩) 1 hw (zgoodL (List.forall_mem_cons.mpr ⟨zw453, List.forall_mem_cons.mpr ⟨zw454, List.forall_mem_cons.mpr ⟨zw455, List.forall_mem_cons.mpr ⟨zw452, List.forall_mem_cons.mpr ⟨zw409, fun _ h => absurd h List.not_mem_nil⟩⟩⟩⟩⟩) zw451) rfl rfl rfl rfl (by decide +kernel) ⟨Nat.le_of_ble_eq_true rfl, Nat.le_of_ble_eq_true rfl⟩) (zpreV (zpre zC_ok hX hS hFc hPc hKc hDc) (va_recv hK hP rfl (q0 := 2) rfl)) rfl rfl hl.1 rfl (lv_room (Nat.le_of_ble_eq_true rfl)) dX5_move_16 ⟨Nat.zero_le _, Nat.zero_le _⟩) hP hD hS hFc [2, 3, 4, 5] [0, 1] [0, 1, 2, 3, 4, 5] rfl rfl (by decide) (by decide) rfl (by decide) (fun H locs hP hD hS => ?_)
  refine lv_if_ne (tgt := 32) hx hb dX5_move_19 rfl (fun cd4 => ?_) (fun cd4 => ?_)
  · replace hm := zf cd4 hm
    cases hm
    exact zretv hx hb hr hlk hP hD hS dX5_move_32
  · replace hm := zt cd4 hm
    cases hm

def m_P_move_NE (a0 : Int32) (a1 : Int32) (pv : Nat → Int32) (dc : Nat → Option Nat) (v : Nat → Int32) (b : Nat → Int32) (v2 : Nat → Int32) (b2 : Nat → Int32) (rw2 : Nat → Int32) (pw2 : Nat → Int32)  : Option ((Nat → Int32)) := (m_P_existing a0 pv dc).bind (fun q1 => (m_P_existing a1 pv dc).bind (fun q2 => (m_F_takeField_NE v b v2 b2 rw2 pw2).bind (fun q3 => (if q3.1 = 0 then none else (some q3.2)))))
section
variable {p : Program} {l : Launch} {e : Env} {s : State} {m : MethodId} {args : Array Value} {below : List Frame} {meth : Method} {c : Code} {D : va_G} {w0 : va_W} {aQ aY aS aNs aTs aEs aDc aN bN aE2 bE2 rE2 pE2 : Nat} {cd c1 c12 c22 c32 : ClassId} {pv : Nat → Int32} {dc : Nat → Option Nat} {v : Nat → Int32} {v2 : Nat → Int32} {b2 : Nat → Int32} {rw2 : Nat → Int32} {pw2 : Nat → Int32} {a0 : Int32} {a1 : Int32}
end
set_option maxRecDepth 100000 in
set_option maxHeartbeats 4000000 in
theorem k_P_move_NE (l : Launch) (D : va_G) (aQ aY aS aNs aTs aEs aDc aN bN aE2 bE2 rE2 pE2 : Nat) (cd c1 c12 c22 c32 : ClassId) (sz : Nat) (a0 : Int32) (a1 : Int32) (pv : Nat → Int32) (dc : Nat → Option Nat) (v : Nat → Int32) (b : Nat → Int32) (v2 : Nat → Int32) (b2 : Nat → Int32) (rw2 : Nat → Int32) (pw2 : Nat → Int32) (hd : dc a0.toNatClampNeg = some aE2) (hd2 : dc a1.toNatClampNeg = some aN) (res : (Nat → Int32)) (hm : m_P_move_NE a0 a1 pv dc v b v2 b2 rw2 pw2  = some res) : Met l yX5_move (Cond.code yX5_move cX5_move 5 none :: zBIG) (zR 4 92) (va_Pc [.ref aQ, .int a0, .int a1] (zP zC D vwCl (wQDNE2_t cd c1 c12 c22 c32) (wQDNE2 aQ aY aS aNs aTs aEs aDc aN bN aE2 bE2 rE2 pE2 cd c1 c12 c22 c32 pv dc v b v2 b2 rw2 pw2) sz)) (zQv D vwCl (wQDNE2 aQ aY aS aNs aTs aEs aDc aN bN aE2 bE2 rE2 pE2 cd c1 c12 c22 c32 pv dc v b v2 b2 rw2 pw2) (wQDNE2 aQ aY aS aNs aTs aEs aDc aN bN aE2 bE2 rE2 pE2 cd c1 c12 c22 c32 pv dc v res v2 b2 rw2 pw2) sz) 0 0 (va_A (wQDNE2 aQ aY aS aNs aTs aEs aDc aN bN aE2 bE2 rE2 pE2 cd c1 c12 c22 c32 pv dc v b v2 b2 rw2 pw2) sz) := by
  refine zEnter RX5 [.ref aQ, .int a0, .int a1] (by decide) rfl (Nat.le_of_ble_eq_true rfl) (fun p e s m below meth c ls G hK hX hP hD hsz hl => ?_)
  subst hsz
  unfold m_P_move_NE at hm
  have hl : lv_has ls 5 [(0, .ref aQ), (1, .int a0), (2, .int a1)] := hl
  have hS : va_S (va_A (wQDNE2 aQ aY aS aNs aTs aEs aDc aN bN aE2 bE2 rE2 pE2 cd c1 c12 c22 c32 pv dc v b v2 b2 rw2 pw2) s.heap.size) s.heap s.heap [] := va_S.rf
  have hA : ∀ q, s.heap.size ≤ q → va_A (wQDNE2 aQ aY aS aNs aTs aEs aDc aN bN aE2 bE2 rE2 pE2 cd c1 c12 c22 c32 pv dc v b v2 b2 rw2 pw2) s.heap.size q := fun q h => Or.inr h
  have G0 := G
  obtain ⟨hx, hb, hr, hml, hown, hw, hlk⟩ := G
  refine lv_aload_n hx hb dX5_move_0 rfl (lv_at hl 0 rfl) ?_
  refine lv_iload_n hx hb dX5_move_1 rfl (lv_at hl 1 rfl) ?_
  obtain ⟨q1, hq1, hm⟩ := zbind hm
  have hPc := hP.sub (ws' := (wQDf aQ aY aS aNs aTs aEs aDc aE2 cd pv dc)) [0, 1] rfl
  have hDc := hD.sub (ws' := (wQDf aQ aY aS aNs aTs aEs aDc aE2 cd pv dc)) [0, 1] (by decide) rfl
  have hKc := hK.sub (tys' := wQDf_t cd) [0] rfl
  have hFc := va_free (wc := (wQDf aQ aY aS aNs aTs aEs aDc aE2 cd pv dc)) hD hS hA [0, 1] rfl
  refine zbSq (wr := [(aN, .inr (1, [.ref bN, .int (v 1), .int (v 2), .int (v 3), .int (v 4), .int (v 5), .int (v 6), .int (v 7)])), (bN, .inl (c1, 25, .inl b)), (aE2, .inr (0, [.ref bE2, .int (v2 1), .int (v2 2), .int (v2 3), .int (v2 4), .ref rE2, .ref pE2, .int (v2 7), .int (v2 8), .int (v2 9), .int (v2 10), .int (v2 11), .int (v2 12), .int (v2 13), .int (v2 14), .int (v2 15)])), (bE2, .inl (c12, 25, .inl b2)), (rE2, .inl (c22, 24, .inl rw2)), (pE2, .inl (c32, 24, .inl pw2))]) (w1 := (wQDf aQ aY aS aNs aTs aEs aDc aE2 cd pv dc)) (w' := (wQDNE2 aQ aY aS aNs aTs aEs aDc aN bN aE2 bE2 rE2 pE2 cd c1 c12 c22 c32 pv dc v b v2 b2 rw2 pw2)) (va_runV (As := [.int a0]) (rest := []) ⟨hx, hb, hml, hown, hw⟩ (k_P_existing l D aQ aY aS aNs aTs aEs aDc aE2 cd _ a0 pv dc hd q1 hq1) (zcV (C := RX5) 1 hw (zgood zw422) rfl rfl rfl zw176 zw424 zw423 zw425 hdX5_existing ⟨Nat.le_of_ble_eq_true rfl, Nat.le_of_ble_eq_true rfl⟩) (zpreV (zpre zC_ok hX hS hFc hPc hKc hDc) (va_recv hK hP rfl (q0 := 0) rfl)) rfl rfl hl.1 rfl (lv_room (Nat.le_of_ble_eq_true rfl)) dX5_move_2 ⟨Nat.zero_le _, Nat.zero_le _⟩) hP hD hS hFc [0, 1] [2, 3, 4, 5, 6, 7] [6, 7, 0, 1, 2, 3, 4, 5] rfl rfl (by decide) (by decide) rfl (by decide) (fun H locs hP hD hS => ?_)
  refine lv_astore_n (lv' := [(3, .ref aE2), (0, .ref aQ), (1, .int a0), (2, .int a1)]) hx hb dX5_move_5 rfl hl (by decide) rfl (fun ls hl => ?_)
  refine lv_aload_n hx hb dX5_move_6 rfl (lv_at hl 1 rfl) ?_
  refine lv_iload_n hx hb dX5_move_7 rfl (lv_at hl 3 rfl) ?_
  obtain ⟨q2, hq2, hm⟩ := zbind hm
  have hPc := hP.sub (ws' := (wQDf aQ aY aS aNs aTs aEs aDc aN cd pv dc)) [0, 1] rfl
  have hDc := hD.sub (ws' := (wQDf aQ aY aS aNs aTs aEs aDc aN cd pv dc)) [0, 1] (by decide) rfl
  have hKc := hK.sub (tys' := wQDf_t cd) [0] rfl
  have hFc := va_free (wc := (wQDf aQ aY aS aNs aTs aEs aDc aN cd pv dc)) hD hS hA [0, 1] rfl
  refine zbSq (wr := [(aN, .inr (1, [.ref bN, .int (v 1), .int (v 2), .int (v 3), .int (v 4), .int (v 5), .int (v 6), .int (v 7)])), (bN, .inl (c1, 25, .inl b)), (aE2, .inr (0, [.ref bE2, .int (v2 1), .int (v2 2), .int (v2 3), .int (v2 4), .ref rE2, .ref pE2, .int (v2 7), .int (v2 8), .int (v2 9), .int (v2 10), .int (v2 11), .int (v2 12), .int (v2 13), .int (v2 14), .int (v2 15)])), (bE2, .inl (c12, 25, .inl b2)), (rE2, .inl (c22, 24, .inl rw2)), (pE2, .inl (c32, 24, .inl pw2))]) (w1 := (wQDf aQ aY aS aNs aTs aEs aDc aN cd pv dc)) (w' := (wQDNE2 aQ aY aS aNs aTs aEs aDc aN bN aE2 bE2 rE2 pE2 cd c1 c12 c22 c32 pv dc v b v2 b2 rw2 pw2)) (va_runV (As := [.int a1]) (rest := []) ⟨hx, hb, hml, hown, hw⟩ (k_P_existing l D aQ aY aS aNs aTs aEs aDc aN cd _ a1 pv dc hd2 q2 hq2) (zcV (C := RX5) 1 hw (zgood zw422) rfl rfl rfl zw176 zw424 zw423 zw425 hdX5_existing ⟨Nat.le_of_ble_eq_true rfl, Nat.le_of_ble_eq_true rfl⟩) (zpreV (zpre zC_ok hX hS hFc hPc hKc hDc) (va_recv hK hP rfl (q0 := 0) rfl)) rfl rfl hl.1 rfl (lv_room (Nat.le_of_ble_eq_true rfl)) dX5_move_8 ⟨Nat.zero_le _, Nat.zero_le _⟩) hP hD hS hFc [0, 1] [2, 3, 4, 5, 6, 7] [6, 7, 0, 1, 2, 3, 4, 5] rfl rfl (by decide) (by decide) rfl (by decide) (fun H locs hP hD hS => ?_)
  refine lv_astore (lv' := [(4, .ref aN), (3, .ref aE2), (0, .ref aQ), (1, .int a0), (2, .int a1)]) hx hb dX5_move_11 hl (by decide) rfl (fun ls hl => ?_)
  refine lv_aload hx hb dX5_move_13 (lv_at hl 0 rfl) ?_
  refine lv_aload_n hx hb dX5_move_15 rfl (lv_at hl 1 rfl) ?_
  obtain ⟨q3, hq3, hm⟩ := zbind hm
  have hPc := hP.sub (ws' := (wNE2 aN bN aE2 bE2 rE2 pE2 c1 c12 c22 c32 v b v2 b2 rw2 pw2)) [2, 3, 4, 5, 6, 7] rfl
  have hDc := hD.sub (ws' := (wNE2 aN bN aE2 bE2 rE2 pE2 c1 c12 c22 c32 v b v2 b2 rw2 pw2)) [2, 3, 4, 5, 6, 7] (by decide) rfl
  have hKc := hK.sub (tys' := wNE2_t c1 c12 c22 c32) [1, 2, 3, 4] rfl
  have hFc := va_free (wc := (wNE2 aN bN aE2 bE2 rE2 pE2 c1 c12 c22 c32 v b v2 b2 rw2 pw2)) hD hS hA [2, 3, 4, 5, 6, 7] rfl
  refine zbSi (wr := [(aQ, .inr (4, [.ref aY, .int (pv 1), .ref aS, .ref aNs, .ref aTs, .ref aEs, .ref aDc, .int (pv 7)])), (aDc, .inl (cd, 8, .inr (.inr (.inr (.inr dc)))))]) (w1 := (wNE2 aN bN aE2 bE2 rE2 pE2 c1 c12 c22 c32 v q3.2 v2 b2 rw2 pw2)) (w' := (wQDNE2 aQ aY aS aNs aTs aEs aDc aN bN aE2 bE2 rE2 pE2 cd c1 c12 c22 c32 pv dc v q3.2 v2 b2 rw2 pw2)) (va_runU (As := [.ref aE2]) (rest := []) ⟨hx, hb, hml, hown, hw⟩ (k_F_takeField_NE l D aN bN aE2 bE2 rE2 pE2 c1 c12 c22 c32 _ v b v2 b2 rw2 pw2  q3 hq3) (va_cwU (C := RX2) (owner := RX1) (x := ⟨RX1, "takeField", "(LPictureFields$Field;)Z"⟩) 1 hw (zgoodL (List.forall_mem_cons.mpr ⟨zw453, List.forall_mem_cons.mpr ⟨zw454, List.forall_mem_cons.mpr ⟨zw455, List.forall_mem_cons.mpr ⟨zw452, List.forall_mem_cons.mpr ⟨zw409, fun _ h => absurd h List.not_mem_nil⟩⟩⟩⟩⟩) zw451) rfl rfl rfl rfl (by decide +kernel) ⟨Nat.le_of_ble_eq_true rfl, Nat.le_of_ble_eq_true rfl⟩) (zpreV (zpre zC_ok hX hS hFc hPc hKc hDc) (va_recv hK hP rfl (q0 := 2) rfl)) rfl rfl hl.1 rfl (lv_room (Nat.le_of_ble_eq_true rfl)) dX5_move_16 ⟨Nat.zero_le _, Nat.zero_le _⟩) hP hD hS hFc [2, 3, 4, 5, 6, 7] [0, 1] [0, 1, 2, 3, 4, 5, 6, 7] rfl rfl (by decide) (by decide) rfl (by decide) (fun H locs hP hD hS => ?_)
  refine lv_if_ne (tgt := 32) hx hb dX5_move_19 rfl (fun cd4 => ?_) (fun cd4 => ?_)
  · replace hm := zf cd4 hm
    cases hm
    exact zretv hx hb hr hlk hP hD hS dX5_move_32
  · replace hm := zt cd4 hm
    cases hm

def m_P_move_T (a0 : Int32) (a1 : Int32) (pv : Nat → Int32) (dc : Nat → Option Nat) (v : Nat → Int32) (b : Nat → Int32)  : Option ((Nat → Int32)) := (m_P_existing a0 pv dc).bind (fun q1 => (m_P_existing a1 pv dc).bind (fun q2 => (m_T_takeField_T v b).bind (fun q3 => (if q3.1 = 0 then none else (some q3.2)))))
section
variable {p : Program} {l : Launch} {e : Env} {s : State} {m : MethodId} {args : Array Value} {below : List Frame} {meth : Method} {c : Code} {D : va_G} {w0 : va_W} {aQ aY aS aNs aTs aEs aDc aT bT : Nat} {cd c1 : ClassId} {pv : Nat → Int32} {dc : Nat → Option Nat} {v : Nat → Int32} {a0 : Int32} {a1 : Int32}
end
set_option maxRecDepth 100000 in
set_option maxHeartbeats 4000000 in
theorem k_P_move_T (l : Launch) (D : va_G) (aQ aY aS aNs aTs aEs aDc aT bT : Nat) (cd c1 : ClassId) (sz : Nat) (a0 : Int32) (a1 : Int32) (pv : Nat → Int32) (dc : Nat → Option Nat) (v : Nat → Int32) (b : Nat → Int32) (hd : dc a0.toNatClampNeg = some aT) (hd2 : dc a1.toNatClampNeg = some aT) (res : (Nat → Int32)) (hm : m_P_move_T a0 a1 pv dc v b  = some res) : Met l yX5_move (Cond.code yX5_move cX5_move 5 none :: zBIG) (zR 2 44) (va_Pc [.ref aQ, .int a0, .int a1] (zP zC D vwCl (wQDT_t cd c1) (wQDT aQ aY aS aNs aTs aEs aDc aT bT cd c1 pv dc v b) sz)) (zQv D vwCl (wQDT aQ aY aS aNs aTs aEs aDc aT bT cd c1 pv dc v b) (wQDT aQ aY aS aNs aTs aEs aDc aT bT cd c1 pv dc v res) sz) 0 0 (va_A (wQDT aQ aY aS aNs aTs aEs aDc aT bT cd c1 pv dc v b) sz) := by
  refine zEnter RX5 [.ref aQ, .int a0, .int a1] (by decide) rfl (Nat.le_of_ble_eq_true rfl) (fun p e s m below meth c ls G hK hX hP hD hsz hl => ?_)
  subst hsz
  unfold m_P_move_T at hm
  have hl : lv_has ls 5 [(0, .ref aQ), (1, .int a0), (2, .int a1)] := hl
  have hS : va_S (va_A (wQDT aQ aY aS aNs aTs aEs aDc aT bT cd c1 pv dc v b) s.heap.size) s.heap s.heap [] := va_S.rf
  have hA : ∀ q, s.heap.size ≤ q → va_A (wQDT aQ aY aS aNs aTs aEs aDc aT bT cd c1 pv dc v b) s.heap.size q := fun q h => Or.inr h
  have G0 := G
  obtain ⟨hx, hb, hr, hml, hown, hw, hlk⟩ := G
  refine lv_aload_n hx hb dX5_move_0 rfl (lv_at hl 0 rfl) ?_
  refine lv_iload_n hx hb dX5_move_1 rfl (lv_at hl 1 rfl) ?_
  obtain ⟨q1, hq1, hm⟩ := zbind hm
  have hPc := hP.sub (ws' := (wQDf aQ aY aS aNs aTs aEs aDc aT cd pv dc)) [0, 1] rfl
  have hDc := hD.sub (ws' := (wQDf aQ aY aS aNs aTs aEs aDc aT cd pv dc)) [0, 1] (by decide) rfl
  have hKc := hK.sub (tys' := wQDf_t cd) [0] rfl
  have hFc := va_free (wc := (wQDf aQ aY aS aNs aTs aEs aDc aT cd pv dc)) hD hS hA [0, 1] rfl
  refine zbSq (wr := [(aT, .inr (3, [.ref bT, .int (v 1), .int (v 2), .int (v 3), .int (v 4)])), (bT, .inl (c1, 25, .inl b))]) (w1 := (wQDf aQ aY aS aNs aTs aEs aDc aT cd pv dc)) (w' := (wQDT aQ aY aS aNs aTs aEs aDc aT bT cd c1 pv dc v b)) (va_runV (As := [.int a0]) (rest := []) ⟨hx, hb, hml, hown, hw⟩ (k_P_existing l D aQ aY aS aNs aTs aEs aDc aT cd _ a0 pv dc hd q1 hq1) (zcV (C := RX5) 1 hw (zgood zw422) rfl rfl rfl zw176 zw424 zw423 zw425 hdX5_existing ⟨Nat.le_of_ble_eq_true rfl, Nat.le_of_ble_eq_true rfl⟩) (zpreV (zpre zC_ok hX hS hFc hPc hKc hDc) (va_recv hK hP rfl (q0 := 0) rfl)) rfl rfl hl.1 rfl (lv_room (Nat.le_of_ble_eq_true rfl)) dX5_move_2 ⟨Nat.zero_le _, Nat.zero_le _⟩) hP hD hS hFc [0, 1] [2, 3] [2, 3, 0, 1] rfl rfl (by decide) (by decide) rfl (by decide) (fun H locs hP hD hS => ?_)
  refine lv_astore_n (lv' := [(3, .ref aT), (0, .ref aQ), (1, .int a0), (2, .int a1)]) hx hb dX5_move_5 rfl hl (by decide) rfl (fun ls hl => ?_)
  refine lv_aload_n hx hb dX5_move_6 rfl (lv_at hl 1 rfl) ?_
  refine lv_iload_n hx hb dX5_move_7 rfl (lv_at hl 3 rfl) ?_
  obtain ⟨q2, hq2, hm⟩ := zbind hm
  have hPc := hP.sub (ws' := (wQDf aQ aY aS aNs aTs aEs aDc aT cd pv dc)) [0, 1] rfl
  have hDc := hD.sub (ws' := (wQDf aQ aY aS aNs aTs aEs aDc aT cd pv dc)) [0, 1] (by decide) rfl
  have hKc := hK.sub (tys' := wQDf_t cd) [0] rfl
  have hFc := va_free (wc := (wQDf aQ aY aS aNs aTs aEs aDc aT cd pv dc)) hD hS hA [0, 1] rfl
  refine zbSq (wr := [(aT, .inr (3, [.ref bT, .int (v 1), .int (v 2), .int (v 3), .int (v 4)])), (bT, .inl (c1, 25, .inl b))]) (w1 := (wQDf aQ aY aS aNs aTs aEs aDc aT cd pv dc)) (w' := (wQDT aQ aY aS aNs aTs aEs aDc aT bT cd c1 pv dc v b)) (va_runV (As := [.int a1]) (rest := []) ⟨hx, hb, hml, hown, hw⟩ (k_P_existing l D aQ aY aS aNs aTs aEs aDc aT cd _ a1 pv dc hd2 q2 hq2) (zcV (C := RX5) 1 hw (zgood zw422) rfl rfl rfl zw176 zw424 zw423 zw425 hdX5_existing ⟨Nat.le_of_ble_eq_true rfl, Nat.le_of_ble_eq_true rfl⟩) (zpreV (zpre zC_ok hX hS hFc hPc hKc hDc) (va_recv hK hP rfl (q0 := 0) rfl)) rfl rfl hl.1 rfl (lv_room (Nat.le_of_ble_eq_true rfl)) dX5_move_8 ⟨Nat.zero_le _, Nat.zero_le _⟩) hP hD hS hFc [0, 1] [2, 3] [2, 3, 0, 1] rfl rfl (by decide) (by decide) rfl (by decide) (fun H locs hP hD hS => ?_)
  refine lv_astore (lv' := [(4, .ref aT), (3, .ref aT), (0, .ref aQ), (1, .int a0), (2, .int a1)]) hx hb dX5_move_11 hl (by decide) rfl (fun ls hl => ?_)
  refine lv_aload hx hb dX5_move_13 (lv_at hl 0 rfl) ?_
  refine lv_aload_n hx hb dX5_move_15 rfl (lv_at hl 1 rfl) ?_
  obtain ⟨q3, hq3, hm⟩ := zbind hm
  have hPc := hP.sub (ws' := (wT aT bT c1 v b)) [2, 3] rfl
  have hDc := hD.sub (ws' := (wT aT bT c1 v b)) [2, 3] (by decide) rfl
  have hKc := hK.sub (tys' := wT_t c1) [1] rfl
  have hFc := va_free (wc := (wT aT bT c1 v b)) hD hS hA [2, 3] rfl
  refine zbSi (wr := [(aQ, .inr (4, [.ref aY, .int (pv 1), .ref aS, .ref aNs, .ref aTs, .ref aEs, .ref aDc, .int (pv 7)])), (aDc, .inl (cd, 8, .inr (.inr (.inr (.inr dc)))))]) (w1 := (wT aT bT c1 v q3.2)) (w' := (wQDT aQ aY aS aNs aTs aEs aDc aT bT cd c1 pv dc v q3.2)) (va_runU (As := [.ref aT]) (rest := []) ⟨hx, hb, hml, hown, hw⟩ (k_T_takeField_T l D aT bT c1 _ v b  q3 hq3) (va_cwO (C := RX4) (owner := RX1) (x := ⟨RX1, "takeField", "(LPictureFields$Field;)Z"⟩) 1 hw (zgoodL (List.forall_mem_cons.mpr ⟨zw453, List.forall_mem_cons.mpr ⟨zw454, List.forall_mem_cons.mpr ⟨zw452, List.forall_mem_cons.mpr ⟨zw458, List.forall_mem_cons.mpr ⟨zw457, List.forall_mem_cons.mpr ⟨zw402, fun _ h => absurd h List.not_mem_nil⟩⟩⟩⟩⟩⟩) zw456) rfl rfl rfl zw451 (by decide +kernel) ⟨Nat.le_of_ble_eq_true rfl, Nat.le_of_ble_eq_true rfl⟩) (zpreV (zpre zC_ok hX hS hFc hPc hKc hDc) (va_recv hK hP rfl (q0 := 2) rfl)) rfl rfl hl.1 rfl (lv_room (Nat.le_of_ble_eq_true rfl)) dX5_move_16 ⟨Nat.zero_le _, Nat.zero_le _⟩) hP hD hS hFc [2, 3] [0, 1] [0, 1, 2, 3] rfl rfl (by decide) (by decide) rfl (by decide) (fun H locs hP hD hS => ?_)
  refine lv_if_ne (tgt := 32) hx hb dX5_move_19 rfl (fun cd4 => ?_) (fun cd4 => ?_)
  · replace hm := zf cd4 hm
    cases hm
    exact zretv hx hb hr hlk hP hD hS dX5_move_32
  · replace hm := zt cd4 hm
    cases hm

def m_P_move_TN (a0 : Int32) (a1 : Int32) (pv : Nat → Int32) (dc : Nat → Option Nat) (v : Nat → Int32) (b : Nat → Int32) (v2 : Nat → Int32) (b2 : Nat → Int32)  : Option ((Nat → Int32)) := (m_P_existing a0 pv dc).bind (fun q1 => (m_P_existing a1 pv dc).bind (fun q2 => (m_T_takeField_TN v b v2 b2).bind (fun q3 => (if q3.1 = 0 then none else (some q3.2)))))
section
variable {p : Program} {l : Launch} {e : Env} {s : State} {m : MethodId} {args : Array Value} {below : List Frame} {meth : Method} {c : Code} {D : va_G} {w0 : va_W} {aQ aY aS aNs aTs aEs aDc aT bT aN2 bN2 : Nat} {cd c1 c12 : ClassId} {pv : Nat → Int32} {dc : Nat → Option Nat} {v : Nat → Int32} {v2 : Nat → Int32} {b2 : Nat → Int32} {a0 : Int32} {a1 : Int32}
end
set_option maxRecDepth 100000 in
set_option maxHeartbeats 4000000 in
theorem k_P_move_TN (l : Launch) (D : va_G) (aQ aY aS aNs aTs aEs aDc aT bT aN2 bN2 : Nat) (cd c1 c12 : ClassId) (sz : Nat) (a0 : Int32) (a1 : Int32) (pv : Nat → Int32) (dc : Nat → Option Nat) (v : Nat → Int32) (b : Nat → Int32) (v2 : Nat → Int32) (b2 : Nat → Int32) (hd : dc a0.toNatClampNeg = some aN2) (hd2 : dc a1.toNatClampNeg = some aT) (res : (Nat → Int32)) (hm : m_P_move_TN a0 a1 pv dc v b v2 b2  = some res) : Met l yX5_move (Cond.code yX5_move cX5_move 5 none :: zBIG) (zR 4 91) (va_Pc [.ref aQ, .int a0, .int a1] (zP zC D vwCl (wQDTN2_t cd c1 c12) (wQDTN2 aQ aY aS aNs aTs aEs aDc aT bT aN2 bN2 cd c1 c12 pv dc v b v2 b2) sz)) (zQv D vwCl (wQDTN2 aQ aY aS aNs aTs aEs aDc aT bT aN2 bN2 cd c1 c12 pv dc v b v2 b2) (wQDTN2 aQ aY aS aNs aTs aEs aDc aT bT aN2 bN2 cd c1 c12 pv dc v res v2 b2) sz) 0 0 (va_A (wQDTN2 aQ aY aS aNs aTs aEs aDc aT bT aN2 bN2 cd c1 c12 pv dc v b v2 b2) sz) := by
  refine zEnter RX5 [.ref aQ, .int a0, .int a1] (by decide) rfl (Nat.le_of_ble_eq_true rfl) (fun p e s m below meth c ls G hK hX hP hD hsz hl => ?_)
  subst hsz
  unfold m_P_move_TN at hm
  have hl : lv_has ls 5 [(0, .ref aQ), (1, .int a0), (2, .int a1)] := hl
  have hS : va_S (va_A (wQDTN2 aQ aY aS aNs aTs aEs aDc aT bT aN2 bN2 cd c1 c12 pv dc v b v2 b2) s.heap.size) s.heap s.heap [] := va_S.rf
  have hA : ∀ q, s.heap.size ≤ q → va_A (wQDTN2 aQ aY aS aNs aTs aEs aDc aT bT aN2 bN2 cd c1 c12 pv dc v b v2 b2) s.heap.size q := fun q h => Or.inr h
  have G0 := G
  obtain ⟨hx, hb, hr, hml, hown, hw, hlk⟩ := G
  refine lv_aload_n hx hb dX5_move_0 rfl (lv_at hl 0 rfl) ?_
  refine lv_iload_n hx hb dX5_move_1 rfl (lv_at hl 1 rfl) ?_
  obtain ⟨q1, hq1, hm⟩ := zbind hm
  have hPc := hP.sub (ws' := (wQDf aQ aY aS aNs aTs aEs aDc aN2 cd pv dc)) [0, 1] rfl
  have hDc := hD.sub (ws' := (wQDf aQ aY aS aNs aTs aEs aDc aN2 cd pv dc)) [0, 1] (by decide) rfl
  have hKc := hK.sub (tys' := wQDf_t cd) [0] rfl
  have hFc := va_free (wc := (wQDf aQ aY aS aNs aTs aEs aDc aN2 cd pv dc)) hD hS hA [0, 1] rfl
  refine zbSq (wr := [(aT, .inr (3, [.ref bT, .int (v 1), .int (v 2), .int (v 3), .int (v 4)])), (bT, .inl (c1, 25, .inl b)), (aN2, .inr (1, [.ref bN2, .int (v2 1), .int (v2 2), .int (v2 3), .int (v2 4), .int (v2 5), .int (v2 6), .int (v2 7)])), (bN2, .inl (c12, 25, .inl b2))]) (w1 := (wQDf aQ aY aS aNs aTs aEs aDc aN2 cd pv dc)) (w' := (wQDTN2 aQ aY aS aNs aTs aEs aDc aT bT aN2 bN2 cd c1 c12 pv dc v b v2 b2)) (va_runV (As := [.int a0]) (rest := []) ⟨hx, hb, hml, hown, hw⟩ (k_P_existing l D aQ aY aS aNs aTs aEs aDc aN2 cd _ a0 pv dc hd q1 hq1) (zcV (C := RX5) 1 hw (zgood zw422) rfl rfl rfl zw176 zw424 zw423 zw425 hdX5_existing ⟨Nat.le_of_ble_eq_true rfl, Nat.le_of_ble_eq_true rfl⟩) (zpreV (zpre zC_ok hX hS hFc hPc hKc hDc) (va_recv hK hP rfl (q0 := 0) rfl)) rfl rfl hl.1 rfl (lv_room (Nat.le_of_ble_eq_true rfl)) dX5_move_2 ⟨Nat.zero_le _, Nat.zero_le _⟩) hP hD hS hFc [0, 1] [2, 3, 4, 5] [4, 5, 0, 1, 2, 3] rfl rfl (by decide) (by decide) rfl (by decide) (fun H locs hP hD hS => ?_)
  refine lv_astore_n (lv' := [(3, .ref aN2), (0, .ref aQ), (1, .int a0), (2, .int a1)]) hx hb dX5_move_5 rfl hl (by decide) rfl (fun ls hl => ?_)
  refine lv_aload_n hx hb dX5_move_6 rfl (lv_at hl 1 rfl) ?_
  refine lv_iload_n hx hb dX5_move_7 rfl (lv_at hl 3 rfl) ?_
  obtain ⟨q2, hq2, hm⟩ := zbind hm
  have hPc := hP.sub (ws' := (wQDf aQ aY aS aNs aTs aEs aDc aT cd pv dc)) [0, 1] rfl
  have hDc := hD.sub (ws' := (wQDf aQ aY aS aNs aTs aEs aDc aT cd pv dc)) [0, 1] (by decide) rfl
  have hKc := hK.sub (tys' := wQDf_t cd) [0] rfl
  have hFc := va_free (wc := (wQDf aQ aY aS aNs aTs aEs aDc aT cd pv dc)) hD hS hA [0, 1] rfl
  refine zbSq (wr := [(aT, .inr (3, [.ref bT, .int (v 1), .int (v 2), .int (v 3), .int (v 4)])), (bT, .inl (c1, 25, .inl b)), (aN2, .inr (1, [.ref bN2, .int (v2 1), .int (v2 2), .int (v2 3), .int (v2 4), .int (v2 5), .int (v2 6), .int (v2 7)])), (bN2, .inl (c12, 25, .inl b2))]) (w1 := (wQDf aQ aY aS aNs aTs aEs aDc aT cd pv dc)) (w' := (wQDTN2 aQ aY aS aNs aTs aEs aDc aT bT aN2 bN2 cd c1 c12 pv dc v b v2 b2)) (va_runV (As := [.int a1]) (rest := []) ⟨hx, hb, hml, hown, hw⟩ (k_P_existing l D aQ aY aS aNs aTs aEs aDc aT cd _ a1 pv dc hd2 q2 hq2) (zcV (C := RX5) 1 hw (zgood zw422) rfl rfl rfl zw176 zw424 zw423 zw425 hdX5_existing ⟨Nat.le_of_ble_eq_true rfl, Nat.le_of_ble_eq_true rfl⟩) (zpreV (zpre zC_ok hX hS hFc hPc hKc hDc) (va_recv hK hP rfl (q0 := 0) rfl)) rfl rfl hl.1 rfl (lv_room (Nat.le_of_ble_eq_true rfl)) dX5_move_8 ⟨Nat.zero_le _, Nat.zero_le _⟩) hP hD hS hFc [0, 1] [2, 3, 4, 5] [4, 5, 0, 1, 2, 3] rfl rfl (by decide) (by decide) rfl (by decide) (fun H locs hP hD hS => ?_)
  refine lv_astore (lv' := [(4, .ref aT), (3, .ref aN2), (0, .ref aQ), (1, .int a0), (2, .int a1)]) hx hb dX5_move_11 hl (by decide) rfl (fun ls hl => ?_)
  refine lv_aload hx hb dX5_move_13 (lv_at hl 0 rfl) ?_
  refine lv_aload_n hx hb dX5_move_15 rfl (lv_at hl 1 rfl) ?_
  obtain ⟨q3, hq3, hm⟩ := zbind hm
  have hPc := hP.sub (ws' := (wTN2 aT bT aN2 bN2 c1 c12 v b v2 b2)) [2, 3, 4, 5] rfl
  have hDc := hD.sub (ws' := (wTN2 aT bT aN2 bN2 c1 c12 v b v2 b2)) [2, 3, 4, 5] (by decide) rfl
  have hKc := hK.sub (tys' := wTN2_t c1 c12) [1, 2] rfl
  have hFc := va_free (wc := (wTN2 aT bT aN2 bN2 c1 c12 v b v2 b2)) hD hS hA [2, 3, 4, 5] rfl
  refine zbSi (wr := [(aQ, .inr (4, [.ref aY, .int (pv 1), .ref aS, .ref aNs, .ref aTs, .ref aEs, .ref aDc, .int (pv 7)])), (aDc, .inl (cd, 8, .inr (.inr (.inr (.inr dc)))))]) (w1 := (wTN2 aT bT aN2 bN2 c1 c12 v q3.2 v2 b2)) (w' := (wQDTN2 aQ aY aS aNs aTs aEs aDc aT bT aN2 bN2 cd c1 c12 pv dc v q3.2 v2 b2)) (va_runU (As := [.ref aN2]) (rest := []) ⟨hx, hb, hml, hown, hw⟩ (k_T_takeField_TN l D aT bT aN2 bN2 c1 c12 _ v b v2 b2  q3 hq3) (va_cwO (C := RX4) (owner := RX1) (x := ⟨RX1, "takeField", "(LPictureFields$Field;)Z"⟩) 1 hw (zgoodL (List.forall_mem_cons.mpr ⟨zw453, List.forall_mem_cons.mpr ⟨zw454, List.forall_mem_cons.mpr ⟨zw452, List.forall_mem_cons.mpr ⟨zw458, List.forall_mem_cons.mpr ⟨zw457, List.forall_mem_cons.mpr ⟨zw402, fun _ h => absurd h List.not_mem_nil⟩⟩⟩⟩⟩⟩) zw456) rfl rfl rfl zw451 (by decide +kernel) ⟨Nat.le_of_ble_eq_true rfl, Nat.le_of_ble_eq_true rfl⟩) (zpreV (zpre zC_ok hX hS hFc hPc hKc hDc) (va_recv hK hP rfl (q0 := 2) rfl)) rfl rfl hl.1 rfl (lv_room (Nat.le_of_ble_eq_true rfl)) dX5_move_16 ⟨Nat.zero_le _, Nat.zero_le _⟩) hP hD hS hFc [2, 3, 4, 5] [0, 1] [0, 1, 2, 3, 4, 5] rfl rfl (by decide) (by decide) rfl (by decide) (fun H locs hP hD hS => ?_)
  refine lv_if_ne (tgt := 32) hx hb dX5_move_19 rfl (fun cd4 => ?_) (fun cd4 => ?_)
  · replace hm := zf cd4 hm
    cases hm
    exact zretv hx hb hr hlk hP hD hS dX5_move_32
  · replace hm := zt cd4 hm
    cases hm

def m_P_move_TT (a0 : Int32) (a1 : Int32) (pv : Nat → Int32) (dc : Nat → Option Nat) (v : Nat → Int32) (b : Nat → Int32) (v2 : Nat → Int32) (b2 : Nat → Int32)  : Option ((Nat → Int32)) := (m_P_existing a0 pv dc).bind (fun q1 => (m_P_existing a1 pv dc).bind (fun q2 => (m_T_takeField_TT v b v2 b2).bind (fun q3 => (if q3.1 = 0 then none else (some q3.2)))))
section
variable {p : Program} {l : Launch} {e : Env} {s : State} {m : MethodId} {args : Array Value} {below : List Frame} {meth : Method} {c : Code} {D : va_G} {w0 : va_W} {aQ aY aS aNs aTs aEs aDc aT bT aT2 bT2 : Nat} {cd c1 c12 : ClassId} {pv : Nat → Int32} {dc : Nat → Option Nat} {v : Nat → Int32} {v2 : Nat → Int32} {b2 : Nat → Int32} {a0 : Int32} {a1 : Int32}
end
set_option maxRecDepth 100000 in
set_option maxHeartbeats 4000000 in
theorem k_P_move_TT (l : Launch) (D : va_G) (aQ aY aS aNs aTs aEs aDc aT bT aT2 bT2 : Nat) (cd c1 c12 : ClassId) (sz : Nat) (a0 : Int32) (a1 : Int32) (pv : Nat → Int32) (dc : Nat → Option Nat) (v : Nat → Int32) (b : Nat → Int32) (v2 : Nat → Int32) (b2 : Nat → Int32) (hd : dc a0.toNatClampNeg = some aT2) (hd2 : dc a1.toNatClampNeg = some aT) (res : (Nat → Int32)) (hm : m_P_move_TT a0 a1 pv dc v b v2 b2  = some res) : Met l yX5_move (Cond.code yX5_move cX5_move 5 none :: zBIG) (zR 2 44) (va_Pc [.ref aQ, .int a0, .int a1] (zP zC D vwCl (wQDTT2_t cd c1 c12) (wQDTT2 aQ aY aS aNs aTs aEs aDc aT bT aT2 bT2 cd c1 c12 pv dc v b v2 b2) sz)) (zQv D vwCl (wQDTT2 aQ aY aS aNs aTs aEs aDc aT bT aT2 bT2 cd c1 c12 pv dc v b v2 b2) (wQDTT2 aQ aY aS aNs aTs aEs aDc aT bT aT2 bT2 cd c1 c12 pv dc v res v2 b2) sz) 0 0 (va_A (wQDTT2 aQ aY aS aNs aTs aEs aDc aT bT aT2 bT2 cd c1 c12 pv dc v b v2 b2) sz) := by
  refine zEnter RX5 [.ref aQ, .int a0, .int a1] (by decide) rfl (Nat.le_of_ble_eq_true rfl) (fun p e s m below meth c ls G hK hX hP hD hsz hl => ?_)
  subst hsz
  unfold m_P_move_TT at hm
  have hl : lv_has ls 5 [(0, .ref aQ), (1, .int a0), (2, .int a1)] := hl
  have hS : va_S (va_A (wQDTT2 aQ aY aS aNs aTs aEs aDc aT bT aT2 bT2 cd c1 c12 pv dc v b v2 b2) s.heap.size) s.heap s.heap [] := va_S.rf
  have hA : ∀ q, s.heap.size ≤ q → va_A (wQDTT2 aQ aY aS aNs aTs aEs aDc aT bT aT2 bT2 cd c1 c12 pv dc v b v2 b2) s.heap.size q := fun q h => Or.inr h
  have G0 := G
  obtain ⟨hx, hb, hr, hml, hown, hw, hlk⟩ := G
  refine lv_aload_n hx hb dX5_move_0 rfl (lv_at hl 0 rfl) ?_
  refine lv_iload_n hx hb dX5_move_1 rfl (lv_at hl 1 rfl) ?_
  obtain ⟨q1, hq1, hm⟩ := zbind hm
  have hPc := hP.sub (ws' := (wQDf aQ aY aS aNs aTs aEs aDc aT2 cd pv dc)) [0, 1] rfl
  have hDc := hD.sub (ws' := (wQDf aQ aY aS aNs aTs aEs aDc aT2 cd pv dc)) [0, 1] (by decide) rfl
  have hKc := hK.sub (tys' := wQDf_t cd) [0] rfl
  have hFc := va_free (wc := (wQDf aQ aY aS aNs aTs aEs aDc aT2 cd pv dc)) hD hS hA [0, 1] rfl
  refine zbSq (wr := [(aT, .inr (3, [.ref bT, .int (v 1), .int (v 2), .int (v 3), .int (v 4)])), (bT, .inl (c1, 25, .inl b)), (aT2, .inr (3, [.ref bT2, .int (v2 1), .int (v2 2), .int (v2 3), .int (v2 4)])), (bT2, .inl (c12, 25, .inl b2))]) (w1 := (wQDf aQ aY aS aNs aTs aEs aDc aT2 cd pv dc)) (w' := (wQDTT2 aQ aY aS aNs aTs aEs aDc aT bT aT2 bT2 cd c1 c12 pv dc v b v2 b2)) (va_runV (As := [.int a0]) (rest := []) ⟨hx, hb, hml, hown, hw⟩ (k_P_existing l D aQ aY aS aNs aTs aEs aDc aT2 cd _ a0 pv dc hd q1 hq1) (zcV (C := RX5) 1 hw (zgood zw422) rfl rfl rfl zw176 zw424 zw423 zw425 hdX5_existing ⟨Nat.le_of_ble_eq_true rfl, Nat.le_of_ble_eq_true rfl⟩) (zpreV (zpre zC_ok hX hS hFc hPc hKc hDc) (va_recv hK hP rfl (q0 := 0) rfl)) rfl rfl hl.1 rfl (lv_room (Nat.le_of_ble_eq_true rfl)) dX5_move_2 ⟨Nat.zero_le _, Nat.zero_le _⟩) hP hD hS hFc [0, 1] [2, 3, 4, 5] [4, 5, 0, 1, 2, 3] rfl rfl (by decide) (by decide) rfl (by decide) (fun H locs hP hD hS => ?_)
  refine lv_astore_n (lv' := [(3, .ref aT2), (0, .ref aQ), (1, .int a0), (2, .int a1)]) hx hb dX5_move_5 rfl hl (by decide) rfl (fun ls hl => ?_)
  refine lv_aload_n hx hb dX5_move_6 rfl (lv_at hl 1 rfl) ?_
  refine lv_iload_n hx hb dX5_move_7 rfl (lv_at hl 3 rfl) ?_
  obtain ⟨q2, hq2, hm⟩ := zbind hm
  have hPc := hP.sub (ws' := (wQDf aQ aY aS aNs aTs aEs aDc aT cd pv dc)) [0, 1] rfl
  have hDc := hD.sub (ws' := (wQDf aQ aY aS aNs aTs aEs aDc aT cd pv dc)) [0, 1] (by decide) rfl
  have hKc := hK.sub (tys' := wQDf_t cd) [0] rfl
  have hFc := va_free (wc := (wQDf aQ aY aS aNs aTs aEs aDc aT cd pv dc)) hD hS hA [0, 1] rfl
  refine zbSq (wr := [(aT, .inr (3, [.ref bT, .int (v 1), .int (v 2), .int (v 3), .int (v 4)])), (bT, .inl (c1, 25, .inl b)), (aT2, .inr (3, [.ref bT2, .int (v2 1), .int (v2 2), .int (v2 3), .int (v2 4)])), (bT2, .inl (c12, 25, .inl b2))]) (w1 := (wQDf aQ aY aS aNs aTs aEs aDc aT cd pv dc)) (w' := (wQDTT2 aQ aY aS aNs aTs aEs aDc aT bT aT2 bT2 cd c1 c12 pv dc v b v2 b2)) (va_runV (As := [.int a1]) (rest := []) ⟨hx, hb, hml, hown, hw⟩ (k_P_existing l D aQ aY aS aNs aTs aEs aDc aT cd _ a1 pv dc hd2 q2 hq2) (zcV (C := RX5) 1 hw (zgood zw422) rfl rfl rfl zw176 zw424 zw423 zw425 hdX5_existing ⟨Nat.le_of_ble_eq_true rfl, Nat.le_of_ble_eq_true rfl⟩) (zpreV (zpre zC_ok hX hS hFc hPc hKc hDc) (va_recv hK hP rfl (q0 := 0) rfl)) rfl rfl hl.1 rfl (lv_room (Nat.le_of_ble_eq_true rfl)) dX5_move_8 ⟨Nat.zero_le _, Nat.zero_le _⟩) hP hD hS hFc [0, 1] [2, 3, 4, 5] [4, 5, 0, 1, 2, 3] rfl rfl (by decide) (by decide) rfl (by decide) (fun H locs hP hD hS => ?_)
  refine lv_astore (lv' := [(4, .ref aT), (3, .ref aT2), (0, .ref aQ), (1, .int a0), (2, .int a1)]) hx hb dX5_move_11 hl (by decide) rfl (fun ls hl => ?_)
  refine lv_aload hx hb dX5_move_13 (lv_at hl 0 rfl) ?_
  refine lv_aload_n hx hb dX5_move_15 rfl (lv_at hl 1 rfl) ?_
  obtain ⟨q3, hq3, hm⟩ := zbind hm
  have hPc := hP.sub (ws' := (wTT2 aT bT aT2 bT2 c1 c12 v b v2 b2)) [2, 3, 4, 5] rfl
  have hDc := hD.sub (ws' := (wTT2 aT bT aT2 bT2 c1 c12 v b v2 b2)) [2, 3, 4, 5] (by decide) rfl
  have hKc := hK.sub (tys' := wTT2_t c1 c12) [1, 2] rfl
  have hFc := va_free (wc := (wTT2 aT bT aT2 bT2 c1 c12 v b v2 b2)) hD hS hA [2, 3, 4, 5] rfl
  refine zbSi (wr := [(aQ, .inr (4, [.ref aY, .int (pv 1), .ref aS, .ref aNs, .ref aTs, .ref aEs, .ref aDc, .int (pv 7)])), (aDc, .inl (cd, 8, .inr (.inr (.inr (.inr dc)))))]) (w1 := (wTT2 aT bT aT2 bT2 c1 c12 v q3.2 v2 b2)) (w' := (wQDTT2 aQ aY aS aNs aTs aEs aDc aT bT aT2 bT2 cd c1 c12 pv dc v q3.2 v2 b2)) (va_runU (As := [.ref aT2]) (rest := []) ⟨hx, hb, hml, hown, hw⟩ (k_T_takeField_TT l D aT bT aT2 bT2 c1 c12 _ v b v2 b2  q3 hq3) (va_cwO (C := RX4) (owner := RX1) (x := ⟨RX1, "takeField", "(LPictureFields$Field;)Z"⟩) 1 hw (zgoodL (List.forall_mem_cons.mpr ⟨zw453, List.forall_mem_cons.mpr ⟨zw454, List.forall_mem_cons.mpr ⟨zw452, List.forall_mem_cons.mpr ⟨zw458, List.forall_mem_cons.mpr ⟨zw457, List.forall_mem_cons.mpr ⟨zw402, fun _ h => absurd h List.not_mem_nil⟩⟩⟩⟩⟩⟩) zw456) rfl rfl rfl zw451 (by decide +kernel) ⟨Nat.le_of_ble_eq_true rfl, Nat.le_of_ble_eq_true rfl⟩) (zpreV (zpre zC_ok hX hS hFc hPc hKc hDc) (va_recv hK hP rfl (q0 := 2) rfl)) rfl rfl hl.1 rfl (lv_room (Nat.le_of_ble_eq_true rfl)) dX5_move_16 ⟨Nat.zero_le _, Nat.zero_le _⟩) hP hD hS hFc [2, 3, 4, 5] [0, 1] [0, 1, 2, 3, 4, 5] rfl rfl (by decide) (by decide) rfl (by decide) (fun H locs hP hD hS => ?_)
  refine lv_if_ne (tgt := 32) hx hb dX5_move_19 rfl (fun cd4 => ?_) (fun cd4 => ?_)
  · replace hm := zf cd4 hm
    cases hm
    exact zretv hx hb hr hlk hP hD hS dX5_move_32
  · replace hm := zt cd4 hm
    cases hm

def m_P_move_TE (a0 : Int32) (a1 : Int32) (pv : Nat → Int32) (dc : Nat → Option Nat) (v : Nat → Int32) (b : Nat → Int32) (v2 : Nat → Int32) (b2 : Nat → Int32) (rw2 : Nat → Int32) (pw2 : Nat → Int32)  : Option ((Nat → Int32)) := (m_P_existing a0 pv dc).bind (fun q1 => (m_P_existing a1 pv dc).bind (fun q2 => (m_T_takeField_TE v b v2 b2 rw2 pw2).bind (fun q3 => (if q3.1 = 0 then none else (some q3.2)))))
section
variable {p : Program} {l : Launch} {e : Env} {s : State} {m : MethodId} {args : Array Value} {below : List Frame} {meth : Method} {c : Code} {D : va_G} {w0 : va_W} {aQ aY aS aNs aTs aEs aDc aT bT aE2 bE2 rE2 pE2 : Nat} {cd c1 c12 c22 c32 : ClassId} {pv : Nat → Int32} {dc : Nat → Option Nat} {v : Nat → Int32} {v2 : Nat → Int32} {b2 : Nat → Int32} {rw2 : Nat → Int32} {pw2 : Nat → Int32} {a0 : Int32} {a1 : Int32}
end
set_option maxRecDepth 100000 in
set_option maxHeartbeats 4000000 in
theorem k_P_move_TE (l : Launch) (D : va_G) (aQ aY aS aNs aTs aEs aDc aT bT aE2 bE2 rE2 pE2 : Nat) (cd c1 c12 c22 c32 : ClassId) (sz : Nat) (a0 : Int32) (a1 : Int32) (pv : Nat → Int32) (dc : Nat → Option Nat) (v : Nat → Int32) (b : Nat → Int32) (v2 : Nat → Int32) (b2 : Nat → Int32) (rw2 : Nat → Int32) (pw2 : Nat → Int32) (hd : dc a0.toNatClampNeg = some aE2) (hd2 : dc a1.toNatClampNeg = some aT) (res : (Nat → Int32)) (hm : m_P_move_TE a0 a1 pv dc v b v2 b2 rw2 pw2  = some res) : Met l yX5_move (Cond.code yX5_move cX5_move 5 none :: zBIG) (zR 2 44) (va_Pc [.ref aQ, .int a0, .int a1] (zP zC D vwCl (wQDTE2_t cd c1 c12 c22 c32) (wQDTE2 aQ aY aS aNs aTs aEs aDc aT bT aE2 bE2 rE2 pE2 cd c1 c12 c22 c32 pv dc v b v2 b2 rw2 pw2) sz)) (zQv D vwCl (wQDTE2 aQ aY aS aNs aTs aEs aDc aT bT aE2 bE2 rE2 pE2 cd c1 c12 c22 c32 pv dc v b v2 b2 rw2 pw2) (wQDTE2 aQ aY aS aNs aTs aEs aDc aT bT aE2 bE2 rE2 pE2 cd c1 c12 c22 c32 pv dc v res v2 b2 rw2 pw2) sz) 0 0 (va_A (wQDTE2 aQ aY aS aNs aTs aEs aDc aT bT aE2 bE2 rE2 pE2 cd c1 c12 c22 c32 pv dc v b v2 b2 rw2 pw2) sz) := by
  refine zEnter RX5 [.ref aQ, .int a0, .int a1] (by decide) rfl (Nat.le_of_ble_eq_true rfl) (fun p e s m below meth c ls G hK hX hP hD hsz hl => ?_)
  subst hsz
  unfold m_P_move_TE at hm
  have hl : lv_has ls 5 [(0, .ref aQ), (1, .int a0), (2, .int a1)] := hl
  have hS : va_S (va_A (wQDTE2 aQ aY aS aNs aTs aEs aDc aT bT aE2 bE2 rE2 pE2 cd c1 c12 c22 c32 pv dc v b v2 b2 rw2 pw2) s.heap.size) s.heap s.heap [] := va_S.rf
  have hA : ∀ q, s.heap.size ≤ q → va_A (wQDTE2 aQ aY aS aNs aTs aEs aDc aT bT aE2 bE2 rE2 pE2 cd c1 c12 c22 c32 pv dc v b v2 b2 rw2 pw2) s.heap.size q := fun q h => Or.inr h
  have G0 := G
  obtain ⟨hx, hb, hr, hml, hown, hw, hlk⟩ := G
  refine lv_aload_n hx hb dX5_move_0 rfl (lv_at hl 0 rfl) ?_
  refine lv_iload_n hx hb dX5_move_1 rfl (lv_at hl 1 rfl) ?_
  obtain ⟨q1, hq1, hm⟩ := zbind hm
  have hPc := hP.sub (ws' := (wQDf aQ aY aS aNs aTs aEs aDc aE2 cd pv dc)) [0, 1] rfl
  have hDc := hD.sub (ws' := (wQDf aQ aY aS aNs aTs aEs aDc aE2 cd pv dc)) [0, 1] (by decide) rfl
  have hKc := hK.sub (tys' := wQDf_t cd) [0] rfl
  have hFc := va_free (wc := (wQDf aQ aY aS aNs aTs aEs aDc aE2 cd pv dc)) hD hS hA [0, 1] rfl
  refine zbSq (wr := [(aT, .inr (3, [.ref bT, .int (v 1), .int (v 2), .int (v 3), .int (v 4)])), (bT, .inl (c1, 25, .inl b)), (aE2, .inr (0, [.ref bE2, .int (v2 1), .int (v2 2), .int (v2 3), .int (v2 4), .ref rE2, .ref pE2, .int (v2 7), .int (v2 8), .int (v2 9), .int (v2 10), .int (v2 11), .int (v2 12), .int (v2 13), .int (v2 14), .int (v2 15)])), (bE2, .inl (c12, 25, .inl b2)), (rE2, .inl (c22, 24, .inl rw2)), (pE2, .inl (c32, 24, .inl pw2))]) (w1 := (wQDf aQ aY aS aNs aTs aEs aDc aE2 cd pv dc)) (w' := (wQDTE2 aQ aY aS aNs aTs aEs aDc aT bT aE2 bE2 rE2 pE2 cd c1 c12 c22 c32 pv dc v b v2 b2 rw2 pw2)) (va_runV (As := [.int a0]) (rest := []) ⟨hx, hb, hml, hown, hw⟩ (k_P_existing l D aQ aY aS aNs aTs aEs aDc aE2 cd _ a0 pv dc hd q1 hq1) (zcV (C := RX5) 1 hw (zgood zw422) rfl rfl rfl zw176 zw424 zw423 zw425 hdX5_existing ⟨Nat.le_of_ble_eq_true rfl, Nat.le_of_ble_eq_true rfl⟩) (zpreV (zpre zC_ok hX hS hFc hPc hKc hDc) (va_recv hK hP rfl (q0 := 0) rfl)) rfl rfl hl.1 rfl (lv_room (Nat.le_of_ble_eq_true rfl)) dX5_move_2 ⟨Nat.zero_le _, Nat.zero_le _⟩) hP hD hS hFc [0, 1] [2, 3, 4, 5, 6, 7] [6, 7, 0, 1, 2, 3, 4, 5] rfl rfl (by decide) (by decide) rfl (by decide) (fun H locs hP hD hS => ?_)
  refine lv_astore_n (lv' := [(3, .ref aE2), (0, .ref aQ), (1, .int a0), (2, .int a1)]) hx hb dX5_move_5 rfl hl (by decide) rfl (fun ls hl => ?_)
  refine lv_aload_n hx hb dX5_move_6 rfl (lv_at hl 1 rfl) ?_
  refine lv_iload_n hx hb dX5_move_7 rfl (lv_at hl 3 rfl) ?_
  obtain ⟨q2, hq2, hm⟩ := zbind hm
  have hPc := hP.sub (ws' := (wQDf aQ aY aS aNs aTs aEs aDc aT cd pv dc)) [0, 1] rfl
  have hDc := hD.sub (ws' := (wQDf aQ aY aS aNs aTs aEs aDc aT cd pv dc)) [0, 1] (by decide) rfl
  have hKc := hK.sub (tys' := wQDf_t cd) [0] rfl
  have hFc := va_free (wc := (wQDf aQ aY aS aNs aTs aEs aDc aT cd pv dc)) hD hS hA [0, 1] rfl
  refine zbSq (wr := [(aT, .inr (3, [.ref bT, .int (v 1), .int (v 2), .int (v 3), .int (v 4)])), (bT, .inl (c1, 25, .inl b)), (aE2, .inr (0, [.ref bE2, .int (v2 1), .int (v2 2), .int (v2 3), .int (v2 4), .ref rE2, .ref pE2, .int (v2 7), .int (v2 8), .int (v2 9), .int (v2 10), .int (v2 11), .int (v2 12), .int (v2 13), .int (v2 14), .int (v2 15)])), (bE2, .inl (c12, 25, .inl b2)), (rE2, .inl (c22, 24, .inl rw2)), (pE2, .inl (c32, 24, .inl pw2))]) (w1 := (wQDf aQ aY aS aNs aTs aEs aDc aT cd pv dc)) (w' := (wQDTE2 aQ aY aS aNs aTs aEs aDc aT bT aE2 bE2 rE2 pE2 cd c1 c12 c22 c32 pv dc v b v2 b2 rw2 pw2)) (va_runV (As := [.int a1]) (rest := []) ⟨hx, hb, hml, hown, hw⟩ (k_P_existing l D aQ aY aS aNs aTs aEs aDc aT cd _ a1 pv dc hd2 q2 hq2) (zcV (C := RX5) 1 hw (zgood zw422) rfl rfl rfl zw176 zw424 zw423 zw425 hdX5_existing ⟨Nat.le_of_ble_eq_true rfl, Nat.le_of_ble_eq_true rfl⟩) (zpreV (zpre zC_ok hX hS hFc hPc hKc hDc) (va_recv hK hP rfl (q0 := 0) rfl)) rfl rfl hl.1 rfl (lv_room (Nat.le_of_ble_eq_true rfl)) dX5_move_8 ⟨Nat.zero_le _, Nat.zero_le _⟩) hP hD hS hFc [0, 1] [2, 3, 4, 5, 6, 7] [6, 7, 0, 1, 2, 3, 4, 5] rfl rfl (by decide) (by decide) rfl (by decide) (fun H locs hP hD hS => ?_)
  refine lv_astore (lv' := [(4, .ref aT), (3, .ref aE2), (0, .ref aQ), (1, .int a0), (2, .int a1)]) hx hb dX5_move_11 hl (by decide) rfl (fun ls hl => ?_)
  refine lv_aload hx hb dX5_move_13 (lv_at hl 0 rfl) ?_
  refine lv_aload_n hx hb dX5_move_15 rfl (lv_at hl 1 rfl) ?_
  obtain ⟨q3, hq3, hm⟩ := zbind hm
  have hPc := hP.sub (ws' := (wTE2 aT bT aE2 bE2 rE2 pE2 c1 c12 c22 c32 v b v2 b2 rw2 pw2)) [2, 3, 4, 5, 6, 7] rfl
  have hDc := hD.sub (ws' := (wTE2 aT bT aE2 bE2 rE2 pE2 c1 c12 c22 c32 v b v2 b2 rw2 pw2)) [2, 3, 4, 5, 6, 7] (by decide) rfl
  have hKc := hK.sub (tys' := wTE2_t c1 c12 c22 c32) [1, 2, 3, 4] rfl
  have hFc := va_free (wc := (wTE2 aT bT aE2 bE2 rE2 pE2 c1 c12 c22 c32 v b v2 b2 rw2 pw2)) hD hS hA [2, 3, 4, 5, 6, 7] rfl
  refine zbSi (wr := [(aQ, .inr (4, [.ref aY, .int (pv 1), .ref aS, .ref aNs, .ref aTs, .ref aEs, .ref aDc, .int (pv 7)])), (aDc, .inl (cd, 8, .inr (.inr (.inr (.inr dc)))))]) (w1 := (wTE2 aT bT aE2 bE2 rE2 pE2 c1 c12 c22 c32 v q3.2 v2 b2 rw2 pw2)) (w' := (wQDTE2 aQ aY aS aNs aTs aEs aDc aT bT aE2 bE2 rE2 pE2 cd c1 c12 c22 c32 pv dc v q3.2 v2 b2 rw2 pw2)) (va_runU (As := [.ref aE2]) (rest := []) ⟨hx, hb, hml, hown, hw⟩ (k_T_takeField_TE l D aT bT aE2 bE2 rE2 pE2 c1 c12 c22 c32 _ v b v2 b2 rw2 pw2  q3 hq3) (va_cwO (C := RX4) (owner := RX1) (x := ⟨RX1, "takeField", "(LPictureFields$Field;)Z"⟩) 1 hw (zgoodL (List.forall_mem_cons.mpr ⟨zw453, List.forall_mem_cons.mpr ⟨zw454, List.forall_mem_cons.mpr ⟨zw452, List.forall_mem_cons.mpr ⟨zw458, List.forall_mem_cons.mpr ⟨zw457, List.forall_mem_cons.mpr ⟨zw402, fun _ h => absurd h List.not_mem_nil⟩⟩⟩⟩⟩⟩) zw456) rfl rfl rfl zw451 (by decide +kernel) ⟨Nat.le_of_ble_eq_true rfl, Nat.le_of_ble_eq_true rfl⟩) (zpreV (zpre zC_ok hX hS hFc hPc hKc hDc) (va_recv hK hP rfl (q0 := 2) rfl)) rfl rfl hl.1 rfl (lv_room (Nat.le_of_ble_eq_true rfl)) dX5_move_16 ⟨Nat.zero_le _, Nat.zero_le _⟩) hP hD hS hFc [2, 3, 4, 5, 6, 7] [0, 1] [0, 1, 2, 3, 4, 5, 6, 7] rfl rfl (by decide) (by decide) rfl (by decide) (fun H locs hP hD hS => ?_)
  refine lv_if_ne (tgt := 32) hx hb dX5_move_19 rfl (fun cd4 => ?_) (fun cd4 => ?_)
  · replace hm := zf cd4 hm
    cases hm
    exact zretv hx hb hr hlk hP hD hS dX5_move_32
  · replace hm := zt cd4 hm
    cases hm

def m_P_move_E (a0 : Int32) (a1 : Int32) (pv : Nat → Int32) (dc : Nat → Option Nat) (v : Nat → Int32) (b : Nat → Int32) (rw : Nat → Int32) (pw : Nat → Int32)  : Option ((Nat → Int32)) := (m_P_existing a0 pv dc).bind (fun q1 => (m_P_existing a1 pv dc).bind (fun q2 => (m_F_takeField_E v b rw pw).bind (fun q3 => (if q3.1 = 0 then none else (some q3.2)))))
section
variable {p : Program} {l : Launch} {e : Env} {s : State} {m : MethodId} {args : Array Value} {below : List Frame} {meth : Method} {c : Code} {D : va_G} {w0 : va_W} {aQ aY aS aNs aTs aEs aDc aE bE rE pE : Nat} {cd c1 c2 c3 : ClassId} {pv : Nat → Int32} {dc : Nat → Option Nat} {v : Nat → Int32} {rw : Nat → Int32} {pw : Nat → Int32} {a0 : Int32} {a1 : Int32}
end
set_option maxRecDepth 100000 in
set_option maxHeartbeats 4000000 in
theorem k_P_move_E (l : Launch) (D : va_G) (aQ aY aS aNs aTs aEs aDc aE bE rE pE : Nat) (cd c1 c2 c3 : ClassId) (sz : Nat) (a0 : Int32) (a1 : Int32) (pv : Nat → Int32) (dc : Nat → Option Nat) (v : Nat → Int32) (b : Nat → Int32) (rw : Nat → Int32) (pw : Nat → Int32) (hd : dc a0.toNatClampNeg = some aE) (hd2 : dc a1.toNatClampNeg = some aE) (res : (Nat → Int32)) (hm : m_P_move_E a0 a1 pv dc v b rw pw  = some res) : Met l yX5_move (Cond.code yX5_move cX5_move 5 none :: zBIG) (zR 6 140) (va_Pc [.ref aQ, .int a0, .int a1] (zP zC D vwCl (wQDE_t cd c1 c2 c3) (wQDE aQ aY aS aNs aTs aEs aDc aE bE rE pE cd c1 c2 c3 pv dc v b rw pw) sz)) (zQv D vwCl (wQDE aQ aY aS aNs aTs aEs aDc aE bE rE pE cd c1 c2 c3 pv dc v b rw pw) (wQDE aQ aY aS aNs aTs aEs aDc aE bE rE pE cd c1 c2 c3 pv dc v res rw pw) sz) 0 0 (va_A (wQDE aQ aY aS aNs aTs aEs aDc aE bE rE pE cd c1 c2 c3 pv dc v b rw pw) sz) := by
  refine zEnter RX5 [.ref aQ, .int a0, .int a1] (by decide) rfl (Nat.le_of_ble_eq_true rfl) (fun p e s m below meth c ls G hK hX hP hD hsz hl => ?_)
  subst hsz
  unfold m_P_move_E at hm
  have hl : lv_has ls 5 [(0, .ref aQ), (1, .int a0), (2, .int a1)] := hl
  have hS : va_S (va_A (wQDE aQ aY aS aNs aTs aEs aDc aE bE rE pE cd c1 c2 c3 pv dc v b rw pw) s.heap.size) s.heap s.heap [] := va_S.rf
  have hA : ∀ q, s.heap.size ≤ q → va_A (wQDE aQ aY aS aNs aTs aEs aDc aE bE rE pE cd c1 c2 c3 pv dc v b rw pw) s.heap.size q := fun q h => Or.inr h
  have G0 := G
  obtain ⟨hx, hb, hr, hml, hown, hw, hlk⟩ := G
  refine lv_aload_n hx hb dX5_move_0 rfl (lv_at hl 0 rfl) ?_
  refine lv_iload_n hx hb dX5_move_1 rfl (lv_at hl 1 rfl) ?_
  obtain ⟨q1, hq1, hm⟩ := zbind hm
  have hPc := hP.sub (ws' := (wQDf aQ aY aS aNs aTs aEs aDc aE cd pv dc)) [0, 1] rfl
  have hDc := hD.sub (ws' := (wQDf aQ aY aS aNs aTs aEs aDc aE cd pv dc)) [0, 1] (by decide) rfl
  have hKc := hK.sub (tys' := wQDf_t cd) [0] rfl
  have hFc := va_free (wc := (wQDf aQ aY aS aNs aTs aEs aDc aE cd pv dc)) hD hS hA [0, 1] rfl
  refine zbSq (wr := [(aE, .inr (0, [.ref bE, .int (v 1), .int (v 2), .int (v 3), .int (v 4), .ref rE, .ref pE, .int (v 7), .int (v 8), .int (v 9), .int (v 10), .int (v 11), .int (v 12), .int (v 13), .int (v 14), .int (v 15)])), (bE, .inl (c1, 25, .inl b)), (rE, .inl (c2, 24, .inl rw)), (pE, .inl (c3, 24, .inl pw))]) (w1 := (wQDf aQ aY aS aNs aTs aEs aDc aE cd pv dc)) (w' := (wQDE aQ aY aS aNs aTs aEs aDc aE bE rE pE cd c1 c2 c3 pv dc v b rw pw)) (va_runV (As := [.int a0]) (rest := []) ⟨hx, hb, hml, hown, hw⟩ (k_P_existing l D aQ aY aS aNs aTs aEs aDc aE cd _ a0 pv dc hd q1 hq1) (zcV (C := RX5) 1 hw (zgood zw422) rfl rfl rfl zw176 zw424 zw423 zw425 hdX5_existing ⟨Nat.le_of_ble_eq_true rfl, Nat.le_of_ble_eq_true rfl⟩) (zpreV (zpre zC_ok hX hS hFc hPc hKc hDc) (va_recv hK hP rfl (q0 := 0) rfl)) rfl rfl hl.1 rfl (lv_room (Nat.le_of_ble_eq_true rfl)) dX5_move_2 ⟨Nat.zero_le _, Nat.zero_le _⟩) hP hD hS hFc [0, 1] [2, 3, 4, 5] [4, 5, 0, 1, 2, 3] rfl rfl (by decide) (by decide) rfl (by decide) (fun H locs hP hD hS => ?_)
  refine lv_astore_n (lv' := [(3, .ref aE), (0, .ref aQ), (1, .int a0), (2, .int a1)]) hx hb dX5_move_5 rfl hl (by decide) rfl (fun ls hl => ?_)
  refine lv_aload_n hx hb dX5_move_6 rfl (lv_at hl 1 rfl) ?_
  refine lv_iload_n hx hb dX5_move_7 rfl (lv_at hl 3 rfl) ?_
  obtain ⟨q2, hq2, hm⟩ := zbind hm
  have hPc := hP.sub (ws' := (wQDf aQ aY aS aNs aTs aEs aDc aE cd pv dc)) [0, 1] rfl
  have hDc := hD.sub (ws' := (wQDf aQ aY aS aNs aTs aEs aDc aE cd pv dc)) [0, 1] (by decide) rfl
  have hKc := hK.sub (tys' := wQDf_t cd) [0] rfl
  have hFc := va_free (wc := (wQDf aQ aY aS aNs aTs aEs aDc aE cd pv dc)) hD hS hA [0, 1] rfl
  refine zbSq (wr := [(aE, .inr (0, [.ref bE, .int (v 1), .int (v 2), .int (v 3), .int (v 4), .ref rE, .ref pE, .int (v 7), .int (v 8), .int (v 9), .int (v 10), .int (v 11), .int (v 12), .int (v 13), .int (v 14), .int (v 15)])), (bE, .inl (c1, 25, .inl b)), (rE, .inl (c2, 24, .inl rw)), (pE, .inl (c3, 24, .inl pw))]) (w1 := (wQDf aQ aY aS aNs aTs aEs aDc aE cd pv dc)) (w' := (wQDE aQ aY aS aNs aTs aEs aDc aE bE rE pE cd c1 c2 c3 pv dc v b rw pw)) (va_runV (As := [.int a1]) (rest := []) ⟨hx, hb, hml, hown, hw⟩ (k_P_existing l D aQ aY aS aNs aTs aEs aDc aE cd _ a1 pv dc hd2 q2 hq2) (zcV (C := RX5) 1 hw (zgood zw422) rfl rfl rfl zw176 zw424 zw423 zw425 hdX5_existing ⟨Nat.le_of_ble_eq_true rfl, Nat.le_of_ble_eq_true rfl⟩) (zpreV (zpre zC_ok hX hS hFc hPc hKc hDc) (va_recv hK hP rfl (q0 := 0) rfl)) rfl rfl hl.1 rfl (lv_room (Nat.le_of_ble_eq_true rfl)) dX5_move_8 ⟨Nat.zero_le _, Nat.zero_le _⟩) hP hD hS hFc [0, 1] [2, 3, 4, 5] [4, 5, 0, 1, 2, 3] rfl rfl (by decide) (by decide) rfl (by decide) (fun H locs hP hD hS => ?_)
  refine lv_astore (lv' := [(4, .ref aE), (3, .ref aE), (0, .ref aQ), (1, .int a0), (2, .int a1)]) hx hb dX5_move_11 hl (by decide) rfl (fun ls hl => ?_)
  refine lv_aload hx hb dX5_move_13 (lv_at hl 0 rfl) ?_
  refine lv_aload_n hx hb dX5_move_15 rfl (lv_at hl 1 rfl) ?_
  obtain ⟨q3, hq3, hm⟩ := zbind hm
  have hPc := hP.sub (ws' := (wE aE bE rE pE c1 c2 c3 v b rw pw)) [2, 3, 4, 5] rfl
  have hDc := hD.sub (ws' := (wE aE bE rE pE c1 c2 c3 v b rw pw)) [2, 3, 4, 5] (by decide) rfl
  have hKc := hK.sub (tys' := wE_t c1 c2 c3) [1, 2, 3] rfl
  have hFc := va_free (wc := (wE aE bE rE pE c1 c2 c3 v b rw pw)) hD hS hA [2, 3, 4, 5] rfl
  refine zbSi (wr := [(aQ, .inr (4, [.ref aY, .int (pv 1), .ref aS, .ref aNs, .ref aTs, .ref aEs, .ref aDc, .int (pv 7)])), (aDc, .inl (cd, 8, .inr (.inr (.inr (.inr dc)))))]) (w1 := (wE aE bE rE pE c1 c2 c3 v q3.2 rw pw)) (w' := (wQDE aQ aY aS aNs aTs aEs aDc aE bE rE pE cd c1 c2 c3 pv dc v q3.2 rw pw)) (va_runU (As := [.ref aE]) (rest := []) ⟨hx, hb, hml, hown, hw⟩ (k_F_takeField_E l D aE bE rE pE c1 c2 c3 _ v b rw pw  q3 hq3) (va_cwU (C := RX0) (owner := RX1) (x := ⟨RX1, "takeField", "(LPictureFields$Field;)Z"⟩) 1 hw (zgoodL (List.forall_mem_cons.mpr ⟨zw453, List.forall_mem_cons.mpr ⟨zw454, List.forall_mem_cons.mpr ⟨zw459, List.forall_mem_cons.mpr ⟨zw452, List.forall_mem_cons.mpr ⟨zw409, fun _ h => absurd h List.not_mem_nil⟩⟩⟩⟩⟩) zw451) rfl rfl rfl rfl (by decide +kernel) ⟨Nat.le_of_ble_eq_true rfl, Nat.le_of_ble_eq_true rfl⟩) (zpreV (zpre zC_ok hX hS hFc hPc hKc hDc) (va_recv hK hP rfl (q0 := 2) rfl)) rfl rfl hl.1 rfl (lv_room (Nat.le_of_ble_eq_true rfl)) dX5_move_16 ⟨Nat.zero_le _, Nat.zero_le _⟩) hP hD hS hFc [2, 3, 4, 5] [0, 1] [0, 1, 2, 3, 4, 5] rfl rfl (by decide) (by decide) rfl (by decide) (fun H locs hP hD hS => ?_)
  refine lv_if_ne (tgt := 32) hx hb dX5_move_19 rfl (fun cd4 => ?_) (fun cd4 => ?_)
  · replace hm := zf cd4 hm
    cases hm
    exact zretv hx hb hr hlk hP hD hS dX5_move_32
  · replace hm := zt cd4 hm
    cases hm

def m_P_move_EN (a0 : Int32) (a1 : Int32) (pv : Nat → Int32) (dc : Nat → Option Nat) (v : Nat → Int32) (b : Nat → Int32) (rw : Nat → Int32) (pw : Nat → Int32) (v2 : Nat → Int32) (b2 : Nat → Int32)  : Option ((Nat → Int32)) := (m_P_existing a0 pv dc).bind (fun q1 => (m_P_existing a1 pv dc).bind (fun q2 => (m_F_takeField_EN v b rw pw v2 b2).bind (fun q3 => (if q3.1 = 0 then none else (some q3.2)))))
section
variable {p : Program} {l : Launch} {e : Env} {s : State} {m : MethodId} {args : Array Value} {below : List Frame} {meth : Method} {c : Code} {D : va_G} {w0 : va_W} {aQ aY aS aNs aTs aEs aDc aE bE rE pE aN2 bN2 : Nat} {cd c1 c2 c3 c12 : ClassId} {pv : Nat → Int32} {dc : Nat → Option Nat} {v : Nat → Int32} {rw : Nat → Int32} {pw : Nat → Int32} {v2 : Nat → Int32} {b2 : Nat → Int32} {a0 : Int32} {a1 : Int32}
end
set_option maxRecDepth 100000 in
set_option maxHeartbeats 4000000 in
theorem k_P_move_EN (l : Launch) (D : va_G) (aQ aY aS aNs aTs aEs aDc aE bE rE pE aN2 bN2 : Nat) (cd c1 c2 c3 c12 : ClassId) (sz : Nat) (a0 : Int32) (a1 : Int32) (pv : Nat → Int32) (dc : Nat → Option Nat) (v : Nat → Int32) (b : Nat → Int32) (rw : Nat → Int32) (pw : Nat → Int32) (v2 : Nat → Int32) (b2 : Nat → Int32) (hd : dc a0.toNatClampNeg = some aN2) (hd2 : dc a1.toNatClampNeg = some aE) (res : (Nat → Int32)) (hm : m_P_move_EN a0 a1 pv dc v b rw pw v2 b2  = some res) : Met l yX5_move (Cond.code yX5_move cX5_move 5 none :: zBIG) (zR 6 140) (va_Pc [.ref aQ, .int a0, .int a1] (zP zC D vwCl (wQDEN2_t cd c1 c2 c3 c12) (wQDEN2 aQ aY aS aNs aTs aEs aDc aE bE rE pE aN2 bN2 cd c1 c2 c3 c12 pv dc v b rw pw v2 b2) sz)) (zQv D vwCl (wQDEN2 aQ aY aS aNs aTs aEs aDc aE bE rE pE aN2 bN2 cd c1 c2 c3 c12 pv dc v b rw pw v2 b2) (wQDEN2 aQ aY aS aNs aTs aEs aDc aE bE rE pE aN2 bN2 cd c1 c2 c3 c12 pv dc v res rw pw v2 b2) sz) 0 0 (va_A (wQDEN2 aQ aY aS aNs aTs aEs aDc aE bE rE pE aN2 bN2 cd c1 c2 c3 c12 pv dc v b rw pw v2 b2) sz) := by
  refine zEnter RX5 [.ref aQ, .int a0, .int a1] (by decide) rfl (Nat.le_of_ble_eq_true rfl) (fun p e s m below meth c ls G hK hX hP hD hsz hl => ?_)
  subst hsz
  unfold m_P_move_EN at hm
  have hl : lv_has ls 5 [(0, .ref aQ), (1, .int a0), (2, .int a1)] := hl
  have hS : va_S (va_A (wQDEN2 aQ aY aS aNs aTs aEs aDc aE bE rE pE aN2 bN2 cd c1 c2 c3 c12 pv dc v b rw pw v2 b2) s.heap.size) s.heap s.heap [] := va_S.rf
  have hA : ∀ q, s.heap.size ≤ q → va_A (wQDEN2 aQ aY aS aNs aTs aEs aDc aE bE rE pE aN2 bN2 cd c1 c2 c3 c12 pv dc v b rw pw v2 b2) s.heap.size q := fun q h => Or.inr h
  have G0 := G
  obtain ⟨hx, hb, hr, hml, hown, hw, hlk⟩ := G
  refine lv_aload_n hx hb dX5_move_0 rfl (lv_at hl 0 rfl) ?_
  refine lv_iload_n hx hb dX5_move_1 rfl (lv_at hl 1 rfl) ?_
  obtain ⟨q1, hq1, hm⟩ := zbind hm
  have hPc := hP.sub (ws' := (wQDf aQ aY aS aNs aTs aEs aDc aN2 cd pv dc)) [0, 1] rfl
  have hDc := hD.sub (ws' := (wQDf aQ aY aS aNs aTs aEs aDc aN2 cd pv dc)) [0, 1] (by decide) rfl
  have hKc := hK.sub (tys' := wQDf_t cd) [0] rfl
  have hFc := va_free (wc := (wQDf aQ aY aS aNs aTs aEs aDc aN2 cd pv dc)) hD hS hA [0, 1] rfl
  refine zbSq (wr := [(aE, .inr (0, [.ref bE, .int (v 1), .int (v 2), .int (v 3), .int (v 4), .ref rE, .ref pE, .int (v 7), .int (v 8), .int (v 9), .int (v 10), .int (v 11), .int (v 12), .int (v 13), .int (v 14), .int (v 15)])), (bE, .inl (c1, 25, .inl b)), (rE, .inl (c2, 24, .inl rw)), (pE, .inl (c3, 24, .inl pw)), (aN2, .inr (1, [.ref bN2, .int (v2 1), .int (v2 2), .int (v2 3), .int (v2 4), .int (v2 5), .int (v2 6), .int (v2 7)])), (bN2, .inl (c12, 25, .inl b2))]) (w1 := (wQDf aQ aY aS aNs aTs aEs aDc aN2 cd pv dc)) (w' := (wQDEN2 aQ aY aS aNs aTs aEs aDc aE bE rE pE aN2 bN2 cd c1 c2 c3 c12 pv dc v b rw pw v2 b2)) (va_runV (As := [.int a0]) (rest := []) ⟨hx, hb, hml, hown, hw⟩ (k_P_existing l D aQ aY aS aNs aTs aEs aDc aN2 cd _ a0 pv dc hd q1 hq1) (zcV (C := RX5) 1 hw (zgood zw422) rfl rfl rfl zw176 zw424 zw423 zw425 hdX5_existing ⟨Nat.le_of_ble_eq_true rfl, Nat.le_of_ble_eq_true rfl⟩) (zpreV (zpre zC_ok hX hS hFc hPc hKc hDc) (va_recv hK hP rfl (q0 := 0) rfl)) rfl rfl hl.1 rfl (lv_room (Nat.le_of_ble_eq_true rfl)) dX5_move_2 ⟨Nat.zero_le _, Nat.zero_le _⟩) hP hD hS hFc [0, 1] [2, 3, 4, 5, 6, 7] [6, 7, 0, 1, 2, 3, 4, 5] rfl rfl (by decide) (by decide) rfl (by decide) (fun H locs hP hD hS => ?_)
  refine lv_astore_n (lv' := [(3, .ref aN2), (0, .ref aQ), (1, .int a0), (2, .int a1)]) hx hb dX5_move_5 rfl hl (by decide) rfl (fun ls hl => ?_)
  refine lv_aload_n hx hb dX5_move_6 rfl (lv_at hl 1 rfl) ?_
  refine lv_iload_n hx hb dX5_move_7 rfl (lv_at hl 3 rfl) ?_
  obtain ⟨q2, hq2, hm⟩ := zbind hm
  have hPc := hP.sub (ws' := (wQDf aQ aY aS aNs aTs aEs aDc aE cd pv dc)) [0, 1] rfl
  have hDc := hD.sub (ws' := (wQDf aQ aY aS aNs aTs aEs aDc aE cd pv dc)) [0, 1] (by decide) rfl
  have hKc := hK.sub (tys' := wQDf_t cd) [0] rfl
  have hFc := va_free (wc := (wQDf aQ aY aS aNs aTs aEs aDc aE cd pv dc)) hD hS hA [0, 1] rfl
  refine zbSq (wr := [(aE, .inr (0, [.ref bE, .int (v 1), .int (v 2), .int (v 3), .int (v 4), .ref rE, .ref pE, .int (v 7), .int (v 8), .int (v 9), .int (v 10), .int (v 11), .int (v 12), .int (v 13), .int (v 14), .int (v 15)])), (bE, .inl (c1, 25, .inl b)), (rE, .inl (c2, 24, .inl rw)), (pE, .inl (c3, 24, .inl pw)), (aN2, .inr (1, [.ref bN2, .int (v2 1), .int (v2 2), .int (v2 3), .int (v2 4), .int (v2 5), .int (v2 6), .int (v2 7)])), (bN2, .inl (c12, 25, .inl b2))]) (w1 := (wQDf aQ aY aS aNs aTs aEs aDc aE cd pv dc)) (w' := (wQDEN2 aQ aY aS aNs aTs aEs aDc aE bE rE pE aN2 bN2 cd c1 c2 c3 c12 pv dc v b rw pw v2 b2)) (va_runV (As := [.int a1]) (rest := []) ⟨hx, hb, hml, hown, hw⟩ (k_P_existing l D aQ aY aS aNs aTs aEs aDc aE cd _ a1 pv dc hd2 q2 hq2) (zcV (C := RX5) 1 hw (zgood zw422) rfl rfl rfl zw176 zw424 zw423 zw425 hdX5_existing ⟨Nat.le_of_ble_eq_true rfl, Nat.le_of_ble_eq_true rfl⟩) (zpreV (zpre zC_ok hX hS hFc hPc hKc hDc) (va_recv hK hP rfl (q0 := 0) rfl)) rfl rfl hl.1 rfl (lv_room (Nat.le_of_ble_eq_true rfl)) dX5_move_8 ⟨Nat.zero_le _, Nat.zero_le _⟩) hP hD hS hFc [0, 1] [2, 3, 4, 5, 6, 7] [6, 7, 0, 1, 2, 3, 4, 5] rfl rfl (by decide) (by decide) rfl (by decide) (fun H locs hP hD hS => ?_)
  refine lv_astore (lv' := [(4, .ref aE), (3, .ref aN2), (0, .ref aQ), (1, .int a0), (2, .int a1)]) hx hb dX5_move_11 hl (by decide) rfl (fun ls hl => ?_)
  refine lv_aload hx hb dX5_move_13 (lv_at hl 0 rfl) ?_
  refine lv_aload_n hx hb dX5_move_15 rfl (lv_at hl 1 rfl) ?_
  obtain ⟨q3, hq3, hm⟩ := zbind hm
  have hPc := hP.sub (ws' := (wEN2 aE bE rE pE aN2 bN2 c1 c2 c3 c12 v b rw pw v2 b2)) [2, 3, 4, 5, 6, 7] rfl
  have hDc := hD.sub (ws' := (wEN2 aE bE rE pE aN2 bN2 c1 c2 c3 c12 v b rw pw v2 b2)) [2, 3, 4, 5, 6, 7] (by decide) rfl
  have hKc := hK.sub (tys' := wEN2_t c1 c2 c3 c12) [1, 2, 3, 4] rfl
  have hFc := va_free (wc := (wEN2 aE bE rE pE aN2 bN2 c1 c2 c3 c12 v b rw pw v2 b2)) hD hS hA [2, 3, 4, 5, 6, 7] rfl
  refine zbSi (wr := [(aQ, .inr (4, [.ref aY, .int (pv 1), .ref aS, .ref aNs, .ref aTs, .ref aEs, .ref aDc, .int (pv 7)])), (aDc, .inl (cd, 8, .inr (.inr (.inr (.inr dc)))))]) (w1 := (wEN2 aE bE rE pE aN2 bN2 c1 c2 c3 c12 v q3.2 rw pw v2 b2)) (w' := (wQDEN2 aQ aY aS aNs aTs aEs aDc aE bE rE pE aN2 bN2 cd c1 c2 c3 c12 pv dc v q3.2 rw pw v2 b2)) (va_runU (As := [.ref aN2]) (rest := []) ⟨hx, hb, hml, hown, hw⟩ (k_F_takeField_EN l D aE bE rE pE aN2 bN2 c1 c2 c3 c12 _ v b rw pw v2 b2  q3 hq3) (va_cwU (C := RX0) (owner := RX1) (x := ⟨RX1, "takeField", "(LPictureFields$Field;)Z"⟩) 1 hw (zgoodL (List.forall_mem_cons.mpr ⟨zw453, List.forall_mem_cons.mpr ⟨zw454, List.forall_mem_cons.mpr ⟨zw459, List.forall_mem_cons.mpr ⟨zw452, List.forall_mem_cons.mpr ⟨zw409, fun _ h => absurd h List.not_mem_nil⟩⟩⟩⟩⟩) zw451) rfl rfl rfl rfl (by decide +kernel) ⟨Nat.le_of_ble_eq_true rfl, Nat.le_of_ble_eq_true rfl⟩) (zpreV (zpre zC_ok hX hS hFc hPc hKc hDc) (va_recv hK hP rfl (q0 := 2) rfl)) rfl rfl hl.1 rfl (lv_room (Nat.le_of_ble_eq_true rfl)) dX5_move_16 ⟨Nat.zero_le _, Nat.zero_le _⟩) hP hD hS hFc [2, 3, 4, 5, 6, 7] [0, 1] [0, 1, 2, 3, 4, 5, 6, 7] rfl rfl (by decide) (by decide) rfl (by decide) (fun H locs hP hD hS => ?_)
  refine lv_if_ne (tgt := 32) hx hb dX5_move_19 rfl (fun cd4 => ?_) (fun cd4 => ?_)
  · replace hm := zf cd4 hm
    cases hm
    exact zretv hx hb hr hlk hP hD hS dX5_move_32
  · replace hm := zt cd4 hm
    cases hm

def m_P_move_ET (a0 : Int32) (a1 : Int32) (pv : Nat → Int32) (dc : Nat → Option Nat) (v : Nat → Int32) (b : Nat → Int32) (rw : Nat → Int32) (pw : Nat → Int32) (v2 : Nat → Int32) (b2 : Nat → Int32)  : Option ((Nat → Int32)) := (m_P_existing a0 pv dc).bind (fun q1 => (m_P_existing a1 pv dc).bind (fun q2 => (m_F_takeField_ET v b rw pw v2 b2).bind (fun q3 => (if q3.1 = 0 then none else (some q3.2)))))
section
variable {p : Program} {l : Launch} {e : Env} {s : State} {m : MethodId} {args : Array Value} {below : List Frame} {meth : Method} {c : Code} {D : va_G} {w0 : va_W} {aQ aY aS aNs aTs aEs aDc aE bE rE pE aT2 bT2 : Nat} {cd c1 c2 c3 c12 : ClassId} {pv : Nat → Int32} {dc : Nat → Option Nat} {v : Nat → Int32} {rw : Nat → Int32} {pw : Nat → Int32} {v2 : Nat → Int32} {b2 : Nat → Int32} {a0 : Int32} {a1 : Int32}
end
set_option maxRecDepth 100000 in
set_option maxHeartbeats 4000000 in
theorem k_P_move_ET (l : Launch) (D : va_G) (aQ aY aS aNs aTs aEs aDc aE bE rE pE aT2 bT2 : Nat) (cd c1 c2 c3 c12 : ClassId) (sz : Nat) (a0 : Int32) (a1 : Int32) (pv : Nat → Int32) (dc : Nat → Option Nat) (v : Nat → Int32) (b : Nat → Int32) (rw : Nat → Int32) (pw : Nat → Int32) (v2 : Nat → Int32) (b2 : Nat → Int32) (hd : dc a0.toNatClampNeg = some aT2) (hd2 : dc a1.toNatClampNeg = some aE) (res : (Nat → Int32)) (hm : m_P_move_ET a0 a1 pv dc v b rw pw v2 b2  = some res) : Met l yX5_move (Cond.code yX5_move cX5_move 5 none :: zBIG) (zR 6 140) (va_Pc [.ref aQ, .int a0, .int a1] (zP zC D vwCl (wQDET2_t cd c1 c2 c3 c12) (wQDET2 aQ aY aS aNs aTs aEs aDc aE bE rE pE aT2 bT2 cd c1 c2 c3 c12 pv dc v b rw pw v2 b2) sz)) (zQv D vwCl (wQDET2 aQ aY aS aNs aTs aEs aDc aE bE rE pE aT2 bT2 cd c1 c2 c3 c12 pv dc v b rw pw v2 b2) (wQDET2 aQ aY aS aNs aTs aEs aDc aE bE rE pE aT2 bT2 cd c1 c2 c3 c12 pv dc v res rw pw v2 b2) sz) 0 0 (va_A (wQDET2 aQ aY aS aNs aTs aEs aDc aE bE rE pE aT2 bT2 cd c1 c2 c3 c12 pv dc v b rw pw v2 b2) sz) := by
  refine zEnter RX5 [.ref aQ, .int a0, .int a1] (by decide) rfl (Nat.le_of_ble_eq_true rfl) (fun p e s m below meth c ls G hK hX hP hD hsz hl => ?_)
  subst hsz
  unfold m_P_move_ET at hm
  have hl : lv_has ls 5 [(0, .ref aQ), (1, .int a0), (2, .int a1)] := hl
  have hS : va_S (va_A (wQDET2 aQ aY aS aNs aTs aEs aDc aE bE rE pE aT2 bT2 cd c1 c2 c3 c12 pv dc v b rw pw v2 b2) s.heap.size) s.heap s.heap [] := va_S.rf
  have hA : ∀ q, s.heap.size ≤ q → va_A (wQDET2 aQ aY aS aNs aTs aEs aDc aE bE rE pE aT2 bT2 cd c1 c2 c3 c12 pv dc v b rw pw v2 b2) s.heap.size q := fun q h => Or.inr h
  have G0 := G
  obtain ⟨hx, hb, hr, hml, hown, hw, hlk⟩ := G
  refine lv_aload_n hx hb dX5_move_0 rfl (lv_at hl 0 rfl) ?_
  refine lv_iload_n hx hb dX5_move_1 rfl (lv_at hl 1 rfl) ?_
  obtain ⟨q1, hq1, hm⟩ := zbind hm
  have hPc := hP.sub (ws' := (wQDf aQ aY aS aNs aTs aEs aDc aT2 cd pv dc)) [0, 1] rfl
  have hDc := hD.sub (ws' := (wQDf aQ aY aS aNs aTs aEs aDc aT2 cd pv dc)) [0, 1] (by decide) rfl
  have hKc := hK.sub (tys' := wQDf_t cd) [0] rfl
  have hFc := va_free (wc := (wQDf aQ aY aS aNs aTs aEs aDc aT2 cd pv dc)) hD hS hA [0, 1] rfl
  refine zbSq (wr := [(aE, .inr (0, [.ref bE, .int (v 1), .int (v 2), .int (v 3), .int (v 4), .ref rE, .ref pE, .int (v 7), .int (v 8), .int (v 9), .int (v 10), .int (v 11), .int (v 12), .int (v 13), .int (v 14), .int (v 15)])), (bE, .inl (c1, 25, .inl b)), (rE, .inl (c2, 24, .inl rw)), (pE, .inl (c3, 24, .inl pw)), (aT2, .inr (3, [.ref bT2, .int (v2 1), .int (v2 2), .int (v2 3), .int (v2 4)])), (bT2, .inl (c12, 25, .inl b2))]) (w1 := (wQDf aQ aY aS aNs aTs aEs aDc aT2 cd pv dc)) (w' := (wQDET2 aQ aY aS aNs aTs aEs aDc aE bE rE pE aT2 bT2 cd c1 c2 c3 c12 pv dc v b rw pw v2 b2)) (va_runV (As := [.int a0]) (rest := []) ⟨hx, hb, hml, hown, hw⟩ (k_P_existing l D aQ aY aS aNs aTs aEs aDc aT2 cd _ a0 pv dc hd q1 hq1) (zcV (C := RX5) 1 hw (zgood zw422) rfl rfl rfl zw176 zw424 zw423 zw425 hdX5_existing ⟨Nat.le_of_ble_eq_true rfl, Nat.le_of_ble_eq_true rfl⟩) (zpreV (zpre zC_ok hX hS hFc hPc hKc hDc) (va_recv hK hP rfl (q0 := 0) rfl)) rfl rfl hl.1 rfl (lv_room (Nat.le_of_ble_eq_true rfl)) dX5_move_2 ⟨Nat.zero_le _, Nat.zero_le _⟩) hP hD hS hFc [0, 1] [2, 3, 4, 5, 6, 7] [6, 7, 0, 1, 2, 3, 4, 5] rfl rfl (by decide) (by decide) rfl (by decide) (fun H locs hP hD hS => ?_)
  refine lv_astore_n (lv' := [(3, .ref aT2), (0, .ref aQ), (1, .int a0), (2, .int a1)]) hx hb dX5_move_5 rfl hl (by decide) rfl (fun ls hl => ?_)
  refine lv_aload_n hx hb dX5_move_6 rfl (lv_at hl 1 rfl) ?_
  refine lv_iload_n hx hb dX5_move_7 rfl (lv_at hl 3 rfl) ?_
  obtain ⟨q2, hq2, hm⟩ := zbind hm
  have hPc := hP.sub (ws' := (wQDf aQ aY aS aNs aTs aEs aDc aE cd pv dc)) [0, 1] rfl
  have hDc := hD.sub (ws' := (wQDf aQ aY aS aNs aTs aEs aDc aE cd pv dc)) [0, 1] (by decide) rfl
  have hKc := hK.sub (tys' := wQDf_t cd) [0] rfl
  have hFc := va_free (wc := (wQDf aQ aY aS aNs aTs aEs aDc aE cd pv dc)) hD hS hA [0, 1] rfl
  refine zbSq (wr := [(aE, .inr (0, [.ref bE, .int (v 1), .int (v 2), .int (v 3), .int (v 4), .ref rE, .ref pE, .int (v 7), .int (v 8), .int (v 9), .int (v 10), .int (v 11), .int (v 12), .int (v 13), .int (v 14), .int (v 15)])), (bE, .inl (c1, 25, .inl b)), (rE, .inl (c2, 24, .inl rw)), (pE, .inl (c3, 24, .inl pw)), (aT2, .inr (3, [.ref bT2, .int (v2 1), .int (v2 2), .int (v2 3), .int (v2 4)])), (bT2, .inl (c12, 25, .inl b2))]) (w1 := (wQDf aQ aY aS aNs aTs aEs aDc aE cd pv dc)) (w' := (wQDET2 aQ aY aS aNs aTs aEs aDc aE bE rE pE aT2 bT2 cd c1 c2 c3 c12 pv dc v b rw pw v2 b2)) (va_runV (As := [.int a1]) (rest := []) ⟨hx, hb, hml, hown, hw⟩ (k_P_existing l D aQ aY aS aNs aTs aEs aDc aE cd _ a1 pv dc hd2 q2 hq2) (zcV (C := RX5) 1 hw (zgood zw422) rfl rfl rfl zw176 zw424 zw423 zw425 hdX5_existing ⟨Nat.le_of_ble_eq_true rfl, Nat.le_of_ble_eq_true rfl⟩) (zpreV (zpre zC_ok hX hS hFc hPc hKc hDc) (va_recv hK hP rfl (q0 := 0) rfl)) rfl rfl hl.1 rfl (lv_room (Nat.le_of_ble_eq_true rfl)) dX5_move_8 ⟨Nat.zero_le _, Nat.zero_le _⟩) hP hD hS hFc [0, 1] [2, 3, 4, 5, 6, 7] [6, 7, 0, 1, 2, 3, 4, 5] rfl rfl (by decide) (by decide) rfl (by decide) (fun H locs hP hD hS => ?_)
  refine lv_astore (lv' := [(4, .ref aE), (3, .ref aT2), (0, .ref aQ), (1, .int a0), (2, .int a1)]) hx hb dX5_move_11 hl (by decide) rfl (fun ls hl => ?_)
  refine lv_aload hx hb dX5_move_13 (lv_at hl 0 rfl) ?_
  refine lv_aload_n hx hb dX5_move_15 rfl (lv_at hl 1 rfl) ?_
  obtain ⟨q3, hq3, hm⟩ := zbind hm
  have hPc := hP.sub (ws' := (wET2 aE bE rE pE aT2 bT2 c1 c2 c3 c12 v b rw pw v2 b2)) [2, 3, 4, 5, 6, 7] rfl
  have hDc := hD.sub (ws' := (wET2 aE bE rE pE aT2 bT2 c1 c2 c3 c12 v b rw pw v2 b2)) [2, 3, 4, 5, 6, 7] (by decide) rfl
  have hKc := hK.sub (tys' := wET2_t c1 c2 c3 c12) [1, 2, 3, 4] rfl
  have hFc := va_free (wc := (wET2 aE bE rE pE aT2 bT2 c1 c2 c3 c12 v b rw pw v2 b2)) hD hS hA [2, 3, 4, 5, 6, 7] rfl
  refine zbSi (wr := [(aQ, .inr (4, [.ref aY, .int (pv 1), .ref aS, .ref aNs, .ref aTs, .ref aEs, .ref aDc, .int (pv 7)])), (aDc, .inl (cd, 8, .inr (.inr (.inr (.inr dc)))))]) (w1 := (wET2 aE bE rE pE aT2 bT2 c1 c2 c3 c12 v q3.2 rw pw v2 b2)) (w' := (wQDET2 aQ aY aS aNs aTs aEs aDc aE bE rE pE aT2 bT2 cd c1 c2 c3 c12 pv dc v q3.2 rw pw v2 b2)) (va_runU (As := [.ref aT2]) (rest := []) ⟨hx, hb, hml, hown, hw⟩ (k_F_takeField_ET l D aE bE rE pE aT2 bT2 c1 c2 c3 c12 _ v b rw pw v2 b2  q3 hq3) (va_cwU (C := RX0) (owner := RX1) (x := ⟨RX1, "takeField", "(LPictureFields$Field;)Z"⟩) 1 hw (zgoodL (List.forall_mem_cons.mpr ⟨zw453, List.forall_mem_cons.mpr ⟨zw454, List.forall_mem_cons.mpr ⟨zw459, List.forall_mem_cons.mpr ⟨zw452, List.forall_mem_cons.mpr ⟨zw409, fun _ h => absurd h List.not_mem_nil⟩⟩⟩⟩⟩) zw451) rfl rfl rfl rfl (by decide +kernel) ⟨Nat.le_of_ble_eq_true rfl, Nat.le_of_ble_eq_true rfl⟩) (zpreV (zpre zC_ok hX hS hFc hPc hKc hDc) (va_recv hK hP rfl (q0 := 2) rfl)) rfl rfl hl.1 rfl (lv_room (Nat.le_of_ble_eq_true rfl)) dX5_move_16 ⟨Nat.zero_le _, Nat.zero_le _⟩) hP hD hS hFc [2, 3, 4, 5, 6, 7] [0, 1] [0, 1, 2, 3, 4, 5, 6, 7] rfl rfl (by decide) (by decide) rfl (by decide) (fun H locs hP hD hS => ?_)
  refine lv_if_ne (tgt := 32) hx hb dX5_move_19 rfl (fun cd4 => ?_) (fun cd4 => ?_)
  · replace hm := zf cd4 hm
    cases hm
    exact zretv hx hb hr hlk hP hD hS dX5_move_32
  · replace hm := zt cd4 hm
    cases hm

def m_P_move_EE (a0 : Int32) (a1 : Int32) (pv : Nat → Int32) (dc : Nat → Option Nat) (v : Nat → Int32) (b : Nat → Int32) (rw : Nat → Int32) (pw : Nat → Int32) (v2 : Nat → Int32) (b2 : Nat → Int32) (rw2 : Nat → Int32) (pw2 : Nat → Int32)  : Option ((Nat → Int32)) := (m_P_existing a0 pv dc).bind (fun q1 => (m_P_existing a1 pv dc).bind (fun q2 => (m_F_takeField_EE v b rw pw v2 b2 rw2 pw2).bind (fun q3 => (if q3.1 = 0 then none else (some q3.2)))))
section
variable {p : Program} {l : Launch} {e : Env} {s : State} {m : MethodId} {args : Array Value} {below : List Frame} {meth : Method} {c : Code} {D : va_G} {w0 : va_W} {aQ aY aS aNs aTs aEs aDc aE bE rE pE aE2 bE2 rE2 pE2 : Nat} {cd c1 c2 c3 c12 c22 c32 : ClassId} {pv : Nat → Int32} {dc : Nat → Option Nat} {v : Nat → Int32} {rw : Nat → Int32} {pw : Nat → Int32} {v2 : Nat → Int32} {b2 : Nat → Int32} {rw2 : Nat → Int32} {pw2 : Nat → Int32} {a0 : Int32} {a1 : Int32}
end
set_option maxRecDepth 100000 in
set_option maxHeartbeats 4000000 in
theorem k_P_move_EE (l : Launch) (D : va_G) (aQ aY aS aNs aTs aEs aDc aE bE rE pE aE2 bE2 rE2 pE2 : Nat) (cd c1 c2 c3 c12 c22 c32 : ClassId) (sz : Nat) (a0 : Int32) (a1 : Int32) (pv : Nat → Int32) (dc : Nat → Option Nat) (v : Nat → Int32) (b : Nat → Int32) (rw : Nat → Int32) (pw : Nat → Int32) (v2 : Nat → Int32) (b2 : Nat → Int32) (rw2 : Nat → Int32) (pw2 : Nat → Int32) (hd : dc a0.toNatClampNeg = some aE2) (hd2 : dc a1.toNatClampNeg = some aE) (res : (Nat → Int32)) (hm : m_P_move_EE a0 a1 pv dc v b rw pw v2 b2 rw2 pw2  = some res) : Met l yX5_move (Cond.code yX5_move cX5_move 5 none :: zBIG) (zR 6 140) (va_Pc [.ref aQ, .int a0, .int a1] (zP zC D vwCl (wQDEE2_t cd c1 c2 c3 c12 c22 c32) (wQDEE2 aQ aY aS aNs aTs aEs aDc aE bE rE pE aE2 bE2 rE2 pE2 cd c1 c2 c3 c12 c22 c32 pv dc v b rw pw v2 b2 rw2 pw2) sz)) (zQv D vwCl (wQDEE2 aQ aY aS aNs aTs aEs aDc aE bE rE pE aE2 bE2 rE2 pE2 cd c1 c2 c3 c12 c22 c32 pv dc v b rw pw v2 b2 rw2 pw2) (wQDEE2 aQ aY aS aNs aTs aEs aDc aE bE rE pE aE2 bE2 rE2 pE2 cd c1 c2 c3 c12 c22 c32 pv dc v res rw pw v2 b2 rw2 pw2) sz) 0 0 (va_A (wQDEE2 aQ aY aS aNs aTs aEs aDc aE bE rE pE aE2 bE2 rE2 pE2 cd c1 c2 c3 c12 c22 c32 pv dc v b rw pw v2 b2 rw2 pw2) sz) := by
  refine zEnter RX5 [.ref aQ, .int a0, .int a1] (by decide) rfl (Nat.le_of_ble_eq_true rfl) (fun p e s m below meth c ls G hK hX hP hD hsz hl => ?_)
  subst hsz
  unfold m_P_move_EE at hm
  have hl : lv_has ls 5 [(0, .ref aQ), (1, .int a0), (2, .int a1)] := hl
  have hS : va_S (va_A (wQDEE2 aQ aY aS aNs aTs aEs aDc aE bE rE pE aE2 bE2 rE2 pE2 cd c1 c2 c3 c12 c22 c32 pv dc v b rw pw v2 b2 rw2 pw2) s.heap.size) s.heap s.heap [] := va_S.rf
  have hA : ∀ q, s.heap.size ≤ q → va_A (wQDEE2 aQ aY aS aNs aTs aEs aDc aE bE rE pE aE2 bE2 rE2 pE2 cd c1 c2 c3 c12 c22 c32 pv dc v b rw pw v2 b2 rw2 pw2) s.heap.size q := fun q h => Or.inr h
  have G0 := G
  obtain ⟨hx, hb, hr, hml, hown, hw, hlk⟩ := G
  refine lv_aload_n hx hb dX5_move_0 rfl (lv_at hl 0 rfl) ?_
  refine lv_iload_n hx hb dX5_move_1 rfl (lv_at hl 1 rfl) ?_
  obtain ⟨q1, hq1, hm⟩ := zbind hm
  have hPc := hP.sub (ws' := (wQDf aQ aY aS aNs aTs aEs aDc aE2 cd pv dc)) [0, 1] rfl
  have hDc := hD.sub (ws' := (wQDf aQ aY aS aNs aTs aEs aDc aE2 cd pv dc)) [0, 1] (by decide) rfl
  have hKc := hK.sub (tys' := wQDf_t cd) [0] rfl
  have hFc := va_free (wc := (wQDf aQ aY aS aNs aTs aEs aDc aE2 cd pv dc)) hD hS hA [0, 1] rfl
  refine zbSq (wr := [(aE, .inr (0, [.ref bE, .int (v 1), .int (v 2), .int (v 3), .int (v 4), .ref rE, .ref pE, .int (v 7), .int (v 8), .int (v 9), .int (v 10), .int (v 11), .int (v 12), .int (v 13), .int (v 14), .int (v 15)])), (bE, .inl (c1, 25, .inl b)), (rE, .inl (c2, 24, .inl rw)), (pE, .inl (c3, 24, .inl pw)), (aE2, .inr (0, [.ref bE2, .int (v2 1), .int (v2 2), .int (v2 3), .int (v2 4), .ref rE2, .ref pE2, .int (v2 7), .int (v2 8), .int (v2 9), .int (v2 10), .int (v2 11), .int (v2 12), .int (v2 13), .int (v2 14), .int (v2 15)])), (bE2, .inl (c12, 25, .inl b2)), (rE2, .inl (c22, 24, .inl rw2)), (pE2, .inl (c32, 24, .inl pw2))]) (w1 := (wQDf aQ aY aS aNs aTs aEs aDc aE2 cd pv dc)) (w' := (wQDEE2 aQ aY aS aNs aTs aEs aDc aE bE rE pE aE2 bE2 rE2 pE2 cd c1 c2 c3 c12 c22 c32 pv dc v b rw pw v2 b2 rw2 pw2)) (va_runV (As := [.int a0]) (rest := []) ⟨hx, hb, hml, hown, hw⟩ (k_P_existing l D aQ aY aS aNs aTs aEs aDc aE2 cd _ a0 pv dc hd q1 hq1) (zcV (C := RX5) 1 hw (zgood zw422) rfl rfl rfl zw176 zw424 zw423 zw425 hdX5_existing ⟨Nat.le_of_ble_eq_true rfl, Nat.le_of_ble_eq_true rfl⟩) (zpreV (zpre zC_ok hX hS hFc hPc hKc hDc) (va_recv hK hP rfl (q0 := 0) rfl)) rfl rfl hl.1 rfl (lv_room (Nat.le_of_ble_eq_true rfl)) dX5_move_2 ⟨Nat.zero_le _, Nat.zero_le _⟩) hP hD hS hFc [0, 1] [2, 3, 4, 5, 6, 7, 8, 9] [8, 9, 0, 1, 2, 3, 4, 5, 6, 7] rfl rfl (by decide) (by decide) rfl (by decide) (fun H locs hP hD hS => ?_)
  refine lv_astore_n (lv' := [(3, .ref aE2), (0, .ref aQ), (1, .int a0), (2, .int a1)]) hx hb dX5_move_5 rfl hl (by decide) rfl (fun ls hl => ?_)
  refine lv_aload_n hx hb dX5_move_6 rfl (lv_at hl 1 rfl) ?_
  refine lv_iload_n hx hb dX5_move_7 rfl (lv_at hl 3 rfl) ?_
  obtain ⟨q2, hq2, hm⟩ := zbind hm
  have hPc := hP.sub (ws' := (wQDf aQ aY aS aNs aTs aEs aDc aE cd pv dc)) [0, 1] rfl
  have hDc := hD.sub (ws' := (wQDf aQ aY aS aNs aTs aEs aDc aE cd pv dc)) [0, 1] (by decide) rfl
  have hKc := hK.sub (tys' := wQDf_t cd) [0] rfl
  have hFc := va_free (wc := (wQDf aQ aY aS aNs aTs aEs aDc aE cd pv dc)) hD hS hA [0, 1] rfl
  refine zbSq (wr := [(aE, .inr (0, [.ref bE, .int (v 1), .int (v 2), .int (v 3), .int (v 4), .ref rE, .ref pE, .int (v 7), .int (v 8), .int (v 9), .int (v 10), .int (v 11), .int (v 12), .int (v 13), .int (v 14), .int (v 15)])), (bE, .inl (c1, 25, .inl b)), (rE, .inl (c2, 24, .inl rw)), (pE, .inl (c3, 24, .inl pw)), (aE2, .inr (0, [.ref bE2, .int (v2 1), .int (v2 2), .int (v2 3), .int (v2 4), .ref rE2, .ref pE2, .int (v2 7), .int (v2 8), .int (v2 9), .int (v2 10), .int (v2 11), .int (v2 12), .int (v2 13), .int (v2 14), .int (v2 15)])), (bE2, .inl (c12, 25, .inl b2)), (rE2, .inl (c22, 24, .inl rw2)), (pE2, .inl (c32, 24, .inl pw2))]) (w1 := (wQDf aQ aY aS aNs aTs aEs aDc aE cd pv dc)) (w' := (wQDEE2 aQ aY aS aNs aTs aEs aDc aE bE rE pE aE2 bE2 rE2 pE2 cd c1 c2 c3 c12 c22 c32 pv dc v b rw pw v2 b2 rw2 pw2)) (va_runV (As := [.int a1]) (rest := []) ⟨hx, hb, hml, hown, hw⟩ (k_P_existing l D aQ aY aS aNs aTs aEs aDc aE cd _ a1 pv dc hd2 q2 hq2) (zcV (C := RX5) 1 hw (zgood zw422) rfl rfl rfl zw176 zw424 zw423 zw425 hdX5_existing ⟨Nat.le_of_ble_eq_true rfl, Nat.le_of_ble_eq_true rfl⟩) (zpreV (zpre zC_ok hX hS hFc hPc hKc hDc) (va_recv hK hP rfl (q0 := 0) rfl)) rfl rfl hl.1 rfl (lv_room (Nat.le_of_ble_eq_true rfl)) dX5_move_8 ⟨Nat.zero_le _, Nat.zero_le _⟩) hP hD hS hFc [0, 1] [2, 3, 4, 5, 6, 7, 8, 9] [8, 9, 0, 1, 2, 3, 4, 5, 6, 7] rfl rfl (by decide) (by decide) rfl (by decide) (fun H locs hP hD hS => ?_)
  refine lv_astore (lv' := [(4, .ref aE), (3, .ref aE2), (0, .ref aQ), (1, .int a0), (2, .int a1)]) hx hb dX5_move_11 hl (by decide) rfl (fun ls hl => ?_)
  refine lv_aload hx hb dX5_move_13 (lv_at hl 0 rfl) ?_
  refine lv_aload_n hx hb dX5_move_15 rfl (lv_at hl 1 rfl) ?_
  obtain ⟨q3, hq3, hm⟩ := zbind hm
  have hPc := hP.sub (ws' := (wEE2 aE bE rE pE aE2 bE2 rE2 pE2 c1 c2 c3 c12 c22 c32 v b rw pw v2 b2 rw2 pw2)) [2, 3, 4, 5, 6, 7, 8, 9] rfl
  have hDc := hD.sub (ws' := (wEE2 aE bE rE pE aE2 bE2 rE2 pE2 c1 c2 c3 c12 c22 c32 v b rw pw v2 b2 rw2 pw2)) [2, 3, 4, 5, 6, 7, 8, 9] (by decide) rfl
  have hKc := hK.sub (tys' := wEE2_t c1 c2 c3 c12 c22 c32) [1, 2, 3, 4, 5, 6] rfl
  have hFc := va_free (wc := (wEE2 aE bE rE pE aE2 bE2 rE2 pE2 c1 c2 c3 c12 c22 c32 v b rw pw v2 b2 rw2 pw2)) hD hS hA [2, 3, 4, 5, 6, 7, 8, 9] rfl
  refine zbSi (wr := [(aQ, .inr (4, [.ref aY, .int (pv 1), .ref aS, .ref aNs, .ref aTs, .ref aEs, .ref aDc, .int (pv 7)])), (aDc, .inl (cd, 8, .inr (.inr (.inr (.inr dc)))))]) (w1 := (wEE2 aE bE rE pE aE2 bE2 rE2 pE2 c1 c2 c3 c12 c22 c32 v q3.2 rw pw v2 b2 rw2 pw2)) (w' := (wQDEE2 aQ aY aS aNs aTs aEs aDc aE bE rE pE aE2 bE2 rE2 pE2 cd c1 c2 c3 c12 c22 c32 pv dc v q3.2 rw pw v2 b2 rw2 pw2)) (va_runU (As := [.ref aE2]) (rest := []) ⟨hx, hb, hml, hown, hw⟩ (k_F_takeField_EE l D aE bE rE pE aE2 bE2 rE2 pE2 c1 c2 c3 c12 c22 c32 _ v b rw pw v2 b2 rw2 pw2  q3 hq3) (va_cwU (C := RX0) (owner := RX1) (x := ⟨RX1, "takeField", "(LPictureFields$Field;)Z"⟩) 1 hw (zgoodL (List.forall_mem_cons.mpr ⟨zw453, List.forall_mem_cons.mpr ⟨zw454, List.forall_mem_cons.mpr ⟨zw459, List.forall_mem_cons.mpr ⟨zw452, List.forall_mem_cons.mpr ⟨zw409, fun _ h => absurd h List.not_mem_nil⟩⟩⟩⟩⟩) zw451) rfl rfl rfl rfl (by decide +kernel) ⟨Nat.le_of_ble_eq_true rfl, Nat.le_of_ble_eq_true rfl⟩) (zpreV (zpre zC_ok hX hS hFc hPc hKc hDc) (va_recv hK hP rfl (q0 := 2) rfl)) rfl rfl hl.1 rfl (lv_room (Nat.le_of_ble_eq_true rfl)) dX5_move_16 ⟨Nat.zero_le _, Nat.zero_le _⟩) hP hD hS hFc [2, 3, 4, 5, 6, 7, 8, 9] [0, 1] [0, 1, 2, 3, 4, 5, 6, 7, 8, 9] rfl rfl (by decide) (by decide) rfl (by decide) (fun H locs hP hD hS => ?_)
  refine lv_if_ne (tgt := 32) hx hb dX5_move_19 rfl (fun cd4 => ?_) (fun cd4 => ?_)
  · replace hm := zf cd4 hm
    cases hm
    exact zretv hx hb hr hlk hP hD hS dX5_move_32
  · replace hm := zt cd4 hm
    cases hm

