def m_Px_existing_22 (pv : Nat → Int32) (dc : Nat → Option Nat)   : Option (Unit) := (some ())
def m_Px_existing_12 (pv : Nat → Int32) (dc : Nat → Option Nat)   : Option (Unit) := m_Px_existing_22 pv dc 
def m_Px_existing (a0 : Int32) (pv : Nat → Int32) (dc : Nat → Option Nat)  : Option (Unit) := (if a0 < 0 then m_Px_existing_12 pv dc  else (if a0 < (pv 7) then none else m_Px_existing_12 pv dc ))
section
variable {p : Program} {l : Launch} {e : Env} {s : State} {m : MethodId} {args : Array Value} {below : List Frame} {meth : Method} {c : Code} {D : va_G} {w0 : va_W} {aQ aY aS aNs aTs aEs aDc : Nat} {cd : ClassId} {pv : Nat → Int32} {dc : Nat → Option Nat}
set_option maxRecDepth 100000 in
set_option maxHeartbeats 4000000 in
theorem b_Px_existing_22 (G : zG p s m args meth c cX5_existing RX5 3 (some (.object "PictureFields$Field"))) (hK : va_K D vwCl (wQD_t cd) s) (hX : zD (va_A w0 s.heap.size) s) (hnx : ∀ x ∈ c.exceptionTable.toList, False) (hl0 : l.stackTraces = false) {res : Unit} : m_Px_existing_22 pv dc  = some res → zB p l e (zRx 6 90) s m args below meth c D vwCl (va_A w0 s.heap.size) (vx_MQ below (zQF w0 s.heap.size) (zXc "java/util/NoSuchElementException" D vwCl w0 (wQD aQ aY aS aNs aTs aEs aDc cd pv dc) s.heap.size) args s 1 6 (va_A w0 s.heap.size)) 3 (wQD aQ aY aS aNs aTs aEs aDc cd pv dc) [] 22 [.null] := by
  intro  hm H locs ls hP hD hS hl
  unfold m_Px_existing_22 at hm
  have G0 := G
  obtain ⟨hx, hb, hr, hml, hown, hw, hlk⟩ := G
  have hA : ∀ q, s.heap.size ≤ q → va_A w0 s.heap.size q := fun q h => Or.inr h
  refine lv_astore_nN (lv' := [(2, .null)]) hx hb dX5_existing_22 rfl hl (by decide) rfl (fun ls hl => ?_)
  refine lv_aload_nN hx hb dX5_existing_23 rfl (lv_at hl 0 rfl) ?_
  refine lv_ifnonnullN hx hb dX5_existing_24 ?_
  cases hm
  exact zthrowN (ik := 104) (is := 135) (ic := 108) (text := "no such field") hx hb hl0 hown (by decide +kernel) (hw _ zw497) (hw _ zw498) (hX.2.2.1 (135, "no such field") zs135) (fun w h => hX.2.1 w (zt108 w h)) (by decide +kernel) hX.2.2.2.1 hX.2.2.2.2 hP hD hS (hl.1.trans hml.symm) dX5_existing_27 dX5_existing_30 dX5_existing_31 dX5_existing_33 dX5_existing_36 hnx (Nat.le_of_ble_eq_true rfl) (Nat.le_of_ble_eq_true rfl) (Nat.le_of_ble_eq_true rfl) (Nat.le_of_ble_eq_true rfl) hlk
set_option maxRecDepth 100000 in
set_option maxHeartbeats 4000000 in
theorem b_Px_existing_12 (G : zG p s m args meth c cX5_existing RX5 3 (some (.object "PictureFields$Field"))) (hK : va_K D vwCl (wQD_t cd) s) (hX : zD (va_A w0 s.heap.size) s) (hnx : ∀ x ∈ c.exceptionTable.toList, False) (hl0 : l.stackTraces = false) {res : Unit} : m_Px_existing_12 pv dc  = some res → zB p l e (zRx 6 90) s m args below meth c D vwCl (va_A w0 s.heap.size) (vx_MQ below (zQF w0 s.heap.size) (zXc "java/util/NoSuchElementException" D vwCl w0 (wQD aQ aY aS aNs aTs aEs aDc cd pv dc) s.heap.size) args s 1 6 (va_A w0 s.heap.size)) 3 (wQD aQ aY aS aNs aTs aEs aDc cd pv dc) [] 12 [] := by
  intro  hm H locs ls hP hD hS hl
  unfold m_Px_existing_12 at hm
  have G0 := G
  obtain ⟨hx, hb, hr, hml, hown, hw, hlk⟩ := G
  have hA : ∀ q, s.heap.size ≤ q → va_A w0 s.heap.size q := fun q h => Or.inr h
  refine lv_null hx hb dX5_existing_12 ?_
  refine lv_goto (tgt := 22) hx hb dX5_existing_13 rfl ?_
  exact b_Px_existing_22 G0 hK hX hnx hl0  hm H _ _ hP hD hS hl
end
set_option maxRecDepth 100000 in
set_option maxHeartbeats 4000000 in
theorem k_Px_existing (l : Launch) (D : va_G) (aQ aY aS aNs aTs aEs aDc : Nat) (cd : ClassId) (sz : Nat) (a0 : Int32) (pv : Nat → Int32) (dc : Nat → Option Nat) (hl0 : l.stackTraces = false) (res : Unit) (hm : m_Px_existing a0 pv dc  = some res) : vx_Met l yX5_existing (Cond.code yX5_existing cX5_existing 3 (some (.object "PictureFields$Field")) :: zBIG) (zRx 6 90) (va_Pc [.ref aQ, .int a0] (zP zD D vwCl (wQD_t cd) (wQD aQ aY aS aNs aTs aEs aDc cd pv dc) sz)) (zQF (wQD aQ aY aS aNs aTs aEs aDc cd pv dc) sz) (zXc "java/util/NoSuchElementException" D vwCl (wQD aQ aY aS aNs aTs aEs aDc cd pv dc) (wQD aQ aY aS aNs aTs aEs aDc cd pv dc) sz) 1 6 (va_A (wQD aQ aY aS aNs aTs aEs aDc cd pv dc) sz) := by
  refine zEnterX RX5 [.ref aQ, .int a0] (by decide) rfl (Nat.le_of_ble_eq_true rfl) (fun p e s m below meth c ls hnx G hK hX hP hD hsz hl => ?_)
  subst hsz
  unfold m_Px_existing at hm
  have hl : lv_has ls 3 [(0, .ref aQ), (1, .int a0)] := hl
  have hS : va_S (va_A (wQD aQ aY aS aNs aTs aEs aDc cd pv dc) s.heap.size) s.heap s.heap [] := va_S.rf
  have hA : ∀ q, s.heap.size ≤ q → va_A (wQD aQ aY aS aNs aTs aEs aDc cd pv dc) s.heap.size q := fun q h => Or.inr h
  have G0 := G
  obtain ⟨hx, hb, hr, hml, hown, hw, hlk⟩ := G
  refine lv_iload_n hx hb dX5_existing_0 rfl (lv_at hl 1 rfl) ?_
  refine lv_if_lt (tgt := 12) hx hb dX5_existing_1 rfl (fun cd1 => ?_) (fun cd1 => ?_)
  · replace hm := zt cd1 hm
    exact b_Px_existing_12 G0 hK hX hnx hl0  hm _ _ _ hP hD hS (lv_sub hl [] rfl)
  · replace hm := zf cd1 hm
    refine lv_iload_n hx hb dX5_existing_4 rfl (lv_at hl 1 rfl) ?_
    refine lv_aload_n hx hb dX5_existing_5 rfl (lv_at hl 0 rfl) ?_
    refine va_get (D := D) (ci := 4) (v := .int (pv 7)) (C := RX5) (T := TX5) (N := 8) hx hb hw zinX5 hown hK hP 0 rfl rfl 7 (by decide) (hw _ zw420) (fun _ h9 => h9) rfl dX5_existing_6 ?_
    refine lv_icmp_lt (tgt := 16) hx hb dX5_existing_9 rfl (fun cd2 => ?_) (fun cd2 => ?_)
    · replace hm := zt cd2 hm
      cases hm
    · replace hm := zf cd2 hm
      exact b_Px_existing_12 G0 hK hX hnx hl0  hm _ _ _ hP hD hS (lv_sub hl [] rfl)

def m_Px_value (a0 : Int32) (pv : Nat → Int32) (dc : Nat → Option Nat)  : Option (Unit) := (m_Px_existing a0 pv dc).bind (fun q1 => some ())
section
variable {p : Program} {l : Launch} {e : Env} {s : State} {m : MethodId} {args : Array Value} {below : List Frame} {meth : Method} {c : Code} {D : va_G} {w0 : va_W} {aQ aY aS aNs aTs aEs aDc : Nat} {cd : ClassId} {pv : Nat → Int32} {dc : Nat → Option Nat}
end
set_option maxRecDepth 100000 in
set_option maxHeartbeats 4000000 in
theorem k_Px_value (l : Launch) (D : va_G) (aQ aY aS aNs aTs aEs aDc : Nat) (cd : ClassId) (sz : Nat) (a0 : Int32) (pv : Nat → Int32) (dc : Nat → Option Nat) (hl0 : l.stackTraces = false) (res : Unit) (hm : m_Px_value a0 pv dc  = some res) : vx_Met l yX5_value (Cond.code yX5_value cX5_value 2 (some .long) :: zBIG) (zRx 7 112) (va_Pc [.ref aQ, .int a0] (zP zD D vwCl (wQD_t cd) (wQD aQ aY aS aNs aTs aEs aDc cd pv dc) sz)) (zQF (wQD aQ aY aS aNs aTs aEs aDc cd pv dc) sz) (zXc "java/util/NoSuchElementException" D vwCl (wQD aQ aY aS aNs aTs aEs aDc cd pv dc) (wQD aQ aY aS aNs aTs aEs aDc cd pv dc) sz) 1 6 (va_A (wQD aQ aY aS aNs aTs aEs aDc cd pv dc) sz) := by
  refine zEnterX RX5 [.ref aQ, .int a0] (by decide) rfl (Nat.le_of_ble_eq_true rfl) (fun p e s m below meth c ls hnx G hK hX hP hD hsz hl => ?_)
  subst hsz
  unfold m_Px_value at hm
  have hl : lv_has ls 2 [(0, .ref aQ), (1, .int a0)] := hl
  have hS : va_S (va_A (wQD aQ aY aS aNs aTs aEs aDc cd pv dc) s.heap.size) s.heap s.heap [] := va_S.rf
  have hA : ∀ q, s.heap.size ≤ q → va_A (wQD aQ aY aS aNs aTs aEs aDc cd pv dc) s.heap.size q := fun q h => Or.inr h
  have G0 := G
  obtain ⟨hx, hb, hr, hml, hown, hw, hlk⟩ := G
  refine lv_aload_n hx hb dX5_value_0 rfl (lv_at hl 0 rfl) ?_
  refine lv_iload_n hx hb dX5_value_1 rfl (lv_at hl 1 rfl) ?_
  obtain ⟨q1, hq1, hm⟩ := zbind hm
  cases hm
  exact zxW (vx_runV (As := [.int a0]) (rest := []) ⟨hx, hb, hml, hown, hw⟩ (k_Px_existing l D aQ aY aS aNs aTs aEs aDc cd _ a0 pv dc hl0 q1 hq1) (zcVx (C := RX5) 1 hw (zgood zw422) rfl rfl rfl zw176 zw424 zw423 zw425 hdX5_existing ⟨Nat.le_of_ble_eq_true rfl, Nat.le_of_ble_eq_true rfl⟩) (zpreV (zpre zD_ok hX hS (zfree hD hS hA) hP hK hD) (va_recv hK hP rfl (q0 := 0) rfl)) rfl rfl hl.1 rfl (lv_room (Nat.le_of_ble_eq_true rfl)) dX5_value_2 ⟨Nat.le_of_ble_eq_true rfl, Nat.le_of_ble_eq_true rfl⟩) hS (zfree hD hS hA) hnx hlk

def m_Px_look (a0 : Int32) (a1 : Int32) (pv : Nat → Int32) (dc : Nat → Option Nat)  : Option (Unit) := (m_Px_existing a0 pv dc).bind (fun q1 => some ())
section
variable {p : Program} {l : Launch} {e : Env} {s : State} {m : MethodId} {args : Array Value} {below : List Frame} {meth : Method} {c : Code} {D : va_G} {w0 : va_W} {aQ aY aS aNs aTs aEs aDc : Nat} {cd : ClassId} {pv : Nat → Int32} {dc : Nat → Option Nat}
end
set_option maxRecDepth 100000 in
set_option maxHeartbeats 4000000 in
theorem k_Px_look (l : Launch) (D : va_G) (aQ aY aS aNs aTs aEs aDc : Nat) (cd : ClassId) (sz : Nat) (a0 : Int32) (a1 : Int32) (pv : Nat → Int32) (dc : Nat → Option Nat) (hl0 : l.stackTraces = false) (res : Unit) (hm : m_Px_look a0 a1 pv dc  = some res) : vx_Met l yX5_look (Cond.code yX5_look cX5_look 4 (some .int) :: zBIG) (zRx 7 112) (va_Pc [.ref aQ, .int a0, .int a1] (zP zD D vwCl (wQD_t cd) (wQD aQ aY aS aNs aTs aEs aDc cd pv dc) sz)) (zQF (wQD aQ aY aS aNs aTs aEs aDc cd pv dc) sz) (zXc "java/util/NoSuchElementException" D vwCl (wQD aQ aY aS aNs aTs aEs aDc cd pv dc) (wQD aQ aY aS aNs aTs aEs aDc cd pv dc) sz) 1 6 (va_A (wQD aQ aY aS aNs aTs aEs aDc cd pv dc) sz) := by
  refine zEnterX RX5 [.ref aQ, .int a0, .int a1] (by decide) rfl (Nat.le_of_ble_eq_true rfl) (fun p e s m below meth c ls hnx G hK hX hP hD hsz hl => ?_)
  subst hsz
  unfold m_Px_look at hm
  have hl : lv_has ls 4 [(0, .ref aQ), (1, .int a0), (2, .int a1)] := hl
  have hS : va_S (va_A (wQD aQ aY aS aNs aTs aEs aDc cd pv dc) s.heap.size) s.heap s.heap [] := va_S.rf
  have hA : ∀ q, s.heap.size ≤ q → va_A (wQD aQ aY aS aNs aTs aEs aDc cd pv dc) s.heap.size q := fun q h => Or.inr h
  have G0 := G
  obtain ⟨hx, hb, hr, hml, hown, hw, hlk⟩ := G
  refine lv_aload_n hx hb dX5_look_0 rfl (lv_at hl 0 rfl) ?_
  refine lv_iload_n hx hb dX5_look_1 rfl (lv_at hl 1 rfl) ?_
  obtain ⟨q1, hq1, hm⟩ := zbind hm
  cases hm
  exact zxW (vx_runV (As := [.int a0]) (rest := []) ⟨hx, hb, hml, hown, hw⟩ (k_Px_existing l D aQ aY aS aNs aTs aEs aDc cd _ a0 pv dc hl0 q1 hq1) (zcVx (C := RX5) 1 hw (zgood zw422) rfl rfl rfl zw176 zw424 zw423 zw425 hdX5_existing ⟨Nat.le_of_ble_eq_true rfl, Nat.le_of_ble_eq_true rfl⟩) (zpreV (zpre zD_ok hX hS (zfree hD hS hA) hP hK hD) (va_recv hK hP rfl (q0 := 0) rfl)) rfl rfl hl.1 rfl (lv_room (Nat.le_of_ble_eq_true rfl)) dX5_look_2 ⟨Nat.le_of_ble_eq_true rfl, Nat.le_of_ble_eq_true rfl⟩) hS (zfree hD hS hA) hnx hlk

def m_Px_get (a0 : Int32) (a1 : Int32) (pv : Nat → Int32) (dc : Nat → Option Nat)  : Option (Unit) := (m_Px_existing a0 pv dc).bind (fun q1 => some ())
section
variable {p : Program} {l : Launch} {e : Env} {s : State} {m : MethodId} {args : Array Value} {below : List Frame} {meth : Method} {c : Code} {D : va_G} {w0 : va_W} {aQ aY aS aNs aTs aEs aDc : Nat} {cd : ClassId} {pv : Nat → Int32} {dc : Nat → Option Nat}
end
set_option maxRecDepth 100000 in
set_option maxHeartbeats 4000000 in
theorem k_Px_get (l : Launch) (D : va_G) (aQ aY aS aNs aTs aEs aDc : Nat) (cd : ClassId) (sz : Nat) (a0 : Int32) (a1 : Int32) (pv : Nat → Int32) (dc : Nat → Option Nat) (hl0 : l.stackTraces = false) (res : Unit) (hm : m_Px_get a0 a1 pv dc  = some res) : vx_Met l yX5_get (Cond.code yX5_get cX5_get 4 (some .int) :: zBIG) (zRx 7 112) (va_Pc [.ref aQ, .int a0, .int a1] (zP zD D vwCl (wQD_t cd) (wQD aQ aY aS aNs aTs aEs aDc cd pv dc) sz)) (zQF (wQD aQ aY aS aNs aTs aEs aDc cd pv dc) sz) (zXc "java/util/NoSuchElementException" D vwCl (wQD aQ aY aS aNs aTs aEs aDc cd pv dc) (wQD aQ aY aS aNs aTs aEs aDc cd pv dc) sz) 1 6 (va_A (wQD aQ aY aS aNs aTs aEs aDc cd pv dc) sz) := by
  refine zEnterX RX5 [.ref aQ, .int a0, .int a1] (by decide) rfl (Nat.le_of_ble_eq_true rfl) (fun p e s m below meth c ls hnx G hK hX hP hD hsz hl => ?_)
  subst hsz
  unfold m_Px_get at hm
  have hl : lv_has ls 4 [(0, .ref aQ), (1, .int a0), (2, .int a1)] := hl
  have hS : va_S (va_A (wQD aQ aY aS aNs aTs aEs aDc cd pv dc) s.heap.size) s.heap s.heap [] := va_S.rf
  have hA : ∀ q, s.heap.size ≤ q → va_A (wQD aQ aY aS aNs aTs aEs aDc cd pv dc) s.heap.size q := fun q h => Or.inr h
  have G0 := G
  obtain ⟨hx, hb, hr, hml, hown, hw, hlk⟩ := G
  refine lv_aload_n hx hb dX5_get_0 rfl (lv_at hl 0 rfl) ?_
  refine lv_iload_n hx hb dX5_get_1 rfl (lv_at hl 1 rfl) ?_
  obtain ⟨q1, hq1, hm⟩ := zbind hm
  cases hm
  exact zxW (vx_runV (As := [.int a0]) (rest := []) ⟨hx, hb, hml, hown, hw⟩ (k_Px_existing l D aQ aY aS aNs aTs aEs aDc cd _ a0 pv dc hl0 q1 hq1) (zcVx (C := RX5) 1 hw (zgood zw422) rfl rfl rfl zw176 zw424 zw423 zw425 hdX5_existing ⟨Nat.le_of_ble_eq_true rfl, Nat.le_of_ble_eq_true rfl⟩) (zpreV (zpre zD_ok hX hS (zfree hD hS hA) hP hK hD) (va_recv hK hP rfl (q0 := 0) rfl)) rfl rfl hl.1 rfl (lv_room (Nat.le_of_ble_eq_true rfl)) dX5_get_2 ⟨Nat.le_of_ble_eq_true rfl, Nat.le_of_ble_eq_true rfl⟩) hS (zfree hD hS hA) hnx hlk

def m_Px_set (a0 : Int32) (a1 : Int32) (a2 : Int32) (pv : Nat → Int32) (dc : Nat → Option Nat)  : Option (Unit) := (m_Px_existing a0 pv dc).bind (fun q1 => some ())
section
variable {p : Program} {l : Launch} {e : Env} {s : State} {m : MethodId} {args : Array Value} {below : List Frame} {meth : Method} {c : Code} {D : va_G} {w0 : va_W} {aQ aY aS aNs aTs aEs aDc : Nat} {cd : ClassId} {pv : Nat → Int32} {dc : Nat → Option Nat}
end
set_option maxRecDepth 100000 in
set_option maxHeartbeats 4000000 in
theorem k_Px_set (l : Launch) (D : va_G) (aQ aY aS aNs aTs aEs aDc : Nat) (cd : ClassId) (sz : Nat) (a0 : Int32) (a1 : Int32) (a2 : Int32) (pv : Nat → Int32) (dc : Nat → Option Nat) (hl0 : l.stackTraces = false) (res : Unit) (hm : m_Px_set a0 a1 a2 pv dc  = some res) : vx_Met l yX5_set (Cond.code yX5_set cX5_set 5 none :: zBIG) (zRx 7 112) (va_Pc [.ref aQ, .int a0, .int a1, .int a2] (zP zD D vwCl (wQD_t cd) (wQD aQ aY aS aNs aTs aEs aDc cd pv dc) sz)) (zQF (wQD aQ aY aS aNs aTs aEs aDc cd pv dc) sz) (zXc "java/util/NoSuchElementException" D vwCl (wQD aQ aY aS aNs aTs aEs aDc cd pv dc) (wQD aQ aY aS aNs aTs aEs aDc cd pv dc) sz) 1 6 (va_A (wQD aQ aY aS aNs aTs aEs aDc cd pv dc) sz) := by
  refine zEnterX RX5 [.ref aQ, .int a0, .int a1, .int a2] (by decide) rfl (Nat.le_of_ble_eq_true rfl) (fun p e s m below meth c ls hnx G hK hX hP hD hsz hl => ?_)
  subst hsz
  unfold m_Px_set at hm
  have hl : lv_has ls 5 [(0, .ref aQ), (1, .int a0), (2, .int a1), (3, .int a2)] := hl
  have hS : va_S (va_A (wQD aQ aY aS aNs aTs aEs aDc cd pv dc) s.heap.size) s.heap s.heap [] := va_S.rf
  have hA : ∀ q, s.heap.size ≤ q → va_A (wQD aQ aY aS aNs aTs aEs aDc cd pv dc) s.heap.size q := fun q h => Or.inr h
  have G0 := G
  obtain ⟨hx, hb, hr, hml, hown, hw, hlk⟩ := G
  refine lv_aload_n hx hb dX5_set_0 rfl (lv_at hl 0 rfl) ?_
  refine lv_iload_n hx hb dX5_set_1 rfl (lv_at hl 1 rfl) ?_
  obtain ⟨q1, hq1, hm⟩ := zbind hm
  cases hm
  exact zxW (vx_runV (As := [.int a0]) (rest := []) ⟨hx, hb, hml, hown, hw⟩ (k_Px_existing l D aQ aY aS aNs aTs aEs aDc cd _ a0 pv dc hl0 q1 hq1) (zcVx (C := RX5) 1 hw (zgood zw422) rfl rfl rfl zw176 zw424 zw423 zw425 hdX5_existing ⟨Nat.le_of_ble_eq_true rfl, Nat.le_of_ble_eq_true rfl⟩) (zpreV (zpre zD_ok hX hS (zfree hD hS hA) hP hK hD) (va_recv hK hP rfl (q0 := 0) rfl)) rfl rfl hl.1 rfl (lv_room (Nat.le_of_ble_eq_true rfl)) dX5_set_2 ⟨Nat.le_of_ble_eq_true rfl, Nat.le_of_ble_eq_true rfl⟩) hS (zfree hD hS hA) hnx hlk

def m_Px_put (a0 : Int32) (a1 : Int64) (a2 : Int32) (pv : Nat → Int32) (dc : Nat → Option Nat)  : Option (Unit) := (m_Px_existing a0 pv dc).bind (fun q1 => some ())
section
variable {p : Program} {l : Launch} {e : Env} {s : State} {m : MethodId} {args : Array Value} {below : List Frame} {meth : Method} {c : Code} {D : va_G} {w0 : va_W} {aQ aY aS aNs aTs aEs aDc : Nat} {cd : ClassId} {pv : Nat → Int32} {dc : Nat → Option Nat}
end
set_option maxRecDepth 100000 in
set_option maxHeartbeats 4000000 in
theorem k_Px_put (l : Launch) (D : va_G) (aQ aY aS aNs aTs aEs aDc : Nat) (cd : ClassId) (sz : Nat) (a0 : Int32) (a1 : Int64) (a2 : Int32) (pv : Nat → Int32) (dc : Nat → Option Nat) (hl0 : l.stackTraces = false) (res : Unit) (hm : m_Px_put a0 a1 a2 pv dc  = some res) : vx_Met l yX5_put (Cond.code yX5_put cX5_put 6 none :: zBIG) (zRx 7 112) (va_Pc [.ref aQ, .int a0, .long a1, .int a2] (zP zD D vwCl (wQD_t cd) (wQD aQ aY aS aNs aTs aEs aDc cd pv dc) sz)) (zQF (wQD aQ aY aS aNs aTs aEs aDc cd pv dc) sz) (zXc "java/util/NoSuchElementException" D vwCl (wQD aQ aY aS aNs aTs aEs aDc cd pv dc) (wQD aQ aY aS aNs aTs aEs aDc cd pv dc) sz) 1 6 (va_A (wQD aQ aY aS aNs aTs aEs aDc cd pv dc) sz) := by
  refine zEnterX RX5 [.ref aQ, .int a0, .long a1, .int a2] (by decide) rfl (Nat.le_of_ble_eq_true rfl) (fun p e s m below meth c ls hnx G hK hX hP hD hsz hl => ?_)
  subst hsz
  unfold m_Px_put at hm
  have hl : lv_has ls 6 [(0, .ref aQ), (1, .int a0), (2, .long a1), (4, .int a2)] := hl
  have hS : va_S (va_A (wQD aQ aY aS aNs aTs aEs aDc cd pv dc) s.heap.size) s.heap s.heap [] := va_S.rf
  have hA : ∀ q, s.heap.size ≤ q → va_A (wQD aQ aY aS aNs aTs aEs aDc cd pv dc) s.heap.size q := fun q h => Or.inr h
  have G0 := G
  obtain ⟨hx, hb, hr, hml, hown, hw, hlk⟩ := G
  refine lv_aload_n hx hb dX5_put_0 rfl (lv_at hl 0 rfl) ?_
  refine lv_iload_n hx hb dX5_put_1 rfl (lv_at hl 1 rfl) ?_
  obtain ⟨q1, hq1, hm⟩ := zbind hm
  cases hm
  exact zxW (vx_runV (As := [.int a0]) (rest := []) ⟨hx, hb, hml, hown, hw⟩ (k_Px_existing l D aQ aY aS aNs aTs aEs aDc cd _ a0 pv dc hl0 q1 hq1) (zcVx (C := RX5) 1 hw (zgood zw422) rfl rfl rfl zw176 zw424 zw423 zw425 hdX5_existing ⟨Nat.le_of_ble_eq_true rfl, Nat.le_of_ble_eq_true rfl⟩) (zpreV (zpre zD_ok hX hS (zfree hD hS hA) hP hK hD) (va_recv hK hP rfl (q0 := 0) rfl)) rfl rfl hl.1 rfl (lv_room (Nat.le_of_ble_eq_true rfl)) dX5_put_2 ⟨Nat.le_of_ble_eq_true rfl, Nat.le_of_ble_eq_true rfl⟩) hS (zfree hD hS hA) hnx hlk

def m_Px_move (a0 : Int32) (a1 : Int32) (pv : Nat → Int32) (dc : Nat → Option Nat)  : Option (Unit) := (m_Px_existing a0 pv dc).bind (fun q1 => some ())
section
variable {p : Program} {l : Launch} {e : Env} {s : State} {m : MethodId} {args : Array Value} {below : List Frame} {meth : Method} {c : Code} {D : va_G} {w0 : va_W} {aQ aY aS aNs aTs aEs aDc : Nat} {cd : ClassId} {pv : Nat → Int32} {dc : Nat → Option Nat}
end
set_option maxRecDepth 100000 in
set_option maxHeartbeats 4000000 in
theorem k_Px_move (l : Launch) (D : va_G) (aQ aY aS aNs aTs aEs aDc : Nat) (cd : ClassId) (sz : Nat) (a0 : Int32) (a1 : Int32) (pv : Nat → Int32) (dc : Nat → Option Nat) (hl0 : l.stackTraces = false) (res : Unit) (hm : m_Px_move a0 a1 pv dc  = some res) : vx_Met l yX5_move (Cond.code yX5_move cX5_move 5 none :: zBIG) (zRx 7 112) (va_Pc [.ref aQ, .int a0, .int a1] (zP zD D vwCl (wQD_t cd) (wQD aQ aY aS aNs aTs aEs aDc cd pv dc) sz)) (zQF (wQD aQ aY aS aNs aTs aEs aDc cd pv dc) sz) (zXc "java/util/NoSuchElementException" D vwCl (wQD aQ aY aS aNs aTs aEs aDc cd pv dc) (wQD aQ aY aS aNs aTs aEs aDc cd pv dc) sz) 1 6 (va_A (wQD aQ aY aS aNs aTs aEs aDc cd pv dc) sz) := by
  refine zEnterX RX5 [.ref aQ, .int a0, .int a1] (by decide) rfl (Nat.le_of_ble_eq_true rfl) (fun p e s m below meth c ls hnx G hK hX hP hD hsz hl => ?_)
  subst hsz
  unfold m_Px_move at hm
  have hl : lv_has ls 5 [(0, .ref aQ), (1, .int a0), (2, .int a1)] := hl
  have hS : va_S (va_A (wQD aQ aY aS aNs aTs aEs aDc cd pv dc) s.heap.size) s.heap s.heap [] := va_S.rf
  have hA : ∀ q, s.heap.size ≤ q → va_A (wQD aQ aY aS aNs aTs aEs aDc cd pv dc) s.heap.size q := fun q h => Or.inr h
  have G0 := G
  obtain ⟨hx, hb, hr, hml, hown, hw, hlk⟩ := G
  refine lv_aload_n hx hb dX5_move_0 rfl (lv_at hl 0 rfl) ?_
  refine lv_iload_n hx hb dX5_move_1 rfl (lv_at hl 1 rfl) ?_
  obtain ⟨q1, hq1, hm⟩ := zbind hm
  cases hm
  exact zxW (vx_runV (As := [.int a0]) (rest := []) ⟨hx, hb, hml, hown, hw⟩ (k_Px_existing l D aQ aY aS aNs aTs aEs aDc cd _ a0 pv dc hl0 q1 hq1) (zcVx (C := RX5) 1 hw (zgood zw422) rfl rfl rfl zw176 zw424 zw423 zw425 hdX5_existing ⟨Nat.le_of_ble_eq_true rfl, Nat.le_of_ble_eq_true rfl⟩) (zpreV (zpre zD_ok hX hS (zfree hD hS hA) hP hK hD) (va_recv hK hP rfl (q0 := 0) rfl)) rfl rfl hl.1 rfl (lv_room (Nat.le_of_ble_eq_true rfl)) dX5_move_2 ⟨Nat.le_of_ble_eq_true rfl, Nat.le_of_ble_eq_true rfl⟩) hS (zfree hD hS hA) hnx hlk

def m_Pi_look (a0 : Int32) (a1 : Int32) (pv : Nat → Int32) (dc : Nat → Option Nat)  : Option (Unit) := (m_P_existing a0 pv dc).bind (fun q1 => (if a1 = 0 then none else (if a1 = 1 then none else (if a1 = 2 then none else (if a1 = 3 then none else (if a1 = 4 then none else (some ())))))))
section
variable {p : Program} {l : Launch} {e : Env} {s : State} {m : MethodId} {args : Array Value} {below : List Frame} {meth : Method} {c : Code} {D : va_G} {w0 : va_W} {aQ aY aS aNs aTs aEs aDc aF : Nat} {cd : ClassId} {pv : Nat → Int32} {dc : Nat → Option Nat} {a0 : Int32}
end
set_option maxRecDepth 100000 in
set_option maxHeartbeats 4000000 in
theorem k_Pi_look (l : Launch) (D : va_G) (aQ aY aS aNs aTs aEs aDc aF : Nat) (cd : ClassId) (sz : Nat) (a0 : Int32) (a1 : Int32) (pv : Nat → Int32) (dc : Nat → Option Nat) (hl0 : l.stackTraces = false) (hd : dc a0.toNatClampNeg = some aF) (res : Unit) (hm : m_Pi_look a0 a1 pv dc  = some res) : vx_Met l yX5_look (Cond.code yX5_look cX5_look 4 (some .int) :: zBIG) (zRx 6 90) (va_Pc [.ref aQ, .int a0, .int a1] (zP zD D vwCl (wQDf_t cd) (wQDf aQ aY aS aNs aTs aEs aDc aF cd pv dc) sz)) (zQF (wQDf aQ aY aS aNs aTs aEs aDc aF cd pv dc) sz) (zXc "java/lang/IllegalArgumentException" D vwCl (wQDf aQ aY aS aNs aTs aEs aDc aF cd pv dc) (wQDf aQ aY aS aNs aTs aEs aDc aF cd pv dc) sz) 1 6 (va_A (wQDf aQ aY aS aNs aTs aEs aDc aF cd pv dc) sz) := by
  refine zEnterX RX5 [.ref aQ, .int a0, .int a1] (by decide) rfl (Nat.le_of_ble_eq_true rfl) (fun p e s m below meth c ls hnx G hK hX hP hD hsz hl => ?_)
  subst hsz
  unfold m_Pi_look at hm
  have hl : lv_has ls 4 [(0, .ref aQ), (1, .int a0), (2, .int a1)] := hl
  have hS : va_S (va_A (wQDf aQ aY aS aNs aTs aEs aDc aF cd pv dc) s.heap.size) s.heap s.heap [] := va_S.rf
  have hA : ∀ q, s.heap.size ≤ q → va_A (wQDf aQ aY aS aNs aTs aEs aDc aF cd pv dc) s.heap.size q := fun q h => Or.inr h
  have G0 := G
  obtain ⟨hx, hb, hr, hml, hown, hw, hlk⟩ := G
  refine lv_aload_n hx hb dX5_look_0 rfl (lv_at hl 0 rfl) ?_
  refine lv_iload_n hx hb dX5_look_1 rfl (lv_at hl 1 rfl) ?_
  obtain ⟨q1, hq1, hm⟩ := zbind hm
  refine zbWq (va_runV (As := [.int a0]) (rest := []) ⟨hx, hb, hml, hown, hw⟩ (k_P_existing l D aQ aY aS aNs aTs aEs aDc aF cd _ a0 pv dc hd q1 hq1) (zcV (C := RX5) 1 hw (zgood zw422) rfl rfl rfl zw176 zw424 zw423 zw425 hdX5_existing ⟨Nat.le_of_ble_eq_true rfl, Nat.le_of_ble_eq_true rfl⟩) (zpreV (zpre zC_ok hX.1 hS (zfree hD hS hA) hP hK hD) (va_recv hK hP rfl (q0 := 0) rfl)) rfl rfl hl.1 rfl (lv_room (Nat.le_of_ble_eq_true rfl)) dX5_look_2 ⟨Nat.zero_le _, Nat.zero_le _⟩) hS (zfree hD hS hA) (fun H locs hP hD hS => ?_)
  refine lv_astore_n (lv' := [(3, .ref aF), (0, .ref aQ), (1, .int a0), (2, .int a1)]) hx hb dX5_look_5 rfl hl (by decide) rfl (fun ls hl => ?_)
  refine lv_iload_n hx hb dX5_look_6 rfl (lv_at hl 3 rfl) ?_
  by_cases cd2 : a1 = 0
  · replace hm := zt cd2 hm
    refine lv_tableIn (off := 33) (tgt := 40) hx hb dX5_look_7 (by rw [cd2]; decide) (by rw [cd2]; decide) (by rw [cd2]; decide) rfl ?_
    cases hm
  · replace hm := zf cd2 hm
    by_cases cd3 : a1 = 1
    · replace hm := zt cd3 hm
      refine lv_tableIn (off := 38) (tgt := 45) hx hb dX5_look_7 (by rw [cd3]; decide) (by rw [cd3]; decide) (by rw [cd3]; decide) rfl ?_
      cases hm
    · replace hm := zf cd3 hm
      by_cases cd4 : a1 = 2
      · replace hm := zt cd4 hm
        refine lv_tableIn (off := 43) (tgt := 50) hx hb dX5_look_7 (by rw [cd4]; decide) (by rw [cd4]; decide) (by rw [cd4]; decide) rfl ?_
        cases hm
      · replace hm := zf cd4 hm
        by_cases cd5 : a1 = 3
        · replace hm := zt cd5 hm
          refine lv_tableIn (off := 48) (tgt := 55) hx hb dX5_look_7 (by rw [cd5]; decide) (by rw [cd5]; decide) (by rw [cd5]; decide) rfl ?_
          cases hm
        · replace hm := zf cd5 hm
          by_cases cd6 : a1 = 4
          · replace hm := zt cd6 hm
            refine lv_tableIn (off := 53) (tgt := 60) hx hb dX5_look_7 (by rw [cd6]; decide) (by rw [cd6]; decide) (by rw [cd6]; decide) rfl ?_
            cases hm
          · replace hm := zf cd6 hm
            have ecd2 := lv_neT cd2 (a := 0) (by decide)
            have ecd3 := lv_neT cd3 (a := 1) (by decide)
            have ecd4 := lv_neT cd4 (a := 2) (by decide)
            have ecd5 := lv_neT cd5 (a := 3) (by decide)
            have ecd6 := lv_neT cd6 (a := 4) (by decide)
            refine lv_tableOut (tgt := 73) hx hb dX5_look_7 (by omega) rfl ?_
            cases hm
            exact zthrowS (ik := 69) (is := 98) (ic := 73) (text := "no such what") hx hb hl0 hown (by decide +kernel) (hw _ zw499) (hw _ zw500) (hX.2.2.1 (98, "no such what") zs98) (fun w h => hX.2.1 w (zt73 w h)) (by decide +kernel) hX.2.2.2.1 hX.2.2.2.2 hP hD hS (hl.1.trans hml.symm) dX5_look_73 dX5_look_76 dX5_look_77 dX5_look_79 dX5_look_82 hnx (Nat.le_of_ble_eq_true rfl) (Nat.le_of_ble_eq_true rfl) (Nat.le_of_ble_eq_true rfl) (Nat.le_of_ble_eq_true rfl) hlk

def m_Pi_put_19 (pv : Nat → Int32) (dc : Nat → Option Nat) (a0 : Int32)   : Option (Unit) := (some ())
def m_Pi_put (a0 : Int32) (a1 : Int64) (a2 : Int32) (pv : Nat → Int32) (dc : Nat → Option Nat)  : Option (Unit) := (m_P_existing a0 pv dc).bind (fun q1 => (if a2 < 0 then m_Pi_put_19 pv dc a0  else (if a2 ≤ 6 then none else m_Pi_put_19 pv dc a0 )))
section
variable {p : Program} {l : Launch} {e : Env} {s : State} {m : MethodId} {args : Array Value} {below : List Frame} {meth : Method} {c : Code} {D : va_G} {w0 : va_W} {aQ aY aS aNs aTs aEs aDc aF : Nat} {cd : ClassId} {pv : Nat → Int32} {dc : Nat → Option Nat} {a0 : Int32}
set_option maxRecDepth 100000 in
set_option maxHeartbeats 4000000 in
theorem b_Pi_put_19 (G : zG p s m args meth c cX5_put RX5 6 none) (hK : va_K D vwCl (wQDf_t cd) s) (hX : zD (va_A w0 s.heap.size) s) (hnx : ∀ x ∈ c.exceptionTable.toList, False) (hl0 : l.stackTraces = false) (hd : dc a0.toNatClampNeg = some aF) {res : Unit} : m_Pi_put_19 pv dc a0  = some res → zB p l e (zRx 6 90) s m args below meth c D vwCl (va_A w0 s.heap.size) (vx_MQ below (zQF w0 s.heap.size) (zXc "java/lang/IllegalArgumentException" D vwCl w0 (wQDf aQ aY aS aNs aTs aEs aDc aF cd pv dc) s.heap.size) args s 1 6 (va_A w0 s.heap.size)) 6 (wQDf aQ aY aS aNs aTs aEs aDc aF cd pv dc) [] 19 [] := by
  intro  hm H locs ls hP hD hS hl
  unfold m_Pi_put_19 at hm
  have G0 := G
  obtain ⟨hx, hb, hr, hml, hown, hw, hlk⟩ := G
  have hA : ∀ q, s.heap.size ≤ q → va_A w0 s.heap.size q := fun q h => Or.inr h
  cases hm
  exact zthrowS (ik := 69) (is := 114) (ic := 73) (text := "no such scale") hx hb hl0 hown (by decide +kernel) (hw _ zw499) (hw _ zw500) (hX.2.2.1 (114, "no such scale") zs114) (fun w h => hX.2.1 w (zt73 w h)) (by decide +kernel) hX.2.2.2.1 hX.2.2.2.2 hP hD hS (hl.1.trans hml.symm) dX5_put_19 dX5_put_22 dX5_put_23 dX5_put_25 dX5_put_28 hnx (Nat.le_of_ble_eq_true rfl) (Nat.le_of_ble_eq_true rfl) (Nat.le_of_ble_eq_true rfl) (Nat.le_of_ble_eq_true rfl) hlk
end
set_option maxRecDepth 100000 in
set_option maxHeartbeats 4000000 in
theorem k_Pi_put (l : Launch) (D : va_G) (aQ aY aS aNs aTs aEs aDc aF : Nat) (cd : ClassId) (sz : Nat) (a0 : Int32) (a1 : Int64) (a2 : Int32) (pv : Nat → Int32) (dc : Nat → Option Nat) (hl0 : l.stackTraces = false) (hd : dc a0.toNatClampNeg = some aF) (res : Unit) (hm : m_Pi_put a0 a1 a2 pv dc  = some res) : vx_Met l yX5_put (Cond.code yX5_put cX5_put 6 none :: zBIG) (zRx 6 90) (va_Pc [.ref aQ, .int a0, .long a1, .int a2] (zP zD D vwCl (wQDf_t cd) (wQDf aQ aY aS aNs aTs aEs aDc aF cd pv dc) sz)) (zQF (wQDf aQ aY aS aNs aTs aEs aDc aF cd pv dc) sz) (zXc "java/lang/IllegalArgumentException" D vwCl (wQDf aQ aY aS aNs aTs aEs aDc aF cd pv dc) (wQDf aQ aY aS aNs aTs aEs aDc aF cd pv dc) sz) 1 6 (va_A (wQDf aQ aY aS aNs aTs aEs aDc aF cd pv dc) sz) := by
  refine zEnterX RX5 [.ref aQ, .int a0, .long a1, .int a2] (by decide) rfl (Nat.le_of_ble_eq_true rfl) (fun p e s m below meth c ls hnx G hK hX hP hD hsz hl => ?_)
  subst hsz
  unfold m_Pi_put at hm
  have hl : lv_has ls 6 [(0, .ref aQ), (1, .int a0), (2, .long a1), (4, .int a2)] := hl
  have hS : va_S (va_A (wQDf aQ aY aS aNs aTs aEs aDc aF cd pv dc) s.heap.size) s.heap s.heap [] := va_S.rf
  have hA : ∀ q, s.heap.size ≤ q → va_A (wQDf aQ aY aS aNs aTs aEs aDc aF cd pv dc) s.heap.size q := fun q h => Or.inr h
  have G0 := G
  obtain ⟨hx, hb, hr, hml, hown, hw, hlk⟩ := G
  refine lv_aload_n hx hb dX5_put_0 rfl (lv_at hl 0 rfl) ?_
  refine lv_iload_n hx hb dX5_put_1 rfl (lv_at hl 1 rfl) ?_
  obtain ⟨q1, hq1, hm⟩ := zbind hm
  refine zbWq (va_runV (As := [.int a0]) (rest := []) ⟨hx, hb, hml, hown, hw⟩ (k_P_existing l D aQ aY aS aNs aTs aEs aDc aF cd _ a0 pv dc hd q1 hq1) (zcV (C := RX5) 1 hw (zgood zw422) rfl rfl rfl zw176 zw424 zw423 zw425 hdX5_existing ⟨Nat.le_of_ble_eq_true rfl, Nat.le_of_ble_eq_true rfl⟩) (zpreV (zpre zC_ok hX.1 hS (zfree hD hS hA) hP hK hD) (va_recv hK hP rfl (q0 := 0) rfl)) rfl rfl hl.1 rfl (lv_room (Nat.le_of_ble_eq_true rfl)) dX5_put_2 ⟨Nat.zero_le _, Nat.zero_le _⟩) hS (zfree hD hS hA) (fun H locs hP hD hS => ?_)
  refine lv_astore (lv' := [(5, .ref aF), (0, .ref aQ), (1, .int a0), (2, .long a1), (4, .int a2)]) hx hb dX5_put_5 hl (by decide) rfl (fun ls hl => ?_)
  refine lv_iload hx hb dX5_put_7 (lv_at hl 4 rfl) ?_
  refine lv_if_lt (tgt := 19) hx hb dX5_put_9 rfl (fun cd2 => ?_) (fun cd2 => ?_)
  · replace hm := zt cd2 hm
    exact b_Pi_put_19 G0 hK hX hnx hl0 hd  hm _ _ _ hP hD hS (lv_sub hl [] rfl)
  · replace hm := zf cd2 hm
    refine lv_iload hx hb dX5_put_12 (lv_at hl 4 rfl) ?_
    refine lv_bipush (v := 6) hx hb dX5_put_14 (by decide) ?_
    refine lv_icmp_le (tgt := 29) hx hb dX5_put_16 rfl (fun cd3 => ?_) (fun cd3 => ?_)
    · replace hm := zt cd3 hm
      cases hm
    · replace hm := zf cd3 hm
      exact b_Pi_put_19 G0 hK hX hnx hl0 hd  hm _ _ _ hP hD hS (lv_sub hl [] rfl)

def m_Px2_move (a0 : Int32) (a1 : Int32) (pv : Nat → Int32) (dc : Nat → Option Nat)  : Option (Unit) := (m_P_existing a0 pv dc).bind (fun q1 => (m_Px_existing a1 pv dc).bind (fun q2 => some ()))
section
variable {p : Program} {l : Launch} {e : Env} {s : State} {m : MethodId} {args : Array Value} {below : List Frame} {meth : Method} {c : Code} {D : va_G} {w0 : va_W} {aQ aY aS aNs aTs aEs aDc aF : Nat} {cd : ClassId} {pv : Nat → Int32} {dc : Nat → Option Nat} {a0 : Int32}
end
set_option maxRecDepth 100000 in
set_option maxHeartbeats 4000000 in
theorem k_Px2_move (l : Launch) (D : va_G) (aQ aY aS aNs aTs aEs aDc aF : Nat) (cd : ClassId) (sz : Nat) (a0 : Int32) (a1 : Int32) (pv : Nat → Int32) (dc : Nat → Option Nat) (hl0 : l.stackTraces = false) (hd : dc a0.toNatClampNeg = some aF) (res : Unit) (hm : m_Px2_move a0 a1 pv dc  = some res) : vx_Met l yX5_move (Cond.code yX5_move cX5_move 5 none :: zBIG) (zRx 7 112) (va_Pc [.ref aQ, .int a0, .int a1] (zP zD D vwCl (wQDf_t cd) (wQDf aQ aY aS aNs aTs aEs aDc aF cd pv dc) sz)) (zQF (wQDf aQ aY aS aNs aTs aEs aDc aF cd pv dc) sz) (zXc "java/util/NoSuchElementException" D vwCl (wQDf aQ aY aS aNs aTs aEs aDc aF cd pv dc) (wQDf aQ aY aS aNs aTs aEs aDc aF cd pv dc) sz) 1 6 (va_A (wQDf aQ aY aS aNs aTs aEs aDc aF cd pv dc) sz) := by
  refine zEnterX RX5 [.ref aQ, .int a0, .int a1] (by decide) rfl (Nat.le_of_ble_eq_true rfl) (fun p e s m below meth c ls hnx G hK hX hP hD hsz hl => ?_)
  subst hsz
  unfold m_Px2_move at hm
  have hl : lv_has ls 5 [(0, .ref aQ), (1, .int a0), (2, .int a1)] := hl
  have hS : va_S (va_A (wQDf aQ aY aS aNs aTs aEs aDc aF cd pv dc) s.heap.size) s.heap s.heap [] := va_S.rf
  have hA : ∀ q, s.heap.size ≤ q → va_A (wQDf aQ aY aS aNs aTs aEs aDc aF cd pv dc) s.heap.size q := fun q h => Or.inr h
  have G0 := G
  obtain ⟨hx, hb, hr, hml, hown, hw, hlk⟩ := G
  refine lv_aload_n hx hb dX5_move_0 rfl (lv_at hl 0 rfl) ?_
  refine lv_iload_n hx hb dX5_move_1 rfl (lv_at hl 1 rfl) ?_
  obtain ⟨q1, hq1, hm⟩ := zbind hm
  refine zbWq (va_runV (As := [.int a0]) (rest := []) ⟨hx, hb, hml, hown, hw⟩ (k_P_existing l D aQ aY aS aNs aTs aEs aDc aF cd _ a0 pv dc hd q1 hq1) (zcV (C := RX5) 1 hw (zgood zw422) rfl rfl rfl zw176 zw424 zw423 zw425 hdX5_existing ⟨Nat.le_of_ble_eq_true rfl, Nat.le_of_ble_eq_true rfl⟩) (zpreV (zpre zC_ok hX.1 hS (zfree hD hS hA) hP hK hD) (va_recv hK hP rfl (q0 := 0) rfl)) rfl rfl hl.1 rfl (lv_room (Nat.le_of_ble_eq_true rfl)) dX5_move_2 ⟨Nat.zero_le _, Nat.zero_le _⟩) hS (zfree hD hS hA) (fun H locs hP hD hS => ?_)
  refine lv_astore_n (lv' := [(3, .ref aF), (0, .ref aQ), (1, .int a0), (2, .int a1)]) hx hb dX5_move_5 rfl hl (by decide) rfl (fun ls hl => ?_)
  refine lv_aload_n hx hb dX5_move_6 rfl (lv_at hl 1 rfl) ?_
  refine lv_iload_n hx hb dX5_move_7 rfl (lv_at hl 3 rfl) ?_
  obtain ⟨q2, hq2, hm⟩ := zbind hm
  cases hm
  exact zxW (vx_runV (As := [.int a1]) (rest := []) ⟨hx, hb, hml, hown, hw⟩ (k_Px_existing l D aQ aY aS aNs aTs aEs aDc cd _ a1 pv dc hl0 q2 hq2) (zcVx (C := RX5) 1 hw (zgood zw422) rfl rfl rfl zw176 zw424 zw423 zw425 hdX5_existing ⟨Nat.le_of_ble_eq_true rfl, Nat.le_of_ble_eq_true rfl⟩) (zpreV (zpre zD_ok hX hS (zfree hD hS hA) hP hK hD) (va_recv hK hP rfl (q0 := 0) rfl)) rfl rfl hl.1 rfl (lv_room (Nat.le_of_ble_eq_true rfl)) dX5_move_8 ⟨Nat.le_of_ble_eq_true rfl, Nat.le_of_ble_eq_true rfl⟩) hS (zfree hD hS hA) hnx hlk

def m_Px2_get_N (a0 : Int32) (a1 : Int32) (pv : Nat → Int32) (dc : Nat → Option Nat) (v : Nat → Int32) (b : Nat → Int32)  : Option (Unit) := (m_P_existing a0 pv dc).bind (fun q1 => (m_F_hasByte_N a1 v b).bind (fun q2 => (if q2 = 0 then (some ()) else zix a1 25 (none))))
section
variable {p : Program} {l : Launch} {e : Env} {s : State} {m : MethodId} {args : Array Value} {below : List Frame} {meth : Method} {c : Code} {D : va_G} {w0 : va_W} {aQ aY aS aNs aTs aEs aDc aN bN : Nat} {cd c1 : ClassId} {pv : Nat → Int32} {dc : Nat → Option Nat} {v : Nat → Int32} {b : Nat → Int32} {a0 : Int32}
end
set_option maxRecDepth 100000 in
set_option maxHeartbeats 4000000 in
theorem k_Px2_get_N (l : Launch) (D : va_G) (aQ aY aS aNs aTs aEs aDc aN bN : Nat) (cd c1 : ClassId) (sz : Nat) (a0 : Int32) (a1 : Int32) (pv : Nat → Int32) (dc : Nat → Option Nat) (v : Nat → Int32) (b : Nat → Int32) (hl0 : l.stackTraces = false) (hd : dc a0.toNatClampNeg = some aN) (res : Unit) (hm : m_Px2_get_N a0 a1 pv dc v b  = some res) : vx_Met l yX5_get (Cond.code yX5_get cX5_get 4 (some .int) :: zBIG) (zRx 6 90) (va_Pc [.ref aQ, .int a0, .int a1] (zP zD D vwCl (wQDN_t cd c1) (wQDN aQ aY aS aNs aTs aEs aDc aN bN cd c1 pv dc v b) sz)) (zQF (wQDN aQ aY aS aNs aTs aEs aDc aN bN cd c1 pv dc v b) sz) (zXc "java/util/NoSuchElementException" D vwCl (wQDN aQ aY aS aNs aTs aEs aDc aN bN cd c1 pv dc v b) (wQDN aQ aY aS aNs aTs aEs aDc aN bN cd c1 pv dc v b) sz) 1 6 (va_A (wQDN aQ aY aS aNs aTs aEs aDc aN bN cd c1 pv dc v b) sz) := by
  refine zEnterX RX5 [.ref aQ, .int a0, .int a1] (by decide) rfl (Nat.le_of_ble_eq_true rfl) (fun p e s m below meth c ls hnx G hK hX hP hD hsz hl => ?_)
  subst hsz
  unfold m_Px2_get_N at hm
  have hl : lv_has ls 4 [(0, .ref aQ), (1, .int a0), (2, .int a1)] := hl
  have hS : va_S (va_A (wQDN aQ aY aS aNs aTs aEs aDc aN bN cd c1 pv dc v b) s.heap.size) s.heap s.heap [] := va_S.rf
  have hA : ∀ q, s.heap.size ≤ q → va_A (wQDN aQ aY aS aNs aTs aEs aDc aN bN cd c1 pv dc v b) s.heap.size q := fun q h => Or.inr h
  have G0 := G
  obtain ⟨hx, hb, hr, hml, hown, hw, hlk⟩ := G
  refine lv_aload_n hx hb dX5_get_0 rfl (lv_at hl 0 rfl) ?_
  refine lv_iload_n hx hb dX5_get_1 rfl (lv_at hl 1 rfl) ?_
  obtain ⟨q1, hq1, hm⟩ := zbind hm
  have hPc := hP.sub (ws' := (wQDf aQ aY aS aNs aTs aEs aDc aN cd pv dc)) [0, 1] rfl
  have hDc := hD.sub (ws' := (wQDf aQ aY aS aNs aTs aEs aDc aN cd pv dc)) [0, 1] (by decide) rfl
  have hKc := hK.sub (tys' := wQDf_t cd) [0] rfl
  have hFc := va_free (wc := (wQDf aQ aY aS aNs aTs aEs aDc aN cd pv dc)) hD hS hA [0, 1] rfl
  refine zbSq (wr := [(aN, .inr (1, [.ref bN, .int (v 1), .int (v 2), .int (v 3), .int (v 4), .int (v 5), .int (v 6), .int (v 7)])), (bN, .inl (c1, 25, .inl b))]) (w1 := (wQDf aQ aY aS aNs aTs aEs aDc aN cd pv dc)) (w' := (wQDN aQ aY aS aNs aTs aEs aDc aN bN cd c1 pv dc v b)) (va_runV (As := [.int a0]) (rest := []) ⟨hx, hb, hml, hown, hw⟩ (k_P_existing l D aQ aY aS aNs aTs aEs aDc aN cd _ a0 pv dc hd q1 hq1) (zcV (C := RX5) 1 hw (zgood zw422) rfl rfl rfl zw176 zw424 zw423 zw425 hdX5_existing ⟨Nat.le_of_ble_eq_true rfl, Nat.le_of_ble_eq_true rfl⟩) (zpreV (zpre zC_ok hX.1 hS hFc hPc hKc hDc) (va_recv hK hP rfl (q0 := 0) rfl)) rfl rfl hl.1 rfl (lv_room (Nat.le_of_ble_eq_true rfl)) dX5_get_2 ⟨Nat.zero_le _, Nat.zero_le _⟩) hP hD hS hFc [0, 1] [2, 3] [2, 3, 0, 1] rfl rfl (by decide) (by decide) rfl (by decide) (fun H locs hP hD hS => ?_)
  refine lv_astore_n (lv' := [(3, .ref aN), (0, .ref aQ), (1, .int a0), (2, .int a1)]) hx hb dX5_get_5 rfl hl (by decide) rfl (fun ls hl => ?_)
  refine lv_aload_n hx hb dX5_get_6 rfl (lv_at hl 0 rfl) ?_
  refine lv_iload_n hx hb dX5_get_7 rfl (lv_at hl 3 rfl) ?_
  obtain ⟨q2, hq2, hm⟩ := zbind hm
  have hPc := hP.sub (ws' := (wN aN bN c1 v b)) [2, 3] rfl
  have hDc := hD.sub (ws' := (wN aN bN c1 v b)) [2, 3] (by decide) rfl
  have hKc := hK.sub (tys' := wN_t c1) [1] rfl
  have hFc := va_free (wc := (wN aN bN c1 v b)) hD hS hA [2, 3] rfl
  refine zbSi (wr := [(aQ, .inr (4, [.ref aY, .int (pv 1), .ref aS, .ref aNs, .ref aTs, .ref aEs, .ref aDc, .int (pv 7)])), (aDc, .inl (cd, 8, .inr (.inr (.inr (.inr dc)))))]) (w1 := (wN aN bN c1 v b)) (w' := (wQDN aQ aY aS aNs aTs aEs aDc aN bN cd c1 pv dc v b)) (va_runU (As := [.int a1]) (rest := []) ⟨hx, hb, hml, hown, hw⟩ (k_F_hasByte_N l D aN bN c1 _ a1 v b  q2 hq2) (va_cwU (C := RX2) (owner := RX1) (x := ⟨RX1, "hasByte", "(I)Z"⟩) 1 hw (zgoodL (List.forall_mem_cons.mpr ⟨zw438, List.forall_mem_cons.mpr ⟨zw439, List.forall_mem_cons.mpr ⟨zw440, List.forall_mem_cons.mpr ⟨zw437, List.forall_mem_cons.mpr ⟨zw409, fun _ h => absurd h List.not_mem_nil⟩⟩⟩⟩⟩) zw436) rfl rfl rfl rfl (by decide +kernel) ⟨Nat.le_of_ble_eq_true rfl, Nat.le_of_ble_eq_true rfl⟩) (zpreV (zpre zC_ok hX.1 hS hFc hPc hKc hDc) (va_recv hK hP rfl (q0 := 2) rfl)) rfl rfl hl.1 rfl (lv_room (Nat.le_of_ble_eq_true rfl)) dX5_get_8 ⟨Nat.zero_le _, Nat.zero_le _⟩) hP hD hS hFc [2, 3] [0, 1] [0, 1, 2, 3] rfl rfl (by decide) (by decide) rfl (by decide) (fun H locs hP hD hS => ?_)
  refine lv_if_ne (tgt := 24) hx hb dX5_get_11 rfl (fun cd3 => ?_) (fun cd3 => ?_)
  · replace hm := zf cd3 hm
    refine lv_aload_n hx hb dX5_get_24 rfl (lv_at hl 0 rfl) ?_
    refine va_get (D := D) (ci := 1) (v := .ref bN) (C := RX2) (T := TX2) (N := 8) hx hb hw zinX2 hown hK hP 2 rfl rfl 0 (by decide) (hw _ zw441) (fun _ h9 => h9) rfl dX5_get_25 ?_
    refine lv_iload_n hx hb dX5_get_28 rfl (lv_at hl 3 rfl) ?_
    obtain ⟨hi4, hm⟩ := zix_s hm
    refine va_iald (i := a1) (f := b) (n := 25) hx hb hK hP 3 1 rfl rfl hi4 dX5_get_29 ?_
    cases hm
  · replace hm := zt cd3 hm
    cases hm
    exact zthrowN (ik := 104) (is := 106) (ic := 108) (text := "no such byte") hx hb hl0 hown (by decide +kernel) (hw _ zw497) (hw _ zw498) (hX.2.2.1 (106, "no such byte") zs106) (fun w h => hX.2.1 w (zt108 w h)) (by decide +kernel) hX.2.2.2.1 hX.2.2.2.2 hP hD hS (hl.1.trans hml.symm) dX5_get_14 dX5_get_17 dX5_get_18 dX5_get_20 dX5_get_23 hnx (Nat.le_of_ble_eq_true rfl) (Nat.le_of_ble_eq_true rfl) (Nat.le_of_ble_eq_true rfl) (Nat.le_of_ble_eq_true rfl) hlk

def m_Px2_set_N_37 (pv : Nat → Int32) (dc : Nat → Option Nat) (v : Nat → Int32) (a0 : Int32)  (b : Nat → Int32) : Option ((Nat → Int32)) := none
def m_Px2_set_N (a0 : Int32) (a1 : Int32) (a2 : Int32) (pv : Nat → Int32) (dc : Nat → Option Nat) (v : Nat → Int32) (b : Nat → Int32)  : Option ((Nat → Int32)) := (m_P_existing a0 pv dc).bind (fun q1 => (m_F_hasByte_N a1 v b).bind (fun q2 => (if q2 = 0 then (some b) else (if a2 < 0 then m_Px2_set_N_37 pv dc v a0 b else (if a2 ≤ 255 then zix a1 25 (none) else m_Px2_set_N_37 pv dc v a0 b)))))
section
variable {p : Program} {l : Launch} {e : Env} {s : State} {m : MethodId} {args : Array Value} {below : List Frame} {meth : Method} {c : Code} {D : va_G} {w0 : va_W} {aQ aY aS aNs aTs aEs aDc aN bN : Nat} {cd c1 : ClassId} {pv : Nat → Int32} {dc : Nat → Option Nat} {v : Nat → Int32} {a0 : Int32}
set_option maxRecDepth 100000 in
set_option maxHeartbeats 4000000 in
theorem b_Px2_set_N_37 (G : zG p s m args meth c cX5_set RX5 5 none) (hK : va_K D vwCl (wQDN_t cd c1) s) (hX : zD (va_A w0 s.heap.size) s) (hnx : ∀ x ∈ c.exceptionTable.toList, False) (hl0 : l.stackTraces = false) (hd : dc a0.toNatClampNeg = some aN) {res : (Nat → Int32)} : ∀ (b : Nat → Int32), m_Px2_set_N_37 pv dc v a0 b = some res → zB p l e (zRx 6 90) s m args below meth c D vwCl (va_A w0 s.heap.size) (vx_MQ below (zQF w0 s.heap.size) (zXc "java/util/NoSuchElementException" D vwCl w0 (wQDN aQ aY aS aNs aTs aEs aDc aN bN cd c1 pv dc v res) s.heap.size) args s 1 6 (va_A w0 s.heap.size)) 5 (wQDN aQ aY aS aNs aTs aEs aDc aN bN cd c1 pv dc v b) [] 37 [] := by
  intro b hm H locs ls hP hD hS hl
  unfold m_Px2_set_N_37 at hm
  have G0 := G
  obtain ⟨hx, hb, hr, hml, hown, hw, hlk⟩ := G
  have hA : ∀ q, s.heap.size ≤ q → va_A w0 s.heap.size q := fun q h => Or.inr h
  cases hm
end
set_option maxRecDepth 100000 in
set_option maxHeartbeats 4000000 in
theorem k_Px2_set_N (l : Launch) (D : va_G) (aQ aY aS aNs aTs aEs aDc aN bN : Nat) (cd c1 : ClassId) (sz : Nat) (a0 : Int32) (a1 : Int32) (a2 : Int32) (pv : Nat → Int32) (dc : Nat → Option Nat) (v : Nat → Int32) (b : Nat → Int32) (hl0 : l.stackTraces = false) (hd : dc a0.toNatClampNeg = some aN) (res : (Nat → Int32)) (hm : m_Px2_set_N a0 a1 a2 pv dc v b  = some res) : vx_Met l yX5_set (Cond.code yX5_set cX5_set 5 none :: zBIG) (zRx 6 90) (va_Pc [.ref aQ, .int a0, .int a1, .int a2] (zP zD D vwCl (wQDN_t cd c1) (wQDN aQ aY aS aNs aTs aEs aDc aN bN cd c1 pv dc v b) sz)) (zQF (wQDN aQ aY aS aNs aTs aEs aDc aN bN cd c1 pv dc v b) sz) (zXc "java/util/NoSuchElementException" D vwCl (wQDN aQ aY aS aNs aTs aEs aDc aN bN cd c1 pv dc v b) (wQDN aQ aY aS aNs aTs aEs aDc aN bN cd c1 pv dc v res) sz) 1 6 (va_A (wQDN aQ aY aS aNs aTs aEs aDc aN bN cd c1 pv dc v b) sz) := by
  refine zEnterX RX5 [.ref aQ, .int a0, .int a1, .int a2] (by decide) rfl (Nat.le_of_ble_eq_true rfl) (fun p e s m below meth c ls hnx G hK hX hP hD hsz hl => ?_)
  subst hsz
  unfold m_Px2_set_N at hm
  have hl : lv_has ls 5 [(0, .ref aQ), (1, .int a0), (2, .int a1), (3, .int a2)] := hl
  have hS : va_S (va_A (wQDN aQ aY aS aNs aTs aEs aDc aN bN cd c1 pv dc v b) s.heap.size) s.heap s.heap [] := va_S.rf
  have hA : ∀ q, s.heap.size ≤ q → va_A (wQDN aQ aY aS aNs aTs aEs aDc aN bN cd c1 pv dc v b) s.heap.size q := fun q h => Or.inr h
  have G0 := G
  obtain ⟨hx, hb, hr, hml, hown, hw, hlk⟩ := G
  refine lv_aload_n hx hb dX5_set_0 rfl (lv_at hl 0 rfl) ?_
  refine lv_iload_n hx hb dX5_set_1 rfl (lv_at hl 1 rfl) ?_
  obtain ⟨q1, hq1, hm⟩ := zbind hm
  have hPc := hP.sub (ws' := (wQDf aQ aY aS aNs aTs aEs aDc aN cd pv dc)) [0, 1] rfl
  have hDc := hD.sub (ws' := (wQDf aQ aY aS aNs aTs aEs aDc aN cd pv dc)) [0, 1] (by decide) rfl
  have hKc := hK.sub (tys' := wQDf_t cd) [0] rfl
  have hFc := va_free (wc := (wQDf aQ aY aS aNs aTs aEs aDc aN cd pv dc)) hD hS hA [0, 1] rfl
  refine zbSq (wr := [(aN, .inr (1, [.ref bN, .int (v 1), .int (v 2), .int (v 3), .int (v 4), .int (v 5), .int (v 6), .int (v 7)])), (bN, .inl (c1, 25, .inl b))]) (w1 := (wQDf aQ aY aS aNs aTs aEs aDc aN cd pv dc)) (w' := (wQDN aQ aY aS aNs aTs aEs aDc aN bN cd c1 pv dc v b)) (va_runV (As := [.int a0]) (rest := []) ⟨hx, hb, hml, hown, hw⟩ (k_P_existing l D aQ aY aS aNs aTs aEs aDc aN cd _ a0 pv dc hd q1 hq1) (zcV (C := RX5) 1 hw (zgood zw422) rfl rfl rfl zw176 zw424 zw423 zw425 hdX5_existing ⟨Nat.le_of_ble_eq_true rfl, Nat.le_of_ble_eq_true rfl⟩) (zpreV (zpre zC_ok hX.1 hS hFc hPc hKc hDc) (va_recv hK hP rfl (q0 := 0) rfl)) rfl rfl hl.1 rfl (lv_room (Nat.le_of_ble_eq_true rfl)) dX5_set_2 ⟨Nat.zero_le _, Nat.zero_le _⟩) hP hD hS hFc [0, 1] [2, 3] [2, 3, 0, 1] rfl rfl (by decide) (by decide) rfl (by decide) (fun H locs hP hD hS => ?_)
  refine lv_astore (lv' := [(4, .ref aN), (0, .ref aQ), (1, .int a0), (2, .int a1), (3, .int a2)]) hx hb dX5_set_5 hl (by decide) rfl (fun ls hl => ?_)
  refine lv_aload hx hb dX5_set_7 (lv_at hl 0 rfl) ?_
  refine lv_iload_n hx hb dX5_set_9 rfl (lv_at hl 3 rfl) ?_
  obtain ⟨q2, hq2, hm⟩ := zbind hm
  have hPc := hP.sub (ws' := (wN aN bN c1 v b)) [2, 3] rfl
  have hDc := hD.sub (ws' := (wN aN bN c1 v b)) [2, 3] (by decide) rfl
  have hKc := hK.sub (tys' := wN_t c1) [1] rfl
  have hFc := va_free (wc := (wN aN bN c1 v b)) hD hS hA [2, 3] rfl
  refine zbSi (wr := [(aQ, .inr (4, [.ref aY, .int (pv 1), .ref aS, .ref aNs, .ref aTs, .ref aEs, .ref aDc, .int (pv 7)])), (aDc, .inl (cd, 8, .inr (.inr (.inr (.inr dc)))))]) (w1 := (wN aN bN c1 v b)) (w' := (wQDN aQ aY aS aNs aTs aEs aDc aN bN cd c1 pv dc v b)) (va_runU (As := [.int a1]) (rest := []) ⟨hx, hb, hml, hown, hw⟩ (k_F_hasByte_N l D aN bN c1 _ a1 v b  q2 hq2) (va_cwU (C := RX2) (owner := RX1) (x := ⟨RX1, "hasByte", "(I)Z"⟩) 1 hw (zgoodL (List.forall_mem_cons.mpr ⟨zw438, List.forall_mem_cons.mpr ⟨zw439, List.forall_mem_cons.mpr ⟨zw440, List.forall_mem_cons.mpr ⟨zw437, List.forall_mem_cons.mpr ⟨zw409, fun _ h => absurd h List.not_mem_nil⟩⟩⟩⟩⟩) zw436) rfl rfl rfl rfl (by decide +kernel) ⟨Nat.le_of_ble_eq_true rfl, Nat.le_of_ble_eq_true rfl⟩) (zpreV (zpre zC_ok hX.1 hS hFc hPc hKc hDc) (va_recv hK hP rfl (q0 := 2) rfl)) rfl rfl hl.1 rfl (lv_room (Nat.le_of_ble_eq_true rfl)) dX5_set_10 ⟨Nat.zero_le _, Nat.zero_le _⟩) hP hD hS hFc [2, 3] [0, 1] [0, 1, 2, 3] rfl rfl (by decide) (by decide) rfl (by decide) (fun H locs hP hD hS => ?_)
  refine lv_if_ne (tgt := 26) hx hb dX5_set_13 rfl (fun cd3 => ?_) (fun cd3 => ?_)
  · replace hm := zf cd3 hm
    refine lv_iload_n hx hb dX5_set_26 rfl (lv_at hl 4 rfl) ?_
    refine lv_if_lt (tgt := 37) hx hb dX5_set_27 rfl (fun cd4 => ?_) (fun cd4 => ?_)
    · replace hm := zt cd4 hm
      exact b_Px2_set_N_37 G0 hK hX hnx hl0 hd _ hm _ _ _ hP hD hS (lv_sub hl [] rfl)
    · replace hm := zf cd4 hm
      refine lv_iload_n hx hb dX5_set_30 rfl (lv_at hl 4 rfl) ?_
      refine lv_sipush (v := 255) hx hb dX5_set_31 (by decide) ?_
      refine lv_icmp_le (tgt := 47) hx hb dX5_set_34 rfl (fun cd5 => ?_) (fun cd5 => ?_)
      · replace hm := zt cd5 hm
        refine lv_aload hx hb dX5_set_47 (lv_at hl 0 rfl) ?_
        refine va_get (D := D) (ci := 1) (v := .ref bN) (C := RX2) (T := TX2) (N := 8) hx hb hw zinX2 hown hK hP 2 rfl rfl 0 (by decide) (hw _ zw441) (fun _ h9 => h9) rfl dX5_set_49 ?_
        refine lv_iload_n hx hb dX5_set_52 rfl (lv_at hl 3 rfl) ?_
        refine lv_iload_n hx hb dX5_set_53 rfl (lv_at hl 4 rfl) ?_
        obtain ⟨hi6, hm⟩ := zix_s hm
        refine va_iast (i := a1) (x := a2) (f := b) (n := 25) hx hb hK hP hD hS 3 1 rfl rfl hi6 dX5_set_54 (fun H locs hP hD hS => ?_)
        have hP : va_P D vwCl (wQDN aQ aY aS aNs aTs aEs aDc aN bN cd c1 pv dc v (upd b a1.toNatClampNeg a2)) H := hP
        have hD : va_D _ (wQDN aQ aY aS aNs aTs aEs aDc aN bN cd c1 pv dc v (upd b a1.toNatClampNeg a2)) := hD
        cases hm
      · replace hm := zf cd5 hm
        exact b_Px2_set_N_37 G0 hK hX hnx hl0 hd _ hm _ _ _ hP hD hS (lv_sub hl [] rfl)
  · replace hm := zt cd3 hm
    cases hm
    exact zthrowN (ik := 104) (is := 106) (ic := 108) (text := "no such byte") hx hb hl0 hown (by decide +kernel) (hw _ zw497) (hw _ zw498) (hX.2.2.1 (106, "no such byte") zs106) (fun w h => hX.2.1 w (zt108 w h)) (by decide +kernel) hX.2.2.2.1 hX.2.2.2.2 hP hD hS (hl.1.trans hml.symm) dX5_set_16 dX5_set_19 dX5_set_20 dX5_set_22 dX5_set_25 hnx (Nat.le_of_ble_eq_true rfl) (Nat.le_of_ble_eq_true rfl) (Nat.le_of_ble_eq_true rfl) (Nat.le_of_ble_eq_true rfl) hlk

def m_Pi_set_N_37 (pv : Nat → Int32) (dc : Nat → Option Nat) (v : Nat → Int32) (a0 : Int32)  (b : Nat → Int32) : Option ((Nat → Int32)) := (some b)
def m_Pi_set_N (a0 : Int32) (a1 : Int32) (a2 : Int32) (pv : Nat → Int32) (dc : Nat → Option Nat) (v : Nat → Int32) (b : Nat → Int32)  : Option ((Nat → Int32)) := (m_P_existing a0 pv dc).bind (fun q1 => (m_F_hasByte_N a1 v b).bind (fun q2 => (if q2 = 0 then none else (if a2 < 0 then m_Pi_set_N_37 pv dc v a0 b else (if a2 ≤ 255 then zix a1 25 (none) else m_Pi_set_N_37 pv dc v a0 b)))))
section
variable {p : Program} {l : Launch} {e : Env} {s : State} {m : MethodId} {args : Array Value} {below : List Frame} {meth : Method} {c : Code} {D : va_G} {w0 : va_W} {aQ aY aS aNs aTs aEs aDc aN bN : Nat} {cd c1 : ClassId} {pv : Nat → Int32} {dc : Nat → Option Nat} {v : Nat → Int32} {a0 : Int32}
set_option maxRecDepth 100000 in
set_option maxHeartbeats 4000000 in
theorem b_Pi_set_N_37 (G : zG p s m args meth c cX5_set RX5 5 none) (hK : va_K D vwCl (wQDN_t cd c1) s) (hX : zD (va_A w0 s.heap.size) s) (hnx : ∀ x ∈ c.exceptionTable.toList, False) (hl0 : l.stackTraces = false) (hd : dc a0.toNatClampNeg = some aN) {res : (Nat → Int32)} : ∀ (b : Nat → Int32), m_Pi_set_N_37 pv dc v a0 b = some res → zB p l e (zRx 6 90) s m args below meth c D vwCl (va_A w0 s.heap.size) (vx_MQ below (zQF w0 s.heap.size) (zXc "java/lang/IllegalArgumentException" D vwCl w0 (wQDN aQ aY aS aNs aTs aEs aDc aN bN cd c1 pv dc v res) s.heap.size) args s 1 6 (va_A w0 s.heap.size)) 5 (wQDN aQ aY aS aNs aTs aEs aDc aN bN cd c1 pv dc v b) [] 37 [] := by
  intro b hm H locs ls hP hD hS hl
  unfold m_Pi_set_N_37 at hm
  have G0 := G
  obtain ⟨hx, hb, hr, hml, hown, hw, hlk⟩ := G
  have hA : ∀ q, s.heap.size ≤ q → va_A w0 s.heap.size q := fun q h => Or.inr h
  cases hm
  exact zthrowS (ik := 69) (is := 112) (ic := 73) (text := "no byte") hx hb hl0 hown (by decide +kernel) (hw _ zw499) (hw _ zw500) (hX.2.2.1 (112, "no byte") zs112) (fun w h => hX.2.1 w (zt73 w h)) (by decide +kernel) hX.2.2.2.1 hX.2.2.2.2 hP hD hS (hl.1.trans hml.symm) dX5_set_37 dX5_set_40 dX5_set_41 dX5_set_43 dX5_set_46 hnx (Nat.le_of_ble_eq_true rfl) (Nat.le_of_ble_eq_true rfl) (Nat.le_of_ble_eq_true rfl) (Nat.le_of_ble_eq_true rfl) hlk
end
set_option maxRecDepth 100000 in
set_option maxHeartbeats 4000000 in
theorem k_Pi_set_N (l : Launch) (D : va_G) (aQ aY aS aNs aTs aEs aDc aN bN : Nat) (cd c1 : ClassId) (sz : Nat) (a0 : Int32) (a1 : Int32) (a2 : Int32) (pv : Nat → Int32) (dc : Nat → Option Nat) (v : Nat → Int32) (b : Nat → Int32) (hl0 : l.stackTraces = false) (hd : dc a0.toNatClampNeg = some aN) (res : (Nat → Int32)) (hm : m_Pi_set_N a0 a1 a2 pv dc v b  = some res) : vx_Met l yX5_set (Cond.code yX5_set cX5_set 5 none :: zBIG) (zRx 6 90) (va_Pc [.ref aQ, .int a0, .int a1, .int a2] (zP zD D vwCl (wQDN_t cd c1) (wQDN aQ aY aS aNs aTs aEs aDc aN bN cd c1 pv dc v b) sz)) (zQF (wQDN aQ aY aS aNs aTs aEs aDc aN bN cd c1 pv dc v b) sz) (zXc "java/lang/IllegalArgumentException" D vwCl (wQDN aQ aY aS aNs aTs aEs aDc aN bN cd c1 pv dc v b) (wQDN aQ aY aS aNs aTs aEs aDc aN bN cd c1 pv dc v res) sz) 1 6 (va_A (wQDN aQ aY aS aNs aTs aEs aDc aN bN cd c1 pv dc v b) sz) := by
  refine zEnterX RX5 [.ref aQ, .int a0, .int a1, .int a2] (by decide) rfl (Nat.le_of_ble_eq_true rfl) (fun p e s m below meth c ls hnx G hK hX hP hD hsz hl => ?_)
  subst hsz
  unfold m_Pi_set_N at hm
  have hl : lv_has ls 5 [(0, .ref aQ), (1, .int a0), (2, .int a1), (3, .int a2)] := hl
  have hS : va_S (va_A (wQDN aQ aY aS aNs aTs aEs aDc aN bN cd c1 pv dc v b) s.heap.size) s.heap s.heap [] := va_S.rf
  have hA : ∀ q, s.heap.size ≤ q → va_A (wQDN aQ aY aS aNs aTs aEs aDc aN bN cd c1 pv dc v b) s.heap.size q := fun q h => Or.inr h
  have G0 := G
  obtain ⟨hx, hb, hr, hml, hown, hw, hlk⟩ := G
  refine lv_aload_n hx hb dX5_set_0 rfl (lv_at hl 0 rfl) ?_
  refine lv_iload_n hx hb dX5_set_1 rfl (lv_at hl 1 rfl) ?_
  obtain ⟨q1, hq1, hm⟩ := zbind hm
  have hPc := hP.sub (ws' := (wQDf aQ aY aS aNs aTs aEs aDc aN cd pv dc)) [0, 1] rfl
  have hDc := hD.sub (ws' := (wQDf aQ aY aS aNs aTs aEs aDc aN cd pv dc)) [0, 1] (by decide) rfl
  have hKc := hK.sub (tys' := wQDf_t cd) [0] rfl
  have hFc := va_free (wc := (wQDf aQ aY aS aNs aTs aEs aDc aN cd pv dc)) hD hS hA [0, 1] rfl
  refine zbSq (wr := [(aN, .inr (1, [.ref bN, .int (v 1), .int (v 2), .int (v 3), .int (v 4), .int (v 5), .int (v 6), .int (v 7)])), (bN, .inl (c1, 25, .inl b))]) (w1 := (wQDf aQ aY aS aNs aTs aEs aDc aN cd pv dc)) (w' := (wQDN aQ aY aS aNs aTs aEs aDc aN bN cd c1 pv dc v b)) (va_runV (As := [.int a0]) (rest := []) ⟨hx, hb, hml, hown, hw⟩ (k_P_existing l D aQ aY aS aNs aTs aEs aDc aN cd _ a0 pv dc hd q1 hq1) (zcV (C := RX5) 1 hw (zgood zw422) rfl rfl rfl zw176 zw424 zw423 zw425 hdX5_existing ⟨Nat.le_of_ble_eq_true rfl, Nat.le_of_ble_eq_true rfl⟩) (zpreV (zpre zC_ok hX.1 hS hFc hPc hKc hDc) (va_recv hK hP rfl (q0 := 0) rfl)) rfl rfl hl.1 rfl (lv_room (Nat.le_of_ble_eq_true rfl)) dX5_set_2 ⟨Nat.zero_le _, Nat.zero_le _⟩) hP hD hS hFc [0, 1] [2, 3] [2, 3, 0, 1] rfl rfl (by decide) (by decide) rfl (by decide) (fun H locs hP hD hS => ?_)
  refine lv_astore (lv' := [(4, .ref aN), (0, .ref aQ), (1, .int a0), (2, .int a1), (3, .int a2)]) hx hb dX5_set_5 hl (by decide) rfl (fun ls hl => ?_)
  refine lv_aload hx hb dX5_set_7 (lv_at hl 0 rfl) ?_
  refine lv_iload_n hx hb dX5_set_9 rfl (lv_at hl 3 rfl) ?_
  obtain ⟨q2, hq2, hm⟩ := zbind hm
  have hPc := hP.sub (ws' := (wN aN bN c1 v b)) [2, 3] rfl
  have hDc := hD.sub (ws' := (wN aN bN c1 v b)) [2, 3] (by decide) rfl
  have hKc := hK.sub (tys' := wN_t c1) [1] rfl
  have hFc := va_free (wc := (wN aN bN c1 v b)) hD hS hA [2, 3] rfl
  refine zbSi (wr := [(aQ, .inr (4, [.ref aY, .int (pv 1), .ref aS, .ref aNs, .ref aTs, .ref aEs, .ref aDc, .int (pv 7)])), (aDc, .inl (cd, 8, .inr (.inr (.inr (.inr dc)))))]) (w1 := (wN aN bN c1 v b)) (w' := (wQDN aQ aY aS aNs aTs aEs aDc aN bN cd c1 pv dc v b)) (va_runU (As := [.int a1]) (rest := []) ⟨hx, hb, hml, hown, hw⟩ (k_F_hasByte_N l D aN bN c1 _ a1 v b  q2 hq2) (va_cwU (C := RX2) (owner := RX1) (x := ⟨RX1, "hasByte", "(I)Z"⟩) 1 hw (zgoodL (List.forall_mem_cons.mpr ⟨zw438, List.forall_mem_cons.mpr ⟨zw439, List.forall_mem_cons.mpr ⟨zw440, List.forall_mem_cons.mpr ⟨zw437, List.forall_mem_cons.mpr ⟨zw409, fun _ h => absurd h List.not_mem_nil⟩⟩⟩⟩⟩) zw436) rfl rfl rfl rfl (by decide +kernel) ⟨Nat.le_of_ble_eq_true rfl, Nat.le_of_ble_eq_true rfl⟩) (zpreV (zpre zC_ok hX.1 hS hFc hPc hKc hDc) (va_recv hK hP rfl (q0 := 2) rfl)) rfl rfl hl.1 rfl (lv_room (Nat.le_of_ble_eq_true rfl)) dX5_set_10 ⟨Nat.zero_le _, Nat.zero_le _⟩) hP hD hS hFc [2, 3] [0, 1] [0, 1, 2, 3] rfl rfl (by decide) (by decide) rfl (by decide) (fun H locs hP hD hS => ?_)
  refine lv_if_ne (tgt := 26) hx hb dX5_set_13 rfl (fun cd3 => ?_) (fun cd3 => ?_)
  · replace hm := zf cd3 hm
    refine lv_iload_n hx hb dX5_set_26 rfl (lv_at hl 4 rfl) ?_
    refine lv_if_lt (tgt := 37) hx hb dX5_set_27 rfl (fun cd4 => ?_) (fun cd4 => ?_)
    · replace hm := zt cd4 hm
      exact b_Pi_set_N_37 G0 hK hX hnx hl0 hd _ hm _ _ _ hP hD hS (lv_sub hl [] rfl)
    · replace hm := zf cd4 hm
      refine lv_iload_n hx hb dX5_set_30 rfl (lv_at hl 4 rfl) ?_
      refine lv_sipush (v := 255) hx hb dX5_set_31 (by decide) ?_
      refine lv_icmp_le (tgt := 47) hx hb dX5_set_34 rfl (fun cd5 => ?_) (fun cd5 => ?_)
      · replace hm := zt cd5 hm
        refine lv_aload hx hb dX5_set_47 (lv_at hl 0 rfl) ?_
        refine va_get (D := D) (ci := 1) (v := .ref bN) (C := RX2) (T := TX2) (N := 8) hx hb hw zinX2 hown hK hP 2 rfl rfl 0 (by decide) (hw _ zw441) (fun _ h9 => h9) rfl dX5_set_49 ?_
        refine lv_iload_n hx hb dX5_set_52 rfl (lv_at hl 3 rfl) ?_
        refine lv_iload_n hx hb dX5_set_53 rfl (lv_at hl 4 rfl) ?_
        obtain ⟨hi6, hm⟩ := zix_s hm
        refine va_iast (i := a1) (x := a2) (f := b) (n := 25) hx hb hK hP hD hS 3 1 rfl rfl hi6 dX5_set_54 (fun H locs hP hD hS => ?_)
        have hP : va_P D vwCl (wQDN aQ aY aS aNs aTs aEs aDc aN bN cd c1 pv dc v (upd b a1.toNatClampNeg a2)) H := hP
        have hD : va_D _ (wQDN aQ aY aS aNs aTs aEs aDc aN bN cd c1 pv dc v (upd b a1.toNatClampNeg a2)) := hD
        cases hm
      · replace hm := zf cd5 hm
        exact b_Pi_set_N_37 G0 hK hX hnx hl0 hd _ hm _ _ _ hP hD hS (lv_sub hl [] rfl)
  · replace hm := zt cd3 hm
    cases hm

def m_Px2_get_T (a0 : Int32) (a1 : Int32) (pv : Nat → Int32) (dc : Nat → Option Nat) (v : Nat → Int32) (b : Nat → Int32)  : Option (Unit) := (m_P_existing a0 pv dc).bind (fun q1 => (m_F_hasByte_T a1 v b).bind (fun q2 => (if q2 = 0 then (some ()) else zix a1 25 (none))))
section
variable {p : Program} {l : Launch} {e : Env} {s : State} {m : MethodId} {args : Array Value} {below : List Frame} {meth : Method} {c : Code} {D : va_G} {w0 : va_W} {aQ aY aS aNs aTs aEs aDc aT bT : Nat} {cd c1 : ClassId} {pv : Nat → Int32} {dc : Nat → Option Nat} {v : Nat → Int32} {b : Nat → Int32} {a0 : Int32}
end
set_option maxRecDepth 100000 in
set_option maxHeartbeats 4000000 in
theorem k_Px2_get_T (l : Launch) (D : va_G) (aQ aY aS aNs aTs aEs aDc aT bT : Nat) (cd c1 : ClassId) (sz : Nat) (a0 : Int32) (a1 : Int32) (pv : Nat → Int32) (dc : Nat → Option Nat) (v : Nat → Int32) (b : Nat → Int32) (hl0 : l.stackTraces = false) (hd : dc a0.toNatClampNeg = some aT) (res : Unit) (hm : m_Px2_get_T a0 a1 pv dc v b  = some res) : vx_Met l yX5_get (Cond.code yX5_get cX5_get 4 (some .int) :: zBIG) (zRx 6 90) (va_Pc [.ref aQ, .int a0, .int a1] (zP zD D vwCl (wQDT_t cd c1) (wQDT aQ aY aS aNs aTs aEs aDc aT bT cd c1 pv dc v b) sz)) (zQF (wQDT aQ aY aS aNs aTs aEs aDc aT bT cd c1 pv dc v b) sz) (zXc "java/util/NoSuchElementException" D vwCl (wQDT aQ aY aS aNs aTs aEs aDc aT bT cd c1 pv dc v b) (wQDT aQ aY aS aNs aTs aEs aDc aT bT cd c1 pv dc v b) sz) 1 6 (va_A (wQDT aQ aY aS aNs aTs aEs aDc aT bT cd c1 pv dc v b) sz) := by
  refine zEnterX RX5 [.ref aQ, .int a0, .int a1] (by decide) rfl (Nat.le_of_ble_eq_true rfl) (fun p e s m below meth c ls hnx G hK hX hP hD hsz hl => ?_)
  subst hsz
  unfold m_Px2_get_T at hm
  have hl : lv_has ls 4 [(0, .ref aQ), (1, .int a0), (2, .int a1)] := hl
  have hS : va_S (va_A (wQDT aQ aY aS aNs aTs aEs aDc aT bT cd c1 pv dc v b) s.heap.size) s.heap s.heap [] := va_S.rf
  have hA : ∀ q, s.heap.size ≤ q → va_A (wQDT aQ aY aS aNs aTs aEs aDc aT bT cd c1 pv dc v b) s.heap.size q := fun q h => Or.inr h
  have G0 := G
  obtain ⟨hx, hb, hr, hml, hown, hw, hlk⟩ := G
  refine lv_aload_n hx hb dX5_get_0 rfl (lv_at hl 0 rfl) ?_
  refine lv_iload_n hx hb dX5_get_1 rfl (lv_at hl 1 rfl) ?_
  obtain ⟨q1, hq1, hm⟩ := zbind hm
  have hPc := hP.sub (ws' := (wQDf aQ aY aS aNs aTs aEs aDc aT cd pv dc)) [0, 1] rfl
  have hDc := hD.sub (ws' := (wQDf aQ aY aS aNs aTs aEs aDc aT cd pv dc)) [0, 1] (by decide) rfl
  have hKc := hK.sub (tys' := wQDf_t cd) [0] rfl
  have hFc := va_free (wc := (wQDf aQ aY aS aNs aTs aEs aDc aT cd pv dc)) hD hS hA [0, 1] rfl
  refine zbSq (wr := [(aT, .inr (3, [.ref bT, .int (v 1), .int (v 2), .int (v 3), .int (v 4)])), (bT, .inl (c1, 25, .inl b))]) (w1 := (wQDf aQ aY aS aNs aTs aEs aDc aT cd pv dc)) (w' := (wQDT aQ aY aS aNs aTs aEs aDc aT bT cd c1 pv dc v b)) (va_runV (As := [.int a0]) (rest := []) ⟨hx, hb, hml, hown, hw⟩ (k_P_existing l D aQ aY aS aNs aTs aEs aDc aT cd _ a0 pv dc hd q1 hq1) (zcV (C := RX5) 1 hw (zgood zw422) rfl rfl rfl zw176 zw424 zw423 zw425 hdX5_existing ⟨Nat.le_of_ble_eq_true rfl, Nat.le_of_ble_eq_true rfl⟩) (zpreV (zpre zC_ok hX.1 hS hFc hPc hKc hDc) (va_recv hK hP rfl (q0 := 0) rfl)) rfl rfl hl.1 rfl (lv_room (Nat.le_of_ble_eq_true rfl)) dX5_get_2 ⟨Nat.zero_le _, Nat.zero_le _⟩) hP hD hS hFc [0, 1] [2, 3] [2, 3, 0, 1] rfl rfl (by decide) (by decide) rfl (by decide) (fun H locs hP hD hS => ?_)
  refine lv_astore_n (lv' := [(3, .ref aT), (0, .ref aQ), (1, .int a0), (2, .int a1)]) hx hb dX5_get_5 rfl hl (by decide) rfl (fun ls hl => ?_)
  refine lv_aload_n hx hb dX5_get_6 rfl (lv_at hl 0 rfl) ?_
  refine lv_iload_n hx hb dX5_get_7 rfl (lv_at hl 3 rfl) ?_
  obtain ⟨q2, hq2, hm⟩ := zbind hm
  have hPc := hP.sub (ws' := (wT aT bT c1 v b)) [2, 3] rfl
  have hDc := hD.sub (ws' := (wT aT bT c1 v b)) [2, 3] (by decide) rfl
  have hKc := hK.sub (tys' := wT_t c1) [1] rfl
  have hFc := va_free (wc := (wT aT bT c1 v b)) hD hS hA [2, 3] rfl
  refine zbSi (wr := [(aQ, .inr (4, [.ref aY, .int (pv 1), .ref aS, .ref aNs, .ref aTs, .ref aEs, .ref aDc, .int (pv 7)])), (aDc, .inl (cd, 8, .inr (.inr (.inr (.inr dc)))))]) (w1 := (wT aT bT c1 v b)) (w' := (wQDT aQ aY aS aNs aTs aEs aDc aT bT cd c1 pv dc v b)) (va_runU (As := [.int a1]) (rest := []) ⟨hx, hb, hml, hown, hw⟩ (k_F_hasByte_T l D aT bT c1 _ a1 v b  q2 hq2) (va_cwU (C := RX4) (owner := RX1) (x := ⟨RX1, "hasByte", "(I)Z"⟩) 1 hw (zgoodL (List.forall_mem_cons.mpr ⟨zw438, List.forall_mem_cons.mpr ⟨zw439, List.forall_mem_cons.mpr ⟨zw446, List.forall_mem_cons.mpr ⟨zw437, List.forall_mem_cons.mpr ⟨zw409, fun _ h => absurd h List.not_mem_nil⟩⟩⟩⟩⟩) zw436) rfl rfl rfl rfl (by decide +kernel) ⟨Nat.le_of_ble_eq_true rfl, Nat.le_of_ble_eq_true rfl⟩) (zpreV (zpre zC_ok hX.1 hS hFc hPc hKc hDc) (va_recv hK hP rfl (q0 := 2) rfl)) rfl rfl hl.1 rfl (lv_room (Nat.le_of_ble_eq_true rfl)) dX5_get_8 ⟨Nat.zero_le _, Nat.zero_le _⟩) hP hD hS hFc [2, 3] [0, 1] [0, 1, 2, 3] rfl rfl (by decide) (by decide) rfl (by decide) (fun H locs hP hD hS => ?_)
  refine lv_if_ne (tgt := 24) hx hb dX5_get_11 rfl (fun cd3 => ?_) (fun cd3 => ?_)
  · replace hm := zf cd3 hm
    refine lv_aload_n hx hb dX5_get_24 rfl (lv_at hl 0 rfl) ?_
    refine va_get (D := D) (ci := 3) (v := .ref bT) (C := RX4) (T := TX4) (N := 5) hx hb hw zinX4 hown hK hP 2 rfl rfl 0 (by decide) (hw _ zw441) (fun _ h9 => h9) rfl dX5_get_25 ?_
    refine lv_iload_n hx hb dX5_get_28 rfl (lv_at hl 3 rfl) ?_
    obtain ⟨hi4, hm⟩ := zix_s hm
    refine va_iald (i := a1) (f := b) (n := 25) hx hb hK hP 3 1 rfl rfl hi4 dX5_get_29 ?_
    cases hm
  · replace hm := zt cd3 hm
    cases hm
    exact zthrowN (ik := 104) (is := 106) (ic := 108) (text := "no such byte") hx hb hl0 hown (by decide +kernel) (hw _ zw497) (hw _ zw498) (hX.2.2.1 (106, "no such byte") zs106) (fun w h => hX.2.1 w (zt108 w h)) (by decide +kernel) hX.2.2.2.1 hX.2.2.2.2 hP hD hS (hl.1.trans hml.symm) dX5_get_14 dX5_get_17 dX5_get_18 dX5_get_20 dX5_get_23 hnx (Nat.le_of_ble_eq_true rfl) (Nat.le_of_ble_eq_true rfl) (Nat.le_of_ble_eq_true rfl) (Nat.le_of_ble_eq_true rfl) hlk

def m_Px2_set_T_37 (pv : Nat → Int32) (dc : Nat → Option Nat) (v : Nat → Int32) (a0 : Int32)  (b : Nat → Int32) : Option ((Nat → Int32)) := none
def m_Px2_set_T (a0 : Int32) (a1 : Int32) (a2 : Int32) (pv : Nat → Int32) (dc : Nat → Option Nat) (v : Nat → Int32) (b : Nat → Int32)  : Option ((Nat → Int32)) := (m_P_existing a0 pv dc).bind (fun q1 => (m_F_hasByte_T a1 v b).bind (fun q2 => (if q2 = 0 then (some b) else (if a2 < 0 then m_Px2_set_T_37 pv dc v a0 b else (if a2 ≤ 255 then zix a1 25 (none) else m_Px2_set_T_37 pv dc v a0 b)))))
section
variable {p : Program} {l : Launch} {e : Env} {s : State} {m : MethodId} {args : Array Value} {below : List Frame} {meth : Method} {c : Code} {D : va_G} {w0 : va_W} {aQ aY aS aNs aTs aEs aDc aT bT : Nat} {cd c1 : ClassId} {pv : Nat → Int32} {dc : Nat → Option Nat} {v : Nat → Int32} {a0 : Int32}
set_option maxRecDepth 100000 in
set_option maxHeartbeats 4000000 in
theorem b_Px2_set_T_37 (G : zG p s m args meth c cX5_set RX5 5 none) (hK : va_K D vwCl (wQDT_t cd c1) s) (hX : zD (va_A w0 s.heap.size) s) (hnx : ∀ x ∈ c.exceptionTable.toList, False) (hl0 : l.stackTraces = false) (hd : dc a0.toNatClampNeg = some aT) {res : (Nat → Int32)} : ∀ (b : Nat → Int32), m_Px2_set_T_37 pv dc v a0 b = some res → zB p l e (zRx 6 90) s m args below meth c D vwCl (va_A w0 s.heap.size) (vx_MQ below (zQF w0 s.heap.size) (zXc "java/util/NoSuchElementException" D vwCl w0 (wQDT aQ aY aS aNs aTs aEs aDc aT bT cd c1 pv dc v res) s.heap.size) args s 1 6 (va_A w0 s.heap.size)) 5 (wQDT aQ aY aS aNs aTs aEs aDc aT bT cd c1 pv dc v b) [] 37 [] := by
  intro b hm H locs ls hP hD hS hl
  unfold m_Px2_set_T_37 at hm
  have G0 := G
  obtain ⟨hx, hb, hr, hml, hown, hw, hlk⟩ := G
  have hA : ∀ q, s.heap.size ≤ q → va_A w0 s.heap.size q := fun q h => Or.inr h
  cases hm
end
set_option maxRecDepth 100000 in
set_option maxHeartbeats 4000000 in
theorem k_Px2_set_T (l : Launch) (D : va_G) (aQ aY aS aNs aTs aEs aDc aT bT : Nat) (cd c1 : ClassId) (sz : Nat) (a0 : Int32) (a1 : Int32) (a2 : Int32) (pv : Nat → Int32) (dc : Nat → Option Nat) (v : Nat → Int32) (b : Nat → Int32) (hl0 : l.stackTraces = false) (hd : dc a0.toNatClampNeg = some aT) (res : (Nat → Int32)) (hm : m_Px2_set_T a0 a1 a2 pv dc v b  = some res) : vx_Met l yX5_set (Cond.code yX5_set cX5_set 5 none :: zBIG) (zRx 6 90) (va_Pc [.ref aQ, .int a0, .int a1, .int a2] (zP zD D vwCl (wQDT_t cd c1) (wQDT aQ aY aS aNs aTs aEs aDc aT bT cd c1 pv dc v b) sz)) (zQF (wQDT aQ aY aS aNs aTs aEs aDc aT bT cd c1 pv dc v b) sz) (zXc "java/util/NoSuchElementException" D vwCl (wQDT aQ aY aS aNs aTs aEs aDc aT bT cd c1 pv dc v b) (wQDT aQ aY aS aNs aTs aEs aDc aT bT cd c1 pv dc v res) sz) 1 6 (va_A (wQDT aQ aY aS aNs aTs aEs aDc aT bT cd c1 pv dc v b) sz) := by
  refine zEnterX RX5 [.ref aQ, .int a0, .int a1, .int a2] (by decide) rfl (Nat.le_of_ble_eq_true rfl) (fun p e s m below meth c ls hnx G hK hX hP hD hsz hl => ?_)
  subst hsz
  unfold m_Px2_set_T at hm
  have hl : lv_has ls 5 [(0, .ref aQ), (1, .int a0), (2, .int a1), (3, .int a2)] := hl
  have hS : va_S (va_A (wQDT aQ aY aS aNs aTs aEs aDc aT bT cd c1 pv dc v b) s.heap.size) s.heap s.heap [] := va_S.rf
  have hA : ∀ q, s.heap.size ≤ q → va_A (wQDT aQ aY aS aNs aTs aEs aDc aT bT cd c1 pv dc v b) s.heap.size q := fun q h => Or.inr h
  have G0 := G
  obtain ⟨hx, hb, hr, hml, hown, hw, hlk⟩ := G
  refine lv_aload_n hx hb dX5_set_0 rfl (lv_at hl 0 rfl) ?_
  refine lv_iload_n hx hb dX5_set_1 rfl (lv_at hl 1 rfl) ?_
  obtain ⟨q1, hq1, hm⟩ := zbind hm
  have hPc := hP.sub (ws' := (wQDf aQ aY aS aNs aTs aEs aDc aT cd pv dc)) [0, 1] rfl
  have hDc := hD.sub (ws' := (wQDf aQ aY aS aNs aTs aEs aDc aT cd pv dc)) [0, 1] (by decide) rfl
  have hKc := hK.sub (tys' := wQDf_t cd) [0] rfl
  have hFc := va_free (wc := (wQDf aQ aY aS aNs aTs aEs aDc aT cd pv dc)) hD hS hA [0, 1] rfl
  refine zbSq (wr := [(aT, .inr (3, [.ref bT, .int (v 1), .int (v 2), .int (v 3), .int (v 4)])), (bT, .inl (c1, 25, .inl b))]) (w1 := (wQDf aQ aY aS aNs aTs aEs aDc aT cd pv dc)) (w' := (wQDT aQ aY aS aNs aTs aEs aDc aT bT cd c1 pv dc v b)) (va_runV (As := [.int a0]) (rest := []) ⟨hx, hb, hml, hown, hw⟩ (k_P_existing l D aQ aY aS aNs aTs aEs aDc aT cd _ a0 pv dc hd q1 hq1) (zcV (C := RX5) 1 hw (zgood zw422) rfl rfl rfl zw176 zw424 zw423 zw425 hdX5_existing ⟨Nat.le_of_ble_eq_true rfl, Nat.le_of_ble_eq_true rfl⟩) (zpreV (zpre zC_ok hX.1 hS hFc hPc hKc hDc) (va_recv hK hP rfl (q0 := 0) rfl)) rfl rfl hl.1 rfl (lv_room (Nat.le_of_ble_eq_true rfl)) dX5_set_2 ⟨Nat.zero_le _, Nat.zero_le _⟩) hP hD hS hFc [0, 1] [2, 3] [2, 3, 0, 1] rfl rfl (by decide) (by decide) rfl (by decide) (fun H locs hP hD hS => ?_)
  refine lv_astore (lv' := [(4, .ref aT), (0, .ref aQ), (1, .int a0), (2, .int a1), (3, .int a2)]) hx hb dX5_set_5 hl (by decide) rfl (fun ls hl => ?_)
  refine lv_aload hx hb dX5_set_7 (lv_at hl 0 rfl) ?_
  refine lv_iload_n hx hb dX5_set_9 rfl (lv_at hl 3 rfl) ?_
  obtain ⟨q2, hq2, hm⟩ := zbind hm
  have hPc := hP.sub (ws' := (wT aT bT c1 v b)) [2, 3] rfl
  have hDc := hD.sub (ws' := (wT aT bT c1 v b)) [2, 3] (by decide) rfl
  have hKc := hK.sub (tys' := wT_t c1) [1] rfl
  have hFc := va_free (wc := (wT aT bT c1 v b)) hD hS hA [2, 3] rfl
  refine zbSi (wr := [(aQ, .inr (4, [.ref aY, .int (pv 1), .ref aS, .ref aNs, .ref aTs, .ref aEs, .ref aDc, .int (pv 7)])), (aDc, .inl (cd, 8, .inr (.inr (.inr (.inr dc)))))]) (w1 := (wT aT bT c1 v b)) (w' := (wQDT aQ aY aS aNs aTs aEs aDc aT bT cd c1 pv dc v b)) (va_runU (As := [.int a1]) (rest := []) ⟨hx, hb, hml, hown, hw⟩ (k_F_hasByte_T l D aT bT c1 _ a1 v b  q2 hq2) (va_cwU (C := RX4) (owner := RX1) (x := ⟨RX1, "hasByte", "(I)Z"⟩) 1 hw (zgoodL (List.forall_mem_cons.mpr ⟨zw438, List.forall_mem_cons.mpr ⟨zw439, List.forall_mem_cons.mpr ⟨zw446, List.forall_mem_cons.mpr ⟨zw437, List.forall_mem_cons.mpr ⟨zw409, fun _ h => absurd h List.not_mem_nil⟩⟩⟩⟩⟩) zw436) rfl rfl rfl rfl (by decide +kernel) ⟨Nat.le_of_ble_eq_true rfl, Nat.le_of_ble_eq_true rfl⟩) (zpreV (zpre zC_ok hX.1 hS hFc hPc hKc hDc) (va_recv hK hP rfl (q0 := 2) rfl)) rfl rfl hl.1 rfl (lv_room (Nat.le_of_ble_eq_true rfl)) dX5_set_10 ⟨Nat.zero_le _, Nat.zero_le _⟩) hP hD hS hFc [2, 3] [0, 1] [0, 1, 2, 3] rfl rfl (by decide) (by decide) rfl (by decide) (fun H locs hP hD hS => ?_)
  refine lv_if_ne (tgt := 26) hx hb dX5_set_13 rfl (fun cd3 => ?_) (fun cd3 => ?_)
  · replace hm := zf cd3 hm
    refine lv_iload_n hx hb dX5_set_26 rfl (lv_at hl 4 rfl) ?_
    refine lv_if_lt (tgt := 37) hx hb dX5_set_27 rfl (fun cd4 => ?_) (fun cd4 => ?_)
    · replace hm := zt cd4 hm
      exact b_Px2_set_T_37 G0 hK hX hnx hl0 hd _ hm _ _ _ hP hD hS (lv_sub hl [] rfl)
    · replace hm := zf cd4 hm
      refine lv_iload_n hx hb dX5_set_30 rfl (lv_at hl 4 rfl) ?_
      refine lv_sipush (v := 255) hx hb dX5_set_31 (by decide) ?_
      refine lv_icmp_le (tgt := 47) hx hb dX5_set_34 rfl (fun cd5 => ?_) (fun cd5 => ?_)
      · replace hm := zt cd5 hm
        refine lv_aload hx hb dX5_set_47 (lv_at hl 0 rfl) ?_
        refine va_get (D := D) (ci := 3) (v := .ref bT) (C := RX4) (T := TX4) (N := 5) hx hb hw zinX4 hown hK hP 2 rfl rfl 0 (by decide) (hw _ zw441) (fun _ h9 => h9) rfl dX5_set_49 ?_
        refine lv_iload_n hx hb dX5_set_52 rfl (lv_at hl 3 rfl) ?_
        refine lv_iload_n hx hb dX5_set_53 rfl (lv_at hl 4 rfl) ?_
        obtain ⟨hi6, hm⟩ := zix_s hm
        refine va_iast (i := a1) (x := a2) (f := b) (n := 25) hx hb hK hP hD hS 3 1 rfl rfl hi6 dX5_set_54 (fun H locs hP hD hS => ?_)
        have hP : va_P D vwCl (wQDT aQ aY aS aNs aTs aEs aDc aT bT cd c1 pv dc v (upd b a1.toNatClampNeg a2)) H := hP
        have hD : va_D _ (wQDT aQ aY aS aNs aTs aEs aDc aT bT cd c1 pv dc v (upd b a1.toNatClampNeg a2)) := hD
        cases hm
      · replace hm := zf cd5 hm
        exact b_Px2_set_T_37 G0 hK hX hnx hl0 hd _ hm _ _ _ hP hD hS (lv_sub hl [] rfl)
  · replace hm := zt cd3 hm
    cases hm
    exact zthrowN (ik := 104) (is := 106) (ic := 108) (text := "no such byte") hx hb hl0 hown (by decide +kernel) (hw _ zw497) (hw _ zw498) (hX.2.2.1 (106, "no such byte") zs106) (fun w h => hX.2.1 w (zt108 w h)) (by decide +kernel) hX.2.2.2.1 hX.2.2.2.2 hP hD hS (hl.1.trans hml.symm) dX5_set_16 dX5_set_19 dX5_set_20 dX5_set_22 dX5_set_25 hnx (Nat.le_of_ble_eq_true rfl) (Nat.le_of_ble_eq_true rfl) (Nat.le_of_ble_eq_true rfl) (Nat.le_of_ble_eq_true rfl) hlk

def m_Pi_set_T_37 (pv : Nat → Int32) (dc : Nat → Option Nat) (v : Nat → Int32) (a0 : Int32)  (b : Nat → Int32) : Option ((Nat → Int32)) := (some b)
def m_Pi_set_T (a0 : Int32) (a1 : Int32) (a2 : Int32) (pv : Nat → Int32) (dc : Nat → Option Nat) (v : Nat → Int32) (b : Nat → Int32)  : Option ((Nat → Int32)) := (m_P_existing a0 pv dc).bind (fun q1 => (m_F_hasByte_T a1 v b).bind (fun q2 => (if q2 = 0 then none else (if a2 < 0 then m_Pi_set_T_37 pv dc v a0 b else (if a2 ≤ 255 then zix a1 25 (none) else m_Pi_set_T_37 pv dc v a0 b)))))
section
variable {p : Program} {l : Launch} {e : Env} {s : State} {m : MethodId} {args : Array Value} {below : List Frame} {meth : Method} {c : Code} {D : va_G} {w0 : va_W} {aQ aY aS aNs aTs aEs aDc aT bT : Nat} {cd c1 : ClassId} {pv : Nat → Int32} {dc : Nat → Option Nat} {v : Nat → Int32} {a0 : Int32}
set_option maxRecDepth 100000 in
set_option maxHeartbeats 4000000 in
theorem b_Pi_set_T_37 (G : zG p s m args meth c cX5_set RX5 5 none) (hK : va_K D vwCl (wQDT_t cd c1) s) (hX : zD (va_A w0 s.heap.size) s) (hnx : ∀ x ∈ c.exceptionTable.toList, False) (hl0 : l.stackTraces = false) (hd : dc a0.toNatClampNeg = some aT) {res : (Nat → Int32)} : ∀ (b : Nat → Int32), m_Pi_set_T_37 pv dc v a0 b = some res → zB p l e (zRx 6 90) s m args below meth c D vwCl (va_A w0 s.heap.size) (vx_MQ below (zQF w0 s.heap.size) (zXc "java/lang/IllegalArgumentException" D vwCl w0 (wQDT aQ aY aS aNs aTs aEs aDc aT bT cd c1 pv dc v res) s.heap.size) args s 1 6 (va_A w0 s.heap.size)) 5 (wQDT aQ aY aS aNs aTs aEs aDc aT bT cd c1 pv dc v b) [] 37 [] := by
  intro b hm H locs ls hP hD hS hl
  unfold m_Pi_set_T_37 at hm
  have G0 := G
  obtain ⟨hx, hb, hr, hml, hown, hw, hlk⟩ := G
  have hA : ∀ q, s.heap.size ≤ q → va_A w0 s.heap.size q := fun q h => Or.inr h
  cases hm
  exact zthrowS (ik := 69) (is := 112) (ic := 73) (text := "no byte") hx hb hl0 hown (by decide +kernel) (hw _ zw499) (hw _ zw500) (hX.2.2.1 (112, "no byte") zs112) (fun w h => hX.2.1 w (zt73 w h)) (by decide +kernel) hX.2.2.2.1 hX.2.2.2.2 hP hD hS (hl.1.trans hml.symm) dX5_set_37 dX5_set_40 dX5_set_41 dX5_set_43 dX5_set_46 hnx (Nat.le_of_ble_eq_true rfl) (Nat.le_of_ble_eq_true rfl) (Nat.le_of_ble_eq_true rfl) (Nat.le_of_ble_eq_true rfl) hlk
end
set_option maxRecDepth 100000 in
set_option maxHeartbeats 4000000 in
theorem k_Pi_set_T (l : Launch) (D : va_G) (aQ aY aS aNs aTs aEs aDc aT bT : Nat) (cd c1 : ClassId) (sz : Nat) (a0 : Int32) (a1 : Int32) (a2 : Int32) (pv : Nat → Int32) (dc : Nat → Option Nat) (v : Nat → Int32) (b : Nat → Int32) (hl0 : l.stackTraces = false) (hd : dc a0.toNatClampNeg = some aT) (res : (Nat → Int32)) (hm : m_Pi_set_T a0 a1 a2 pv dc v b  = some res) : vx_Met l yX5_set (Cond.code yX5_set cX5_set 5 none :: zBIG) (zRx 6 90) (va_Pc [.ref aQ, .int a0, .int a1, .int a2] (zP zD D vwCl (wQDT_t cd c1) (wQDT aQ aY aS aNs aTs aEs aDc aT bT cd c1 pv dc v b) sz)) (zQF (wQDT aQ aY aS aNs aTs aEs aDc aT bT cd c1 pv dc v b) sz) (zXc "java/lang/IllegalArgumentException" D vwCl (wQDT aQ aY aS aNs aTs aEs aDc aT bT cd c1 pv dc v b) (wQDT aQ aY aS aNs aTs aEs aDc aT bT cd c1 pv dc v res) sz) 1 6 (va_A (wQDT aQ aY aS aNs aTs aEs aDc aT bT cd c1 pv dc v b) sz) := by
  refine zEnterX RX5 [.ref aQ, .int a0, .int a1, .int a2] (by decide) rfl (Nat.le_of_ble_eq_true rfl) (fun p e s m below meth c ls hnx G hK hX hP hD hsz hl => ?_)
  subst hsz
  unfold m_Pi_set_T at hm
  have hl : lv_has ls 5 [(0, .ref aQ), (1, .int a0), (2, .int a1), (3, .int a2)] := hl
  have hS : va_S (va_A (wQDT aQ aY aS aNs aTs aEs aDc aT bT cd c1 pv dc v b) s.heap.size) s.heap s.heap [] := va_S.rf
  have hA : ∀ q, s.heap.size ≤ q → va_A (wQDT aQ aY aS aNs aTs aEs aDc aT bT cd c1 pv dc v b) s.heap.size q := fun q h => Or.inr h
  have G0 := G
  obtain ⟨hx, hb, hr, hml, hown, hw, hlk⟩ := G
  refine lv_aload_n hx hb dX5_set_0 rfl (lv_at hl 0 rfl) ?_
  refine lv_iload_n hx hb dX5_set_1 rfl (lv_at hl 1 rfl) ?_
  obtain ⟨q1, hq1, hm⟩ := zbind hm
  have hPc := hP.sub (ws' := (wQDf aQ aY aS aNs aTs aEs aDc aT cd pv dc)) [0, 1] rfl
  have hDc := hD.sub (ws' := (wQDf aQ aY aS aNs aTs aEs aDc aT cd pv dc)) [0, 1] (by decide) rfl
  have hKc := hK.sub (tys' := wQDf_t cd) [0] rfl
  have hFc := va_free (wc := (wQDf aQ aY aS aNs aTs aEs aDc aT cd pv dc)) hD hS hA [0, 1] rfl
  refine zbSq (wr := [(aT, .inr (3, [.ref bT, .int (v 1), .int (v 2), .int (v 3), .int (v 4)])), (bT, .inl (c1, 25, .inl b))]) (w1 := (wQDf aQ aY aS aNs aTs aEs aDc aT cd pv dc)) (w' := (wQDT aQ aY aS aNs aTs aEs aDc aT bT cd c1 pv dc v b)) (va_runV (As := [.int a0]) (rest := []) ⟨hx, hb, hml, hown, hw⟩ (k_P_existing l D aQ aY aS aNs aTs aEs aDc aT cd _ a0 pv dc hd q1 hq1) (zcV (C := RX5) 1 hw (zgood zw422) rfl rfl rfl zw176 zw424 zw423 zw425 hdX5_existing ⟨Nat.le_of_ble_eq_true rfl, Nat.le_of_ble_eq_true rfl⟩) (zpreV (zpre zC_ok hX.1 hS hFc hPc hKc hDc) (va_recv hK hP rfl (q0 := 0) rfl)) rfl rfl hl.1 rfl (lv_room (Nat.le_of_ble_eq_true rfl)) dX5_set_2 ⟨Nat.zero_le _, Nat.zero_le _⟩) hP hD hS hFc [0, 1] [2, 3] [2, 3, 0, 1] rfl rfl (by decide) (by decide) rfl (by decide) (fun H locs hP hD hS => ?_)
  refine lv_astore (lv' := [(4, .ref aT), (0, .ref aQ), (1, .int a0), (2, .int a1), (3, .int a2)]) hx hb dX5_set_5 hl (by decide) rfl (fun ls hl => ?_)
  refine lv_aload hx hb dX5_set_7 (lv_at hl 0 rfl) ?_
  refine lv_iload_n hx hb dX5_set_9 rfl (lv_at hl 3 rfl) ?_
  obtain ⟨q2, hq2, hm⟩ := zbind hm
  have hPc := hP.sub (ws' := (wT aT bT c1 v b)) [2, 3] rfl
  have hDc := hD.sub (ws' := (wT aT bT c1 v b)) [2, 3] (by decide) rfl
  have hKc := hK.sub (tys' := wT_t c1) [1] rfl
  have hFc := va_free (wc := (wT aT bT c1 v b)) hD hS hA [2, 3] rfl
  refine zbSi (wr := [(aQ, .inr (4, [.ref aY, .int (pv 1), .ref aS, .ref aNs, .ref aTs, .ref aEs, .ref aDc, .int (pv 7)])), (aDc, .inl (cd, 8, .inr (.inr (.inr (.inr dc)))))]) (w1 := (wT aT bT c1 v b)) (w' := (wQDT aQ aY aS aNs aTs aEs aDc aT bT cd c1 pv dc v b)) (va_runU (As := [.int a1]) (rest := []) ⟨hx, hb, hml, hown, hw⟩ (k_F_hasByte_T l D aT bT c1 _ a1 v b  q2 hq2) (va_cwU (C := RX4) (owner := RX1) (x := ⟨RX1, "hasByte", "(I)Z"⟩) 1 hw (zgoodL (List.forall_mem_cons.mpr ⟨zw438, List.forall_mem_cons.mpr ⟨zw439, List.forall_mem_cons.mpr ⟨zw446, List.forall_mem_cons.mpr ⟨zw437, List.forall_mem_cons.mpr ⟨zw409, fun _ h => absurd h List.not_mem_nil⟩⟩⟩⟩⟩) zw436) rfl rfl rfl rfl (by decide +kernel) ⟨Nat.le_of_ble_eq_true rfl, Nat.le_of_ble_eq_true rfl⟩) (zpreV (zpre zC_ok hX.1 hS hFc hPc hKc hDc) (va_recv hK hP rfl (q0 := 2) rfl)) rfl rfl hl.1 rfl (lv_room (Nat.le_of_ble_eq_true rfl)) dX5_set_10 ⟨Nat.zero_le _, Nat.zero_le _⟩) hP hD hS hFc [2, 3] [0, 1] [0, 1, 2, 3] rfl rfl (by decide) (by decide) rfl (by decide) (fun H locs hP hD hS => ?_)
  refine lv_if_ne (tgt := 26) hx hb dX5_set_13 rfl (fun cd3 => ?_) (fun cd3 => ?_)
  · replace hm := zf cd3 hm
    refine lv_iload_n hx hb dX5_set_26 rfl (lv_at hl 4 rfl) ?_
    refine lv_if_lt (tgt := 37) hx hb dX5_set_27 rfl (fun cd4 => ?_) (fun cd4 => ?_)
    · replace hm := zt cd4 hm
      exact b_Pi_set_T_37 G0 hK hX hnx hl0 hd _ hm _ _ _ hP hD hS (lv_sub hl [] rfl)
    · replace hm := zf cd4 hm
      refine lv_iload_n hx hb dX5_set_30 rfl (lv_at hl 4 rfl) ?_
      refine lv_sipush (v := 255) hx hb dX5_set_31 (by decide) ?_
      refine lv_icmp_le (tgt := 47) hx hb dX5_set_34 rfl (fun cd5 => ?_) (fun cd5 => ?_)
      · replace hm := zt cd5 hm
        refine lv_aload hx hb dX5_set_47 (lv_at hl 0 rfl) ?_
        refine va_get (D := D) (ci := 3) (v := .ref bT) (C := RX4) (T := TX4) (N := 5) hx hb hw zinX4 hown hK hP 2 rfl rfl 0 (by decide) (hw _ zw441) (fun _ h9 => h9) rfl dX5_set_49 ?_
        refine lv_iload_n hx hb dX5_set_52 rfl (lv_at hl 3 rfl) ?_
        refine lv_iload_n hx hb dX5_set_53 rfl (lv_at hl 4 rfl) ?_
        obtain ⟨hi6, hm⟩ := zix_s hm
        refine va_iast (i := a1) (x := a2) (f := b) (n := 25) hx hb hK hP hD hS 3 1 rfl rfl hi6 dX5_set_54 (fun H locs hP hD hS => ?_)
        have hP : va_P D vwCl (wQDT aQ aY aS aNs aTs aEs aDc aT bT cd c1 pv dc v (upd b a1.toNatClampNeg a2)) H := hP
        have hD : va_D _ (wQDT aQ aY aS aNs aTs aEs aDc aT bT cd c1 pv dc v (upd b a1.toNatClampNeg a2)) := hD
        cases hm
      · replace hm := zf cd5 hm
        exact b_Pi_set_T_37 G0 hK hX hnx hl0 hd _ hm _ _ _ hP hD hS (lv_sub hl [] rfl)
  · replace hm := zt cd3 hm
    cases hm

def m_Px2_get_E (a0 : Int32) (a1 : Int32) (pv : Nat → Int32) (dc : Nat → Option Nat) (v : Nat → Int32) (b : Nat → Int32) (rw : Nat → Int32) (pw : Nat → Int32)  : Option (Unit) := (m_P_existing a0 pv dc).bind (fun q1 => (m_F_hasByte_E a1 v b rw pw).bind (fun q2 => (if q2 = 0 then (some ()) else zix a1 25 (none))))
section
variable {p : Program} {l : Launch} {e : Env} {s : State} {m : MethodId} {args : Array Value} {below : List Frame} {meth : Method} {c : Code} {D : va_G} {w0 : va_W} {aQ aY aS aNs aTs aEs aDc aE bE rE pE : Nat} {cd c1 c2 c3 : ClassId} {pv : Nat → Int32} {dc : Nat → Option Nat} {v : Nat → Int32} {b : Nat → Int32} {rw : Nat → Int32} {pw : Nat → Int32} {a0 : Int32}
end
set_option maxRecDepth 100000 in
set_option maxHeartbeats 4000000 in
theorem k_Px2_get_E (l : Launch) (D : va_G) (aQ aY aS aNs aTs aEs aDc aE bE rE pE : Nat) (cd c1 c2 c3 : ClassId) (sz : Nat) (a0 : Int32) (a1 : Int32) (pv : Nat → Int32) (dc : Nat → Option Nat) (v : Nat → Int32) (b : Nat → Int32) (rw : Nat → Int32) (pw : Nat → Int32) (hl0 : l.stackTraces = false) (hd : dc a0.toNatClampNeg = some aE) (res : Unit) (hm : m_Px2_get_E a0 a1 pv dc v b rw pw  = some res) : vx_Met l yX5_get (Cond.code yX5_get cX5_get 4 (some .int) :: zBIG) (zRx 6 90) (va_Pc [.ref aQ, .int a0, .int a1] (zP zD D vwCl (wQDE_t cd c1 c2 c3) (wQDE aQ aY aS aNs aTs aEs aDc aE bE rE pE cd c1 c2 c3 pv dc v b rw pw) sz)) (zQF (wQDE aQ aY aS aNs aTs aEs aDc aE bE rE pE cd c1 c2 c3 pv dc v b rw pw) sz) (zXc "java/util/NoSuchElementException" D vwCl (wQDE aQ aY aS aNs aTs aEs aDc aE bE rE pE cd c1 c2 c3 pv dc v b rw pw) (wQDE aQ aY aS aNs aTs aEs aDc aE bE rE pE cd c1 c2 c3 pv dc v b rw pw) sz) 1 6 (va_A (wQDE aQ aY aS aNs aTs aEs aDc aE bE rE pE cd c1 c2 c3 pv dc v b rw pw) sz) := by
  refine zEnterX RX5 [.ref aQ, .int a0, .int a1] (by decide) rfl (Nat.le_of_ble_eq_true rfl) (fun p e s m below meth c ls hnx G hK hX hP hD hsz hl => ?_)
  subst hsz
  unfold m_Px2_get_E at hm
  have hl : lv_has ls 4 [(0, .ref aQ), (1, .int a0), (2, .int a1)] := hl
  have hS : va_S (va_A (wQDE aQ aY aS aNs aTs aEs aDc aE bE rE pE cd c1 c2 c3 pv dc v b rw pw) s.heap.size) s.heap s.heap [] := va_S.rf
  have hA : ∀ q, s.heap.size ≤ q → va_A (wQDE aQ aY aS aNs aTs aEs aDc aE bE rE pE cd c1 c2 c3 pv dc v b rw pw) s.heap.size q := fun q h => Or.inr h
  have G0 := G
  obtain ⟨hx, hb, hr, hml, hown, hw, hlk⟩ := G
  refine lv_aload_n hx hb dX5_get_0 rfl (lv_at hl 0 rfl) ?_
  refine lv_iload_n hx hb dX5_get_1 rfl (lv_at hl 1 rfl) ?_
  obtain ⟨q1, hq1, hm⟩ := zbind hm
  have hPc := hP.sub (ws' := (wQDf aQ aY aS aNs aTs aEs aDc aE cd pv dc)) [0, 1] rfl
  have hDc := hD.sub (ws' := (wQDf aQ aY aS aNs aTs aEs aDc aE cd pv dc)) [0, 1] (by decide) rfl
  have hKc := hK.sub (tys' := wQDf_t cd) [0] rfl
  have hFc := va_free (wc := (wQDf aQ aY aS aNs aTs aEs aDc aE cd pv dc)) hD hS hA [0, 1] rfl
  refine zbSq (wr := [(aE, .inr (0, [.ref bE, .int (v 1), .int (v 2), .int (v 3), .int (v 4), .ref rE, .ref pE, .int (v 7), .int (v 8), .int (v 9), .int (v 10), .int (v 11), .int (v 12), .int (v 13), .int (v 14), .int (v 15)])), (bE, .inl (c1, 25, .inl b)), (rE, .inl (c2, 24, .inl rw)), (pE, .inl (c3, 24, .inl pw))]) (w1 := (wQDf aQ aY aS aNs aTs aEs aDc aE cd pv dc)) (w' := (wQDE aQ aY aS aNs aTs aEs aDc aE bE rE pE cd c1 c2 c3 pv dc v b rw pw)) (va_runV (As := [.int a0]) (rest := []) ⟨hx, hb, hml, hown, hw⟩ (k_P_existing l D aQ aY aS aNs aTs aEs aDc aE cd _ a0 pv dc hd q1 hq1) (zcV (C := RX5) 1 hw (zgood zw422) rfl rfl rfl zw176 zw424 zw423 zw425 hdX5_existing ⟨Nat.le_of_ble_eq_true rfl, Nat.le_of_ble_eq_true rfl⟩) (zpreV (zpre zC_ok hX.1 hS hFc hPc hKc hDc) (va_recv hK hP rfl (q0 := 0) rfl)) rfl rfl hl.1 rfl (lv_room (Nat.le_of_ble_eq_true rfl)) dX5_get_2 ⟨Nat.zero_le _, Nat.zero_le _⟩) hP hD hS hFc [0, 1] [2, 3, 4, 5] [4, 5, 0, 1, 2, 3] rfl rfl (by decide) (by decide) rfl (by decide) (fun H locs hP hD hS => ?_)
  refine lv_astore_n (lv' := [(3, .ref aE), (0, .ref aQ), (1, .int a0), (2, .int a1)]) hx hb dX5_get_5 rfl hl (by decide) rfl (fun ls hl => ?_)
  refine lv_aload_n hx hb dX5_get_6 rfl (lv_at hl 0 rfl) ?_
  refine lv_iload_n hx hb dX5_get_7 rfl (lv_at hl 3 rfl) ?_
  obtain ⟨q2, hq2, hm⟩ := zbind hm
  have hPc := hP.sub (ws' := (wE aE bE rE pE c1 c2 c3 v b rw pw)) [2, 3, 4, 5] rfl
  have hDc := hD.sub (ws' := (wE aE bE rE pE c1 c2 c3 v b rw pw)) [2, 3, 4, 5] (by decide) rfl
  have hKc := hK.sub (tys' := wE_t c1 c2 c3) [1, 2, 3] rfl
  have hFc := va_free (wc := (wE aE bE rE pE c1 c2 c3 v b rw pw)) hD hS hA [2, 3, 4, 5] rfl
  refine zbSi (wr := [(aQ, .inr (4, [.ref aY, .int (pv 1), .ref aS, .ref aNs, .ref aTs, .ref aEs, .ref aDc, .int (pv 7)])), (aDc, .inl (cd, 8, .inr (.inr (.inr (.inr dc)))))]) (w1 := (wE aE bE rE pE c1 c2 c3 v b rw pw)) (w' := (wQDE aQ aY aS aNs aTs aEs aDc aE bE rE pE cd c1 c2 c3 pv dc v b rw pw)) (va_runU (As := [.int a1]) (rest := []) ⟨hx, hb, hml, hown, hw⟩ (k_F_hasByte_E l D aE bE rE pE c1 c2 c3 _ a1 v b rw pw  q2 hq2) (va_cwU (C := RX0) (owner := RX1) (x := ⟨RX1, "hasByte", "(I)Z"⟩) 1 hw (zgoodL (List.forall_mem_cons.mpr ⟨zw438, List.forall_mem_cons.mpr ⟨zw439, List.forall_mem_cons.mpr ⟨zw450, List.forall_mem_cons.mpr ⟨zw437, List.forall_mem_cons.mpr ⟨zw409, fun _ h => absurd h List.not_mem_nil⟩⟩⟩⟩⟩) zw436) rfl rfl rfl rfl (by decide +kernel) ⟨Nat.le_of_ble_eq_true rfl, Nat.le_of_ble_eq_true rfl⟩) (zpreV (zpre zC_ok hX.1 hS hFc hPc hKc hDc) (va_recv hK hP rfl (q0 := 2) rfl)) rfl rfl hl.1 rfl (lv_room (Nat.le_of_ble_eq_true rfl)) dX5_get_8 ⟨Nat.zero_le _, Nat.zero_le _⟩) hP hD hS hFc [2, 3, 4, 5] [0, 1] [0, 1, 2, 3, 4, 5] rfl rfl (by decide) (by decide) rfl (by decide) (fun H locs hP hD hS => ?_)
  refine lv_if_ne (tgt := 24) hx hb dX5_get_11 rfl (fun cd3 => ?_) (fun cd3 => ?_)
  · replace hm := zf cd3 hm
    refine lv_aload_n hx hb dX5_get_24 rfl (lv_at hl 0 rfl) ?_
    refine va_get (D := D) (ci := 0) (v := .ref bE) (C := RX0) (T := TX0) (N := 16) hx hb hw zinX0 hown hK hP 2 rfl rfl 0 (by decide) (hw _ zw441) (fun _ h9 => h9) rfl dX5_get_25 ?_
    refine lv_iload_n hx hb dX5_get_28 rfl (lv_at hl 3 rfl) ?_
    obtain ⟨hi4, hm⟩ := zix_s hm
    refine va_iald (i := a1) (f := b) (n := 25) hx hb hK hP 3 1 rfl rfl hi4 dX5_get_29 ?_
    cases hm
  · replace hm := zt cd3 hm
    cases hm
    exact zthrowN (ik := 104) (is := 106) (ic := 108) (text := "no such byte") hx hb hl0 hown (by decide +kernel) (hw _ zw497) (hw _ zw498) (hX.2.2.1 (106, "no such byte") zs106) (fun w h => hX.2.1 w (zt108 w h)) (by decide +kernel) hX.2.2.2.1 hX.2.2.2.2 hP hD hS (hl.1.trans hml.symm) dX5_get_14 dX5_get_17 dX5_get_18 dX5_get_20 dX5_get_23 hnx (Nat.le_of_ble_eq_true rfl) (Nat.le_of_ble_eq_true rfl) (Nat.le_of_ble_eq_true rfl) (Nat.le_of_ble_eq_true rfl) hlk

def m_Px2_set_E_37 (pv : Nat → Int32) (dc : Nat → Option Nat) (v : Nat → Int32) (rw : Nat → Int32) (pw : Nat → Int32) (a0 : Int32)  (b : Nat → Int32) : Option ((Nat → Int32)) := none
def m_Px2_set_E (a0 : Int32) (a1 : Int32) (a2 : Int32) (pv : Nat → Int32) (dc : Nat → Option Nat) (v : Nat → Int32) (b : Nat → Int32) (rw : Nat → Int32) (pw : Nat → Int32)  : Option ((Nat → Int32)) := (m_P_existing a0 pv dc).bind (fun q1 => (m_F_hasByte_E a1 v b rw pw).bind (fun q2 => (if q2 = 0 then (some b) else (if a2 < 0 then m_Px2_set_E_37 pv dc v rw pw a0 b else (if a2 ≤ 255 then zix a1 25 (none) else m_Px2_set_E_37 pv dc v rw pw a0 b)))))
section
variable {p : Program} {l : Launch} {e : Env} {s : State} {m : MethodId} {args : Array Value} {below : List Frame} {meth : Method} {c : Code} {D : va_G} {w0 : va_W} {aQ aY aS aNs aTs aEs aDc aE bE rE pE : Nat} {cd c1 c2 c3 : ClassId} {pv : Nat → Int32} {dc : Nat → Option Nat} {v : Nat → Int32} {rw : Nat → Int32} {pw : Nat → Int32} {a0 : Int32}
set_option maxRecDepth 100000 in
set_option maxHeartbeats 4000000 in
theorem b_Px2_set_E_37 (G : zG p s m args meth c cX5_set RX5 5 none) (hK : va_K D vwCl (wQDE_t cd c1 c2 c3) s) (hX : zD (va_A w0 s.heap.size) s) (hnx : ∀ x ∈ c.exceptionTable.toList, False) (hl0 : l.stackTraces = false) (hd : dc a0.toNatClampNeg = some aE) {res : (Nat → Int32)} : ∀ (b : Nat → Int32), m_Px2_set_E_37 pv dc v rw pw a0 b = some res → zB p l e (zRx 6 90) s m args below meth c D vwCl (va_A w0 s.heap.size) (vx_MQ below (zQF w0 s.heap.size) (zXc "java/util/NoSuchElementException" D vwCl w0 (wQDE aQ aY aS aNs aTs aEs aDc aE bE rE pE cd c1 c2 c3 pv dc v res rw pw) s.heap.size) args s 1 6 (va_A w0 s.heap.size)) 5 (wQDE aQ aY aS aNs aTs aEs aDc aE bE rE pE cd c1 c2 c3 pv dc v b rw pw) [] 37 [] := by
  intro b hm H locs ls hP hD hS hl
  unfold m_Px2_set_E_37 at hm
  have G0 := G
  obtain ⟨hx, hb, hr, hml, hown, hw, hlk⟩ := G
  have hA : ∀ q, s.heap.size ≤ q → va_A w0 s.heap.size q := fun q h => Or.inr h
  cases hm
end
set_option maxRecDepth 100000 in
set_option maxHeartbeats 4000000 in
theorem k_Px2_set_E (l : Launch) (D : va_G) (aQ aY aS aNs aTs aEs aDc aE bE rE pE : Nat) (cd c1 c2 c3 : ClassId) (sz : Nat) (a0 : Int32) (a1 : Int32) (a2 : Int32) (pv : Nat → Int32) (dc : Nat → Option Nat) (v : Nat → Int32) (b : Nat → Int32) (rw : Nat → Int32) (pw : Nat → Int32) (hl0 : l.stackTraces = false) (hd : dc a0.toNatClampNeg = some aE) (res : (Nat → Int32)) (hm : m_Px2_set_E a0 a1 a2 pv dc v b rw pw  = some res) : vx_Met l yX5_set (Cond.code yX5_set cX5_set 5 none :: zBIG) (zRx 6 90) (va_Pc [.ref aQ, .int a0, .int a1, .int a2] (zP zD D vwCl (wQDE_t cd c1 c2 c3) (wQDE aQ aY aS aNs aTs aEs aDc aE bE rE pE cd c1 c2 c3 pv dc v b rw pw) sz)) (zQF (wQDE aQ aY aS aNs aTs aEs aDc aE bE rE pE cd c1 c2 c3 pv dc v b rw pw) sz) (zXc "java/util/NoSuchElementException" D vwCl (wQDE aQ aY aS aNs aTs aEs aDc aE bE rE pE cd c1 c2 c3 pv dc v b rw pw) (wQDE aQ aY aS aNs aTs aEs aDc aE bE rE pE cd c1 c2 c3 pv dc v res rw pw) sz) 1 6 (va_A (wQDE aQ aY aS aNs aTs aEs aDc aE bE rE pE cd c1 c2 c3 pv dc v b rw pw) sz) := by
  refine zEnterX RX5 [.ref aQ, .int a0, .int a1, .int a2] (by decide) rfl (Nat.le_of_ble_eq_true rfl) (fun p e s m below meth c ls hnx G hK hX hP hD hsz hl => ?_)
  subst hsz
  unfold m_Px2_set_E at hm
  have hl : lv_has ls 5 [(0, .ref aQ), (1, .int a0), (2, .int a1), (3, .int a2)] := hl
  have hS : va_S (va_A (wQDE aQ aY aS aNs aTs aEs aDc aE bE rE pE cd c1 c2 c3 pv dc v b rw pw) s.heap.size) s.heap s.heap [] := va_S.rf
  have hA : ∀ q, s.heap.size ≤ q → va_A (wQDE aQ aY aS aNs aTs aEs aDc aE bE rE pE cd c1 c2 c3 pv dc v b rw pw) s.heap.size q := fun q h => Or.inr h
  have G0 := G
  obtain ⟨hx, hb, hr, hml, hown, hw, hlk⟩ := G
  refine lv_aload_n hx hb dX5_set_0 rfl (lv_at hl 0 rfl) ?_
  refine lv_iload_n hx hb dX5_set_1 rfl (lv_at hl 1 rfl) ?_
  obtain ⟨q1, hq1, hm⟩ := zbind hm
  have hPc := hP.sub (ws' := (wQDf aQ aY aS aNs aTs aEs aDc aE cd pv dc)) [0, 1] rfl
  have hDc := hD.sub (ws' := (wQDf aQ aY aS aNs aTs aEs aDc aE cd pv dc)) [0, 1] (by decide) rfl
  have hKc := hK.sub (tys' := wQDf_t cd) [0] rfl
  have hFc := va_free (wc := (wQDf aQ aY aS aNs aTs aEs aDc aE cd pv dc)) hD hS hA [0, 1] rfl
  refine zbSq (wr := [(aE, .inr (0, [.ref bE, .int (v 1), .int (v 2), .int (v 3), .int (v 4), .ref rE, .ref pE, .int (v 7), .int (v 8), .int (v 9), .int (v 10), .int (v 11), .int (v 12), .int (v 13), .int (v 14), .int (v 15)])), (bE, .inl (c1, 25, .inl b)), (rE, .inl (c2, 24, .inl rw)), (pE, .inl (c3, 24, .inl pw))]) (w1 := (wQDf aQ aY aS aNs aTs aEs aDc aE cd pv dc)) (w' := (wQDE aQ aY aS aNs aTs aEs aDc aE bE rE pE cd c1 c2 c3 pv dc v b rw pw)) (va_runV (As := [.int a0]) (rest := []) ⟨hx, hb, hml, hown, hw⟩ (k_P_existing l D aQ aY aS aNs aTs aEs aDc aE cd _ a0 pv dc hd q1 hq1) (zcV (C := RX5) 1 hw (zgood zw422) rfl rfl rfl zw176 zw424 zw423 zw425 hdX5_existing ⟨Nat.le_of_ble_eq_true rfl, Nat.le_of_ble_eq_true rfl⟩) (zpreV (zpre zC_ok hX.1 hS hFc hPc hKc hDc) (va_recv hK hP rfl (q0 := 0) rfl)) rfl rfl hl.1 rfl (lv_room (Nat.le_of_ble_eq_true rfl)) dX5_set_2 ⟨Nat.zero_le _, Nat.zero_le _⟩) hP hD hS hFc [0, 1] [2, 3, 4, 5] [4, 5, 0, 1, 2, 3] rfl rfl (by decide) (by decide) rfl (by decide) (fun H locs hP hD hS => ?_)
  refine lv_astore (lv' := [(4, .ref aE), (0, .ref aQ), (1, .int a0), (2, .int a1), (3, .int a2)]) hx hb dX5_set_5 hl (by decide) rfl (fun ls hl => ?_)
  refine lv_aload hx hb dX5_set_7 (lv_at hl 0 rfl) ?_
  refine lv_iload_n hx hb dX5_set_9 rfl (lv_at hl 3 rfl) ?_
  obtain ⟨q2, hq2, hm⟩ := zbind hm
  have hPc := hP.sub (ws' := (wE aE bE rE pE c1 c2 c3 v b rw pw)) [2, 3, 4, 5] rfl
  have hDc := hD.sub (ws' := (wE aE bE rE pE c1 c2 c3 v b rw pw)) [2, 3, 4, 5] (by decide) rfl
  have hKc := hK.sub (tys' := wE_t c1 c2 c3) [1, 2, 3] rfl
  have hFc := va_free (wc := (wE aE bE rE pE c1 c2 c3 v b rw pw)) hD hS hA [2, 3, 4, 5] rfl
  refine zbSi (wr := [(aQ, .inr (4, [.ref aY, .int (pv 1), .ref aS, .ref aNs, .ref aTs, .ref aEs, .ref aDc, .int (pv 7)])), (aDc, .inl (cd, 8, .inr (.inr (.inr (.inr dc)))))]) (w1 := (wE aE bE rE pE c1 c2 c3 v b rw pw)) (w' := (wQDE aQ aY aS aNs aTs aEs aDc aE bE rE pE cd c1 c2 c3 pv dc v b rw pw)) (va_runU (As := [.int a1]) (rest := []) ⟨hx, hb, hml, hown, hw⟩ (k_F_hasByte_E l D aE bE rE pE c1 c2 c3 _ a1 v b rw pw  q2 hq2) (va_cwU (C := RX0) (owner := RX1) (x := ⟨RX1, "hasByte", "(I)Z"⟩) 1 hw (zgoodL (List.forall_mem_cons.mpr ⟨zw438, List.forall_mem_cons.mpr ⟨zw439, List.forall_mem_cons.mpr ⟨zw450, List.forall_mem_cons.mpr ⟨zw437, List.forall_mem_cons.mpr ⟨zw409, fun _ h => absurd h List.not_mem_nil⟩⟩⟩⟩⟩) zw436) rfl rfl rfl rfl (by decide +kernel) ⟨Nat.le_of_ble_eq_true rfl, Nat.le_of_ble_eq_true rfl⟩) (zpreV (zpre zC_ok hX.1 hS hFc hPc hKc hDc) (va_recv hK hP rfl (q0 := 2) rfl)) rfl rfl hl.1 rfl (lv_room (Nat.le_of_ble_eq_true rfl)) dX5_set_10 ⟨Nat.zero_le _, Nat.zero_le _⟩) hP hD hS hFc [2, 3, 4, 5] [0, 1] [0, 1, 2, 3, 4, 5] rfl rfl (by decide) (by decide) rfl (by decide) (fun H locs hP hD hS => ?_)
  refine lv_if_ne (tgt := 26) hx hb dX5_set_13 rfl (fun cd3 => ?_) (fun cd3 => ?_)
  · replace hm := zf cd3 hm
    refine lv_iload_n hx hb dX5_set_26 rfl (lv_at hl 4 rfl) ?_
    refine lv_if_lt (tgt := 37) hx hb dX5_set_27 rfl (fun cd4 => ?_) (fun cd4 => ?_)
    · replace hm := zt cd4 hm
      exact b_Px2_set_E_37 G0 hK hX hnx hl0 hd _ hm _ _ _ hP hD hS (lv_sub hl [] rfl)
    · replace hm := zf cd4 hm
      refine lv_iload_n hx hb dX5_set_30 rfl (lv_at hl 4 rfl) ?_
      refine lv_sipush (v := 255) hx hb dX5_set_31 (by decide) ?_
      refine lv_icmp_le (tgt := 47) hx hb dX5_set_34 rfl (fun cd5 => ?_) (fun cd5 => ?_)
      · replace hm := zt cd5 hm
        refine lv_aload hx hb dX5_set_47 (lv_at hl 0 rfl) ?_
        refine va_get (D := D) (ci := 0) (v := .ref bE) (C := RX0) (T := TX0) (N := 16) hx hb hw zinX0 hown hK hP 2 rfl rfl 0 (by decide) (hw _ zw441) (fun _ h9 => h9) rfl dX5_set_49 ?_
        refine lv_iload_n hx hb dX5_set_52 rfl (lv_at hl 3 rfl) ?_
        refine lv_iload_n hx hb dX5_set_53 rfl (lv_at hl 4 rfl) ?_
        obtain ⟨hi6, hm⟩ := zix_s hm
        refine va_iast (i := a1) (x := a2) (f := b) (n := 25) hx hb hK hP hD hS 3 1 rfl rfl hi6 dX5_set_54 (fun H locs hP hD hS => ?_)
        have hP : va_P D vwCl (wQDE aQ aY aS aNs aTs aEs aDc aE bE rE pE cd c1 c2 c3 pv dc v (upd b a1.toNatClampNeg a2) rw pw) H := hP
        have hD : va_D _ (wQDE aQ aY aS aNs aTs aEs aDc aE bE rE pE cd c1 c2 c3 pv dc v (upd b a1.toNatClampNeg a2) rw pw) := hD
        cases hm
      · replace hm := zf cd5 hm
        exact b_Px2_set_E_37 G0 hK hX hnx hl0 hd _ hm _ _ _ hP hD hS (lv_sub hl [] rfl)
  · replace hm := zt cd3 hm
    cases hm
    exact zthrowN (ik := 104) (is := 106) (ic := 108) (text := "no such byte") hx hb hl0 hown (by decide +kernel) (hw _ zw497) (hw _ zw498) (hX.2.2.1 (106, "no such byte") zs106) (fun w h => hX.2.1 w (zt108 w h)) (by decide +kernel) hX.2.2.2.1 hX.2.2.2.2 hP hD hS (hl.1.trans hml.symm) dX5_set_16 dX5_set_19 dX5_set_20 dX5_set_22 dX5_set_25 hnx (Nat.le_of_ble_eq_true rfl) (Nat.le_of_ble_eq_true rfl) (Nat.le_of_ble_eq_true rfl) (Nat.le_of_ble_eq_true rfl) hlk

def m_Pi_set_E_37 (pv : Nat → Int32) (dc : Nat → Option Nat) (v : Nat → Int32) (rw : Nat → Int32) (pw : Nat → Int32) (a0 : Int32)  (b : Nat → Int32) : Option ((Nat → Int32)) := (some b)
def m_Pi_set_E (a0 : Int32) (a1 : Int32) (a2 : Int32) (pv : Nat → Int32) (dc : Nat → Option Nat) (v : Nat → Int32) (b : Nat → Int32) (rw : Nat → Int32) (pw : Nat → Int32)  : Option ((Nat → Int32)) := (m_P_existing a0 pv dc).bind (fun q1 => (m_F_hasByte_E a1 v b rw pw).bind (fun q2 => (if q2 = 0 then none else (if a2 < 0 then m_Pi_set_E_37 pv dc v rw pw a0 b else (if a2 ≤ 255 then zix a1 25 (none) else m_Pi_set_E_37 pv dc v rw pw a0 b)))))
section
variable {p : Program} {l : Launch} {e : Env} {s : State} {m : MethodId} {args : Array Value} {below : List Frame} {meth : Method} {c : Code} {D : va_G} {w0 : va_W} {aQ aY aS aNs aTs aEs aDc aE bE rE pE : Nat} {cd c1 c2 c3 : ClassId} {pv : Nat → Int32} {dc : Nat → Option Nat} {v : Nat → Int32} {rw : Nat → Int32} {pw : Nat → Int32} {a0 : Int32}
set_option maxRecDepth 100000 in
set_option maxHeartbeats 4000000 in
theorem b_Pi_set_E_37 (G : zG p s m args meth c cX5_set RX5 5 none) (hK : va_K D vwCl (wQDE_t cd c1 c2 c3) s) (hX : zD (va_A w0 s.heap.size) s) (hnx : ∀ x ∈ c.exceptionTable.toList, False) (hl0 : l.stackTraces = false) (hd : dc a0.toNatClampNeg = some aE) {res : (Nat → Int32)} : ∀ (b : Nat → Int32), m_Pi_set_E_37 pv dc v rw pw a0 b = some res → zB p l e (zRx 6 90) s m args below meth c D vwCl (va_A w0 s.heap.size) (vx_MQ below (zQF w0 s.heap.size) (zXc "java/lang/IllegalArgumentException" D vwCl w0 (wQDE aQ aY aS aNs aTs aEs aDc aE bE rE pE cd c1 c2 c3 pv dc v res rw pw) s.heap.size) args s 1 6 (va_A w0 s.heap.size)) 5 (wQDE aQ aY aS aNs aTs aEs aDc aE bE rE pE cd c1 c2 c3 pv dc v b rw pw) [] 37 [] := by
  intro b hm H locs ls hP hD hS hl
  unfold m_Pi_set_E_37 at hm
  have G0 := G
  obtain ⟨hx, hb, hr, hml, hown, hw, hlk⟩ := G
  have hA : ∀ q, s.heap.size ≤ q → va_A w0 s.heap.size q := fun q h => Or.inr h
  cases hm
  exact zthrowS (ik := 69) (is := 112) (ic := 73) (text := "no byte") hx hb hl0 hown (by decide +kernel) (hw _ zw499) (hw _ zw500) (hX.2.2.1 (112, "no byte") zs112) (fun w h => hX.2.1 w (zt73 w h)) (by decide +kernel) hX.2.2.2.1 hX.2.2.2.2 hP hD hS (hl.1.trans hml.symm) dX5_set_37 dX5_set_40 dX5_set_41 dX5_set_43 dX5_set_46 hnx (Nat.le_of_ble_eq_true rfl) (Nat.le_of_ble_eq_true rfl) (Nat.le_of_ble_eq_true rfl) (Nat.le_of_ble_eq_true rfl) hlk
end
set_option maxRecDepth 100000 in
set_option maxHeartbeats 4000000 in
theorem k_Pi_set_E (l : Launch) (D : va_G) (aQ aY aS aNs aTs aEs aDc aE bE rE pE : Nat) (cd c1 c2 c3 : ClassId) (sz : Nat) (a0 : Int32) (a1 : Int32) (a2 : Int32) (pv : Nat → Int32) (dc : Nat → Option Nat) (v : Nat → Int32) (b : Nat → Int32) (rw : Nat → Int32) (pw : Nat → Int32) (hl0 : l.stackTraces = false) (hd : dc a0.toNatClampNeg = some aE) (res : (Nat → Int32)) (hm : m_Pi_set_E a0 a1 a2 pv dc v b rw pw  = some res) : vx_Met l yX5_set (Cond.code yX5_set cX5_set 5 none :: zBIG) (zRx 6 90) (va_Pc [.ref aQ, .int a0, .int a1, .int a2] (zP zD D vwCl (wQDE_t cd c1 c2 c3) (wQDE aQ aY aS aNs aTs aEs aDc aE bE rE pE cd c1 c2 c3 pv dc v b rw pw) sz)) (zQF (wQDE aQ aY aS aNs aTs aEs aDc aE bE rE pE cd c1 c2 c3 pv dc v b rw pw) sz) (zXc "java/lang/IllegalArgumentException" D vwCl (wQDE aQ aY aS aNs aTs aEs aDc aE bE rE pE cd c1 c2 c3 pv dc v b rw pw) (wQDE aQ aY aS aNs aTs aEs aDc aE bE rE pE cd c1 c2 c3 pv dc v res rw pw) sz) 1 6 (va_A (wQDE aQ aY aS aNs aTs aEs aDc aE bE rE pE cd c1 c2 c3 pv dc v b rw pw) sz) := by
  refine zEnterX RX5 [.ref aQ, .int a0, .int a1, .int a2] (by decide) rfl (Nat.le_of_ble_eq_true rfl) (fun p e s m below meth c ls hnx G hK hX hP hD hsz hl => ?_)
  subst hsz
  unfold m_Pi_set_E at hm
  have hl : lv_has ls 5 [(0, .ref aQ), (1, .int a0), (2, .int a1), (3, .int a2)] := hl
  have hS : va_S (va_A (wQDE aQ aY aS aNs aTs aEs aDc aE bE rE pE cd c1 c2 c3 pv dc v b rw pw) s.heap.size) s.heap s.heap [] := va_S.rf
  have hA : ∀ q, s.heap.size ≤ q → va_A (wQDE aQ aY aS aNs aTs aEs aDc aE bE rE pE cd c1 c2 c3 pv dc v b rw pw) s.heap.size q := fun q h => Or.inr h
  have G0 := G
  obtain ⟨hx, hb, hr, hml, hown, hw, hlk⟩ := G
  refine lv_aload_n hx hb dX5_set_0 rfl (lv_at hl 0 rfl) ?_
  refine lv_iload_n hx hb dX5_set_1 rfl (lv_at hl 1 rfl) ?_
  obtain ⟨q1, hq1, hm⟩ := zbind hm
  have hPc := hP.sub (ws' := (wQDf aQ aY aS aNs aTs aEs aDc aE cd pv dc)) [0, 1] rfl
  have hDc := hD.sub (ws' := (wQDf aQ aY aS aNs aTs aEs aDc aE cd pv dc)) [0, 1] (by decide) rfl
  have hKc := hK.sub (tys' := wQDf_t cd) [0] rfl
  have hFc := va_free (wc := (wQDf aQ aY aS aNs aTs aEs aDc aE cd pv dc)) hD hS hA [0, 1] rfl
  refine zbSq (wr := [(aE, .inr (0, [.ref bE, .int (v 1), .int (v 2), .int (v 3), .int (v 4), .ref rE, .ref pE, .int (v 7), .int (v 8), .int (v 9), .int (v 10), .int (v 11), .int (v 12), .int (v 13), .int (v 14), .int (v 15)])), (bE, .inl (c1, 25, .inl b)), (rE, .inl (c2, 24, .inl rw)), (pE, .inl (c3, 24, .inl pw))]) (w1 := (wQDf aQ aY aS aNs aTs aEs aDc aE cd pv dc)) (w' := (wQDE aQ aY aS aNs aTs aEs aDc aE bE rE pE cd c1 c2 c3 pv dc v b rw pw)) (va_runV (As := [.int a0]) (rest := []) ⟨hx, hb, hml, hown, hw⟩ (k_P_existing l D aQ aY aS aNs aTs aEs aDc aE cd _ a0 pv dc hd q1 hq1) (zcV (C := RX5) 1 hw (zgood zw422) rfl rfl rfl zw176 zw424 zw423 zw425 hdX5_existing ⟨Nat.le_of_ble_eq_true rfl, Nat.le_of_ble_eq_true rfl⟩) (zpreV (zpre zC_ok hX.1 hS hFc hPc hKc hDc) (va_recv hK hP rfl (q0 := 0) rfl)) rfl rfl hl.1 rfl (lv_room (Nat.le_of_ble_eq_true rfl)) dX5_set_2 ⟨Nat.zero_le _, Nat.zero_le _⟩) hP hD hS hFc [0, 1] [2, 3, 4, 5] [4, 5, 0, 1, 2, 3] rfl rfl (by decide) (by decide) rfl (by decide) (fun H locs hP hD hS => ?_)
  refine lv_astore (lv' := [(4, .ref aE), (0, .ref aQ), (1, .int a0), (2, .int a1), (3, .int a2)]) hx hb dX5_set_5 hl (by decide) rfl (fun ls hl => ?_)
  refine lv_aload hx hb dX5_set_7 (lv_at hl 0 rfl) ?_
  refine lv_iload_n hx hb dX5_set_9 rfl (lv_at hl 3 rfl) ?_
  obtain ⟨q2, hq2, hm⟩ := zbind hm
  have hPc := hP.sub (ws' := (wE aE bE rE pE c1 c2 c3 v b rw pw)) [2, 3, 4, 5] rfl
  have hDc := hD.sub (ws' := (wE aE bE rE pE c1 c2 c3 v b rw pw)) [2, 3, 4, 5] (by decide) rfl
  have hKc := hK.sub (tys' := wE_t c1 c2 c3) [1, 2, 3] rfl
  have hFc := va_free (wc := (wE aE bE rE pE c1 c2 c3 v b rw pw)) hD hS hA [2, 3, 4, 5] rfl
  refine zbSi (wr := [(aQ, .inr (4, [.ref aY, .int (pv 1), .ref aS, .ref aNs, .ref aTs, .ref aEs, .ref aDc, .int (pv 7)])), (aDc, .inl (cd, 8, .inr (.inr (.inr (.inr dc)))))]) (w1 := (wE aE bE rE pE c1 c2 c3 v b rw pw)) (w' := (wQDE aQ aY aS aNs aTs aEs aDc aE bE rE pE cd c1 c2 c3 pv dc v b rw pw)) (va_runU (As := [.int a1]) (rest := []) ⟨hx, hb, hml, hown, hw⟩ (k_F_hasByte_E l D aE bE rE pE c1 c2 c3 _ a1 v b rw pw  q2 hq2) (va_cwU (C := RX0) (owner := RX1) (x := ⟨RX1, "hasByte", "(I)Z"⟩) 1 hw (zgoodL (List.forall_mem_cons.mpr ⟨zw438, List.forall_mem_cons.mpr ⟨zw439, List.forall_mem_cons.mpr ⟨zw450, List.forall_mem_cons.mpr ⟨zw437, List.forall_mem_cons.mpr ⟨zw409, fun _ h => absurd h List.not_mem_nil⟩⟩⟩⟩⟩) zw436) rfl rfl rfl rfl (by decide +kernel) ⟨Nat.le_of_ble_eq_true rfl, Nat.le_of_ble_eq_true rfl⟩) (zpreV (zpre zC_ok hX.1 hS hFc hPc hKc hDc) (va_recv hK hP rfl (q0 := 2) rfl)) rfl rfl hl.1 rfl (lv_room (Nat.le_of_ble_eq_true rfl)) dX5_set_10 ⟨Nat.zero_le _, Nat.zero_le _⟩) hP hD hS hFc [2, 3, 4, 5] [0, 1] [0, 1, 2, 3, 4, 5] rfl rfl (by decide) (by decide) rfl (by decide) (fun H locs hP hD hS => ?_)
  refine lv_if_ne (tgt := 26) hx hb dX5_set_13 rfl (fun cd3 => ?_) (fun cd3 => ?_)
  · replace hm := zf cd3 hm
    refine lv_iload_n hx hb dX5_set_26 rfl (lv_at hl 4 rfl) ?_
    refine lv_if_lt (tgt := 37) hx hb dX5_set_27 rfl (fun cd4 => ?_) (fun cd4 => ?_)
    · replace hm := zt cd4 hm
      exact b_Pi_set_E_37 G0 hK hX hnx hl0 hd _ hm _ _ _ hP hD hS (lv_sub hl [] rfl)
    · replace hm := zf cd4 hm
      refine lv_iload_n hx hb dX5_set_30 rfl (lv_at hl 4 rfl) ?_
      refine lv_sipush (v := 255) hx hb dX5_set_31 (by decide) ?_
      refine lv_icmp_le (tgt := 47) hx hb dX5_set_34 rfl (fun cd5 => ?_) (fun cd5 => ?_)
      · replace hm := zt cd5 hm
        refine lv_aload hx hb dX5_set_47 (lv_at hl 0 rfl) ?_
        refine va_get (D := D) (ci := 0) (v := .ref bE) (C := RX0) (T := TX0) (N := 16) hx hb hw zinX0 hown hK hP 2 rfl rfl 0 (by decide) (hw _ zw441) (fun _ h9 => h9) rfl dX5_set_49 ?_
        refine lv_iload_n hx hb dX5_set_52 rfl (lv_at hl 3 rfl) ?_
        refine lv_iload_n hx hb dX5_set_53 rfl (lv_at hl 4 rfl) ?_
        obtain ⟨hi6, hm⟩ := zix_s hm
        refine va_iast (i := a1) (x := a2) (f := b) (n := 25) hx hb hK hP hD hS 3 1 rfl rfl hi6 dX5_set_54 (fun H locs hP hD hS => ?_)
        have hP : va_P D vwCl (wQDE aQ aY aS aNs aTs aEs aDc aE bE rE pE cd c1 c2 c3 pv dc v (upd b a1.toNatClampNeg a2) rw pw) H := hP
        have hD : va_D _ (wQDE aQ aY aS aNs aTs aEs aDc aE bE rE pE cd c1 c2 c3 pv dc v (upd b a1.toNatClampNeg a2) rw pw) := hD
        cases hm
      · replace hm := zf cd5 hm
        exact b_Pi_set_E_37 G0 hK hX hnx hl0 hd _ hm _ _ _ hP hD hS (lv_sub hl [] rfl)
  · replace hm := zt cd3 hm
    cases hm

def m_Pu_put_19 (pv : Nat → Int32) (dc : Nat → Option Nat) (v : Nat → Int32) (b : Nat → Int32) (a0 : Int32)   : Option (Unit) := none
def m_Pu_put (a0 : Int32) (a1 : Int64) (a2 : Int32) (pv : Nat → Int32) (dc : Nat → Option Nat) (v : Nat → Int32) (b : Nat → Int32)  : Option (Unit) := (m_P_existing a0 pv dc).bind (fun q1 => (if a2 < 0 then m_Pu_put_19 pv dc v b a0  else (if a2 ≤ 6 then (m_T_takeNumber a1 a2 v b).bind (fun q4 => (if q4 = 0 then (some ()) else none)) else m_Pu_put_19 pv dc v b a0 )))
section
variable {p : Program} {l : Launch} {e : Env} {s : State} {m : MethodId} {args : Array Value} {below : List Frame} {meth : Method} {c : Code} {D : va_G} {w0 : va_W} {aQ aY aS aNs aTs aEs aDc aT bT : Nat} {cd c1 : ClassId} {pv : Nat → Int32} {dc : Nat → Option Nat} {v : Nat → Int32} {b : Nat → Int32} {a0 : Int32}
set_option maxRecDepth 100000 in
set_option maxHeartbeats 4000000 in
theorem b_Pu_put_19 (G : zG p s m args meth c cX5_put RX5 6 none) (hK : va_K D vwCl (wQDT_t cd c1) s) (hX : zD (va_A w0 s.heap.size) s) (hnx : ∀ x ∈ c.exceptionTable.toList, False) (hl0 : l.stackTraces = false) (hd : dc a0.toNatClampNeg = some aT) {res : Unit} : m_Pu_put_19 pv dc v b a0  = some res → zB p l e (zRx 6 90) s m args below meth c D vwCl (va_A w0 s.heap.size) (vx_MQ below (zQF w0 s.heap.size) (zXc "java/lang/UnsupportedOperationException" D vwCl w0 (wQDT aQ aY aS aNs aTs aEs aDc aT bT cd c1 pv dc v b) s.heap.size) args s 1 6 (va_A w0 s.heap.size)) 6 (wQDT aQ aY aS aNs aTs aEs aDc aT bT cd c1 pv dc v b) [] 19 [] := by
  intro  hm H locs ls hP hD hS hl
  unfold m_Pu_put_19 at hm
  have G0 := G
  obtain ⟨hx, hb, hr, hml, hown, hw, hlk⟩ := G
  have hA : ∀ q, s.heap.size ≤ q → va_A w0 s.heap.size q := fun q h => Or.inr h
  cases hm
end
set_option maxRecDepth 100000 in
set_option maxHeartbeats 4000000 in
theorem k_Pu_put (l : Launch) (D : va_G) (aQ aY aS aNs aTs aEs aDc aT bT : Nat) (cd c1 : ClassId) (sz : Nat) (a0 : Int32) (a1 : Int64) (a2 : Int32) (pv : Nat → Int32) (dc : Nat → Option Nat) (v : Nat → Int32) (b : Nat → Int32) (hl0 : l.stackTraces = false) (hd : dc a0.toNatClampNeg = some aT) (res : Unit) (hm : m_Pu_put a0 a1 a2 pv dc v b  = some res) : vx_Met l yX5_put (Cond.code yX5_put cX5_put 6 none :: zBIG) (zRx 6 90) (va_Pc [.ref aQ, .int a0, .long a1, .int a2] (zP zD D vwCl (wQDT_t cd c1) (wQDT aQ aY aS aNs aTs aEs aDc aT bT cd c1 pv dc v b) sz)) (zQF (wQDT aQ aY aS aNs aTs aEs aDc aT bT cd c1 pv dc v b) sz) (zXc "java/lang/UnsupportedOperationException" D vwCl (wQDT aQ aY aS aNs aTs aEs aDc aT bT cd c1 pv dc v b) (wQDT aQ aY aS aNs aTs aEs aDc aT bT cd c1 pv dc v b) sz) 1 6 (va_A (wQDT aQ aY aS aNs aTs aEs aDc aT bT cd c1 pv dc v b) sz) := by
  refine zEnterX RX5 [.ref aQ, .int a0, .long a1, .int a2] (by decide) rfl (Nat.le_of_ble_eq_true rfl) (fun p e s m below meth c ls hnx G hK hX hP hD hsz hl => ?_)
  subst hsz
  unfold m_Pu_put at hm
  have hl : lv_has ls 6 [(0, .ref aQ), (1, .int a0), (2, .long a1), (4, .int a2)] := hl
  have hS : va_S (va_A (wQDT aQ aY aS aNs aTs aEs aDc aT bT cd c1 pv dc v b) s.heap.size) s.heap s.heap [] := va_S.rf
  have hA : ∀ q, s.heap.size ≤ q → va_A (wQDT aQ aY aS aNs aTs aEs aDc aT bT cd c1 pv dc v b) s.heap.size q := fun q h => Or.inr h
  have G0 := G
  obtain ⟨hx, hb, hr, hml, hown, hw, hlk⟩ := G
  refine lv_aload_n hx hb dX5_put_0 rfl (lv_at hl 0 rfl) ?_
  refine lv_iload_n hx hb dX5_put_1 rfl (lv_at hl 1 rfl) ?_
  obtain ⟨q1, hq1, hm⟩ := zbind hm
  have hPc := hP.sub (ws' := (wQDf aQ aY aS aNs aTs aEs aDc aT cd pv dc)) [0, 1] rfl
  have hDc := hD.sub (ws' := (wQDf aQ aY aS aNs aTs aEs aDc aT cd pv dc)) [0, 1] (by decide) rfl
  have hKc := hK.sub (tys' := wQDf_t cd) [0] rfl
  have hFc := va_free (wc := (wQDf aQ aY aS aNs aTs aEs aDc aT cd pv dc)) hD hS hA [0, 1] rfl
  refine zbSq (wr := [(aT, .inr (3, [.ref bT, .int (v 1), .int (v 2), .int (v 3), .int (v 4)])), (bT, .inl (c1, 25, .inl b))]) (w1 := (wQDf aQ aY aS aNs aTs aEs aDc aT cd pv dc)) (w' := (wQDT aQ aY aS aNs aTs aEs aDc aT bT cd c1 pv dc v b)) (va_runV (As := [.int a0]) (rest := []) ⟨hx, hb, hml, hown, hw⟩ (k_P_existing l D aQ aY aS aNs aTs aEs aDc aT cd _ a0 pv dc hd q1 hq1) (zcV (C := RX5) 1 hw (zgood zw422) rfl rfl rfl zw176 zw424 zw423 zw425 hdX5_existing ⟨Nat.le_of_ble_eq_true rfl, Nat.le_of_ble_eq_true rfl⟩) (zpreV (zpre zC_ok hX.1 hS hFc hPc hKc hDc) (va_recv hK hP rfl (q0 := 0) rfl)) rfl rfl hl.1 rfl (lv_room (Nat.le_of_ble_eq_true rfl)) dX5_put_2 ⟨Nat.zero_le _, Nat.zero_le _⟩) hP hD hS hFc [0, 1] [2, 3] [2, 3, 0, 1] rfl rfl (by decide) (by decide) rfl (by decide) (fun H locs hP hD hS => ?_)
  refine lv_astore (lv' := [(5, .ref aT), (0, .ref aQ), (1, .int a0), (2, .long a1), (4, .int a2)]) hx hb dX5_put_5 hl (by decide) rfl (fun ls hl => ?_)
  refine lv_iload hx hb dX5_put_7 (lv_at hl 4 rfl) ?_
  refine lv_if_lt (tgt := 19) hx hb dX5_put_9 rfl (fun cd2 => ?_) (fun cd2 => ?_)
  · replace hm := zt cd2 hm
    exact b_Pu_put_19 G0 hK hX hnx hl0 hd  hm _ _ _ hP hD hS (lv_sub hl [] rfl)
  · replace hm := zf cd2 hm
    refine lv_iload hx hb dX5_put_12 (lv_at hl 4 rfl) ?_
    refine lv_bipush (v := 6) hx hb dX5_put_14 (by decide) ?_
    refine lv_icmp_le (tgt := 29) hx hb dX5_put_16 rfl (fun cd3 => ?_) (fun cd3 => ?_)
    · replace hm := zt cd3 hm
      refine lv_aload hx hb dX5_put_29 (lv_at hl 0 rfl) ?_
      refine lv_lload_n hx hb dX5_put_31 rfl (lv_at hl 3 rfl) ?_
      refine lv_iload hx hb dX5_put_32 (lv_at hl 4 rfl) ?_
      obtain ⟨q4, hq4, hm⟩ := zbind hm
      have hPc := hP.sub (ws' := (wT aT bT c1 v b)) [2, 3] rfl
      have hDc := hD.sub (ws' := (wT aT bT c1 v b)) [2, 3] (by decide) rfl
      have hKc := hK.sub (tys' := wT_t c1) [1] rfl
      have hFc := va_free (wc := (wT aT bT c1 v b)) hD hS hA [2, 3] rfl
      refine zbSi (wr := [(aQ, .inr (4, [.ref aY, .int (pv 1), .ref aS, .ref aNs, .ref aTs, .ref aEs, .ref aDc, .int (pv 7)])), (aDc, .inl (cd, 8, .inr (.inr (.inr (.inr dc)))))]) (w1 := (wT aT bT c1 v b)) (w' := (wQDT aQ aY aS aNs aTs aEs aDc aT bT cd c1 pv dc v b)) (va_runU (As := [.long a1, .int a2]) (rest := []) ⟨hx, hb, hml, hown, hw⟩ (k_T_takeNumber l D aT bT c1 _ a1 a2 v b  q4 hq4) (va_cwA (C := RX4) (owner := RX1) (x := ⟨RX1, "takeNumber", "(JI)Z"⟩) 2 hw (zgoodL (List.forall_mem_cons.mpr ⟨zw442, List.forall_mem_cons.mpr ⟨zw387, List.forall_mem_cons.mpr ⟨zw503, List.forall_mem_cons.mpr ⟨zw502, List.forall_mem_cons.mpr ⟨zw402, fun _ h => absurd h List.not_mem_nil⟩⟩⟩⟩⟩) zw501) rfl rfl rfl (hX.1.1 _ zn11) (by decide +kernel) ⟨Nat.le_of_ble_eq_true rfl, Nat.le_of_ble_eq_true rfl⟩) (zpreV (zpre zC_ok hX.1 hS hFc hPc hKc hDc) (va_recv hK hP rfl (q0 := 2) rfl)) rfl rfl hl.1 rfl (lv_room (Nat.le_of_ble_eq_true rfl)) dX5_put_34 ⟨Nat.zero_le _, Nat.zero_le _⟩) hP hD hS hFc [2, 3] [0, 1] [0, 1, 2, 3] rfl rfl (by decide) (by decide) rfl (by decide) (fun H locs hP hD hS => ?_)
      refine lv_if_ne (tgt := 50) hx hb dX5_put_37 rfl (fun cd5 => ?_) (fun cd5 => ?_)
      · replace hm := zf cd5 hm
        cases hm
      · replace hm := zt cd5 hm
        cases hm
        exact zthrowS (ik := 120) (is := 122) (ic := 124) (text := "a text takes no number") hx hb hl0 hown (by decide +kernel) (hw _ zw504) (hw _ zw505) (hX.2.2.1 (122, "a text takes no number") zs122) (fun w h => hX.2.1 w (zt124 w h)) (by decide +kernel) hX.2.2.2.1 hX.2.2.2.2 hP hD hS (hl.1.trans hml.symm) dX5_put_40 dX5_put_43 dX5_put_44 dX5_put_46 dX5_put_49 hnx (Nat.le_of_ble_eq_true rfl) (Nat.le_of_ble_eq_true rfl) (Nat.le_of_ble_eq_true rfl) (Nat.le_of_ble_eq_true rfl) hlk
    · replace hm := zf cd3 hm
      exact b_Pu_put_19 G0 hK hX hnx hl0 hd  hm _ _ _ hP hD hS (lv_sub hl [] rfl)

def m_Pu_move (a0 : Int32) (a1 : Int32) (pv : Nat → Int32) (dc : Nat → Option Nat) (v : Nat → Int32) (b : Nat → Int32) (v2 : Nat → Int32) (b2 : Nat → Int32)  : Option ((Nat → Int32)) := (m_P_existing a0 pv dc).bind (fun q1 => (m_P_existing a1 pv dc).bind (fun q2 => (m_T_takeField_TN v b v2 b2).bind (fun q3 => (if q3.1 = 0 then (some q3.2) else none))))
section
variable {p : Program} {l : Launch} {e : Env} {s : State} {m : MethodId} {args : Array Value} {below : List Frame} {meth : Method} {c : Code} {D : va_G} {w0 : va_W} {aQ aY aS aNs aTs aEs aDc aT bT aN2 bN2 : Nat} {cd c1 c12 : ClassId} {pv : Nat → Int32} {dc : Nat → Option Nat} {v : Nat → Int32} {v2 : Nat → Int32} {b2 : Nat → Int32} {a0 : Int32} {a1 : Int32}
end
set_option maxRecDepth 100000 in
set_option maxHeartbeats 4000000 in
theorem k_Pu_move (l : Launch) (D : va_G) (aQ aY aS aNs aTs aEs aDc aT bT aN2 bN2 : Nat) (cd c1 c12 : ClassId) (sz : Nat) (a0 : Int32) (a1 : Int32) (pv : Nat → Int32) (dc : Nat → Option Nat) (v : Nat → Int32) (b : Nat → Int32) (v2 : Nat → Int32) (b2 : Nat → Int32) (hl0 : l.stackTraces = false) (hd : dc a0.toNatClampNeg = some aN2) (hd2 : dc a1.toNatClampNeg = some aT) (res : (Nat → Int32)) (hm : m_Pu_move a0 a1 pv dc v b v2 b2  = some res) : vx_Met l yX5_move (Cond.code yX5_move cX5_move 5 none :: zBIG) (zRx 6 91) (va_Pc [.ref aQ, .int a0, .int a1] (zP zD D vwCl (wQDTN2_t cd c1 c12) (wQDTN2 aQ aY aS aNs aTs aEs aDc aT bT aN2 bN2 cd c1 c12 pv dc v b v2 b2) sz)) (zQF (wQDTN2 aQ aY aS aNs aTs aEs aDc aT bT aN2 bN2 cd c1 c12 pv dc v b v2 b2) sz) (zXc "java/lang/UnsupportedOperationException" D vwCl (wQDTN2 aQ aY aS aNs aTs aEs aDc aT bT aN2 bN2 cd c1 c12 pv dc v b v2 b2) (wQDTN2 aQ aY aS aNs aTs aEs aDc aT bT aN2 bN2 cd c1 c12 pv dc v res v2 b2) sz) 1 6 (va_A (wQDTN2 aQ aY aS aNs aTs aEs aDc aT bT aN2 bN2 cd c1 c12 pv dc v b v2 b2) sz) := by
  refine zEnterX RX5 [.ref aQ, .int a0, .int a1] (by decide) rfl (Nat.le_of_ble_eq_true rfl) (fun p e s m below meth c ls hnx G hK hX hP hD hsz hl => ?_)
  subst hsz
  unfold m_Pu_move at hm
  have hl : lv_has ls 5 [(0, .ref aQ), (1, .int a0), (2, .int a1)] := hl
  have hS : va_S (va_A (wQDTN2 aQ aY aS aNs aTs aEs aDc aT bT aN2 bN2 cd c1 c12 pv dc v b v2 b2) s.heap.size) s.heap s.heap [] := va_S.rf
  have hA : ∀ q, s.heap.size ≤ q → va_A (wQDTN2 aQ aY aS aNs aTs aEs aDc aT bT aN2 bN2 cd c1 c12 pv dc v b v2 b2) s.heap.size q := fun q h => Or.inr h
  have G0 := G
  obtain ⟨hx, hb, hr, hml, hown, hw, hlk⟩ := G
  refine lv_aload_n hx hb dX5_move_0 rfl (lv_at hl 0 rfl) ?_
  refine lv_iload_n hx hb dX5_move_1 rfl (lv_at hl 1 rfl) ?_
  obtain ⟨q1, hq1, hm⟩ := zbind hm
  have hPc := hP.sub (ws' := (wQDf aQ aY aS aNs aTs aEs aDc aN2 cd pv dc)) [0, 1] rfl
  have hDc := hD.sub (ws' := (wQDf aQ aY aS aNs aTs aEs aDc aN2 cd pv dc)) [0, 1] (by decide) rfl
  have hKc := hK.sub (tys' := wQDf_t cd) [0] rfl
  have hFc := va_free (wc := (wQDf aQ aY aS aNs aTs aEs aDc aN2 cd pv dc)) hD hS hA [0, 1] rfl
  refine zbSq (wr := [(aT, .inr (3, [.ref bT, .int (v 1), .int (v 2), .int (v 3), .int (v 4)])), (bT, .inl (c1, 25, .inl b)), (aN2, .inr (1, [.ref bN2, .int (v2 1), .int (v2 2), .int (v2 3), .int (v2 4), .int (v2 5), .int (v2 6), .int (v2 7)])), (bN2, .inl (c12, 25, .inl b2))]) (w1 := (wQDf aQ aY aS aNs aTs aEs aDc aN2 cd pv dc)) (w' := (wQDTN2 aQ aY aS aNs aTs aEs aDc aT bT aN2 bN2 cd c1 c12 pv dc v b v2 b2)) (va_runV (As := [.int a0]) (rest := []) ⟨hx, hb, hml, hown, hw⟩ (k_P_existing l D aQ aY aS aNs aTs aEs aDc aN2 cd _ a0 pv dc hd q1 hq1) (zcV (C := RX5) 1 hw (zgood zw422) rfl rfl rfl zw176 zw424 zw423 zw425 hdX5_existing ⟨Nat.le_of_ble_eq_true rfl, Nat.le_of_ble_eq_true rfl⟩) (zpreV (zpre zC_ok hX.1 hS hFc hPc hKc hDc) (va_recv hK hP rfl (q0 := 0) rfl)) rfl rfl hl.1 rfl (lv_room (Nat.le_of_ble_eq_true rfl)) dX5_move_2 ⟨Nat.zero_le _, Nat.zero_le _⟩) hP hD hS hFc [0, 1] [2, 3, 4, 5] [4, 5, 0, 1, 2, 3] rfl rfl (by decide) (by decide) rfl (by decide) (fun H locs hP hD hS => ?_)
  refine lv_astore_n (lv' := [(3, .ref aN2), (0, .ref aQ), (1, .int a0), (2, .int a1)]) hx hb dX5_move_5 rfl hl (by decide) rfl (fun ls hl => ?_)
  refine lv_aload_n hx hb dX5_move_6 rfl (lv_at hl 1 rfl) ?_
  refine lv_iload_n hx hb dX5_move_7 rfl (lv_at hl 3 rfl) ?_
  obtain ⟨q2, hq2, hm⟩ := zbind hm
  have hPc := hP.sub (ws' := (wQDf aQ aY aS aNs aTs aEs aDc aT cd pv dc)) [0, 1] rfl
  have hDc := hD.sub (ws' := (wQDf aQ aY aS aNs aTs aEs aDc aT cd pv dc)) [0, 1] (by decide) rfl
  have hKc := hK.sub (tys' := wQDf_t cd) [0] rfl
  have hFc := va_free (wc := (wQDf aQ aY aS aNs aTs aEs aDc aT cd pv dc)) hD hS hA [0, 1] rfl
  refine zbSq (wr := [(aT, .inr (3, [.ref bT, .int (v 1), .int (v 2), .int (v 3), .int (v 4)])), (bT, .inl (c1, 25, .inl b)), (aN2, .inr (1, [.ref bN2, .int (v2 1), .int (v2 2), .int (v2 3), .int (v2 4), .int (v2 5), .int (v2 6), .int (v2 7)])), (bN2, .inl (c12, 25, .inl b2))]) (w1 := (wQDf aQ aY aS aNs aTs aEs aDc aT cd pv dc)) (w' := (wQDTN2 aQ aY aS aNs aTs aEs aDc aT bT aN2 bN2 cd c1 c12 pv dc v b v2 b2)) (va_runV (As := [.int a1]) (rest := []) ⟨hx, hb, hml, hown, hw⟩ (k_P_existing l D aQ aY aS aNs aTs aEs aDc aT cd _ a1 pv dc hd2 q2 hq2) (zcV (C := RX5) 1 hw (zgood zw422) rfl rfl rfl zw176 zw424 zw423 zw425 hdX5_existing ⟨Nat.le_of_ble_eq_true rfl, Nat.le_of_ble_eq_true rfl⟩) (zpreV (zpre zC_ok hX.1 hS hFc hPc hKc hDc) (va_recv hK hP rfl (q0 := 0) rfl)) rfl rfl hl.1 rfl (lv_room (Nat.le_of_ble_eq_true rfl)) dX5_move_8 ⟨Nat.zero_le _, Nat.zero_le _⟩) hP hD hS hFc [0, 1] [2, 3, 4, 5] [4, 5, 0, 1, 2, 3] rfl rfl (by decide) (by decide) rfl (by decide) (fun H locs hP hD hS => ?_)
  refine lv_astore (lv' := [(4, .ref aT), (3, .ref aN2), (0, .ref aQ), (1, .int a0), (2, .int a1)]) hx hb dX5_move_11 hl (by decide) rfl (fun ls hl => ?_)
  refine lv_aload hx hb dX5_move_13 (lv_at hl 0 rfl) ?_
  refine lv_aload_n hx hb dX5_move_15 rfl (lv_at hl 1 rfl) ?_
  obtain ⟨q3, hq3, hm⟩ := zbind hm
  have hPc := hP.sub (ws' := (wTN2 aT bT aN2 bN2 c1 c12 v b v2 b2)) [2, 3, 4, 5] rfl
  have hDc := hD.sub (ws' := (wTN2 aT bT aN2 bN2 c1 c12 v b v2 b2)) [2, 3, 4, 5] (by decide) rfl
  have hKc := hK.sub (tys' := wTN2_t c1 c12) [1, 2] rfl
  have hFc := va_free (wc := (wTN2 aT bT aN2 bN2 c1 c12 v b v2 b2)) hD hS hA [2, 3, 4, 5] rfl
  refine zbSi (wr := [(aQ, .inr (4, [.ref aY, .int (pv 1), .ref aS, .ref aNs, .ref aTs, .ref aEs, .ref aDc, .int (pv 7)])), (aDc, .inl (cd, 8, .inr (.inr (.inr (.inr dc)))))]) (w1 := (wTN2 aT bT aN2 bN2 c1 c12 v q3.2 v2 b2)) (w' := (wQDTN2 aQ aY aS aNs aTs aEs aDc aT bT aN2 bN2 cd c1 c12 pv dc v q3.2 v2 b2)) (va_runU (As := [.ref aN2]) (rest := []) ⟨hx, hb, hml, hown, hw⟩ (k_T_takeField_TN l D aT bT aN2 bN2 c1 c12 _ v b v2 b2  q3 hq3) (va_cwO (C := RX4) (owner := RX1) (x := ⟨RX1, "takeField", "(LPictureFields$Field;)Z"⟩) 1 hw (zgoodL (List.forall_mem_cons.mpr ⟨zw453, List.forall_mem_cons.mpr ⟨zw454, List.forall_mem_cons.mpr ⟨zw452, List.forall_mem_cons.mpr ⟨zw458, List.forall_mem_cons.mpr ⟨zw457, List.forall_mem_cons.mpr ⟨zw402, fun _ h => absurd h List.not_mem_nil⟩⟩⟩⟩⟩⟩) zw456) rfl rfl rfl zw451 (by decide +kernel) ⟨Nat.le_of_ble_eq_true rfl, Nat.le_of_ble_eq_true rfl⟩) (zpreV (zpre zC_ok hX.1 hS hFc hPc hKc hDc) (va_recv hK hP rfl (q0 := 2) rfl)) rfl rfl hl.1 rfl (lv_room (Nat.le_of_ble_eq_true rfl)) dX5_move_16 ⟨Nat.zero_le _, Nat.zero_le _⟩) hP hD hS hFc [2, 3, 4, 5] [0, 1] [0, 1, 2, 3, 4, 5] rfl rfl (by decide) (by decide) rfl (by decide) (fun H locs hP hD hS => ?_)
  refine lv_if_ne (tgt := 32) hx hb dX5_move_19 rfl (fun cd4 => ?_) (fun cd4 => ?_)
  · replace hm := zf cd4 hm
    cases hm
  · replace hm := zt cd4 hm
    cases hm
    exact zthrowS (ik := 120) (is := 129) (ic := 124) (text := "places behind the point do not go into a text") hx hb hl0 hown (by decide +kernel) (hw _ zw504) (hw _ zw505) (hX.2.2.1 (129, "places behind the point do not go into a text") zs129) (fun w h => hX.2.1 w (zt124 w h)) (by decide +kernel) hX.2.2.2.1 hX.2.2.2.2 hP hD hS (hl.1.trans hml.symm) dX5_move_22 dX5_move_25 dX5_move_26 dX5_move_28 dX5_move_31 hnx (Nat.le_of_ble_eq_true rfl) (Nat.le_of_ble_eq_true rfl) (Nat.le_of_ble_eq_true rfl) (Nat.le_of_ble_eq_true rfl) hlk

def m_Ps_declare (a0 : Int32) (pv : Nat → Int32)  : Option (Unit) := (if (pv 7) < 8 then none else (some ()))
section
variable {p : Program} {l : Launch} {e : Env} {s : State} {m : MethodId} {args : Array Value} {below : List Frame} {meth : Method} {c : Code} {D : va_G} {w0 : va_W} {aQ aY aS aNs aTs aEs aDc : Nat} {pv : Nat → Int32}
end
set_option maxRecDepth 100000 in
set_option maxHeartbeats 4000000 in
theorem k_Ps_declare (l : Launch) (D : va_G) (aQ aY aS aNs aTs aEs aDc : Nat) (sz : Nat) (a0 : Int32) (pv : Nat → Int32) (hl0 : l.stackTraces = false) (res : Unit) (hm : m_Ps_declare a0 pv  = some res) : vx_Met l yX5_declare (Cond.code yX5_declare cX5_declare 4 (some .int) :: zBIG) (zRx 6 90) (va_Pc [.ref aQ, .int a0] (zP zD D vwCl [] (wQ aQ aY aS aNs aTs aEs aDc pv) sz)) (zQF (wQ aQ aY aS aNs aTs aEs aDc pv) sz) (zXc "java/lang/IllegalStateException" D vwCl (wQ aQ aY aS aNs aTs aEs aDc pv) (wQ aQ aY aS aNs aTs aEs aDc pv) sz) 1 6 (va_A (wQ aQ aY aS aNs aTs aEs aDc pv) sz) := by
  refine zEnterX RX5 [.ref aQ, .int a0] (by decide) rfl (Nat.le_of_ble_eq_true rfl) (fun p e s m below meth c ls hnx G hK hX hP hD hsz hl => ?_)
  subst hsz
  unfold m_Ps_declare at hm
  have hl : lv_has ls 4 [(0, .ref aQ), (1, .int a0)] := hl
  have hS : va_S (va_A (wQ aQ aY aS aNs aTs aEs aDc pv) s.heap.size) s.heap s.heap [] := va_S.rf
  have hA : ∀ q, s.heap.size ≤ q → va_A (wQ aQ aY aS aNs aTs aEs aDc pv) s.heap.size q := fun q h => Or.inr h
  have G0 := G
  obtain ⟨hx, hb, hr, hml, hown, hw, hlk⟩ := G
  refine lv_aload_n hx hb dX5_declare_0 rfl (lv_at hl 0 rfl) ?_
  refine va_get (D := D) (ci := 4) (v := .int (pv 7)) (C := RX5) (T := TX5) (N := 8) hx hb hw zinX5 hown hK hP 0 rfl rfl 7 (by decide) (hw _ zw420) (fun _ h9 => h9) rfl dX5_declare_1 ?_
  refine lv_bipush (v := 8) hx hb dX5_declare_4 (by decide) ?_
  refine lv_icmp_lt (tgt := 19) hx hb dX5_declare_6 rfl (fun cd1 => ?_) (fun cd1 => ?_)
  · replace hm := zt cd1 hm
    cases hm
  · replace hm := zf cd1 hm
    cases hm
    exact zthrowS (ik := 54) (is := 56) (ic := 58) (text := "there are eight fields") hx hb hl0 hown (by decide +kernel) (hw _ zw506) (hw _ zw507) (hX.2.2.1 (56, "there are eight fields") zs56) (fun w h => hX.2.1 w (zt58 w h)) (by decide +kernel) hX.2.2.2.1 hX.2.2.2.2 hP hD hS (hl.1.trans hml.symm) dX5_declare_9 dX5_declare_12 dX5_declare_13 dX5_declare_15 dX5_declare_18 hnx (Nat.le_of_ble_eq_true rfl) (Nat.le_of_ble_eq_true rfl) (Nat.le_of_ble_eq_true rfl) (Nat.le_of_ble_eq_true rfl) hlk

def m_Pi_declare_57 (y : Nat → Int32)  (pv : Nat → Int32) (sv : Nat → Int32) (sr : Nat → Int32) : Option ((Nat → Int32) × (Nat → Int32) × (Nat → Int32)) := (some (pv, sv, sr))
def m_Pi_declare (a0 : Int32) (pv : Nat → Int32) (y : Nat → Int32) (sv : Nat → Int32) (sr : Nat → Int32)  : Option ((Nat → Int32) × (Nat → Int32) × (Nat → Int32)) := (if (pv 7) < 8 then (m_S_expand (pv 1) sv sr y).bind (fun q2 => (if q2.1 = 0 then m_Pi_declare_57 y (upd pv 1 0) q2.2.1 q2.2.2 else none)) else none)
section
variable {p : Program} {l : Launch} {e : Env} {s : State} {m : MethodId} {args : Array Value} {below : List Frame} {meth : Method} {c : Code} {D : va_G} {w0 : va_W} {aQ aNs aTs aEs aDc aY aS rS : Nat} {cy cs : ClassId} {y : Nat → Int32}
set_option maxRecDepth 100000 in
set_option maxHeartbeats 4000000 in
theorem b_Pi_declare_57 (G : zG p s m args meth c cX5_declare RX5 4 (some .int)) (hK : va_K D vwCl (wQS_t cy cs) s) (hX : zD (va_A w0 s.heap.size) s) (hnx : ∀ x ∈ c.exceptionTable.toList, False) (hl0 : l.stackTraces = false) {res : (Nat → Int32) × (Nat → Int32) × (Nat → Int32)} : ∀ (pv : Nat → Int32) (sv : Nat → Int32) (sr : Nat → Int32), m_Pi_declare_57 y pv sv sr = some res → zB p l e (zRx 6 94) s m args below meth c D vwCl (va_A w0 s.heap.size) (vx_MQ below (zQF w0 s.heap.size) (zXc "java/lang/IllegalArgumentException" D vwCl w0 (wQS aQ aNs aTs aEs aDc aY aS rS cy cs res.1 y res.2.1 res.2.2) s.heap.size) args s 1 6 (va_A w0 s.heap.size)) 4 (wQS aQ aNs aTs aEs aDc aY aS rS cy cs pv y sv sr) [(0, .ref aQ)] 57 [.null] := by
  intro pv sv sr hm H locs ls hP hD hS hl
  unfold m_Pi_declare_57 at hm
  have G0 := G
  obtain ⟨hx, hb, hr, hml, hown, hw, hlk⟩ := G
  have hA : ∀ q, s.heap.size ≤ q → va_A w0 s.heap.size q := fun q h => Or.inr h
  refine lv_astore_nN (lv' := [(3, .null), (0, .ref aQ)]) hx hb dX5_declare_57 rfl hl (by decide) rfl (fun ls hl => ?_)
  refine lv_aload_nN hx hb dX5_declare_58 rfl (lv_at hl 0 rfl) ?_
  refine lv_ifnonnullN hx hb dX5_declare_59 ?_
  cases hm
  exact zthrowS (ik := 69) (is := 71) (ic := 73) (text := "no picture, or no such usage of it") hx hb hl0 hown (by decide +kernel) (hw _ zw499) (hw _ zw500) (hX.2.2.1 (71, "no picture, or no such usage of it") zs71) (fun w h => hX.2.1 w (zt73 w h)) (by decide +kernel) hX.2.2.2.1 hX.2.2.2.2 hP hD hS (hl.1.trans hml.symm) dX5_declare_62 dX5_declare_65 dX5_declare_66 dX5_declare_68 dX5_declare_71 hnx (Nat.le_of_ble_eq_true rfl) (Nat.le_of_ble_eq_true rfl) (Nat.le_of_ble_eq_true rfl) (Nat.le_of_ble_eq_true rfl) hlk
end
set_option maxRecDepth 100000 in
set_option maxHeartbeats 4000000 in
theorem k_Pi_declare (l : Launch) (D : va_G) (aQ aNs aTs aEs aDc aY aS rS : Nat) (cy cs : ClassId) (sz : Nat) (a0 : Int32) (pv : Nat → Int32) (y : Nat → Int32) (sv : Nat → Int32) (sr : Nat → Int32) (hl0 : l.stackTraces = false) (res : (Nat → Int32) × (Nat → Int32) × (Nat → Int32)) (hm : m_Pi_declare a0 pv y sv sr  = some res) : vx_Met l yX5_declare (Cond.code yX5_declare cX5_declare 4 (some .int) :: zBIG) (zRx 6 94) (va_Pc [.ref aQ, .int a0] (zP zD D vwCl (wQS_t cy cs) (wQS aQ aNs aTs aEs aDc aY aS rS cy cs pv y sv sr) sz)) (zQF (wQS aQ aNs aTs aEs aDc aY aS rS cy cs pv y sv sr) sz) (zXc "java/lang/IllegalArgumentException" D vwCl (wQS aQ aNs aTs aEs aDc aY aS rS cy cs pv y sv sr) (wQS aQ aNs aTs aEs aDc aY aS rS cy cs res.1 y res.2.1 res.2.2) sz) 1 6 (va_A (wQS aQ aNs aTs aEs aDc aY aS rS cy cs pv y sv sr) sz) := by
  refine zEnterX RX5 [.ref aQ, .int a0] (by decide) rfl (Nat.le_of_ble_eq_true rfl) (fun p e s m below meth c ls hnx G hK hX hP hD hsz hl => ?_)
  subst hsz
  unfold m_Pi_declare at hm
  have hl : lv_has ls 4 [(0, .ref aQ), (1, .int a0)] := hl
  have hS : va_S (va_A (wQS aQ aNs aTs aEs aDc aY aS rS cy cs pv y sv sr) s.heap.size) s.heap s.heap [] := va_S.rf
  have hA : ∀ q, s.heap.size ≤ q → va_A (wQS aQ aNs aTs aEs aDc aY aS rS cy cs pv y sv sr) s.heap.size q := fun q h => Or.inr h
  have G0 := G
  obtain ⟨hx, hb, hr, hml, hown, hw, hlk⟩ := G
  refine lv_aload_n hx hb dX5_declare_0 rfl (lv_at hl 0 rfl) ?_
  refine va_get (D := D) (ci := 4) (v := .int (pv 7)) (C := RX5) (T := TX5) (N := 8) hx hb hw zinX5 hown hK hP 0 rfl rfl 7 (by decide) (hw _ zw420) (fun _ h9 => h9) rfl dX5_declare_1 ?_
  refine lv_bipush (v := 8) hx hb dX5_declare_4 (by decide) ?_
  refine lv_icmp_lt (tgt := 19) hx hb dX5_declare_6 rfl (fun cd1 => ?_) (fun cd1 => ?_)
  · replace hm := zt cd1 hm
    refine lv_aload_n hx hb dX5_declare_19 rfl (lv_at hl 0 rfl) ?_
    refine va_get (D := D) (ci := 4) (v := .ref aS) (C := RX5) (T := TX5) (N := 8) hx hb hw zinX5 hown hK hP 0 rfl rfl 2 (by decide) (hw _ zw461) (fun _ h9 => h9) rfl dX5_declare_20 ?_
    refine lv_aload_n hx hb dX5_declare_23 rfl (lv_at hl 0 rfl) ?_
    refine va_get (D := D) (ci := 4) (v := .ref aY) (C := RX5) (T := TX5) (N := 8) hx hb hw zinX5 hown hK hP 0 rfl rfl 0 (by decide) (hw _ zw419) (fun _ h9 => h9) rfl dX5_declare_24 ?_
    refine lv_aload_n hx hb dX5_declare_27 rfl (lv_at hl 0 rfl) ?_
    refine va_get (D := D) (ci := 4) (v := .int (pv 1)) (C := RX5) (T := TX5) (N := 8) hx hb hw zinX5 hown hK hP 0 rfl rfl 1 (by decide) (hw _ zw418) (fun _ h9 => h9) rfl dX5_declare_28 ?_
    obtain ⟨q2, hq2, hm⟩ := zbind hm
    have hPc := hP.sub (ws' := (wSY aS rS aY cs cy sv sr y)) [2, 3, 1] rfl
    have hDc := hD.sub (ws' := (wSY aS rS aY cs cy sv sr y)) [2, 3, 1] (by decide) rfl
    have hKc := hK.sub (tys' := wSY_t cs cy) [1, 0] rfl
    have hFc := va_free (wc := (wSY aS rS aY cs cy sv sr y)) hD hS hA [2, 3, 1] rfl
    refine zbSi (wr := [(aQ, .inr (4, [.ref aY, .int (pv 1), .ref aS, .ref aNs, .ref aTs, .ref aEs, .ref aDc, .int (pv 7)]))]) (w1 := (wSY aS rS aY cs cy q2.2.1 q2.2.2 y)) (w' := (wQS aQ aNs aTs aEs aDc aY aS rS cy cs pv y q2.2.1 q2.2.2)) (va_runV (As := [.ref aY, .int (pv 1)]) (rest := []) ⟨hx, hb, hml, hown, hw⟩ (k_S_expand l D aS rS aY cs cy _ (pv 1) sv sr y  q2 hq2) (zcV (C := RX3) 2 hw (zgood zw480) rfl rfl rfl zw179 zw482 zw481 zw483 hdX3_expand ⟨Nat.le_of_ble_eq_true rfl, Nat.le_of_ble_eq_true rfl⟩) (zpreV (zpre zC_ok hX.1 hS hFc hPc hKc hDc) (va_recv hK hP rfl (q0 := 2) rfl)) rfl rfl hl.1 rfl (lv_room (Nat.le_of_ble_eq_true rfl)) dX5_declare_31 ⟨Nat.zero_le _, Nat.zero_le _⟩) hP hD hS hFc [2, 3, 1] [0] [0, 3, 1, 2] rfl rfl (by decide) (by decide) rfl (by decide) (fun H locs hP hD hS => ?_)
    refine lv_istore_n (lv' := [(2, .int q2.1), (0, .ref aQ), (1, .int a0)]) hx hb dX5_declare_34 rfl hl (by decide) rfl (fun ls hl => ?_)
    refine lv_aload_n hx hb dX5_declare_35 rfl (lv_at hl 1 rfl) ?_
    refine lv_iconst (v := 0) hx hb dX5_declare_36 (by decide) ?_
    refine va_put (D := D) (ci := 4) (v := .int 0) (ty := .int) (C := RX5) (T := TX5) (N := 8) hx hb hw zinX5 tyX5 tyX5_ok nmX5 hown hK hP hD hS 0 rfl rfl 1 (by decide) (hw _ zw418) (fun _ h9 => h9) rfl (by decide +kernel) rfl rfl (Nat.le_of_ble_eq_true rfl) dX5_declare_37 (fun H locs hP hD hS => ?_)
    have hP : va_P D vwCl (wQS aQ aNs aTs aEs aDc aY aS rS cy cs (upd pv 1 0) y q2.2.1 q2.2.2) H := hP
    have hD : va_D _ (wQS aQ aNs aTs aEs aDc aY aS rS cy cs (upd pv 1 0) y q2.2.1 q2.2.2) := hD
    refine lv_iload_n hx hb dX5_declare_40 rfl (lv_at hl 0 rfl) ?_
    refine lv_if_eq (tgt := 56) hx hb dX5_declare_41 rfl (fun cd3 => ?_) (fun cd3 => ?_)
    · replace hm := zt cd3 hm
      refine lv_null hx hb dX5_declare_56 ?_
      exact b_Pi_declare_57 G0 hK hX hnx hl0 _ _ _ hm _ _ _ hP hD hS (lv_sub hl [1] rfl)
    · replace hm := zf cd3 hm
      cases hm
  · replace hm := zf cd1 hm
    cases hm

def m_Pi2_declare_57 (y : Nat → Int32) (nf : Nat → Option Nat) (tf : Nat → Option Nat) (ef : Nat → Option Nat) (dc : Nat → Option Nat) (bn : Nat → Int32) (bt : Nat → Int32) (b : Nat → Int32)  (pv : Nat → Int32) (sv : Nat → Int32) (sr : Nat → Int32) (vn : Nat → Int32) (vt : Nat → Int32) (v : Nat → Int32) (rw : Nat → Int32) (pw : Nat → Int32) : Option ((Nat → Int32) × (Nat → Int32) × (Nat → Int32) × (Nat → Int32) × (Nat → Int32) × (Nat → Int32) × (Nat → Int32) × (Nat → Int32)) := (some (pv, sv, sr, vn, vt, v, rw, pw))
def m_Pi2_declare (a0 : Int32) (pv : Nat → Int32) (y : Nat → Int32) (sv : Nat → Int32) (sr : Nat → Int32) (nf : Nat → Option Nat) (tf : Nat → Option Nat) (ef : Nat → Option Nat) (dc : Nat → Option Nat) (vn : Nat → Int32) (bn : Nat → Int32) (vt : Nat → Int32) (bt : Nat → Int32) (v : Nat → Int32) (b : Nat → Int32) (rw : Nat → Int32) (pw : Nat → Int32)  : Option ((Nat → Int32) × (Nat → Int32) × (Nat → Int32) × (Nat → Int32) × (Nat → Int32) × (Nat → Int32) × (Nat → Int32) × (Nat → Int32)) := (if (pv 7) < 8 then (m_S_expand (pv 1) sv sr y).bind (fun q2 => (if q2.1 = 0 then none else (m_P_fitting_0 ((upd pv 1 0) 7) a0 (upd pv 1 0) q2.2.1 q2.2.2 nf tf ef vn bn vt bt v b rw pw).bind (fun q4 => m_Pi2_declare_57 y nf tf ef dc bn bt b (upd pv 1 0) q2.2.1 q2.2.2 q4.1 q4.2.1 q4.2.2.1 q4.2.2.2.1 q4.2.2.2.2))) else none)
section
variable {p : Program} {l : Launch} {e : Env} {s : State} {m : MethodId} {args : Array Value} {below : List Frame} {meth : Method} {c : Code} {D : va_G} {w0 : va_W} {aQ aY aS rS aNs aTs aEs aDc aNn bNn aTt bTt aE bE rE pE : Nat} {cy cs cn ct ce cd c1n c1t c1 c2 c3 : ClassId} {y : Nat → Int32} {nf : Nat → Option Nat} {tf : Nat → Option Nat} {ef : Nat → Option Nat} {dc : Nat → Option Nat} {bn : Nat → Int32} {bt : Nat → Int32} {b : Nat → Int32}
set_option maxRecDepth 100000 in
set_option maxHeartbeats 4000000 in
theorem b_Pi2_declare_57 (G : zG p s m args meth c cX5_declare RX5 4 (some .int)) (hK : va_K D vwCl (wQA_t cy cs cn ct ce cd c1n c1t c1 c2 c3) s) (hX : zD (va_A w0 s.heap.size) s) (hnx : ∀ x ∈ c.exceptionTable.toList, False) (hl0 : l.stackTraces = false) {res : (Nat → Int32) × (Nat → Int32) × (Nat → Int32) × (Nat → Int32) × (Nat → Int32) × (Nat → Int32) × (Nat → Int32) × (Nat → Int32)} : ∀ (pv : Nat → Int32) (sv : Nat → Int32) (sr : Nat → Int32) (vn : Nat → Int32) (vt : Nat → Int32) (v : Nat → Int32) (rw : Nat → Int32) (pw : Nat → Int32), m_Pi2_declare_57 y nf tf ef dc bn bt b pv sv sr vn vt v rw pw = some res → zB p l e (zRx 6 127) s m args below meth c D vwCl (va_A w0 s.heap.size) (vx_MQ below (zQF w0 s.heap.size) (zXc "java/lang/IllegalArgumentException" D vwCl w0 (wQA aQ aY aS rS aNs aTs aEs aDc aNn bNn aTt bTt aE bE rE pE cy cs cn ct ce cd c1n c1t c1 c2 c3 res.1 y res.2.1 res.2.2.1 nf tf ef dc res.2.2.2.1 bn res.2.2.2.2.1 bt res.2.2.2.2.2.1 b res.2.2.2.2.2.2.1 res.2.2.2.2.2.2.2) s.heap.size) args s 1 6 (va_A w0 s.heap.size)) 4 (wQA aQ aY aS rS aNs aTs aEs aDc aNn bNn aTt bTt aE bE rE pE cy cs cn ct ce cd c1n c1t c1 c2 c3 pv y sv sr nf tf ef dc vn bn vt bt v b rw pw) [(0, .ref aQ)] 57 [.null] := by
  intro pv sv sr vn vt v rw pw hm H locs ls hP hD hS hl
  unfold m_Pi2_declare_57 at hm
  have G0 := G
  obtain ⟨hx, hb, hr, hml, hown, hw, hlk⟩ := G
  have hA : ∀ q, s.heap.size ≤ q → va_A w0 s.heap.size q := fun q h => Or.inr h
  refine lv_astore_nN (lv' := [(3, .null), (0, .ref aQ)]) hx hb dX5_declare_57 rfl hl (by decide) rfl (fun ls hl => ?_)
  refine lv_aload_nN hx hb dX5_declare_58 rfl (lv_at hl 0 rfl) ?_
  refine lv_ifnonnullN hx hb dX5_declare_59 ?_
  cases hm
  exact zthrowS (ik := 69) (is := 71) (ic := 73) (text := "no picture, or no such usage of it") hx hb hl0 hown (by decide +kernel) (hw _ zw499) (hw _ zw500) (hX.2.2.1 (71, "no picture, or no such usage of it") zs71) (fun w h => hX.2.1 w (zt73 w h)) (by decide +kernel) hX.2.2.2.1 hX.2.2.2.2 hP hD hS (hl.1.trans hml.symm) dX5_declare_62 dX5_declare_65 dX5_declare_66 dX5_declare_68 dX5_declare_71 hnx (Nat.le_of_ble_eq_true rfl) (Nat.le_of_ble_eq_true rfl) (Nat.le_of_ble_eq_true rfl) (Nat.le_of_ble_eq_true rfl) hlk
end
set_option maxRecDepth 100000 in
set_option maxHeartbeats 4000000 in
theorem k_Pi2_declare (l : Launch) (D : va_G) (aQ aY aS rS aNs aTs aEs aDc aNn bNn aTt bTt aE bE rE pE : Nat) (cy cs cn ct ce cd c1n c1t c1 c2 c3 : ClassId) (sz : Nat) (a0 : Int32) (pv : Nat → Int32) (y : Nat → Int32) (sv : Nat → Int32) (sr : Nat → Int32) (nf : Nat → Option Nat) (tf : Nat → Option Nat) (ef : Nat → Option Nat) (dc : Nat → Option Nat) (vn : Nat → Int32) (bn : Nat → Int32) (vt : Nat → Int32) (bt : Nat → Int32) (v : Nat → Int32) (b : Nat → Int32) (rw : Nat → Int32) (pw : Nat → Int32) (hl0 : l.stackTraces = false) (hdN : nf (pv 7).toNatClampNeg = some aNn) (hdT : tf (pv 7).toNatClampNeg = some aTt) (hdE : ef (pv 7).toNatClampNeg = some aE) (res : (Nat → Int32) × (Nat → Int32) × (Nat → Int32) × (Nat → Int32) × (Nat → Int32) × (Nat → Int32) × (Nat → Int32) × (Nat → Int32)) (hm : m_Pi2_declare a0 pv y sv sr nf tf ef dc vn bn vt bt v b rw pw  = some res) : vx_Met l yX5_declare (Cond.code yX5_declare cX5_declare 4 (some .int) :: zBIG) (zRx 6 127) (va_Pc [.ref aQ, .int a0] (zP zD D vwCl (wQA_t cy cs cn ct ce cd c1n c1t c1 c2 c3) (wQA aQ aY aS rS aNs aTs aEs aDc aNn bNn aTt bTt aE bE rE pE cy cs cn ct ce cd c1n c1t c1 c2 c3 pv y sv sr nf tf ef dc vn bn vt bt v b rw pw) sz)) (zQF (wQA aQ aY aS rS aNs aTs aEs aDc aNn bNn aTt bTt aE bE rE pE cy cs cn ct ce cd c1n c1t c1 c2 c3 pv y sv sr nf tf ef dc vn bn vt bt v b rw pw) sz) (zXc "java/lang/IllegalArgumentException" D vwCl (wQA aQ aY aS rS aNs aTs aEs aDc aNn bNn aTt bTt aE bE rE pE cy cs cn ct ce cd c1n c1t c1 c2 c3 pv y sv sr nf tf ef dc vn bn vt bt v b rw pw) (wQA aQ aY aS rS aNs aTs aEs aDc aNn bNn aTt bTt aE bE rE pE cy cs cn ct ce cd c1n c1t c1 c2 c3 res.1 y res.2.1 res.2.2.1 nf tf ef dc res.2.2.2.1 bn res.2.2.2.2.1 bt res.2.2.2.2.2.1 b res.2.2.2.2.2.2.1 res.2.2.2.2.2.2.2) sz) 1 6 (va_A (wQA aQ aY aS rS aNs aTs aEs aDc aNn bNn aTt bTt aE bE rE pE cy cs cn ct ce cd c1n c1t c1 c2 c3 pv y sv sr nf tf ef dc vn bn vt bt v b rw pw) sz) := by
  refine zEnterX RX5 [.ref aQ, .int a0] (by decide) rfl (Nat.le_of_ble_eq_true rfl) (fun p e s m below meth c ls hnx G hK hX hP hD hsz hl => ?_)
  subst hsz
  unfold m_Pi2_declare at hm
  have hl : lv_has ls 4 [(0, .ref aQ), (1, .int a0)] := hl
  have hS : va_S (va_A (wQA aQ aY aS rS aNs aTs aEs aDc aNn bNn aTt bTt aE bE rE pE cy cs cn ct ce cd c1n c1t c1 c2 c3 pv y sv sr nf tf ef dc vn bn vt bt v b rw pw) s.heap.size) s.heap s.heap [] := va_S.rf
  have hA : ∀ q, s.heap.size ≤ q → va_A (wQA aQ aY aS rS aNs aTs aEs aDc aNn bNn aTt bTt aE bE rE pE cy cs cn ct ce cd c1n c1t c1 c2 c3 pv y sv sr nf tf ef dc vn bn vt bt v b rw pw) s.heap.size q := fun q h => Or.inr h
  have G0 := G
  obtain ⟨hx, hb, hr, hml, hown, hw, hlk⟩ := G
  refine lv_aload_n hx hb dX5_declare_0 rfl (lv_at hl 0 rfl) ?_
  refine va_get (D := D) (ci := 4) (v := .int (pv 7)) (C := RX5) (T := TX5) (N := 8) hx hb hw zinX5 hown hK hP 0 rfl rfl 7 (by decide) (hw _ zw420) (fun _ h9 => h9) rfl dX5_declare_1 ?_
  refine lv_bipush (v := 8) hx hb dX5_declare_4 (by decide) ?_
  refine lv_icmp_lt (tgt := 19) hx hb dX5_declare_6 rfl (fun cd1 => ?_) (fun cd1 => ?_)
  · replace hm := zt cd1 hm
    refine lv_aload_n hx hb dX5_declare_19 rfl (lv_at hl 0 rfl) ?_
    refine va_get (D := D) (ci := 4) (v := .ref aS) (C := RX5) (T := TX5) (N := 8) hx hb hw zinX5 hown hK hP 0 rfl rfl 2 (by decide) (hw _ zw461) (fun _ h9 => h9) rfl dX5_declare_20 ?_
    refine lv_aload_n hx hb dX5_declare_23 rfl (lv_at hl 0 rfl) ?_
    refine va_get (D := D) (ci := 4) (v := .ref aY) (C := RX5) (T := TX5) (N := 8) hx hb hw zinX5 hown hK hP 0 rfl rfl 0 (by decide) (hw _ zw419) (fun _ h9 => h9) rfl dX5_declare_24 ?_
    refine lv_aload_n hx hb dX5_declare_27 rfl (lv_at hl 0 rfl) ?_
    refine va_get (D := D) (ci := 4) (v := .int (pv 1)) (C := RX5) (T := TX5) (N := 8) hx hb hw zinX5 hown hK hP 0 rfl rfl 1 (by decide) (hw _ zw418) (fun _ h9 => h9) rfl dX5_declare_28 ?_
    obtain ⟨q2, hq2, hm⟩ := zbind hm
    have hPc := hP.sub (ws' := (wSY aS rS aY cs cy sv sr y)) [2, 3, 1] rfl
    have hDc := hD.sub (ws' := (wSY aS rS aY cs cy sv sr y)) [2, 3, 1] (by decide) rfl
    have hKc := hK.sub (tys' := wSY_t cs cy) [1, 0] rfl
    have hFc := va_free (wc := (wSY aS rS aY cs cy sv sr y)) hD hS hA [2, 3, 1] rfl
    refine zbSi (wr := [(aQ, .inr (4, [.ref aY, .int (pv 1), .ref aS, .ref aNs, .ref aTs, .ref aEs, .ref aDc, .int (pv 7)])), (aNs, .inl (cn, 8, .inr (.inr (.inr (.inr nf))))), (aTs, .inl (ct, 8, .inr (.inr (.inr (.inr tf))))), (aEs, .inl (ce, 8, .inr (.inr (.inr (.inr ef))))), (aDc, .inl (cd, 8, .inr (.inr (.inr (.inr dc))))), (aNn, .inr (1, [.ref bNn, .int (vn 1), .int (vn 2), .int (vn 3), .int (vn 4), .int (vn 5), .int (vn 6), .int (vn 7)])), (bNn, .inl (c1n, 25, .inl bn)), (aTt, .inr (3, [.ref bTt, .int (vt 1), .int (vt 2), .int (vt 3), .int (vt 4)])), (bTt, .inl (c1t, 25, .inl bt)), (aE, .inr (0, [.ref bE, .int (v 1), .int (v 2), .int (v 3), .int (v 4), .ref rE, .ref pE, .int (v 7), .int (v 8), .int (v 9), .int (v 10), .int (v 11), .int (v 12), .int (v 13), .int (v 14), .int (v 15)])), (bE, .inl (c1, 25, .inl b)), (rE, .inl (c2, 24, .inl rw)), (pE, .inl (c3, 24, .inl pw))]) (w1 := (wSY aS rS aY cs cy q2.2.1 q2.2.2 y)) (w' := (wQA aQ aY aS rS aNs aTs aEs aDc aNn bNn aTt bTt aE bE rE pE cy cs cn ct ce cd c1n c1t c1 c2 c3 pv y q2.2.1 q2.2.2 nf tf ef dc vn bn vt bt v b rw pw)) (va_runV (As := [.ref aY, .int (pv 1)]) (rest := []) ⟨hx, hb, hml, hown, hw⟩ (k_S_expand l D aS rS aY cs cy _ (pv 1) sv sr y  q2 hq2) (zcV (C := RX3) 2 hw (zgood zw480) rfl rfl rfl zw179 zw482 zw481 zw483 hdX3_expand ⟨Nat.le_of_ble_eq_true rfl, Nat.le_of_ble_eq_true rfl⟩) (zpreV (zpre zC_ok hX.1 hS hFc hPc hKc hDc) (va_recv hK hP rfl (q0 := 2) rfl)) rfl rfl hl.1 rfl (lv_room (Nat.le_of_ble_eq_true rfl)) dX5_declare_31 ⟨Nat.zero_le _, Nat.zero_le _⟩) hP hD hS hFc [2, 3, 1] [0, 4, 5, 6, 7, 8, 9, 10, 11, 12, 13, 14, 15] [0, 15, 13, 14, 1, 2, 3, 4, 5, 6, 7, 8, 9, 10, 11, 12] rfl rfl (by decide) (by decide) rfl (by decide) (fun H locs hP hD hS => ?_)
    refine lv_istore_n (lv' := [(2, .int q2.1), (0, .ref aQ), (1, .int a0)]) hx hb dX5_declare_34 rfl hl (by decide) rfl (fun ls hl => ?_)
    refine lv_aload_n hx hb dX5_declare_35 rfl (lv_at hl 1 rfl) ?_
    refine lv_iconst (v := 0) hx hb dX5_declare_36 (by decide) ?_
    refine va_put (D := D) (ci := 4) (v := .int 0) (ty := .int) (C := RX5) (T := TX5) (N := 8) hx hb hw zinX5 tyX5 tyX5_ok nmX5 hown hK hP hD hS 0 rfl rfl 1 (by decide) (hw _ zw418) (fun _ h9 => h9) rfl (by decide +kernel) rfl rfl (Nat.le_of_ble_eq_true rfl) dX5_declare_37 (fun H locs hP hD hS => ?_)
    have hP : va_P D vwCl (wQA aQ aY aS rS aNs aTs aEs aDc aNn bNn aTt bTt aE bE rE pE cy cs cn ct ce cd c1n c1t c1 c2 c3 (upd pv 1 0) y q2.2.1 q2.2.2 nf tf ef dc vn bn vt bt v b rw pw) H := hP
    have hD : va_D _ (wQA aQ aY aS rS aNs aTs aEs aDc aNn bNn aTt bTt aE bE rE pE cy cs cn ct ce cd c1n c1t c1 c2 c3 (upd pv 1 0) y q2.2.1 q2.2.2 nf tf ef dc vn bn vt bt v b rw pw) := hD
    refine lv_iload_n hx hb dX5_declare_40 rfl (lv_at hl 0 rfl) ?_
    refine lv_if_eq (tgt := 56) hx hb dX5_declare_41 rfl (fun cd3 => ?_) (fun cd3 => ?_)
    · replace hm := zt cd3 hm
      cases hm
    · replace hm := zf cd3 hm
      refine lv_aload_n hx hb dX5_declare_44 rfl (lv_at hl 1 rfl) ?_
      refine lv_aload_n hx hb dX5_declare_45 rfl (lv_at hl 1 rfl) ?_
      refine va_get (D := D) (ci := 4) (v := .int ((upd pv 1 0) 7)) (C := RX5) (T := TX5) (N := 8) hx hb hw zinX5 hown hK hP 0 rfl rfl 7 (by decide) (hw _ zw420) (fun _ h9 => h9) rfl dX5_declare_46 ?_
      refine lv_iload_n hx hb dX5_declare_49 rfl (lv_at hl 2 rfl) ?_
      obtain ⟨q4, hq4, hm⟩ := zbind hm
      have hPc := hP.sub (ws' := (wQF aQ aY aDc aS rS aNs aTs aEs aNn bNn aTt bTt aE bE rE pE cs cn ct ce c1n c1t c1 c2 c3 (upd pv 1 0) q2.2.1 q2.2.2 nf tf ef vn bn vt bt v b rw pw)) [0, 2, 3, 4, 5, 6, 8, 9, 10, 11, 12, 13, 14, 15] rfl
      have hDc := hD.sub (ws' := (wQF aQ aY aDc aS rS aNs aTs aEs aNn bNn aTt bTt aE bE rE pE cs cn ct ce c1n c1t c1 c2 c3 (upd pv 1 0) q2.2.1 q2.2.2 nf tf ef vn bn vt bt v b rw pw)) [0, 2, 3, 4, 5, 6, 8, 9, 10, 11, 12, 13, 14, 15] (by decide) rfl
      have hKc := hK.sub (tys' := wQF_t cs cn ct ce c1n c1t c1 c2 c3) [1, 2, 3, 4, 6, 7, 8, 9, 10] rfl
      have hFc := va_free (wc := (wQF aQ aY aDc aS rS aNs aTs aEs aNn bNn aTt bTt aE bE rE pE cs cn ct ce c1n c1t c1 c2 c3 (upd pv 1 0) q2.2.1 q2.2.2 nf tf ef vn bn vt bt v b rw pw)) hD hS hA [0, 2, 3, 4, 5, 6, 8, 9, 10, 11, 12, 13, 14, 15] rfl
      refine zbSq (wr := [(aY, .inl (cy, 24, .inl y)), (aDc, .inl (cd, 8, .inr (.inr (.inr (.inr dc)))))]) (w1 := (wQF aQ aY aDc aS rS aNs aTs aEs aNn bNn aTt bTt aE bE rE pE cs cn ct ce c1n c1t c1 c2 c3 (upd pv 1 0) q2.2.1 q2.2.2 nf tf ef q4.1 bn q4.2.1 bt q4.2.2.1 b q4.2.2.2.1 q4.2.2.2.2)) (w' := (wQA aQ aY aS rS aNs aTs aEs aDc aNn bNn aTt bTt aE bE rE pE cy cs cn ct ce cd c1n c1t c1 c2 c3 (upd pv 1 0) y q2.2.1 q2.2.2 nf tf ef dc q4.1 bn q4.2.1 bt q4.2.2.1 b q4.2.2.2.1 q4.2.2.2.2)) (va_runV (As := [.int ((upd pv 1 0) 7), .int a0]) (rest := []) ⟨hx, hb, hml, hown, hw⟩ (k_P_fitting_0 l D aQ aY aDc aS rS aNs aTs aEs aNn bNn aTt bTt aE bE rE pE cs cn ct ce c1n c1t c1 c2 c3 _ ((upd pv 1 0) 7) a0 (upd pv 1 0) q2.2.1 q2.2.2 nf tf ef vn bn vt bt v b rw pw hdN hdT hdE q4 hq4) (zcV (C := RX5) 2 hw (zgood zw484) rfl rfl rfl zw176 zw486 zw485 zw487 hdX5_fittingField ⟨Nat.le_of_ble_eq_true rfl, Nat.le_of_ble_eq_true rfl⟩) (zpreV (zpre zC_ok hX.1 hS hFc hPc hKc hDc) (va_recv hK hP rfl (q0 := 0) rfl)) rfl rfl hl.1 rfl (lv_room (Nat.le_of_ble_eq_true rfl)) dX5_declare_50 ⟨Nat.zero_le _, Nat.zero_le _⟩) hP hD hS hFc [0, 2, 3, 4, 5, 6, 8, 9, 10, 11, 12, 13, 14, 15] [1, 7] [2, 0, 3, 4, 5, 6, 7, 1, 8, 9, 10, 11, 12, 13, 14, 15] rfl rfl (by decide) (by decide) rfl (by decide) (fun H locs hP hD hS => ?_)
      refine lv_goto (tgt := 57) hx hb dX5_declare_53 rfl ?_
      exact b_Pi2_declare_57 G0 hK hX hnx hl0 _ _ _ _ _ _ _ _ hm _ _ _ hP hD hS (lv_sub hl [1] rfl)
  · replace hm := zf cd1 hm
    cases hm

