theorem dX1_hasByte_0 : decode cX1_hasByte 0 = .ok (.iload_n 1, 1) := by decide +kernel
theorem dX1_hasByte_1 : decode cX1_hasByte 1 = .ok (.ifCond .lt 15, 3) := by decide +kernel
theorem dX1_hasByte_4 : decode cX1_hasByte 4 = .ok (.iload_n 1, 1) := by decide +kernel
theorem dX1_hasByte_5 : decode cX1_hasByte 5 = .ok (.aload_n 0, 1) := by decide +kernel
theorem dX1_hasByte_6 : decode cX1_hasByte 6 = .ok (.getfield 27, 3) := by decide +kernel
theorem dX1_hasByte_9 : decode cX1_hasByte 9 = .ok (.if_icmp .ge 7, 3) := by decide +kernel
theorem dX1_hasByte_12 : decode cX1_hasByte 12 = .ok (.iconst 1, 1) := by decide +kernel
theorem dX1_hasByte_13 : decode cX1_hasByte 13 = .ok (.goto 4, 3) := by decide +kernel
theorem dX1_hasByte_16 : decode cX1_hasByte 16 = .ok (.iconst 0, 1) := by decide +kernel
theorem dX1_hasByte_17 : decode cX1_hasByte 17 = .ok (.ireturn, 1) := by decide +kernel
def m_F_hasByte_N (a0 : Int32) (v : Nat → Int32) (b : Nat → Int32)  : Option ((Int32)) := (if a0 < 0 then (zbo 0 (some 0)) else (if (v 1) ≤ a0 then (zbo 0 (some 0)) else (zbo 1 (some 1))))
section
variable {p : Program} {l : Launch} {e : Env} {s : State} {m : MethodId} {args : Array Value} {below : List Frame} {meth : Method} {c : Code} {D : va_G} {w0 : va_W} {aN bN : Nat} {c1 : ClassId} {v : Nat → Int32} {b : Nat → Int32}
end
set_option maxRecDepth 100000 in
set_option maxHeartbeats 4000000 in
theorem k_F_hasByte_N (l : Launch) (D : va_G) (aN bN : Nat) (c1 : ClassId) (sz : Nat) (a0 : Int32) (v : Nat → Int32) (b : Nat → Int32) (res : (Int32)) (hm : m_F_hasByte_N a0 v b  = some res) : Met l yX1_hasByte (Cond.code yX1_hasByte cX1_hasByte 2 (some .boolean) :: zBIG) (zR 0 0) (va_Pc [.ref aN, .int a0] (zP zC D vwCl (wN_t c1) (wN aN bN c1 v b) sz)) (zQi D vwCl (wN aN bN c1 v b) (wN aN bN c1 v b) sz res) 0 0 (va_A (wN aN bN c1 v b) sz) := by
  refine zEnter RX1 [.ref aN, .int a0] (by decide) rfl (Nat.le_of_ble_eq_true rfl) (fun p e s m below meth c ls G hK hX hP hD hsz hl => ?_)
  subst hsz
  unfold m_F_hasByte_N at hm
  have hl : lv_has ls 2 [(0, .ref aN), (1, .int a0)] := hl
  have hS : va_S (va_A (wN aN bN c1 v b) s.heap.size) s.heap s.heap [] := va_S.rf
  have hA : ∀ q, s.heap.size ≤ q → va_A (wN aN bN c1 v b) s.heap.size q := fun q h => Or.inr h
  have G0 := G
  obtain ⟨hx, hb, hr, hml, hown, hw, hlk⟩ := G
  refine lv_iload_n hx hb dX1_hasByte_0 rfl (lv_at hl 1 rfl) ?_
  refine lv_if_lt (tgt := 16) hx hb dX1_hasByte_1 rfl (fun cd1 => ?_) (fun cd1 => ?_)
  · replace hm := zt cd1 hm
    refine lv_iconst (v := 0) hx hb dX1_hasByte_16 (by decide) ?_
    obtain ⟨hz2, -, hm⟩ := zbo_s hm
    cases hm
    exact zretz hx hb hr hlk hz2 hP hD hS dX1_hasByte_17
  · replace hm := zf cd1 hm
    refine lv_iload_n hx hb dX1_hasByte_4 rfl (lv_at hl 1 rfl) ?_
    refine lv_aload_n hx hb dX1_hasByte_5 rfl (lv_at hl 0 rfl) ?_
    refine va_get (D := D) (ci := 1) (v := .int (v 1)) (C := RX2) (T := TX2) (N := 8) hx hb hw zinX2 hown hK hP 0 rfl rfl 1 (by decide) (hw _ zw383) (fun _ h9 => h9) rfl dX1_hasByte_6 ?_
    refine lv_icmp_ge (tgt := 16) hx hb dX1_hasByte_9 rfl (fun cd3 => ?_) (fun cd3 => ?_)
    · replace hm := zt cd3 hm
      refine lv_iconst (v := 0) hx hb dX1_hasByte_16 (by decide) ?_
      obtain ⟨hz4, -, hm⟩ := zbo_s hm
      cases hm
      exact zretz hx hb hr hlk hz4 hP hD hS dX1_hasByte_17
    · replace hm := zf cd3 hm
      refine lv_iconst (v := 1) hx hb dX1_hasByte_12 (by decide) ?_
      refine lv_goto (tgt := 17) hx hb dX1_hasByte_13 rfl ?_
      obtain ⟨hz5, -, hm⟩ := zbo_s hm
      cases hm
      exact zretz hx hb hr hlk hz5 hP hD hS dX1_hasByte_17

def m_F_hasByte_T (a0 : Int32) (v : Nat → Int32) (b : Nat → Int32)  : Option ((Int32)) := (if a0 < 0 then (zbo 0 (some 0)) else (if (v 1) ≤ a0 then (zbo 0 (some 0)) else (zbo 1 (some 1))))
section
variable {p : Program} {l : Launch} {e : Env} {s : State} {m : MethodId} {args : Array Value} {below : List Frame} {meth : Method} {c : Code} {D : va_G} {w0 : va_W} {aT bT : Nat} {c1 : ClassId} {v : Nat → Int32} {b : Nat → Int32}
end
set_option maxRecDepth 100000 in
set_option maxHeartbeats 4000000 in
theorem k_F_hasByte_T (l : Launch) (D : va_G) (aT bT : Nat) (c1 : ClassId) (sz : Nat) (a0 : Int32) (v : Nat → Int32) (b : Nat → Int32) (res : (Int32)) (hm : m_F_hasByte_T a0 v b  = some res) : Met l yX1_hasByte (Cond.code yX1_hasByte cX1_hasByte 2 (some .boolean) :: zBIG) (zR 0 0) (va_Pc [.ref aT, .int a0] (zP zC D vwCl (wT_t c1) (wT aT bT c1 v b) sz)) (zQi D vwCl (wT aT bT c1 v b) (wT aT bT c1 v b) sz res) 0 0 (va_A (wT aT bT c1 v b) sz) := by
  refine zEnter RX1 [.ref aT, .int a0] (by decide) rfl (Nat.le_of_ble_eq_true rfl) (fun p e s m below meth c ls G hK hX hP hD hsz hl => ?_)
  subst hsz
  unfold m_F_hasByte_T at hm
  have hl : lv_has ls 2 [(0, .ref aT), (1, .int a0)] := hl
  have hS : va_S (va_A (wT aT bT c1 v b) s.heap.size) s.heap s.heap [] := va_S.rf
  have hA : ∀ q, s.heap.size ≤ q → va_A (wT aT bT c1 v b) s.heap.size q := fun q h => Or.inr h
  have G0 := G
  obtain ⟨hx, hb, hr, hml, hown, hw, hlk⟩ := G
  refine lv_iload_n hx hb dX1_hasByte_0 rfl (lv_at hl 1 rfl) ?_
  refine lv_if_lt (tgt := 16) hx hb dX1_hasByte_1 rfl (fun cd1 => ?_) (fun cd1 => ?_)
  · replace hm := zt cd1 hm
    refine lv_iconst (v := 0) hx hb dX1_hasByte_16 (by decide) ?_
    obtain ⟨hz2, -, hm⟩ := zbo_s hm
    cases hm
    exact zretz hx hb hr hlk hz2 hP hD hS dX1_hasByte_17
  · replace hm := zf cd1 hm
    refine lv_iload_n hx hb dX1_hasByte_4 rfl (lv_at hl 1 rfl) ?_
    refine lv_aload_n hx hb dX1_hasByte_5 rfl (lv_at hl 0 rfl) ?_
    refine va_get (D := D) (ci := 3) (v := .int (v 1)) (C := RX4) (T := TX4) (N := 5) hx hb hw zinX4 hown hK hP 0 rfl rfl 1 (by decide) (hw _ zw383) (fun _ h9 => h9) rfl dX1_hasByte_6 ?_
    refine lv_icmp_ge (tgt := 16) hx hb dX1_hasByte_9 rfl (fun cd3 => ?_) (fun cd3 => ?_)
    · replace hm := zt cd3 hm
      refine lv_iconst (v := 0) hx hb dX1_hasByte_16 (by decide) ?_
      obtain ⟨hz4, -, hm⟩ := zbo_s hm
      cases hm
      exact zretz hx hb hr hlk hz4 hP hD hS dX1_hasByte_17
    · replace hm := zf cd3 hm
      refine lv_iconst (v := 1) hx hb dX1_hasByte_12 (by decide) ?_
      refine lv_goto (tgt := 17) hx hb dX1_hasByte_13 rfl ?_
      obtain ⟨hz5, -, hm⟩ := zbo_s hm
      cases hm
      exact zretz hx hb hr hlk hz5 hP hD hS dX1_hasByte_17

def m_F_hasByte_E (a0 : Int32) (v : Nat → Int32) (b : Nat → Int32) (rw : Nat → Int32) (pw : Nat → Int32)  : Option ((Int32)) := (if a0 < 0 then (zbo 0 (some 0)) else (if (v 1) ≤ a0 then (zbo 0 (some 0)) else (zbo 1 (some 1))))
section
variable {p : Program} {l : Launch} {e : Env} {s : State} {m : MethodId} {args : Array Value} {below : List Frame} {meth : Method} {c : Code} {D : va_G} {w0 : va_W} {aE bE rE pE : Nat} {c1 c2 c3 : ClassId} {v : Nat → Int32} {b : Nat → Int32} {rw : Nat → Int32} {pw : Nat → Int32}
end
set_option maxRecDepth 100000 in
set_option maxHeartbeats 4000000 in
theorem k_F_hasByte_E (l : Launch) (D : va_G) (aE bE rE pE : Nat) (c1 c2 c3 : ClassId) (sz : Nat) (a0 : Int32) (v : Nat → Int32) (b : Nat → Int32) (rw : Nat → Int32) (pw : Nat → Int32) (res : (Int32)) (hm : m_F_hasByte_E a0 v b rw pw  = some res) : Met l yX1_hasByte (Cond.code yX1_hasByte cX1_hasByte 2 (some .boolean) :: zBIG) (zR 0 0) (va_Pc [.ref aE, .int a0] (zP zC D vwCl (wE_t c1 c2 c3) (wE aE bE rE pE c1 c2 c3 v b rw pw) sz)) (zQi D vwCl (wE aE bE rE pE c1 c2 c3 v b rw pw) (wE aE bE rE pE c1 c2 c3 v b rw pw) sz res) 0 0 (va_A (wE aE bE rE pE c1 c2 c3 v b rw pw) sz) := by
  refine zEnter RX1 [.ref aE, .int a0] (by decide) rfl (Nat.le_of_ble_eq_true rfl) (fun p e s m below meth c ls G hK hX hP hD hsz hl => ?_)
  subst hsz
  unfold m_F_hasByte_E at hm
  have hl : lv_has ls 2 [(0, .ref aE), (1, .int a0)] := hl
  have hS : va_S (va_A (wE aE bE rE pE c1 c2 c3 v b rw pw) s.heap.size) s.heap s.heap [] := va_S.rf
  have hA : ∀ q, s.heap.size ≤ q → va_A (wE aE bE rE pE c1 c2 c3 v b rw pw) s.heap.size q := fun q h => Or.inr h
  have G0 := G
  obtain ⟨hx, hb, hr, hml, hown, hw, hlk⟩ := G
  refine lv_iload_n hx hb dX1_hasByte_0 rfl (lv_at hl 1 rfl) ?_
  refine lv_if_lt (tgt := 16) hx hb dX1_hasByte_1 rfl (fun cd1 => ?_) (fun cd1 => ?_)
  · replace hm := zt cd1 hm
    refine lv_iconst (v := 0) hx hb dX1_hasByte_16 (by decide) ?_
    obtain ⟨hz2, -, hm⟩ := zbo_s hm
    cases hm
    exact zretz hx hb hr hlk hz2 hP hD hS dX1_hasByte_17
  · replace hm := zf cd1 hm
    refine lv_iload_n hx hb dX1_hasByte_4 rfl (lv_at hl 1 rfl) ?_
    refine lv_aload_n hx hb dX1_hasByte_5 rfl (lv_at hl 0 rfl) ?_
    refine va_get (D := D) (ci := 0) (v := .int (v 1)) (C := RX0) (T := TX0) (N := 16) hx hb hw zinX0 hown hK hP 0 rfl rfl 1 (by decide) (hw _ zw383) (fun _ h9 => h9) rfl dX1_hasByte_6 ?_
    refine lv_icmp_ge (tgt := 16) hx hb dX1_hasByte_9 rfl (fun cd3 => ?_) (fun cd3 => ?_)
    · replace hm := zt cd3 hm
      refine lv_iconst (v := 0) hx hb dX1_hasByte_16 (by decide) ?_
      obtain ⟨hz4, -, hm⟩ := zbo_s hm
      cases hm
      exact zretz hx hb hr hlk hz4 hP hD hS dX1_hasByte_17
    · replace hm := zf cd3 hm
      refine lv_iconst (v := 1) hx hb dX1_hasByte_12 (by decide) ?_
      refine lv_goto (tgt := 17) hx hb dX1_hasByte_13 rfl ?_
      obtain ⟨hz5, -, hm⟩ := zbo_s hm
      cases hm
      exact zretz hx hb hr hlk hz5 hP hD hS dX1_hasByte_17

theorem dX1_empty_0 : decode cX1_empty 0 = .ok (.aload_n 0, 1) := by decide +kernel
theorem dX1_empty_1 : decode cX1_empty 1 = .ok (.lconst 0, 1) := by decide +kernel
theorem dX1_empty_2 : decode cX1_empty 2 = .ok (.iconst 0, 1) := by decide +kernel
theorem dX1_empty_3 : decode cX1_empty 3 = .ok (.invokevirtual 23, 3) := by decide +kernel
theorem dX1_empty_6 : decode cX1_empty 6 = .ok (.pop, 1) := by decide +kernel
theorem dX1_empty_7 : decode cX1_empty 7 = .ok (.return_, 1) := by decide +kernel
def m_F_empty_N  (v : Nat → Int32) (b : Nat → Int32)  : Option ((Nat → Int32)) := (m_N_takeNumber 0 0 v b).bind (fun q1 => (some q1.2))
section
variable {p : Program} {l : Launch} {e : Env} {s : State} {m : MethodId} {args : Array Value} {below : List Frame} {meth : Method} {c : Code} {D : va_G} {w0 : va_W} {aN bN : Nat} {c1 : ClassId} {v : Nat → Int32}
end
set_option maxRecDepth 100000 in
set_option maxHeartbeats 4000000 in
theorem k_F_empty_N (l : Launch) (D : va_G) (aN bN : Nat) (c1 : ClassId) (sz : Nat)  (v : Nat → Int32) (b : Nat → Int32) (res : (Nat → Int32)) (hm : m_F_empty_N  v b  = some res) : Met l yX1_empty (Cond.code yX1_empty cX1_empty 1 none :: zBIG) (zR 3 71) (va_Pc [.ref aN] (zP zC D vwCl (wN_t c1) (wN aN bN c1 v b) sz)) (zQv D vwCl (wN aN bN c1 v b) (wN aN bN c1 v res) sz) 0 0 (va_A (wN aN bN c1 v b) sz) := by
  refine zEnter RX1 [.ref aN] (by decide) rfl (Nat.le_of_ble_eq_true rfl) (fun p e s m below meth c ls G hK hX hP hD hsz hl => ?_)
  subst hsz
  unfold m_F_empty_N at hm
  have hl : lv_has ls 1 [(0, .ref aN)] := hl
  have hS : va_S (va_A (wN aN bN c1 v b) s.heap.size) s.heap s.heap [] := va_S.rf
  have hA : ∀ q, s.heap.size ≤ q → va_A (wN aN bN c1 v b) s.heap.size q := fun q h => Or.inr h
  have G0 := G
  obtain ⟨hx, hb, hr, hml, hown, hw, hlk⟩ := G
  refine lv_aload_n hx hb dX1_empty_0 rfl (lv_at hl 0 rfl) ?_
  refine lv_lconst (v := 0) hx hb dX1_empty_1 (by decide) ?_
  refine lv_iconst (v := 0) hx hb dX1_empty_2 (by decide) ?_
  obtain ⟨q1, hq1, hm⟩ := zbind hm
  refine zbWi (va_runU (As := [.long 0, .int 0]) (rest := []) ⟨hx, hb, hml, hown, hw⟩ (k_N_takeNumber l D aN bN c1 _ 0 0 v b  q1 hq1) (va_cwA (C := RX2) (owner := RX1) (x := ⟨RX1, "takeNumber", "(JI)Z"⟩) 2 hw (zgoodL (List.forall_mem_cons.mpr ⟨zw386, List.forall_mem_cons.mpr ⟨zw387, List.forall_mem_cons.mpr ⟨zw388, List.forall_mem_cons.mpr ⟨zw385, List.forall_mem_cons.mpr ⟨zw210, fun _ h => absurd h List.not_mem_nil⟩⟩⟩⟩⟩) zw384) rfl rfl rfl (hX.1 _ zn11) (by decide +kernel) ⟨Nat.le_of_ble_eq_true rfl, Nat.le_of_ble_eq_true rfl⟩) (zpreV (zpre zC_ok hX hS (zfree hD hS hA) hP hK hD) (va_recv hK hP rfl (q0 := 0) rfl)) rfl rfl hl.1 rfl (lv_room (Nat.le_of_ble_eq_true rfl)) dX1_empty_3 ⟨Nat.zero_le _, Nat.zero_le _⟩) hS (zfree hD hS hA) (fun H locs hP hD hS => ?_)
  have hP : va_P D vwCl (wN aN bN c1 v q1.2) H := hP
  have hD : va_D _ (wN aN bN c1 v q1.2) := hD
  refine lv_pop hx hb dX1_empty_6 rfl ?_
  cases hm
  exact zretv hx hb hr hlk hP hD hS dX1_empty_7

def m_F_empty_E  (v : Nat → Int32) (b : Nat → Int32) (rw : Nat → Int32) (pw : Nat → Int32)  : Option ((Nat → Int32)) := (m_E_takeNumber 0 0 v b rw pw).bind (fun q1 => (some q1.2))
section
variable {p : Program} {l : Launch} {e : Env} {s : State} {m : MethodId} {args : Array Value} {below : List Frame} {meth : Method} {c : Code} {D : va_G} {w0 : va_W} {aE bE rE pE : Nat} {c1 c2 c3 : ClassId} {v : Nat → Int32} {rw : Nat → Int32} {pw : Nat → Int32}
end
set_option maxRecDepth 100000 in
set_option maxHeartbeats 4000000 in
theorem k_F_empty_E (l : Launch) (D : va_G) (aE bE rE pE : Nat) (c1 c2 c3 : ClassId) (sz : Nat)  (v : Nat → Int32) (b : Nat → Int32) (rw : Nat → Int32) (pw : Nat → Int32) (res : (Nat → Int32)) (hm : m_F_empty_E  v b rw pw  = some res) : Met l yX1_empty (Cond.code yX1_empty cX1_empty 1 none :: zBIG) (zR 5 119) (va_Pc [.ref aE] (zP zC D vwCl (wE_t c1 c2 c3) (wE aE bE rE pE c1 c2 c3 v b rw pw) sz)) (zQv D vwCl (wE aE bE rE pE c1 c2 c3 v b rw pw) (wE aE bE rE pE c1 c2 c3 v res rw pw) sz) 0 0 (va_A (wE aE bE rE pE c1 c2 c3 v b rw pw) sz) := by
  refine zEnter RX1 [.ref aE] (by decide) rfl (Nat.le_of_ble_eq_true rfl) (fun p e s m below meth c ls G hK hX hP hD hsz hl => ?_)
  subst hsz
  unfold m_F_empty_E at hm
  have hl : lv_has ls 1 [(0, .ref aE)] := hl
  have hS : va_S (va_A (wE aE bE rE pE c1 c2 c3 v b rw pw) s.heap.size) s.heap s.heap [] := va_S.rf
  have hA : ∀ q, s.heap.size ≤ q → va_A (wE aE bE rE pE c1 c2 c3 v b rw pw) s.heap.size q := fun q h => Or.inr h
  have G0 := G
  obtain ⟨hx, hb, hr, hml, hown, hw, hlk⟩ := G
  refine lv_aload_n hx hb dX1_empty_0 rfl (lv_at hl 0 rfl) ?_
  refine lv_lconst (v := 0) hx hb dX1_empty_1 (by decide) ?_
  refine lv_iconst (v := 0) hx hb dX1_empty_2 (by decide) ?_
  obtain ⟨q1, hq1, hm⟩ := zbind hm
  refine zbWi (va_runU (As := [.long 0, .int 0]) (rest := []) ⟨hx, hb, hml, hown, hw⟩ (k_E_takeNumber l D aE bE rE pE c1 c2 c3 _ 0 0 v b rw pw  q1 hq1) (va_cwA (C := RX0) (owner := RX1) (x := ⟨RX1, "takeNumber", "(JI)Z"⟩) 2 hw (zgoodL (List.forall_mem_cons.mpr ⟨zw386, List.forall_mem_cons.mpr ⟨zw387, List.forall_mem_cons.mpr ⟨zw391, List.forall_mem_cons.mpr ⟨zw390, List.forall_mem_cons.mpr ⟨zw259, fun _ h => absurd h List.not_mem_nil⟩⟩⟩⟩⟩) zw389) rfl rfl rfl (hX.1 _ zn11) (by decide +kernel) ⟨Nat.le_of_ble_eq_true rfl, Nat.le_of_ble_eq_true rfl⟩) (zpreV (zpre zC_ok hX hS (zfree hD hS hA) hP hK hD) (va_recv hK hP rfl (q0 := 0) rfl)) rfl rfl hl.1 rfl (lv_room (Nat.le_of_ble_eq_true rfl)) dX1_empty_3 ⟨Nat.zero_le _, Nat.zero_le _⟩) hS (zfree hD hS hA) (fun H locs hP hD hS => ?_)
  have hP : va_P D vwCl (wE aE bE rE pE c1 c2 c3 v q1.2 rw pw) H := hP
  have hD : va_D _ (wE aE bE rE pE c1 c2 c3 v q1.2 rw pw) := hD
  refine lv_pop hx hb dX1_empty_6 rfl ?_
  cases hm
  exact zretv hx hb hr hlk hP hD hS dX1_empty_7

theorem dX2_spell_0 : decode cX2_spell 0 = .ok (.aload_n 0, 1) := by decide +kernel
theorem dX2_spell_1 : decode cX2_spell 1 = .ok (.getfield 35, 3) := by decide +kernel
theorem dX2_spell_4 : decode cX2_spell 4 = .ok (.ifCond .le 5, 3) := by decide +kernel
theorem dX2_spell_7 : decode cX2_spell 7 = .ok (.iconst 0, 1) := by decide +kernel
theorem dX2_spell_8 : decode cX2_spell 8 = .ok (.ireturn, 1) := by decide +kernel
theorem dX2_spell_9 : decode cX2_spell 9 = .ok (.aload_n 0, 1) := by decide +kernel
theorem dX2_spell_10 : decode cX2_spell 10 = .ok (.invokevirtual 85, 3) := by decide +kernel
theorem dX2_spell_13 : decode cX2_spell 13 = .ok (.lstore_n 3, 1) := by decide +kernel
theorem dX2_spell_14 : decode cX2_spell 14 = .ok (.iconst 0, 1) := by decide +kernel
theorem dX2_spell_15 : decode cX2_spell 15 = .ok (.istore 5, 2) := by decide +kernel
theorem dX2_spell_17 : decode cX2_spell 17 = .ok (.iload 5, 2) := by decide +kernel
theorem dX2_spell_19 : decode cX2_spell 19 = .ok (.iload_n 2, 1) := by decide +kernel
theorem dX2_spell_20 : decode cX2_spell 20 = .ok (.if_icmp .ge 44, 3) := by decide +kernel
theorem dX2_spell_23 : decode cX2_spell 23 = .ok (.aload_n 1, 1) := by decide +kernel
theorem dX2_spell_24 : decode cX2_spell 24 = .ok (.iload 5, 2) := by decide +kernel
theorem dX2_spell_26 : decode cX2_spell 26 = .ok (.iload 5, 2) := by decide +kernel
theorem dX2_spell_28 : decode cX2_spell 28 = .ok (.aload_n 0, 1) := by decide +kernel
theorem dX2_spell_29 : decode cX2_spell 29 = .ok (.getfield 31, 3) := by decide +kernel
theorem dX2_spell_32 : decode cX2_spell 32 = .ok (.if_icmp .ge 23, 3) := by decide +kernel
theorem dX2_spell_35 : decode cX2_spell 35 = .ok (.bipush 48, 2) := by decide +kernel
theorem dX2_spell_37 : decode cX2_spell 37 = .ok (.lload_n 3, 1) := by decide +kernel
theorem dX2_spell_38 : decode cX2_spell 38 = .ok (.iconst 0, 1) := by decide +kernel
theorem dX2_spell_39 : decode cX2_spell 39 = .ok (.aload_n 0, 1) := by decide +kernel
theorem dX2_spell_40 : decode cX2_spell 40 = .ok (.getfield 31, 3) := by decide +kernel
theorem dX2_spell_43 : decode cX2_spell 43 = .ok (.iconst 1, 1) := by decide +kernel
theorem dX2_spell_44 : decode cX2_spell 44 = .ok (.isub, 1) := by decide +kernel
theorem dX2_spell_45 : decode cX2_spell 45 = .ok (.iload 5, 2) := by decide +kernel
theorem dX2_spell_47 : decode cX2_spell 47 = .ok (.isub, 1) := by decide +kernel
theorem dX2_spell_48 : decode cX2_spell 48 = .ok (.invokestatic 77, 3) := by decide +kernel
theorem dX2_spell_51 : decode cX2_spell 51 = .ok (.iadd, 1) := by decide +kernel
theorem dX2_spell_52 : decode cX2_spell 52 = .ok (.goto 5, 3) := by decide +kernel
theorem dX2_spell_55 : decode cX2_spell 55 = .ok (.bipush 32, 2) := by decide +kernel
theorem dX2_spell_57 : decode cX2_spell 57 = .ok (.iastore, 1) := by decide +kernel
theorem dX2_spell_58 : decode cX2_spell 58 = .ok (.iinc 5 1, 3) := by decide +kernel
theorem dX2_spell_61 : decode cX2_spell 61 = .ok (.goto (-44), 3) := by decide +kernel
theorem dX2_spell_64 : decode cX2_spell 64 = .ok (.iconst 1, 1) := by decide +kernel
theorem dX2_spell_65 : decode cX2_spell 65 = .ok (.ireturn, 1) := by decide +kernel
def m_N_spell_57 (v : Nat → Int32) (b : Nat → Int32) (rec : Int32 → Int64 → Int32 → (Nat → Int32) → Option ((Int32) × (Nat → Int32))) (x2 : Int32) (x3 : Int64) (x5 : Int32) (t0 : Int32) (t1 : Int32) (bx : Nat → Int32) : Option ((Int32) × (Nat → Int32)) := zix t1 25 (rec x2 x3 (x5 + 1) (upd bx t1.toNatClampNeg t0))
def m_N_spell_17b (v : Nat → Int32) (b : Nat → Int32) (rec : Int32 → Int64 → Int32 → (Nat → Int32) → Option ((Int32) × (Nat → Int32))) (x2 : Int32) (x3 : Int64) (x5 : Int32) (bx : Nat → Int32) : Option ((Int32) × (Nat → Int32)) := (if x2 ≤ x5 then (zbo 1 (some (1, bx))) else (if (v 2) ≤ x5 then m_N_spell_57 v b rec x2 x3 x5 32 x5 bx else (m_P_digitAt x3 0 (((v 2) - 1) - x5)).bind (fun q7 => m_N_spell_57 v b rec x2 x3 x5 (48 + q7) x5 bx)))
def m_N_spell_17 (v : Nat → Int32) (b : Nat → Int32) : Nat → Int32 → Int64 → Int32 → (Nat → Int32) → Option ((Int32) × (Nat → Int32))
  | 0 => fun _ _ _ _ => none
  | n + 1 => fun x2 x3 x5 bx => m_N_spell_17b v b (m_N_spell_17 v b n) x2 x3 x5 bx
def m_N_spell (a1 : Int32) (v : Nat → Int32) (b : Nat → Int32) (bx : Nat → Int32)  : Option ((Int32) × (Nat → Int32)) := (if (v 3) ≤ 0 then (m_N_number v b).bind (fun q2 => m_N_spell_17 v b 64 a1 q2 0 bx) else (zbo 0 (some (0, bx))))
section
variable {p : Program} {l : Launch} {e : Env} {s : State} {m : MethodId} {args : Array Value} {below : List Frame} {meth : Method} {c : Code} {D : va_G} {w0 : va_W} {aN bN bX : Nat} {c1 cx : ClassId} {v : Nat → Int32} {b : Nat → Int32}
set_option maxRecDepth 100000 in
set_option maxHeartbeats 4000000 in
theorem b_N_spell_57 (G : zG p s m args meth c cX2_spell RX2 6 (some .boolean)) (hK : va_K D vwCl (wNB_t c1 cx) s) (hX : zC (va_A w0 s.heap.size) s) {res : (Int32) × (Nat → Int32)} (rec : Int32 → Int64 → Int32 → (Nat → Int32) → Option ((Int32) × (Nat → Int32))) (hrec : ∀ (x2 : Int32) (x3 : Int64) (x5 : Int32) (bx : Nat → Int32), rec x2 x3 x5 bx = some res → zB p l e (zR 2 45) s m args below meth c D vwCl (va_A w0 s.heap.size) (MQ below (zQi D vwCl w0 (wNB aN bN bX c1 cx v b res.2) s.heap.size res.1) args s 0 0 (va_A w0 s.heap.size)) 6 (wNB aN bN bX c1 cx v b bx) [(0, .ref aN), (1, .ref bX), (2, .int x2), (3, .long x3), (5, .int x5)] 17 []) : ∀ (x2 : Int32) (x3 : Int64) (x5 : Int32) (t0 : Int32) (t1 : Int32) (bx : Nat → Int32), m_N_spell_57 v b rec x2 x3 x5 t0 t1 bx = some res → zB p l e (zR 2 45) s m args below meth c D vwCl (va_A w0 s.heap.size) (MQ below (zQi D vwCl w0 (wNB aN bN bX c1 cx v b res.2) s.heap.size res.1) args s 0 0 (va_A w0 s.heap.size)) 6 (wNB aN bN bX c1 cx v b bx) [(0, .ref aN), (1, .ref bX), (2, .int x2), (3, .long x3), (5, .int x5)] 57 [.int t0, .int t1, .ref bX] := by
  intro x2 x3 x5 t0 t1 bx hm H locs ls hP hD hS hl
  unfold m_N_spell_57 at hm
  have G0 := G
  obtain ⟨hx, hb, hr, hml, hown, hw, hlk⟩ := G
  have hA : ∀ q, s.heap.size ≤ q → va_A w0 s.heap.size q := fun q h => Or.inr h
  obtain ⟨hi6, hm⟩ := zix_s hm
  refine va_iast (i := t1) (x := t0) (f := bx) (n := 25) hx hb hK hP hD hS 2 1 rfl rfl hi6 dX2_spell_57 (fun H locs hP hD hS => ?_)
  have hP : va_P D vwCl (wNB aN bN bX c1 cx v b (upd bx t1.toNatClampNeg t0)) H := hP
  have hD : va_D _ (wNB aN bN bX c1 cx v b (upd bx t1.toNatClampNeg t0)) := hD
  refine lv_iinc (k := 4) (v := (x5 + 1)) (lv' := [(5, .int (x5 + 1)), (0, .ref aN), (1, .ref bX), (2, .int x2), (3, .long x3)]) hx hb dX2_spell_58 hl rfl rfl (by decide) rfl (fun ls hl => ?_)
  refine lv_goto (tgt := 17) hx hb dX2_spell_61 rfl ?_
  exact hrec _ _ _ _ hm H _ _ hP hD hS (lv_sub hl [1, 2, 3, 4, 0] rfl)
set_option maxRecDepth 100000 in
set_option maxHeartbeats 4000000 in
theorem b_N_spell_17 (G : zG p s m args meth c cX2_spell RX2 6 (some .boolean)) (hK : va_K D vwCl (wNB_t c1 cx) s) (hX : zC (va_A w0 s.heap.size) s) {res : (Int32) × (Nat → Int32)} : ∀ n : Nat, ∀ (x2 : Int32) (x3 : Int64) (x5 : Int32) (bx : Nat → Int32), m_N_spell_17 v b n x2 x3 x5 bx = some res → zB p l e (zR 2 45) s m args below meth c D vwCl (va_A w0 s.heap.size) (MQ below (zQi D vwCl w0 (wNB aN bN bX c1 cx v b res.2) s.heap.size res.1) args s 0 0 (va_A w0 s.heap.size)) 6 (wNB aN bN bX c1 cx v b bx) [(0, .ref aN), (1, .ref bX), (2, .int x2), (3, .long x3), (5, .int x5)] 17 [] := by
  intro n
  induction n with
  | zero => intro x2 x3 x5 bx hm; cases hm
  | succ n ih =>
  have hrec := ih
  intro x2 x3 x5 bx hm H locs ls hP hD hS hl
  replace hm : m_N_spell_17b v b (m_N_spell_17 v b n) x2 x3 x5 bx = some res := hm
  generalize m_N_spell_17 v b n = rec at hm hrec
  unfold m_N_spell_17b at hm
  clear ih
  have G0 := G
  obtain ⟨hx, hb, hr, hml, hown, hw, hlk⟩ := G
  have hA : ∀ q, s.heap.size ≤ q → va_A w0 s.heap.size q := fun q h => Or.inr h
  refine lv_iload hx hb dX2_spell_17 (lv_at hl 4 rfl) ?_
  refine lv_iload_n hx hb dX2_spell_19 rfl (lv_at hl 2 rfl) ?_
  refine lv_icmp_ge (tgt := 64) hx hb dX2_spell_20 rfl (fun cd3 => ?_) (fun cd3 => ?_)
  · replace hm := zt cd3 hm
    refine lv_iconst (v := 1) hx hb dX2_spell_64 (by decide) ?_
    obtain ⟨hz4, -, hm⟩ := zbo_s hm
    cases hm
    exact zretz hx hb hr hlk hz4 hP hD hS dX2_spell_65
  · replace hm := zf cd3 hm
    refine lv_aload_n hx hb dX2_spell_23 rfl (lv_at hl 1 rfl) ?_
    refine lv_iload hx hb dX2_spell_24 (lv_at hl 4 rfl) ?_
    refine lv_iload hx hb dX2_spell_26 (lv_at hl 4 rfl) ?_
    refine lv_aload_n hx hb dX2_spell_28 rfl (lv_at hl 0 rfl) ?_
    refine va_get (D := D) (ci := 1) (v := .int (v 2)) (C := RX2) (T := TX2) (N := 8) hx hb hw zinX2 hown hK hP 0 rfl rfl 2 (by decide) (hw _ zw202) (fun x9 h9 => u_same (hw _ zw201) x9 h9) rfl dX2_spell_29 ?_
    refine lv_icmp_ge (tgt := 55) hx hb dX2_spell_32 rfl (fun cd5 => ?_) (fun cd5 => ?_)
    · replace hm := zt cd5 hm
      refine lv_bipush (v := 32) hx hb dX2_spell_55 (by decide) ?_
      exact b_N_spell_57 G0 hK hX rec hrec _ _ _ _ _ _ hm H _ _ hP hD hS hl
    · replace hm := zf cd5 hm
      refine lv_bipush (v := 48) hx hb dX2_spell_35 (by decide) ?_
      refine lv_lload_n hx hb dX2_spell_37 rfl (lv_at hl 3 rfl) ?_
      refine lv_iconst (v := 0) hx hb dX2_spell_38 (by decide) ?_
      refine lv_aload_n hx hb dX2_spell_39 rfl (lv_at hl 0 rfl) ?_
      refine va_get (D := D) (ci := 1) (v := .int (v 2)) (C := RX2) (T := TX2) (N := 8) hx hb hw zinX2 hown hK hP 0 rfl rfl 2 (by decide) (hw _ zw202) (fun x9 h9 => u_same (hw _ zw201) x9 h9) rfl dX2_spell_40 ?_
      refine lv_iconst (v := 1) hx hb dX2_spell_43 (by decide) ?_
      refine lv_isub hx hb dX2_spell_44 ?_
      refine lv_iload hx hb dX2_spell_45 (lv_at hl 4 rfl) ?_
      refine lv_isub hx hb dX2_spell_47 ?_
      obtain ⟨q7, hq7, hm⟩ := zbind hm
      refine zb0i (va_runSN (As := [.long x3, .int 0, .int (((v 2) - 1) - x5)]) (rest := [.int 48, .int x5, .ref bX]) ⟨hx, hb, hml, hown, hw⟩ (k_P_digitAt l D  _ x3 0 (((v 2) - 1) - x5)  q7 hq7) ⟨va_cnB 3 hw (zgood zw244) rfl rfl rfl (hX.1 _ zn3) (hw _ zw176) hdX5_digitAt ⟨Nat.le_of_ble_eq_true rfl, Nat.le_of_ble_eq_true rfl⟩, hw _ zw245, trivial⟩ (zpre zC_ok hX hS (zfree0 hS hA) zP0 (hK.sub (tys' := []) [] rfl) zD0) rfl rfl hl.1 rfl (lv_room (Nat.le_of_ble_eq_true rfl)) dX2_spell_48 ⟨Nat.zero_le _, Nat.zero_le _⟩) hP hD hS (zfree0 hS hA) (fun H locs hP hD hS => ?_)
      refine lv_iadd hx hb dX2_spell_51 ?_
      refine lv_goto (tgt := 57) hx hb dX2_spell_52 rfl ?_
      exact b_N_spell_57 G0 hK hX rec hrec _ _ _ _ _ _ hm H _ _ hP hD hS hl
end
set_option maxRecDepth 100000 in
set_option maxHeartbeats 4000000 in
theorem k_N_spell (l : Launch) (D : va_G) (aN bN bX : Nat) (c1 cx : ClassId) (sz : Nat) (a1 : Int32) (v : Nat → Int32) (b : Nat → Int32) (bx : Nat → Int32) (res : (Int32) × (Nat → Int32)) (hm : m_N_spell a1 v b bx  = some res) : Met l yX2_spell (Cond.code yX2_spell cX2_spell 6 (some .boolean) :: zBIG) (zR 2 45) (va_Pc [.ref aN, .ref bX, .int a1] (zP zC D vwCl (wNB_t c1 cx) (wNB aN bN bX c1 cx v b bx) sz)) (zQi D vwCl (wNB aN bN bX c1 cx v b bx) (wNB aN bN bX c1 cx v b res.2) sz res.1) 0 0 (va_A (wNB aN bN bX c1 cx v b bx) sz) := by
  refine zEnter RX2 [.ref aN, .ref bX, .int a1] (by decide) rfl (Nat.le_of_ble_eq_true rfl) (fun p e s m below meth c ls G hK hX hP hD hsz hl => ?_)
  subst hsz
  unfold m_N_spell at hm
  have hl : lv_has ls 6 [(0, .ref aN), (1, .ref bX), (2, .int a1)] := hl
  have hS : va_S (va_A (wNB aN bN bX c1 cx v b bx) s.heap.size) s.heap s.heap [] := va_S.rf
  have hA : ∀ q, s.heap.size ≤ q → va_A (wNB aN bN bX c1 cx v b bx) s.heap.size q := fun q h => Or.inr h
  have G0 := G
  obtain ⟨hx, hb, hr, hml, hown, hw, hlk⟩ := G
  refine lv_aload_n hx hb dX2_spell_0 rfl (lv_at hl 0 rfl) ?_
  refine va_get (D := D) (ci := 1) (v := .int (v 3)) (C := RX2) (T := TX2) (N := 8) hx hb hw zinX2 hown hK hP 0 rfl rfl 3 (by decide) (hw _ zw204) (fun x9 h9 => u_same (hw _ zw203) x9 h9) rfl dX2_spell_1 ?_
  refine lv_if_le (tgt := 9) hx hb dX2_spell_4 rfl (fun cd1 => ?_) (fun cd1 => ?_)
  · replace hm := zt cd1 hm
    refine lv_aload_n hx hb dX2_spell_9 rfl (lv_at hl 0 rfl) ?_
    obtain ⟨q2, hq2, hm⟩ := zbind hm
    have hPc := hP.sub (ws' := (wN aN bN c1 v b)) [0, 1] rfl
    have hDc := hD.sub (ws' := (wN aN bN c1 v b)) [0, 1] (by decide) rfl
    have hKc := hK.sub (tys' := wN_t c1) [0] rfl
    have hFc := va_free (wc := (wN aN bN c1 v b)) hD hS hA [0, 1] rfl
    refine zbSl (wr := [(bX, .inl (cx, 25, .inl bx))]) (w1 := (wN aN bN c1 v b)) (w' := (wNB aN bN bX c1 cx v b bx)) (va_runV (As := []) (rest := []) ⟨hx, hb, hml, hown, hw⟩ (k_N_number l D aN bN c1 _ v b  q2 hq2) (zcV (C := RX2) 0 hw (zgood zw392) rfl rfl rfl zw210 zw394 zw393 zw395 hdX2_number ⟨Nat.le_of_ble_eq_true rfl, Nat.le_of_ble_eq_true rfl⟩) (zpreV (zpre zC_ok hX hS hFc hPc hKc hDc) (va_recv hK hP rfl (q0 := 0) rfl)) rfl rfl hl.1 rfl (lv_room (Nat.le_of_ble_eq_true rfl)) dX2_spell_10 ⟨Nat.zero_le _, Nat.zero_le _⟩) hP hD hS hFc [0, 1] [2] [1, 2, 0] rfl rfl (by decide) (by decide) rfl (by decide) (fun H locs hP hD hS => ?_)
    refine lv_lstore_n (lv' := [(3, .long q2), (0, .ref aN), (1, .ref bX), (2, .int a1)]) hx hb dX2_spell_13 rfl hl (by decide) rfl (fun ls hl => ?_)
    refine lv_iconst (v := 0) hx hb dX2_spell_14 (by decide) ?_
    refine lv_istore (lv' := [(5, .int 0), (3, .long q2), (0, .ref aN), (1, .ref bX), (2, .int a1)]) hx hb dX2_spell_15 hl (by decide) rfl (fun ls hl => ?_)
    exact b_N_spell_17 G0 hK hX 64 _ _ _ _ hm _ _ _ hP hD hS (lv_sub hl [2, 3, 4, 1, 0] rfl)
  · replace hm := zf cd1 hm
    refine lv_iconst (v := 0) hx hb dX2_spell_7 (by decide) ?_
    obtain ⟨hz8, -, hm⟩ := zbo_s hm
    cases hm
    exact zretz hx hb hr hlk hz8 hP hD hS dX2_spell_8

theorem dX1_spell_0 : decode cX1_spell 0 = .ok (.iconst 0, 1) := by decide +kernel
theorem dX1_spell_1 : decode cX1_spell 1 = .ok (.istore_n 3, 1) := by decide +kernel
theorem dX1_spell_2 : decode cX1_spell 2 = .ok (.iload_n 3, 1) := by decide +kernel
theorem dX1_spell_3 : decode cX1_spell 3 = .ok (.iload_n 2, 1) := by decide +kernel
theorem dX1_spell_4 : decode cX1_spell 4 = .ok (.if_icmp .ge 31, 3) := by decide +kernel
theorem dX1_spell_7 : decode cX1_spell 7 = .ok (.aload_n 1, 1) := by decide +kernel
theorem dX1_spell_8 : decode cX1_spell 8 = .ok (.iload_n 3, 1) := by decide +kernel
theorem dX1_spell_9 : decode cX1_spell 9 = .ok (.iload_n 3, 1) := by decide +kernel
theorem dX1_spell_10 : decode cX1_spell 10 = .ok (.aload_n 0, 1) := by decide +kernel
theorem dX1_spell_11 : decode cX1_spell 11 = .ok (.getfield 27, 3) := by decide +kernel
theorem dX1_spell_14 : decode cX1_spell 14 = .ok (.if_icmp .ge 12, 3) := by decide +kernel
theorem dX1_spell_17 : decode cX1_spell 17 = .ok (.aload_n 0, 1) := by decide +kernel
theorem dX1_spell_18 : decode cX1_spell 18 = .ok (.getfield 9, 3) := by decide +kernel
theorem dX1_spell_21 : decode cX1_spell 21 = .ok (.iload_n 3, 1) := by decide +kernel
theorem dX1_spell_22 : decode cX1_spell 22 = .ok (.iaload, 1) := by decide +kernel
theorem dX1_spell_23 : decode cX1_spell 23 = .ok (.goto 5, 3) := by decide +kernel
theorem dX1_spell_26 : decode cX1_spell 26 = .ok (.bipush 32, 2) := by decide +kernel
theorem dX1_spell_28 : decode cX1_spell 28 = .ok (.iastore, 1) := by decide +kernel
theorem dX1_spell_29 : decode cX1_spell 29 = .ok (.iinc 3 1, 3) := by decide +kernel
theorem dX1_spell_32 : decode cX1_spell 32 = .ok (.goto (-30), 3) := by decide +kernel
theorem dX1_spell_35 : decode cX1_spell 35 = .ok (.iconst 1, 1) := by decide +kernel
theorem dX1_spell_36 : decode cX1_spell 36 = .ok (.ireturn, 1) := by decide +kernel
def m_F_spell_T_28 (v : Nat → Int32) (b : Nat → Int32) (rec : Int32 → Int32 → (Nat → Int32) → Option ((Int32) × (Nat → Int32))) (x2 : Int32) (x3 : Int32) (t0 : Int32) (t1 : Int32) (bx : Nat → Int32) : Option ((Int32) × (Nat → Int32)) := zix t1 25 (rec x2 (x3 + 1) (upd bx t1.toNatClampNeg t0))
def m_F_spell_T_2b (v : Nat → Int32) (b : Nat → Int32) (rec : Int32 → Int32 → (Nat → Int32) → Option ((Int32) × (Nat → Int32))) (x2 : Int32) (x3 : Int32) (bx : Nat → Int32) : Option ((Int32) × (Nat → Int32)) := (if x2 ≤ x3 then (zbo 1 (some (1, bx))) else (if (v 1) ≤ x3 then m_F_spell_T_28 v b rec x2 x3 32 x3 bx else zix x3 25 (m_F_spell_T_28 v b rec x2 x3 (b x3.toNatClampNeg) x3 bx)))
def m_F_spell_T_2 (v : Nat → Int32) (b : Nat → Int32) : Nat → Int32 → Int32 → (Nat → Int32) → Option ((Int32) × (Nat → Int32))
  | 0 => fun _ _ _ => none
  | n + 1 => fun x2 x3 bx => m_F_spell_T_2b v b (m_F_spell_T_2 v b n) x2 x3 bx
def m_F_spell_T (a1 : Int32) (v : Nat → Int32) (b : Nat → Int32) (bx : Nat → Int32)  : Option ((Int32) × (Nat → Int32)) := m_F_spell_T_2 v b 64 a1 0 bx
section
variable {p : Program} {l : Launch} {e : Env} {s : State} {m : MethodId} {args : Array Value} {below : List Frame} {meth : Method} {c : Code} {D : va_G} {w0 : va_W} {aT bT bX : Nat} {c1 cx : ClassId} {v : Nat → Int32} {b : Nat → Int32}
set_option maxRecDepth 100000 in
set_option maxHeartbeats 4000000 in
theorem b_F_spell_T_28 (G : zG p s m args meth c cX1_spell RX1 4 (some .boolean)) (hK : va_K D vwCl (wTB_t c1 cx) s) (hX : zC (va_A w0 s.heap.size) s) {res : (Int32) × (Nat → Int32)} (rec : Int32 → Int32 → (Nat → Int32) → Option ((Int32) × (Nat → Int32))) (hrec : ∀ (x2 : Int32) (x3 : Int32) (bx : Nat → Int32), rec x2 x3 bx = some res → zB p l e (zR 0 0) s m args below meth c D vwCl (va_A w0 s.heap.size) (MQ below (zQi D vwCl w0 (wTB aT bT bX c1 cx v b res.2) s.heap.size res.1) args s 0 0 (va_A w0 s.heap.size)) 4 (wTB aT bT bX c1 cx v b bx) [(0, .ref aT), (1, .ref bX), (2, .int x2), (3, .int x3)] 2 []) : ∀ (x2 : Int32) (x3 : Int32) (t0 : Int32) (t1 : Int32) (bx : Nat → Int32), m_F_spell_T_28 v b rec x2 x3 t0 t1 bx = some res → zB p l e (zR 0 0) s m args below meth c D vwCl (va_A w0 s.heap.size) (MQ below (zQi D vwCl w0 (wTB aT bT bX c1 cx v b res.2) s.heap.size res.1) args s 0 0 (va_A w0 s.heap.size)) 4 (wTB aT bT bX c1 cx v b bx) [(0, .ref aT), (1, .ref bX), (2, .int x2), (3, .int x3)] 28 [.int t0, .int t1, .ref bX] := by
  intro x2 x3 t0 t1 bx hm H locs ls hP hD hS hl
  unfold m_F_spell_T_28 at hm
  have G0 := G
  obtain ⟨hx, hb, hr, hml, hown, hw, hlk⟩ := G
  have hA : ∀ q, s.heap.size ≤ q → va_A w0 s.heap.size q := fun q h => Or.inr h
  obtain ⟨hi4, hm⟩ := zix_s hm
  refine va_iast (i := t1) (x := t0) (f := bx) (n := 25) hx hb hK hP hD hS 2 1 rfl rfl hi4 dX1_spell_28 (fun H locs hP hD hS => ?_)
  have hP : va_P D vwCl (wTB aT bT bX c1 cx v b (upd bx t1.toNatClampNeg t0)) H := hP
  have hD : va_D _ (wTB aT bT bX c1 cx v b (upd bx t1.toNatClampNeg t0)) := hD
  refine lv_iinc (k := 3) (v := (x3 + 1)) (lv' := [(3, .int (x3 + 1)), (0, .ref aT), (1, .ref bX), (2, .int x2)]) hx hb dX1_spell_29 hl rfl rfl (by decide) rfl (fun ls hl => ?_)
  refine lv_goto (tgt := 2) hx hb dX1_spell_32 rfl ?_
  exact hrec _ _ _ hm H _ _ hP hD hS (lv_sub hl [1, 2, 3, 0] rfl)
set_option maxRecDepth 100000 in
set_option maxHeartbeats 4000000 in
theorem b_F_spell_T_2 (G : zG p s m args meth c cX1_spell RX1 4 (some .boolean)) (hK : va_K D vwCl (wTB_t c1 cx) s) (hX : zC (va_A w0 s.heap.size) s) {res : (Int32) × (Nat → Int32)} : ∀ n : Nat, ∀ (x2 : Int32) (x3 : Int32) (bx : Nat → Int32), m_F_spell_T_2 v b n x2 x3 bx = some res → zB p l e (zR 0 0) s m args below meth c D vwCl (va_A w0 s.heap.size) (MQ below (zQi D vwCl w0 (wTB aT bT bX c1 cx v b res.2) s.heap.size res.1) args s 0 0 (va_A w0 s.heap.size)) 4 (wTB aT bT bX c1 cx v b bx) [(0, .ref aT), (1, .ref bX), (2, .int x2), (3, .int x3)] 2 [] := by
  intro n
  induction n with
  | zero => intro x2 x3 bx hm; cases hm
  | succ n ih =>
  have hrec := ih
  intro x2 x3 bx hm H locs ls hP hD hS hl
  replace hm : m_F_spell_T_2b v b (m_F_spell_T_2 v b n) x2 x3 bx = some res := hm
  generalize m_F_spell_T_2 v b n = rec at hm hrec
  unfold m_F_spell_T_2b at hm
  clear ih
  have G0 := G
  obtain ⟨hx, hb, hr, hml, hown, hw, hlk⟩ := G
  have hA : ∀ q, s.heap.size ≤ q → va_A w0 s.heap.size q := fun q h => Or.inr h
  refine lv_iload_n hx hb dX1_spell_2 rfl (lv_at hl 3 rfl) ?_
  refine lv_iload_n hx hb dX1_spell_3 rfl (lv_at hl 2 rfl) ?_
  refine lv_icmp_ge (tgt := 35) hx hb dX1_spell_4 rfl (fun cd1 => ?_) (fun cd1 => ?_)
  · replace hm := zt cd1 hm
    refine lv_iconst (v := 1) hx hb dX1_spell_35 (by decide) ?_
    obtain ⟨hz2, -, hm⟩ := zbo_s hm
    cases hm
    exact zretz hx hb hr hlk hz2 hP hD hS dX1_spell_36
  · replace hm := zf cd1 hm
    refine lv_aload_n hx hb dX1_spell_7 rfl (lv_at hl 1 rfl) ?_
    refine lv_iload_n hx hb dX1_spell_8 rfl (lv_at hl 3 rfl) ?_
    refine lv_iload_n hx hb dX1_spell_9 rfl (lv_at hl 3 rfl) ?_
    refine lv_aload_n hx hb dX1_spell_10 rfl (lv_at hl 0 rfl) ?_
    refine va_get (D := D) (ci := 3) (v := .int (v 1)) (C := RX4) (T := TX4) (N := 5) hx hb hw zinX4 hown hK hP 0 rfl rfl 1 (by decide) (hw _ zw383) (fun _ h9 => h9) rfl dX1_spell_11 ?_
    refine lv_icmp_ge (tgt := 26) hx hb dX1_spell_14 rfl (fun cd3 => ?_) (fun cd3 => ?_)
    · replace hm := zt cd3 hm
      refine lv_bipush (v := 32) hx hb dX1_spell_26 (by decide) ?_
      exact b_F_spell_T_28 G0 hK hX rec hrec _ _ _ _ _ hm H _ _ hP hD hS hl
    · replace hm := zf cd3 hm
      refine lv_aload_n hx hb dX1_spell_17 rfl (lv_at hl 0 rfl) ?_
      refine va_get (D := D) (ci := 3) (v := .ref bT) (C := RX4) (T := TX4) (N := 5) hx hb hw zinX4 hown hK hP 0 rfl rfl 0 (by decide) (hw _ zw396) (fun _ h9 => h9) rfl dX1_spell_18 ?_
      refine lv_iload_n hx hb dX1_spell_21 rfl (lv_at hl 3 rfl) ?_
      obtain ⟨hi5, hm⟩ := zix_s hm
      refine va_iald (i := x3) (f := b) (n := 25) hx hb hK hP 1 0 rfl rfl hi5 dX1_spell_22 ?_
      refine lv_goto (tgt := 28) hx hb dX1_spell_23 rfl ?_
      exact b_F_spell_T_28 G0 hK hX rec hrec _ _ _ _ _ hm H _ _ hP hD hS hl
end
set_option maxRecDepth 100000 in
set_option maxHeartbeats 4000000 in
theorem k_F_spell_T (l : Launch) (D : va_G) (aT bT bX : Nat) (c1 cx : ClassId) (sz : Nat) (a1 : Int32) (v : Nat → Int32) (b : Nat → Int32) (bx : Nat → Int32) (res : (Int32) × (Nat → Int32)) (hm : m_F_spell_T a1 v b bx  = some res) : Met l yX1_spell (Cond.code yX1_spell cX1_spell 4 (some .boolean) :: zBIG) (zR 0 0) (va_Pc [.ref aT, .ref bX, .int a1] (zP zC D vwCl (wTB_t c1 cx) (wTB aT bT bX c1 cx v b bx) sz)) (zQi D vwCl (wTB aT bT bX c1 cx v b bx) (wTB aT bT bX c1 cx v b res.2) sz res.1) 0 0 (va_A (wTB aT bT bX c1 cx v b bx) sz) := by
  refine zEnter RX1 [.ref aT, .ref bX, .int a1] (by decide) rfl (Nat.le_of_ble_eq_true rfl) (fun p e s m below meth c ls G hK hX hP hD hsz hl => ?_)
  subst hsz
  unfold m_F_spell_T at hm
  have hl : lv_has ls 4 [(0, .ref aT), (1, .ref bX), (2, .int a1)] := hl
  have hS : va_S (va_A (wTB aT bT bX c1 cx v b bx) s.heap.size) s.heap s.heap [] := va_S.rf
  have hA : ∀ q, s.heap.size ≤ q → va_A (wTB aT bT bX c1 cx v b bx) s.heap.size q := fun q h => Or.inr h
  have G0 := G
  obtain ⟨hx, hb, hr, hml, hown, hw, hlk⟩ := G
  refine lv_iconst (v := 0) hx hb dX1_spell_0 (by decide) ?_
  refine lv_istore_n (lv' := [(3, .int 0), (0, .ref aT), (1, .ref bX), (2, .int a1)]) hx hb dX1_spell_1 rfl hl (by decide) rfl (fun ls hl => ?_)
  exact b_F_spell_T_2 G0 hK hX 64 _ _ _ hm _ _ _ hP hD hS (lv_sub hl [1, 2, 3, 0] rfl)

def m_F_spell_E_28 (v : Nat → Int32) (b : Nat → Int32) (rw : Nat → Int32) (pw : Nat → Int32) (rec : Int32 → Int32 → (Nat → Int32) → Option ((Int32) × (Nat → Int32))) (x2 : Int32) (x3 : Int32) (t0 : Int32) (t1 : Int32) (bx : Nat → Int32) : Option ((Int32) × (Nat → Int32)) := zix t1 25 (rec x2 (x3 + 1) (upd bx t1.toNatClampNeg t0))
def m_F_spell_E_2b (v : Nat → Int32) (b : Nat → Int32) (rw : Nat → Int32) (pw : Nat → Int32) (rec : Int32 → Int32 → (Nat → Int32) → Option ((Int32) × (Nat → Int32))) (x2 : Int32) (x3 : Int32) (bx : Nat → Int32) : Option ((Int32) × (Nat → Int32)) := (if x2 ≤ x3 then (zbo 1 (some (1, bx))) else (if (v 1) ≤ x3 then m_F_spell_E_28 v b rw pw rec x2 x3 32 x3 bx else zix x3 25 (m_F_spell_E_28 v b rw pw rec x2 x3 (b x3.toNatClampNeg) x3 bx)))
def m_F_spell_E_2 (v : Nat → Int32) (b : Nat → Int32) (rw : Nat → Int32) (pw : Nat → Int32) : Nat → Int32 → Int32 → (Nat → Int32) → Option ((Int32) × (Nat → Int32))
  | 0 => fun _ _ _ => none
  | n + 1 => fun x2 x3 bx => m_F_spell_E_2b v b rw pw (m_F_spell_E_2 v b rw pw n) x2 x3 bx
def m_F_spell_E (a1 : Int32) (v : Nat → Int32) (b : Nat → Int32) (rw : Nat → Int32) (pw : Nat → Int32) (bx : Nat → Int32)  : Option ((Int32) × (Nat → Int32)) := m_F_spell_E_2 v b rw pw 64 a1 0 bx
section
variable {p : Program} {l : Launch} {e : Env} {s : State} {m : MethodId} {args : Array Value} {below : List Frame} {meth : Method} {c : Code} {D : va_G} {w0 : va_W} {aE bE rE pE bX : Nat} {c1 c2 c3 cx : ClassId} {v : Nat → Int32} {b : Nat → Int32} {rw : Nat → Int32} {pw : Nat → Int32}
set_option maxRecDepth 100000 in
set_option maxHeartbeats 4000000 in
theorem b_F_spell_E_28 (G : zG p s m args meth c cX1_spell RX1 4 (some .boolean)) (hK : va_K D vwCl (wEB_t c1 c2 c3 cx) s) (hX : zC (va_A w0 s.heap.size) s) {res : (Int32) × (Nat → Int32)} (rec : Int32 → Int32 → (Nat → Int32) → Option ((Int32) × (Nat → Int32))) (hrec : ∀ (x2 : Int32) (x3 : Int32) (bx : Nat → Int32), rec x2 x3 bx = some res → zB p l e (zR 0 0) s m args below meth c D vwCl (va_A w0 s.heap.size) (MQ below (zQi D vwCl w0 (wEB aE bE rE pE bX c1 c2 c3 cx v b rw pw res.2) s.heap.size res.1) args s 0 0 (va_A w0 s.heap.size)) 4 (wEB aE bE rE pE bX c1 c2 c3 cx v b rw pw bx) [(0, .ref aE), (1, .ref bX), (2, .int x2), (3, .int x3)] 2 []) : ∀ (x2 : Int32) (x3 : Int32) (t0 : Int32) (t1 : Int32) (bx : Nat → Int32), m_F_spell_E_28 v b rw pw rec x2 x3 t0 t1 bx = some res → zB p l e (zR 0 0) s m args below meth c D vwCl (va_A w0 s.heap.size) (MQ below (zQi D vwCl w0 (wEB aE bE rE pE bX c1 c2 c3 cx v b rw pw res.2) s.heap.size res.1) args s 0 0 (va_A w0 s.heap.size)) 4 (wEB aE bE rE pE bX c1 c2 c3 cx v b rw pw bx) [(0, .ref aE), (1, .ref bX), (2, .int x2), (3, .int x3)] 28 [.int t0, .int t1, .ref bX] := by
  intro x2 x3 t0 t1 bx hm H locs ls hP hD hS hl
  unfold m_F_spell_E_28 at hm
  have G0 := G
  obtain ⟨hx, hb, hr, hml, hown, hw, hlk⟩ := G
  have hA : ∀ q, s.heap.size ≤ q → va_A w0 s.heap.size q := fun q h => Or.inr h
  obtain ⟨hi4, hm⟩ := zix_s hm
  refine va_iast (i := t1) (x := t0) (f := bx) (n := 25) hx hb hK hP hD hS 4 3 rfl rfl hi4 dX1_spell_28 (fun H locs hP hD hS => ?_)
  have hP : va_P D vwCl (wEB aE bE rE pE bX c1 c2 c3 cx v b rw pw (upd bx t1.toNatClampNeg t0)) H := hP
  have hD : va_D _ (wEB aE bE rE pE bX c1 c2 c3 cx v b rw pw (upd bx t1.toNatClampNeg t0)) := hD
  refine lv_iinc (k := 3) (v := (x3 + 1)) (lv' := [(3, .int (x3 + 1)), (0, .ref aE), (1, .ref bX), (2, .int x2)]) hx hb dX1_spell_29 hl rfl rfl (by decide) rfl (fun ls hl => ?_)
  refine lv_goto (tgt := 2) hx hb dX1_spell_32 rfl ?_
  exact hrec _ _ _ hm H _ _ hP hD hS (lv_sub hl [1, 2, 3, 0] rfl)
set_option maxRecDepth 100000 in
set_option maxHeartbeats 4000000 in
theorem b_F_spell_E_2 (G : zG p s m args meth c cX1_spell RX1 4 (some .boolean)) (hK : va_K D vwCl (wEB_t c1 c2 c3 cx) s) (hX : zC (va_A w0 s.heap.size) s) {res : (Int32) × (Nat → Int32)} : ∀ n : Nat, ∀ (x2 : Int32) (x3 : Int32) (bx : Nat → Int32), m_F_spell_E_2 v b rw pw n x2 x3 bx = some res → zB p l e (zR 0 0) s m args below meth c D vwCl (va_A w0 s.heap.size) (MQ below (zQi D vwCl w0 (wEB aE bE rE pE bX c1 c2 c3 cx v b rw pw res.2) s.heap.size res.1) args s 0 0 (va_A w0 s.heap.size)) 4 (wEB aE bE rE pE bX c1 c2 c3 cx v b rw pw bx) [(0, .ref aE), (1, .ref bX), (2, .int x2), (3, .int x3)] 2 [] := by
  intro n
  induction n with
  | zero => intro x2 x3 bx hm; cases hm
  | succ n ih =>
  have hrec := ih
  intro x2 x3 bx hm H locs ls hP hD hS hl
  replace hm : m_F_spell_E_2b v b rw pw (m_F_spell_E_2 v b rw pw n) x2 x3 bx = some res := hm
  generalize m_F_spell_E_2 v b rw pw n = rec at hm hrec
  unfold m_F_spell_E_2b at hm
  clear ih
  have G0 := G
  obtain ⟨hx, hb, hr, hml, hown, hw, hlk⟩ := G
  have hA : ∀ q, s.heap.size ≤ q → va_A w0 s.heap.size q := fun q h => Or.inr h
  refine lv_iload_n hx hb dX1_spell_2 rfl (lv_at hl 3 rfl) ?_
  refine lv_iload_n hx hb dX1_spell_3 rfl (lv_at hl 2 rfl) ?_
  refine lv_icmp_ge (tgt := 35) hx hb dX1_spell_4 rfl (fun cd1 => ?_) (fun cd1 => ?_)
  · replace hm := zt cd1 hm
    refine lv_iconst (v := 1) hx hb dX1_spell_35 (by decide) ?_
    obtain ⟨hz2, -, hm⟩ := zbo_s hm
    cases hm
    exact zretz hx hb hr hlk hz2 hP hD hS dX1_spell_36
  · replace hm := zf cd1 hm
    refine lv_aload_n hx hb dX1_spell_7 rfl (lv_at hl 1 rfl) ?_
    refine lv_iload_n hx hb dX1_spell_8 rfl (lv_at hl 3 rfl) ?_
    refine lv_iload_n hx hb dX1_spell_9 rfl (lv_at hl 3 rfl) ?_
    refine lv_aload_n hx hb dX1_spell_10 rfl (lv_at hl 0 rfl) ?_
    refine va_get (D := D) (ci := 0) (v := .int (v 1)) (C := RX0) (T := TX0) (N := 16) hx hb hw zinX0 hown hK hP 0 rfl rfl 1 (by decide) (hw _ zw383) (fun _ h9 => h9) rfl dX1_spell_11 ?_
    refine lv_icmp_ge (tgt := 26) hx hb dX1_spell_14 rfl (fun cd3 => ?_) (fun cd3 => ?_)
    · replace hm := zt cd3 hm
      refine lv_bipush (v := 32) hx hb dX1_spell_26 (by decide) ?_
      exact b_F_spell_E_28 G0 hK hX rec hrec _ _ _ _ _ hm H _ _ hP hD hS hl
    · replace hm := zf cd3 hm
      refine lv_aload_n hx hb dX1_spell_17 rfl (lv_at hl 0 rfl) ?_
      refine va_get (D := D) (ci := 0) (v := .ref bE) (C := RX0) (T := TX0) (N := 16) hx hb hw zinX0 hown hK hP 0 rfl rfl 0 (by decide) (hw _ zw396) (fun _ h9 => h9) rfl dX1_spell_18 ?_
      refine lv_iload_n hx hb dX1_spell_21 rfl (lv_at hl 3 rfl) ?_
      obtain ⟨hi5, hm⟩ := zix_s hm
      refine va_iald (i := x3) (f := b) (n := 25) hx hb hK hP 1 0 rfl rfl hi5 dX1_spell_22 ?_
      refine lv_goto (tgt := 28) hx hb dX1_spell_23 rfl ?_
      exact b_F_spell_E_28 G0 hK hX rec hrec _ _ _ _ _ hm H _ _ hP hD hS hl
end
set_option maxRecDepth 100000 in
set_option maxHeartbeats 4000000 in
theorem k_F_spell_E (l : Launch) (D : va_G) (aE bE rE pE bX : Nat) (c1 c2 c3 cx : ClassId) (sz : Nat) (a1 : Int32) (v : Nat → Int32) (b : Nat → Int32) (rw : Nat → Int32) (pw : Nat → Int32) (bx : Nat → Int32) (res : (Int32) × (Nat → Int32)) (hm : m_F_spell_E a1 v b rw pw bx  = some res) : Met l yX1_spell (Cond.code yX1_spell cX1_spell 4 (some .boolean) :: zBIG) (zR 0 0) (va_Pc [.ref aE, .ref bX, .int a1] (zP zC D vwCl (wEB_t c1 c2 c3 cx) (wEB aE bE rE pE bX c1 c2 c3 cx v b rw pw bx) sz)) (zQi D vwCl (wEB aE bE rE pE bX c1 c2 c3 cx v b rw pw bx) (wEB aE bE rE pE bX c1 c2 c3 cx v b rw pw res.2) sz res.1) 0 0 (va_A (wEB aE bE rE pE bX c1 c2 c3 cx v b rw pw bx) sz) := by
  refine zEnter RX1 [.ref aE, .ref bX, .int a1] (by decide) rfl (Nat.le_of_ble_eq_true rfl) (fun p e s m below meth c ls G hK hX hP hD hsz hl => ?_)
  subst hsz
  unfold m_F_spell_E at hm
  have hl : lv_has ls 4 [(0, .ref aE), (1, .ref bX), (2, .int a1)] := hl
  have hS : va_S (va_A (wEB aE bE rE pE bX c1 c2 c3 cx v b rw pw bx) s.heap.size) s.heap s.heap [] := va_S.rf
  have hA : ∀ q, s.heap.size ≤ q → va_A (wEB aE bE rE pE bX c1 c2 c3 cx v b rw pw bx) s.heap.size q := fun q h => Or.inr h
  have G0 := G
  obtain ⟨hx, hb, hr, hml, hown, hw, hlk⟩ := G
  refine lv_iconst (v := 0) hx hb dX1_spell_0 (by decide) ?_
  refine lv_istore_n (lv' := [(3, .int 0), (0, .ref aE), (1, .ref bX), (2, .int a1)]) hx hb dX1_spell_1 rfl hl (by decide) rfl (fun ls hl => ?_)
  exact b_F_spell_E_2 G0 hK hX 64 _ _ _ hm _ _ _ hP hD hS (lv_sub hl [1, 2, 3, 0] rfl)

def m_F_spell_TT_28 (v : Nat → Int32) (rec : Int32 → Int32 → (Nat → Int32) → Option ((Int32) × (Nat → Int32))) (x2 : Int32) (x3 : Int32) (t0 : Int32) (t1 : Int32) (b : Nat → Int32) : Option ((Int32) × (Nat → Int32)) := zix t1 25 (rec x2 (x3 + 1) (upd b t1.toNatClampNeg t0))
def m_F_spell_TT_2b (v : Nat → Int32) (rec : Int32 → Int32 → (Nat → Int32) → Option ((Int32) × (Nat → Int32))) (x2 : Int32) (x3 : Int32) (b : Nat → Int32) : Option ((Int32) × (Nat → Int32)) := (if x2 ≤ x3 then (zbo 1 (some (1, b))) else (if (v 1) ≤ x3 then m_F_spell_TT_28 v rec x2 x3 32 x3 b else zix x3 25 (m_F_spell_TT_28 v rec x2 x3 (b x3.toNatClampNeg) x3 b)))
def m_F_spell_TT_2 (v : Nat → Int32) : Nat → Int32 → Int32 → (Nat → Int32) → Option ((Int32) × (Nat → Int32))
  | 0 => fun _ _ _ => none
  | n + 1 => fun x2 x3 b => m_F_spell_TT_2b v (m_F_spell_TT_2 v n) x2 x3 b
def m_F_spell_TT (a1 : Int32) (v : Nat → Int32) (b : Nat → Int32)  : Option ((Int32) × (Nat → Int32)) := m_F_spell_TT_2 v 64 a1 0 b
section
variable {p : Program} {l : Launch} {e : Env} {s : State} {m : MethodId} {args : Array Value} {below : List Frame} {meth : Method} {c : Code} {D : va_G} {w0 : va_W} {aT bT : Nat} {c1 : ClassId} {v : Nat → Int32}
set_option maxRecDepth 100000 in
set_option maxHeartbeats 4000000 in
theorem b_F_spell_TT_28 (G : zG p s m args meth c cX1_spell RX1 4 (some .boolean)) (hK : va_K D vwCl (wT_t c1) s) (hX : zC (va_A w0 s.heap.size) s) {res : (Int32) × (Nat → Int32)} (rec : Int32 → Int32 → (Nat → Int32) → Option ((Int32) × (Nat → Int32))) (hrec : ∀ (x2 : Int32) (x3 : Int32) (b : Nat → Int32), rec x2 x3 b = some res → zB p l e (zR 0 0) s m args below meth c D vwCl (va_A w0 s.heap.size) (MQ below (zQi D vwCl w0 (wT aT bT c1 v res.2) s.heap.size res.1) args s 0 0 (va_A w0 s.heap.size)) 4 (wT aT bT c1 v b) [(0, .ref aT), (1, .ref bT), (2, .int x2), (3, .int x3)] 2 []) : ∀ (x2 : Int32) (x3 : Int32) (t0 : Int32) (t1 : Int32) (b : Nat → Int32), m_F_spell_TT_28 v rec x2 x3 t0 t1 b = some res → zB p l e (zR 0 0) s m args below meth c D vwCl (va_A w0 s.heap.size) (MQ below (zQi D vwCl w0 (wT aT bT c1 v res.2) s.heap.size res.1) args s 0 0 (va_A w0 s.heap.size)) 4 (wT aT bT c1 v b) [(0, .ref aT), (1, .ref bT), (2, .int x2), (3, .int x3)] 28 [.int t0, .int t1, .ref bT] := by
  intro x2 x3 t0 t1 b hm H locs ls hP hD hS hl
  unfold m_F_spell_TT_28 at hm
  have G0 := G
  obtain ⟨hx, hb, hr, hml, hown, hw, hlk⟩ := G
  have hA : ∀ q, s.heap.size ≤ q → va_A w0 s.heap.size q := fun q h => Or.inr h
  obtain ⟨hi4, hm⟩ := zix_s hm
  refine va_iast (i := t1) (x := t0) (f := b) (n := 25) hx hb hK hP hD hS 1 0 rfl rfl hi4 dX1_spell_28 (fun H locs hP hD hS => ?_)
  have hP : va_P D vwCl (wT aT bT c1 v (upd b t1.toNatClampNeg t0)) H := hP
  have hD : va_D _ (wT aT bT c1 v (upd b t1.toNatClampNeg t0)) := hD
  refine lv_iinc (k := 3) (v := (x3 + 1)) (lv' := [(3, .int (x3 + 1)), (0, .ref aT), (1, .ref bT), (2, .int x2)]) hx hb dX1_spell_29 hl rfl rfl (by decide) rfl (fun ls hl => ?_)
  refine lv_goto (tgt := 2) hx hb dX1_spell_32 rfl ?_
  exact hrec _ _ _ hm H _ _ hP hD hS (lv_sub hl [1, 2, 3, 0] rfl)
set_option maxRecDepth 100000 in
set_option maxHeartbeats 4000000 in
theorem b_F_spell_TT_2 (G : zG p s m args meth c cX1_spell RX1 4 (some .boolean)) (hK : va_K D vwCl (wT_t c1) s) (hX : zC (va_A w0 s.heap.size) s) {res : (Int32) × (Nat → Int32)} : ∀ n : Nat, ∀ (x2 : Int32) (x3 : Int32) (b : Nat → Int32), m_F_spell_TT_2 v n x2 x3 b = some res → zB p l e (zR 0 0) s m args below meth c D vwCl (va_A w0 s.heap.size) (MQ below (zQi D vwCl w0 (wT aT bT c1 v res.2) s.heap.size res.1) args s 0 0 (va_A w0 s.heap.size)) 4 (wT aT bT c1 v b) [(0, .ref aT), (1, .ref bT), (2, .int x2), (3, .int x3)] 2 [] := by
  intro n
  induction n with
  | zero => intro x2 x3 b hm; cases hm
  | succ n ih =>
  have hrec := ih
  intro x2 x3 b hm H locs ls hP hD hS hl
  replace hm : m_F_spell_TT_2b v (m_F_spell_TT_2 v n) x2 x3 b = some res := hm
  generalize m_F_spell_TT_2 v n = rec at hm hrec
  unfold m_F_spell_TT_2b at hm
  clear ih
  have G0 := G
  obtain ⟨hx, hb, hr, hml, hown, hw, hlk⟩ := G
  have hA : ∀ q, s.heap.size ≤ q → va_A w0 s.heap.size q := fun q h => Or.inr h
  refine lv_iload_n hx hb dX1_spell_2 rfl (lv_at hl 3 rfl) ?_
  refine lv_iload_n hx hb dX1_spell_3 rfl (lv_at hl 2 rfl) ?_
  refine lv_icmp_ge (tgt := 35) hx hb dX1_spell_4 rfl (fun cd1 => ?_) (fun cd1 => ?_)
  · replace hm := zt cd1 hm
    refine lv_iconst (v := 1) hx hb dX1_spell_35 (by decide) ?_
    obtain ⟨hz2, -, hm⟩ := zbo_s hm
    cases hm
    exact zretz hx hb hr hlk hz2 hP hD hS dX1_spell_36
  · replace hm := zf cd1 hm
    refine lv_aload_n hx hb dX1_spell_7 rfl (lv_at hl 1 rfl) ?_
    refine lv_iload_n hx hb dX1_spell_8 rfl (lv_at hl 3 rfl) ?_
    refine lv_iload_n hx hb dX1_spell_9 rfl (lv_at hl 3 rfl) ?_
    refine lv_aload_n hx hb dX1_spell_10 rfl (lv_at hl 0 rfl) ?_
    refine va_get (D := D) (ci := 3) (v := .int (v 1)) (C := RX4) (T := TX4) (N := 5) hx hb hw zinX4 hown hK hP 0 rfl rfl 1 (by decide) (hw _ zw383) (fun _ h9 => h9) rfl dX1_spell_11 ?_
    refine lv_icmp_ge (tgt := 26) hx hb dX1_spell_14 rfl (fun cd3 => ?_) (fun cd3 => ?_)
    · replace hm := zt cd3 hm
      refine lv_bipush (v := 32) hx hb dX1_spell_26 (by decide) ?_
      exact b_F_spell_TT_28 G0 hK hX rec hrec _ _ _ _ _ hm H _ _ hP hD hS hl
    · replace hm := zf cd3 hm
      refine lv_aload_n hx hb dX1_spell_17 rfl (lv_at hl 0 rfl) ?_
      refine va_get (D := D) (ci := 3) (v := .ref bT) (C := RX4) (T := TX4) (N := 5) hx hb hw zinX4 hown hK hP 0 rfl rfl 0 (by decide) (hw _ zw396) (fun _ h9 => h9) rfl dX1_spell_18 ?_
      refine lv_iload_n hx hb dX1_spell_21 rfl (lv_at hl 3 rfl) ?_
      obtain ⟨hi5, hm⟩ := zix_s hm
      refine va_iald (i := x3) (f := b) (n := 25) hx hb hK hP 1 0 rfl rfl hi5 dX1_spell_22 ?_
      refine lv_goto (tgt := 28) hx hb dX1_spell_23 rfl ?_
      exact b_F_spell_TT_28 G0 hK hX rec hrec _ _ _ _ _ hm H _ _ hP hD hS hl
end
set_option maxRecDepth 100000 in
set_option maxHeartbeats 4000000 in
theorem k_F_spell_TT (l : Launch) (D : va_G) (aT bT : Nat) (c1 : ClassId) (sz : Nat) (a1 : Int32) (v : Nat → Int32) (b : Nat → Int32) (res : (Int32) × (Nat → Int32)) (hm : m_F_spell_TT a1 v b  = some res) : Met l yX1_spell (Cond.code yX1_spell cX1_spell 4 (some .boolean) :: zBIG) (zR 0 0) (va_Pc [.ref aT, .ref bT, .int a1] (zP zC D vwCl (wT_t c1) (wT aT bT c1 v b) sz)) (zQi D vwCl (wT aT bT c1 v b) (wT aT bT c1 v res.2) sz res.1) 0 0 (va_A (wT aT bT c1 v b) sz) := by
  refine zEnter RX1 [.ref aT, .ref bT, .int a1] (by decide) rfl (Nat.le_of_ble_eq_true rfl) (fun p e s m below meth c ls G hK hX hP hD hsz hl => ?_)
  subst hsz
  unfold m_F_spell_TT at hm
  have hl : lv_has ls 4 [(0, .ref aT), (1, .ref bT), (2, .int a1)] := hl
  have hS : va_S (va_A (wT aT bT c1 v b) s.heap.size) s.heap s.heap [] := va_S.rf
  have hA : ∀ q, s.heap.size ≤ q → va_A (wT aT bT c1 v b) s.heap.size q := fun q h => Or.inr h
  have G0 := G
  obtain ⟨hx, hb, hr, hml, hown, hw, hlk⟩ := G
  refine lv_iconst (v := 0) hx hb dX1_spell_0 (by decide) ?_
  refine lv_istore_n (lv' := [(3, .int 0), (0, .ref aT), (1, .ref bT), (2, .int a1)]) hx hb dX1_spell_1 rfl hl (by decide) rfl (fun ls hl => ?_)
  exact b_F_spell_TT_2 G0 hK hX 64 _ _ _ hm _ _ _ hP hD hS (lv_sub hl [1, 2, 3, 0] rfl)

theorem dX1_takeField_0 : decode cX1_takeField 0 = .ok (.aload_n 0, 1) := by decide +kernel
theorem dX1_takeField_1 : decode cX1_takeField 1 = .ok (.aload_n 1, 1) := by decide +kernel
theorem dX1_takeField_2 : decode cX1_takeField 2 = .ok (.invokevirtual 15, 3) := by decide +kernel
theorem dX1_takeField_5 : decode cX1_takeField 5 = .ok (.aload_n 1, 1) := by decide +kernel
theorem dX1_takeField_6 : decode cX1_takeField 6 = .ok (.getfield 19, 3) := by decide +kernel
theorem dX1_takeField_9 : decode cX1_takeField 9 = .ok (.invokevirtual 23, 3) := by decide +kernel
theorem dX1_takeField_12 : decode cX1_takeField 12 = .ok (.ireturn, 1) := by decide +kernel
def m_F_takeField_N  (v : Nat → Int32) (b : Nat → Int32)  : Option ((Int32) × (Nat → Int32)) := (m_N_number v b).bind (fun q1 => (m_N_takeNumber q1 (v 3) v b).bind (fun q2 => (zbo q2.1 (some (q2.1, q2.2)))))
section
variable {p : Program} {l : Launch} {e : Env} {s : State} {m : MethodId} {args : Array Value} {below : List Frame} {meth : Method} {c : Code} {D : va_G} {w0 : va_W} {aN bN : Nat} {c1 : ClassId} {v : Nat → Int32}
end
set_option maxRecDepth 100000 in
set_option maxHeartbeats 4000000 in
theorem k_F_takeField_N (l : Launch) (D : va_G) (aN bN : Nat) (c1 : ClassId) (sz : Nat)  (v : Nat → Int32) (b : Nat → Int32) (res : (Int32) × (Nat → Int32)) (hm : m_F_takeField_N  v b  = some res) : Met l yX1_takeField (Cond.code yX1_takeField cX1_takeField 2 (some .boolean) :: zBIG) (zR 3 71) (va_Pc [.ref aN, .ref aN] (zP zC D vwCl (wN_t c1) (wN aN bN c1 v b) sz)) (zQi D vwCl (wN aN bN c1 v b) (wN aN bN c1 v res.2) sz res.1) 0 0 (va_A (wN aN bN c1 v b) sz) := by
  refine zEnter RX1 [.ref aN, .ref aN] (by decide) rfl (Nat.le_of_ble_eq_true rfl) (fun p e s m below meth c ls G hK hX hP hD hsz hl => ?_)
  subst hsz
  unfold m_F_takeField_N at hm
  have hl : lv_has ls 2 [(0, .ref aN), (1, .ref aN)] := hl
  have hS : va_S (va_A (wN aN bN c1 v b) s.heap.size) s.heap s.heap [] := va_S.rf
  have hA : ∀ q, s.heap.size ≤ q → va_A (wN aN bN c1 v b) s.heap.size q := fun q h => Or.inr h
  have G0 := G
  obtain ⟨hx, hb, hr, hml, hown, hw, hlk⟩ := G
  refine lv_aload_n hx hb dX1_takeField_0 rfl (lv_at hl 0 rfl) ?_
  refine lv_aload_n hx hb dX1_takeField_1 rfl (lv_at hl 1 rfl) ?_
  obtain ⟨q1, hq1, hm⟩ := zbind hm
  refine zbWl (va_runU (As := []) (rest := [.ref aN]) ⟨hx, hb, hml, hown, hw⟩ (k_N_number l D aN bN c1 _ v b  q1 hq1) (va_cwA (C := RX2) (owner := RX1) (x := ⟨RX1, "number", "()J"⟩) 0 hw (zgoodL (List.forall_mem_cons.mpr ⟨zw397, List.forall_mem_cons.mpr ⟨zw398, List.forall_mem_cons.mpr ⟨zw399, List.forall_mem_cons.mpr ⟨zw393, List.forall_mem_cons.mpr ⟨zw210, fun _ h => absurd h List.not_mem_nil⟩⟩⟩⟩⟩) zw392) rfl rfl rfl (hX.1 _ zn12) (by decide +kernel) ⟨Nat.le_of_ble_eq_true rfl, Nat.le_of_ble_eq_true rfl⟩) (zpreV (zpre zC_ok hX hS (zfree hD hS hA) hP hK hD) (va_recv hK hP rfl (q0 := 0) rfl)) rfl rfl hl.1 rfl (lv_room (Nat.le_of_ble_eq_true rfl)) dX1_takeField_2 ⟨Nat.zero_le _, Nat.zero_le _⟩) hS (zfree hD hS hA) (fun H locs hP hD hS => ?_)
  refine lv_aload_n hx hb dX1_takeField_5 rfl (lv_at hl 1 rfl) ?_
  refine va_get (D := D) (ci := 1) (v := .int (v 3)) (C := RX2) (T := TX2) (N := 8) hx hb hw zinX2 hown hK hP 0 rfl rfl 3 (by decide) (hw _ zw400) (fun _ h9 => h9) rfl dX1_takeField_6 ?_
  obtain ⟨q2, hq2, hm⟩ := zbind hm
  refine zbWi (va_runU (As := [.long q1, .int (v 3)]) (rest := []) ⟨hx, hb, hml, hown, hw⟩ (k_N_takeNumber l D aN bN c1 _ q1 (v 3) v b  q2 hq2) (va_cwA (C := RX2) (owner := RX1) (x := ⟨RX1, "takeNumber", "(JI)Z"⟩) 2 hw (zgoodL (List.forall_mem_cons.mpr ⟨zw386, List.forall_mem_cons.mpr ⟨zw387, List.forall_mem_cons.mpr ⟨zw388, List.forall_mem_cons.mpr ⟨zw385, List.forall_mem_cons.mpr ⟨zw210, fun _ h => absurd h List.not_mem_nil⟩⟩⟩⟩⟩) zw384) rfl rfl rfl (hX.1 _ zn11) (by decide +kernel) ⟨Nat.le_of_ble_eq_true rfl, Nat.le_of_ble_eq_true rfl⟩) (zpreV (zpre zC_ok hX hS (zfree hD hS hA) hP hK hD) (va_recv hK hP rfl (q0 := 0) rfl)) rfl rfl hl.1 rfl (lv_room (Nat.le_of_ble_eq_true rfl)) dX1_takeField_9 ⟨Nat.zero_le _, Nat.zero_le _⟩) hS (zfree hD hS hA) (fun H locs hP hD hS => ?_)
  have hP : va_P D vwCl (wN aN bN c1 v q2.2) H := hP
  have hD : va_D _ (wN aN bN c1 v q2.2) := hD
  obtain ⟨hz3, -, hm⟩ := zbo_s hm
  cases hm
  exact zretz hx hb hr hlk hz3 hP hD hS dX1_takeField_12

def m_F_takeField_NN  (v : Nat → Int32) (b : Nat → Int32) (v2 : Nat → Int32) (b2 : Nat → Int32)  : Option ((Int32) × (Nat → Int32)) := (m_N_number v2 b2).bind (fun q1 => (m_N_takeNumber q1 (v2 3) v b).bind (fun q2 => (zbo q2.1 (some (q2.1, q2.2)))))
section
variable {p : Program} {l : Launch} {e : Env} {s : State} {m : MethodId} {args : Array Value} {below : List Frame} {meth : Method} {c : Code} {D : va_G} {w0 : va_W} {aN bN aN2 bN2 : Nat} {c1 c12 : ClassId} {v : Nat → Int32} {v2 : Nat → Int32} {b2 : Nat → Int32}
end
set_option maxRecDepth 100000 in
set_option maxHeartbeats 4000000 in
theorem k_F_takeField_NN (l : Launch) (D : va_G) (aN bN aN2 bN2 : Nat) (c1 c12 : ClassId) (sz : Nat)  (v : Nat → Int32) (b : Nat → Int32) (v2 : Nat → Int32) (b2 : Nat → Int32) (res : (Int32) × (Nat → Int32)) (hm : m_F_takeField_NN  v b v2 b2  = some res) : Met l yX1_takeField (Cond.code yX1_takeField cX1_takeField 2 (some .boolean) :: zBIG) (zR 3 71) (va_Pc [.ref aN, .ref aN2] (zP zC D vwCl (wNN2_t c1 c12) (wNN2 aN bN aN2 bN2 c1 c12 v b v2 b2) sz)) (zQi D vwCl (wNN2 aN bN aN2 bN2 c1 c12 v b v2 b2) (wNN2 aN bN aN2 bN2 c1 c12 v res.2 v2 b2) sz res.1) 0 0 (va_A (wNN2 aN bN aN2 bN2 c1 c12 v b v2 b2) sz) := by
  refine zEnter RX1 [.ref aN, .ref aN2] (by decide) rfl (Nat.le_of_ble_eq_true rfl) (fun p e s m below meth c ls G hK hX hP hD hsz hl => ?_)
  subst hsz
  unfold m_F_takeField_NN at hm
  have hl : lv_has ls 2 [(0, .ref aN), (1, .ref aN2)] := hl
  have hS : va_S (va_A (wNN2 aN bN aN2 bN2 c1 c12 v b v2 b2) s.heap.size) s.heap s.heap [] := va_S.rf
  have hA : ∀ q, s.heap.size ≤ q → va_A (wNN2 aN bN aN2 bN2 c1 c12 v b v2 b2) s.heap.size q := fun q h => Or.inr h
  have G0 := G
  obtain ⟨hx, hb, hr, hml, hown, hw, hlk⟩ := G
  refine lv_aload_n hx hb dX1_takeField_0 rfl (lv_at hl 0 rfl) ?_
  refine lv_aload_n hx hb dX1_takeField_1 rfl (lv_at hl 1 rfl) ?_
  obtain ⟨q1, hq1, hm⟩ := zbind hm
  have hPc := hP.sub (ws' := (wN aN2 bN2 c12 v2 b2)) [2, 3] rfl
  have hDc := hD.sub (ws' := (wN aN2 bN2 c12 v2 b2)) [2, 3] (by decide) rfl
  have hKc := hK.sub (tys' := wN_t c12) [1] rfl
  have hFc := va_free (wc := (wN aN2 bN2 c12 v2 b2)) hD hS hA [2, 3] rfl
  refine zbSl (wr := [(aN, .inr (1, [.ref bN, .int (v 1), .int (v 2), .int (v 3), .int (v 4), .int (v 5), .int (v 6), .int (v 7)])), (bN, .inl (c1, 25, .inl b))]) (w1 := (wN aN2 bN2 c12 v2 b2)) (w' := (wNN2 aN bN aN2 bN2 c1 c12 v b v2 b2)) (va_runU (As := []) (rest := [.ref aN]) ⟨hx, hb, hml, hown, hw⟩ (k_N_number l D aN2 bN2 c12 _ v2 b2  q1 hq1) (va_cwA (C := RX2) (owner := RX1) (x := ⟨RX1, "number", "()J"⟩) 0 hw (zgoodL (List.forall_mem_cons.mpr ⟨zw397, List.forall_mem_cons.mpr ⟨zw398, List.forall_mem_cons.mpr ⟨zw399, List.forall_mem_cons.mpr ⟨zw393, List.forall_mem_cons.mpr ⟨zw210, fun _ h => absurd h List.not_mem_nil⟩⟩⟩⟩⟩) zw392) rfl rfl rfl (hX.1 _ zn12) (by decide +kernel) ⟨Nat.le_of_ble_eq_true rfl, Nat.le_of_ble_eq_true rfl⟩) (zpreV (zpre zC_ok hX hS hFc hPc hKc hDc) (va_recv hK hP rfl (q0 := 2) rfl)) rfl rfl hl.1 rfl (lv_room (Nat.le_of_ble_eq_true rfl)) dX1_takeField_2 ⟨Nat.zero_le _, Nat.zero_le _⟩) hP hD hS hFc [2, 3] [0, 1] [0, 1, 2, 3] rfl rfl (by decide) (by decide) rfl (by decide) (fun H locs hP hD hS => ?_)
  refine lv_aload_n hx hb dX1_takeField_5 rfl (lv_at hl 1 rfl) ?_
  refine va_get (D := D) (ci := 1) (v := .int (v2 3)) (C := RX2) (T := TX2) (N := 8) hx hb hw zinX2 hown hK hP 2 rfl rfl 3 (by decide) (hw _ zw400) (fun _ h9 => h9) rfl dX1_takeField_6 ?_
  obtain ⟨q2, hq2, hm⟩ := zbind hm
  have hPc := hP.sub (ws' := (wN aN bN c1 v b)) [0, 1] rfl
  have hDc := hD.sub (ws' := (wN aN bN c1 v b)) [0, 1] (by decide) rfl
  have hKc := hK.sub (tys' := wN_t c1) [0] rfl
  have hFc := va_free (wc := (wN aN bN c1 v b)) hD hS hA [0, 1] rfl
  refine zbSi (wr := [(aN2, .inr (1, [.ref bN2, .int (v2 1), .int (v2 2), .int (v2 3), .int (v2 4), .int (v2 5), .int (v2 6), .int (v2 7)])), (bN2, .inl (c12, 25, .inl b2))]) (w1 := (wN aN bN c1 v q2.2)) (w' := (wNN2 aN bN aN2 bN2 c1 c12 v q2.2 v2 b2)) (va_runU (As := [.long q1, .int (v2 3)]) (rest := []) ⟨hx, hb, hml, hown, hw⟩ (k_N_takeNumber l D aN bN c1 _ q1 (v2 3) v b  q2 hq2) (va_cwA (C := RX2) (owner := RX1) (x := ⟨RX1, "takeNumber", "(JI)Z"⟩) 2 hw (zgoodL (List.forall_mem_cons.mpr ⟨zw386, List.forall_mem_cons.mpr ⟨zw387, List.forall_mem_cons.mpr ⟨zw388, List.forall_mem_cons.mpr ⟨zw385, List.forall_mem_cons.mpr ⟨zw210, fun _ h => absurd h List.not_mem_nil⟩⟩⟩⟩⟩) zw384) rfl rfl rfl (hX.1 _ zn11) (by decide +kernel) ⟨Nat.le_of_ble_eq_true rfl, Nat.le_of_ble_eq_true rfl⟩) (zpreV (zpre zC_ok hX hS hFc hPc hKc hDc) (va_recv hK hP rfl (q0 := 0) rfl)) rfl rfl hl.1 rfl (lv_room (Nat.le_of_ble_eq_true rfl)) dX1_takeField_9 ⟨Nat.zero_le _, Nat.zero_le _⟩) hP hD hS hFc [0, 1] [2, 3] [2, 3, 0, 1] rfl rfl (by decide) (by decide) rfl (by decide) (fun H locs hP hD hS => ?_)
  obtain ⟨hz3, -, hm⟩ := zbo_s hm
  cases hm
  exact zretz hx hb hr hlk hz3 hP hD hS dX1_takeField_12

def m_F_takeField_NT  (v : Nat → Int32) (b : Nat → Int32) (v2 : Nat → Int32) (b2 : Nat → Int32)  : Option ((Int32) × (Nat → Int32)) := (m_T_number v2 b2).bind (fun q1 => (m_N_takeNumber q1 (v2 3) v b).bind (fun q2 => (zbo q2.1 (some (q2.1, q2.2)))))
section
variable {p : Program} {l : Launch} {e : Env} {s : State} {m : MethodId} {args : Array Value} {below : List Frame} {meth : Method} {c : Code} {D : va_G} {w0 : va_W} {aN bN aT2 bT2 : Nat} {c1 c12 : ClassId} {v : Nat → Int32} {v2 : Nat → Int32} {b2 : Nat → Int32}
end
set_option maxRecDepth 100000 in
set_option maxHeartbeats 4000000 in
theorem k_F_takeField_NT (l : Launch) (D : va_G) (aN bN aT2 bT2 : Nat) (c1 c12 : ClassId) (sz : Nat)  (v : Nat → Int32) (b : Nat → Int32) (v2 : Nat → Int32) (b2 : Nat → Int32) (res : (Int32) × (Nat → Int32)) (hm : m_F_takeField_NT  v b v2 b2  = some res) : Met l yX1_takeField (Cond.code yX1_takeField cX1_takeField 2 (some .boolean) :: zBIG) (zR 3 71) (va_Pc [.ref aN, .ref aT2] (zP zC D vwCl (wNT2_t c1 c12) (wNT2 aN bN aT2 bT2 c1 c12 v b v2 b2) sz)) (zQi D vwCl (wNT2 aN bN aT2 bT2 c1 c12 v b v2 b2) (wNT2 aN bN aT2 bT2 c1 c12 v res.2 v2 b2) sz res.1) 0 0 (va_A (wNT2 aN bN aT2 bT2 c1 c12 v b v2 b2) sz) := by
  refine zEnter RX1 [.ref aN, .ref aT2] (by decide) rfl (Nat.le_of_ble_eq_true rfl) (fun p e s m below meth c ls G hK hX hP hD hsz hl => ?_)
  subst hsz
  unfold m_F_takeField_NT at hm
  have hl : lv_has ls 2 [(0, .ref aN), (1, .ref aT2)] := hl
  have hS : va_S (va_A (wNT2 aN bN aT2 bT2 c1 c12 v b v2 b2) s.heap.size) s.heap s.heap [] := va_S.rf
  have hA : ∀ q, s.heap.size ≤ q → va_A (wNT2 aN bN aT2 bT2 c1 c12 v b v2 b2) s.heap.size q := fun q h => Or.inr h
  have G0 := G
  obtain ⟨hx, hb, hr, hml, hown, hw, hlk⟩ := G
  refine lv_aload_n hx hb dX1_takeField_0 rfl (lv_at hl 0 rfl) ?_
  refine lv_aload_n hx hb dX1_takeField_1 rfl (lv_at hl 1 rfl) ?_
  obtain ⟨q1, hq1, hm⟩ := zbind hm
  have hPc := hP.sub (ws' := (wT aT2 bT2 c12 v2 b2)) [2, 3] rfl
  have hDc := hD.sub (ws' := (wT aT2 bT2 c12 v2 b2)) [2, 3] (by decide) rfl
  have hKc := hK.sub (tys' := wT_t c12) [1] rfl
  have hFc := va_free (wc := (wT aT2 bT2 c12 v2 b2)) hD hS hA [2, 3] rfl
  refine zbSl (wr := [(aN, .inr (1, [.ref bN, .int (v 1), .int (v 2), .int (v 3), .int (v 4), .int (v 5), .int (v 6), .int (v 7)])), (bN, .inl (c1, 25, .inl b))]) (w1 := (wT aT2 bT2 c12 v2 b2)) (w' := (wNT2 aN bN aT2 bT2 c1 c12 v b v2 b2)) (va_runU (As := []) (rest := [.ref aN]) ⟨hx, hb, hml, hown, hw⟩ (k_T_number l D aT2 bT2 c12 _ v2 b2  q1 hq1) (va_cwA (C := RX4) (owner := RX1) (x := ⟨RX1, "number", "()J"⟩) 0 hw (zgoodL (List.forall_mem_cons.mpr ⟨zw397, List.forall_mem_cons.mpr ⟨zw398, List.forall_mem_cons.mpr ⟨zw404, List.forall_mem_cons.mpr ⟨zw403, List.forall_mem_cons.mpr ⟨zw402, fun _ h => absurd h List.not_mem_nil⟩⟩⟩⟩⟩) zw401) rfl rfl rfl (hX.1 _ zn12) (by decide +kernel) ⟨Nat.le_of_ble_eq_true rfl, Nat.le_of_ble_eq_true rfl⟩) (zpreV (zpre zC_ok hX hS hFc hPc hKc hDc) (va_recv hK hP rfl (q0 := 2) rfl)) rfl rfl hl.1 rfl (lv_room (Nat.le_of_ble_eq_true rfl)) dX1_takeField_2 ⟨Nat.zero_le _, Nat.zero_le _⟩) hP hD hS hFc [2, 3] [0, 1] [0, 1, 2, 3] rfl rfl (by decide) (by decide) rfl (by decide) (fun H locs hP hD hS => ?_)
  refine lv_aload_n hx hb dX1_takeField_5 rfl (lv_at hl 1 rfl) ?_
  refine va_get (D := D) (ci := 3) (v := .int (v2 3)) (C := RX4) (T := TX4) (N := 5) hx hb hw zinX4 hown hK hP 2 rfl rfl 3 (by decide) (hw _ zw400) (fun _ h9 => h9) rfl dX1_takeField_6 ?_
  obtain ⟨q2, hq2, hm⟩ := zbind hm
  have hPc := hP.sub (ws' := (wN aN bN c1 v b)) [0, 1] rfl
  have hDc := hD.sub (ws' := (wN aN bN c1 v b)) [0, 1] (by decide) rfl
  have hKc := hK.sub (tys' := wN_t c1) [0] rfl
  have hFc := va_free (wc := (wN aN bN c1 v b)) hD hS hA [0, 1] rfl
  refine zbSi (wr := [(aT2, .inr (3, [.ref bT2, .int (v2 1), .int (v2 2), .int (v2 3), .int (v2 4)])), (bT2, .inl (c12, 25, .inl b2))]) (w1 := (wN aN bN c1 v q2.2)) (w' := (wNT2 aN bN aT2 bT2 c1 c12 v q2.2 v2 b2)) (va_runU (As := [.long q1, .int (v2 3)]) (rest := []) ⟨hx, hb, hml, hown, hw⟩ (k_N_takeNumber l D aN bN c1 _ q1 (v2 3) v b  q2 hq2) (va_cwA (C := RX2) (owner := RX1) (x := ⟨RX1, "takeNumber", "(JI)Z"⟩) 2 hw (zgoodL (List.forall_mem_cons.mpr ⟨zw386, List.forall_mem_cons.mpr ⟨zw387, List.forall_mem_cons.mpr ⟨zw388, List.forall_mem_cons.mpr ⟨zw385, List.forall_mem_cons.mpr ⟨zw210, fun _ h => absurd h List.not_mem_nil⟩⟩⟩⟩⟩) zw384) rfl rfl rfl (hX.1 _ zn11) (by decide +kernel) ⟨Nat.le_of_ble_eq_true rfl, Nat.le_of_ble_eq_true rfl⟩) (zpreV (zpre zC_ok hX hS hFc hPc hKc hDc) (va_recv hK hP rfl (q0 := 0) rfl)) rfl rfl hl.1 rfl (lv_room (Nat.le_of_ble_eq_true rfl)) dX1_takeField_9 ⟨Nat.zero_le _, Nat.zero_le _⟩) hP hD hS hFc [0, 1] [2, 3] [2, 3, 0, 1] rfl rfl (by decide) (by decide) rfl (by decide) (fun H locs hP hD hS => ?_)
  obtain ⟨hz3, -, hm⟩ := zbo_s hm
  cases hm
  exact zretz hx hb hr hlk hz3 hP hD hS dX1_takeField_12

def m_F_takeField_NE  (v : Nat → Int32) (b : Nat → Int32) (v2 : Nat → Int32) (b2 : Nat → Int32) (rw2 : Nat → Int32) (pw2 : Nat → Int32)  : Option ((Int32) × (Nat → Int32)) := (m_E_number v2 b2 rw2 pw2).bind (fun q1 => (m_N_takeNumber q1 (v2 3) v b).bind (fun q2 => (zbo q2.1 (some (q2.1, q2.2)))))
section
variable {p : Program} {l : Launch} {e : Env} {s : State} {m : MethodId} {args : Array Value} {below : List Frame} {meth : Method} {c : Code} {D : va_G} {w0 : va_W} {aN bN aE2 bE2 rE2 pE2 : Nat} {c1 c12 c22 c32 : ClassId} {v : Nat → Int32} {v2 : Nat → Int32} {b2 : Nat → Int32} {rw2 : Nat → Int32} {pw2 : Nat → Int32}
end
set_option maxRecDepth 100000 in
set_option maxHeartbeats 4000000 in
theorem k_F_takeField_NE (l : Launch) (D : va_G) (aN bN aE2 bE2 rE2 pE2 : Nat) (c1 c12 c22 c32 : ClassId) (sz : Nat)  (v : Nat → Int32) (b : Nat → Int32) (v2 : Nat → Int32) (b2 : Nat → Int32) (rw2 : Nat → Int32) (pw2 : Nat → Int32) (res : (Int32) × (Nat → Int32)) (hm : m_F_takeField_NE  v b v2 b2 rw2 pw2  = some res) : Met l yX1_takeField (Cond.code yX1_takeField cX1_takeField 2 (some .boolean) :: zBIG) (zR 3 71) (va_Pc [.ref aN, .ref aE2] (zP zC D vwCl (wNE2_t c1 c12 c22 c32) (wNE2 aN bN aE2 bE2 rE2 pE2 c1 c12 c22 c32 v b v2 b2 rw2 pw2) sz)) (zQi D vwCl (wNE2 aN bN aE2 bE2 rE2 pE2 c1 c12 c22 c32 v b v2 b2 rw2 pw2) (wNE2 aN bN aE2 bE2 rE2 pE2 c1 c12 c22 c32 v res.2 v2 b2 rw2 pw2) sz res.1) 0 0 (va_A (wNE2 aN bN aE2 bE2 rE2 pE2 c1 c12 c22 c32 v b v2 b2 rw2 pw2) sz) := by
  refine zEnter RX1 [.ref aN, .ref aE2] (by decide) rfl (Nat.le_of_ble_eq_true rfl) (fun p e s m below meth c ls G hK hX hP hD hsz hl => ?_)
  subst hsz
  unfold m_F_takeField_NE at hm
  have hl : lv_has ls 2 [(0, .ref aN), (1, .ref aE2)] := hl
  have hS : va_S (va_A (wNE2 aN bN aE2 bE2 rE2 pE2 c1 c12 c22 c32 v b v2 b2 rw2 pw2) s.heap.size) s.heap s.heap [] := va_S.rf
  have hA : ∀ q, s.heap.size ≤ q → va_A (wNE2 aN bN aE2 bE2 rE2 pE2 c1 c12 c22 c32 v b v2 b2 rw2 pw2) s.heap.size q := fun q h => Or.inr h
  have G0 := G
  obtain ⟨hx, hb, hr, hml, hown, hw, hlk⟩ := G
  refine lv_aload_n hx hb dX1_takeField_0 rfl (lv_at hl 0 rfl) ?_
  refine lv_aload_n hx hb dX1_takeField_1 rfl (lv_at hl 1 rfl) ?_
  obtain ⟨q1, hq1, hm⟩ := zbind hm
  have hPc := hP.sub (ws' := (wE aE2 bE2 rE2 pE2 c12 c22 c32 v2 b2 rw2 pw2)) [2, 3, 4, 5] rfl
  have hDc := hD.sub (ws' := (wE aE2 bE2 rE2 pE2 c12 c22 c32 v2 b2 rw2 pw2)) [2, 3, 4, 5] (by decide) rfl
  have hKc := hK.sub (tys' := wE_t c12 c22 c32) [1, 2, 3] rfl
  have hFc := va_free (wc := (wE aE2 bE2 rE2 pE2 c12 c22 c32 v2 b2 rw2 pw2)) hD hS hA [2, 3, 4, 5] rfl
  refine zbSl (wr := [(aN, .inr (1, [.ref bN, .int (v 1), .int (v 2), .int (v 3), .int (v 4), .int (v 5), .int (v 6), .int (v 7)])), (bN, .inl (c1, 25, .inl b))]) (w1 := (wE aE2 bE2 rE2 pE2 c12 c22 c32 v2 b2 rw2 pw2)) (w' := (wNE2 aN bN aE2 bE2 rE2 pE2 c1 c12 c22 c32 v b v2 b2 rw2 pw2)) (va_runU (As := []) (rest := [.ref aN]) ⟨hx, hb, hml, hown, hw⟩ (k_E_number l D aE2 bE2 rE2 pE2 c12 c22 c32 _ v2 b2 rw2 pw2  q1 hq1) (va_cwA (C := RX0) (owner := RX1) (x := ⟨RX1, "number", "()J"⟩) 0 hw (zgoodL (List.forall_mem_cons.mpr ⟨zw397, List.forall_mem_cons.mpr ⟨zw398, List.forall_mem_cons.mpr ⟨zw407, List.forall_mem_cons.mpr ⟨zw406, List.forall_mem_cons.mpr ⟨zw259, fun _ h => absurd h List.not_mem_nil⟩⟩⟩⟩⟩) zw405) rfl rfl rfl (hX.1 _ zn12) (by decide +kernel) ⟨Nat.le_of_ble_eq_true rfl, Nat.le_of_ble_eq_true rfl⟩) (zpreV (zpre zC_ok hX hS hFc hPc hKc hDc) (va_recv hK hP rfl (q0 := 2) rfl)) rfl rfl hl.1 rfl (lv_room (Nat.le_of_ble_eq_true rfl)) dX1_takeField_2 ⟨Nat.zero_le _, Nat.zero_le _⟩) hP hD hS hFc [2, 3, 4, 5] [0, 1] [0, 1, 2, 3, 4, 5] rfl rfl (by decide) (by decide) rfl (by decide) (fun H locs hP hD hS => ?_)
  refine lv_aload_n hx hb dX1_takeField_5 rfl (lv_at hl 1 rfl) ?_
  refine va_get (D := D) (ci := 0) (v := .int (v2 3)) (C := RX0) (T := TX0) (N := 16) hx hb hw zinX0 hown hK hP 2 rfl rfl 3 (by decide) (hw _ zw400) (fun _ h9 => h9) rfl dX1_takeField_6 ?_
  obtain ⟨q2, hq2, hm⟩ := zbind hm
  have hPc := hP.sub (ws' := (wN aN bN c1 v b)) [0, 1] rfl
  have hDc := hD.sub (ws' := (wN aN bN c1 v b)) [0, 1] (by decide) rfl
  have hKc := hK.sub (tys' := wN_t c1) [0] rfl
  have hFc := va_free (wc := (wN aN bN c1 v b)) hD hS hA [0, 1] rfl
  refine zbSi (wr := [(aE2, .inr (0, [.ref bE2, .int (v2 1), .int (v2 2), .int (v2 3), .int (v2 4), .ref rE2, .ref pE2, .int (v2 7), .int (v2 8), .int (v2 9), .int (v2 10), .int (v2 11), .int (v2 12), .int (v2 13), .int (v2 14), .int (v2 15)])), (bE2, .inl (c12, 25, .inl b2)), (rE2, .inl (c22, 24, .inl rw2)), (pE2, .inl (c32, 24, .inl pw2))]) (w1 := (wN aN bN c1 v q2.2)) (w' := (wNE2 aN bN aE2 bE2 rE2 pE2 c1 c12 c22 c32 v q2.2 v2 b2 rw2 pw2)) (va_runU (As := [.long q1, .int (v2 3)]) (rest := []) ⟨hx, hb, hml, hown, hw⟩ (k_N_takeNumber l D aN bN c1 _ q1 (v2 3) v b  q2 hq2) (va_cwA (C := RX2) (owner := RX1) (x := ⟨RX1, "takeNumber", "(JI)Z"⟩) 2 hw (zgoodL (List.forall_mem_cons.mpr ⟨zw386, List.forall_mem_cons.mpr ⟨zw387, List.forall_mem_cons.mpr ⟨zw388, List.forall_mem_cons.mpr ⟨zw385, List.forall_mem_cons.mpr ⟨zw210, fun _ h => absurd h List.not_mem_nil⟩⟩⟩⟩⟩) zw384) rfl rfl rfl (hX.1 _ zn11) (by decide +kernel) ⟨Nat.le_of_ble_eq_true rfl, Nat.le_of_ble_eq_true rfl⟩) (zpreV (zpre zC_ok hX hS hFc hPc hKc hDc) (va_recv hK hP rfl (q0 := 0) rfl)) rfl rfl hl.1 rfl (lv_room (Nat.le_of_ble_eq_true rfl)) dX1_takeField_9 ⟨Nat.zero_le _, Nat.zero_le _⟩) hP hD hS hFc [0, 1] [2, 3, 4, 5] [4, 5, 0, 1, 2, 3] rfl rfl (by decide) (by decide) rfl (by decide) (fun H locs hP hD hS => ?_)
  obtain ⟨hz3, -, hm⟩ := zbo_s hm
  cases hm
  exact zretz hx hb hr hlk hz3 hP hD hS dX1_takeField_12

def m_F_takeField_E  (v : Nat → Int32) (b : Nat → Int32) (rw : Nat → Int32) (pw : Nat → Int32)  : Option ((Int32) × (Nat → Int32)) := (m_E_number v b rw pw).bind (fun q1 => (m_E_takeNumber q1 (v 3) v b rw pw).bind (fun q2 => (zbo q2.1 (some (q2.1, q2.2)))))
section
variable {p : Program} {l : Launch} {e : Env} {s : State} {m : MethodId} {args : Array Value} {below : List Frame} {meth : Method} {c : Code} {D : va_G} {w0 : va_W} {aE bE rE pE : Nat} {c1 c2 c3 : ClassId} {v : Nat → Int32} {rw : Nat → Int32} {pw : Nat → Int32}
end
set_option maxRecDepth 100000 in
set_option maxHeartbeats 4000000 in
theorem k_F_takeField_E (l : Launch) (D : va_G) (aE bE rE pE : Nat) (c1 c2 c3 : ClassId) (sz : Nat)  (v : Nat → Int32) (b : Nat → Int32) (rw : Nat → Int32) (pw : Nat → Int32) (res : (Int32) × (Nat → Int32)) (hm : m_F_takeField_E  v b rw pw  = some res) : Met l yX1_takeField (Cond.code yX1_takeField cX1_takeField 2 (some .boolean) :: zBIG) (zR 5 119) (va_Pc [.ref aE, .ref aE] (zP zC D vwCl (wE_t c1 c2 c3) (wE aE bE rE pE c1 c2 c3 v b rw pw) sz)) (zQi D vwCl (wE aE bE rE pE c1 c2 c3 v b rw pw) (wE aE bE rE pE c1 c2 c3 v res.2 rw pw) sz res.1) 0 0 (va_A (wE aE bE rE pE c1 c2 c3 v b rw pw) sz) := by
  refine zEnter RX1 [.ref aE, .ref aE] (by decide) rfl (Nat.le_of_ble_eq_true rfl) (fun p e s m below meth c ls G hK hX hP hD hsz hl => ?_)
  subst hsz
  unfold m_F_takeField_E at hm
  have hl : lv_has ls 2 [(0, .ref aE), (1, .ref aE)] := hl
  have hS : va_S (va_A (wE aE bE rE pE c1 c2 c3 v b rw pw) s.heap.size) s.heap s.heap [] := va_S.rf
  have hA : ∀ q, s.heap.size ≤ q → va_A (wE aE bE rE pE c1 c2 c3 v b rw pw) s.heap.size q := fun q h => Or.inr h
  have G0 := G
  obtain ⟨hx, hb, hr, hml, hown, hw, hlk⟩ := G
  refine lv_aload_n hx hb dX1_takeField_0 rfl (lv_at hl 0 rfl) ?_
  refine lv_aload_n hx hb dX1_takeField_1 rfl (lv_at hl 1 rfl) ?_
  obtain ⟨q1, hq1, hm⟩ := zbind hm
  refine zbWl (va_runU (As := []) (rest := [.ref aE]) ⟨hx, hb, hml, hown, hw⟩ (k_E_number l D aE bE rE pE c1 c2 c3 _ v b rw pw  q1 hq1) (va_cwA (C := RX0) (owner := RX1) (x := ⟨RX1, "number", "()J"⟩) 0 hw (zgoodL (List.forall_mem_cons.mpr ⟨zw397, List.forall_mem_cons.mpr ⟨zw398, List.forall_mem_cons.mpr ⟨zw407, List.forall_mem_cons.mpr ⟨zw406, List.forall_mem_cons.mpr ⟨zw259, fun _ h => absurd h List.not_mem_nil⟩⟩⟩⟩⟩) zw405) rfl rfl rfl (hX.1 _ zn12) (by decide +kernel) ⟨Nat.le_of_ble_eq_true rfl, Nat.le_of_ble_eq_true rfl⟩) (zpreV (zpre zC_ok hX hS (zfree hD hS hA) hP hK hD) (va_recv hK hP rfl (q0 := 0) rfl)) rfl rfl hl.1 rfl (lv_room (Nat.le_of_ble_eq_true rfl)) dX1_takeField_2 ⟨Nat.zero_le _, Nat.zero_le _⟩) hS (zfree hD hS hA) (fun H locs hP hD hS => ?_)
  refine lv_aload_n hx hb dX1_takeField_5 rfl (lv_at hl 1 rfl) ?_
  refine va_get (D := D) (ci := 0) (v := .int (v 3)) (C := RX0) (T := TX0) (N := 16) hx hb hw zinX0 hown hK hP 0 rfl rfl 3 (by decide) (hw _ zw400) (fun _ h9 => h9) rfl dX1_takeField_6 ?_
  obtain ⟨q2, hq2, hm⟩ := zbind hm
  refine zbWi (va_runU (As := [.long q1, .int (v 3)]) (rest := []) ⟨hx, hb, hml, hown, hw⟩ (k_E_takeNumber l D aE bE rE pE c1 c2 c3 _ q1 (v 3) v b rw pw  q2 hq2) (va_cwA (C := RX0) (owner := RX1) (x := ⟨RX1, "takeNumber", "(JI)Z"⟩) 2 hw (zgoodL (List.forall_mem_cons.mpr ⟨zw386, List.forall_mem_cons.mpr ⟨zw387, List.forall_mem_cons.mpr ⟨zw391, List.forall_mem_cons.mpr ⟨zw390, List.forall_mem_cons.mpr ⟨zw259, fun _ h => absurd h List.not_mem_nil⟩⟩⟩⟩⟩) zw389) rfl rfl rfl (hX.1 _ zn11) (by decide +kernel) ⟨Nat.le_of_ble_eq_true rfl, Nat.le_of_ble_eq_true rfl⟩) (zpreV (zpre zC_ok hX hS (zfree hD hS hA) hP hK hD) (va_recv hK hP rfl (q0 := 0) rfl)) rfl rfl hl.1 rfl (lv_room (Nat.le_of_ble_eq_true rfl)) dX1_takeField_9 ⟨Nat.zero_le _, Nat.zero_le _⟩) hS (zfree hD hS hA) (fun H locs hP hD hS => ?_)
  have hP : va_P D vwCl (wE aE bE rE pE c1 c2 c3 v q2.2 rw pw) H := hP
  have hD : va_D _ (wE aE bE rE pE c1 c2 c3 v q2.2 rw pw) := hD
  obtain ⟨hz3, -, hm⟩ := zbo_s hm
  cases hm
  exact zretz hx hb hr hlk hz3 hP hD hS dX1_takeField_12

def m_F_takeField_EN  (v : Nat → Int32) (b : Nat → Int32) (rw : Nat → Int32) (pw : Nat → Int32) (v2 : Nat → Int32) (b2 : Nat → Int32)  : Option ((Int32) × (Nat → Int32)) := (m_N_number v2 b2).bind (fun q1 => (m_E_takeNumber q1 (v2 3) v b rw pw).bind (fun q2 => (zbo q2.1 (some (q2.1, q2.2)))))
section
variable {p : Program} {l : Launch} {e : Env} {s : State} {m : MethodId} {args : Array Value} {below : List Frame} {meth : Method} {c : Code} {D : va_G} {w0 : va_W} {aE bE rE pE aN2 bN2 : Nat} {c1 c2 c3 c12 : ClassId} {v : Nat → Int32} {rw : Nat → Int32} {pw : Nat → Int32} {v2 : Nat → Int32} {b2 : Nat → Int32}
end
set_option maxRecDepth 100000 in
set_option maxHeartbeats 4000000 in
theorem k_F_takeField_EN (l : Launch) (D : va_G) (aE bE rE pE aN2 bN2 : Nat) (c1 c2 c3 c12 : ClassId) (sz : Nat)  (v : Nat → Int32) (b : Nat → Int32) (rw : Nat → Int32) (pw : Nat → Int32) (v2 : Nat → Int32) (b2 : Nat → Int32) (res : (Int32) × (Nat → Int32)) (hm : m_F_takeField_EN  v b rw pw v2 b2  = some res) : Met l yX1_takeField (Cond.code yX1_takeField cX1_takeField 2 (some .boolean) :: zBIG) (zR 5 119) (va_Pc [.ref aE, .ref aN2] (zP zC D vwCl (wEN2_t c1 c2 c3 c12) (wEN2 aE bE rE pE aN2 bN2 c1 c2 c3 c12 v b rw pw v2 b2) sz)) (zQi D vwCl (wEN2 aE bE rE pE aN2 bN2 c1 c2 c3 c12 v b rw pw v2 b2) (wEN2 aE bE rE pE aN2 bN2 c1 c2 c3 c12 v res.2 rw pw v2 b2) sz res.1) 0 0 (va_A (wEN2 aE bE rE pE aN2 bN2 c1 c2 c3 c12 v b rw pw v2 b2) sz) := by
  refine zEnter RX1 [.ref aE, .ref aN2] (by decide) rfl (Nat.le_of_ble_eq_true rfl) (fun p e s m below meth c ls G hK hX hP hD hsz hl => ?_)
  subst hsz
  unfold m_F_takeField_EN at hm
  have hl : lv_has ls 2 [(0, .ref aE), (1, .ref aN2)] := hl
  have hS : va_S (va_A (wEN2 aE bE rE pE aN2 bN2 c1 c2 c3 c12 v b rw pw v2 b2) s.heap.size) s.heap s.heap [] := va_S.rf
  have hA : ∀ q, s.heap.size ≤ q → va_A (wEN2 aE bE rE pE aN2 bN2 c1 c2 c3 c12 v b rw pw v2 b2) s.heap.size q := fun q h => Or.inr h
  have G0 := G
  obtain ⟨hx, hb, hr, hml, hown, hw, hlk⟩ := G
  refine lv_aload_n hx hb dX1_takeField_0 rfl (lv_at hl 0 rfl) ?_
  refine lv_aload_n hx hb dX1_takeField_1 rfl (lv_at hl 1 rfl) ?_
  obtain ⟨q1, hq1, hm⟩ := zbind hm
  have hPc := hP.sub (ws' := (wN aN2 bN2 c12 v2 b2)) [4, 5] rfl
  have hDc := hD.sub (ws' := (wN aN2 bN2 c12 v2 b2)) [4, 5] (by decide) rfl
  have hKc := hK.sub (tys' := wN_t c12) [3] rfl
  have hFc := va_free (wc := (wN aN2 bN2 c12 v2 b2)) hD hS hA [4, 5] rfl
  refine zbSl (wr := [(aE, .inr (0, [.ref bE, .int (v 1), .int (v 2), .int (v 3), .int (v 4), .ref rE, .ref pE, .int (v 7), .int (v 8), .int (v 9), .int (v 10), .int (v 11), .int (v 12), .int (v 13), .int (v 14), .int (v 15)])), (bE, .inl (c1, 25, .inl b)), (rE, .inl (c2, 24, .inl rw)), (pE, .inl (c3, 24, .inl pw))]) (w1 := (wN aN2 bN2 c12 v2 b2)) (w' := (wEN2 aE bE rE pE aN2 bN2 c1 c2 c3 c12 v b rw pw v2 b2)) (va_runU (As := []) (rest := [.ref aE]) ⟨hx, hb, hml, hown, hw⟩ (k_N_number l D aN2 bN2 c12 _ v2 b2  q1 hq1) (va_cwA (C := RX2) (owner := RX1) (x := ⟨RX1, "number", "()J"⟩) 0 hw (zgoodL (List.forall_mem_cons.mpr ⟨zw397, List.forall_mem_cons.mpr ⟨zw398, List.forall_mem_cons.mpr ⟨zw399, List.forall_mem_cons.mpr ⟨zw393, List.forall_mem_cons.mpr ⟨zw210, fun _ h => absurd h List.not_mem_nil⟩⟩⟩⟩⟩) zw392) rfl rfl rfl (hX.1 _ zn12) (by decide +kernel) ⟨Nat.le_of_ble_eq_true rfl, Nat.le_of_ble_eq_true rfl⟩) (zpreV (zpre zC_ok hX hS hFc hPc hKc hDc) (va_recv hK hP rfl (q0 := 4) rfl)) rfl rfl hl.1 rfl (lv_room (Nat.le_of_ble_eq_true rfl)) dX1_takeField_2 ⟨Nat.zero_le _, Nat.zero_le _⟩) hP hD hS hFc [4, 5] [0, 1, 2, 3] [0, 1, 2, 3, 4, 5] rfl rfl (by decide) (by decide) rfl (by decide) (fun H locs hP hD hS => ?_)
  refine lv_aload_n hx hb dX1_takeField_5 rfl (lv_at hl 1 rfl) ?_
  refine va_get (D := D) (ci := 1) (v := .int (v2 3)) (C := RX2) (T := TX2) (N := 8) hx hb hw zinX2 hown hK hP 4 rfl rfl 3 (by decide) (hw _ zw400) (fun _ h9 => h9) rfl dX1_takeField_6 ?_
  obtain ⟨q2, hq2, hm⟩ := zbind hm
  have hPc := hP.sub (ws' := (wE aE bE rE pE c1 c2 c3 v b rw pw)) [0, 1, 2, 3] rfl
  have hDc := hD.sub (ws' := (wE aE bE rE pE c1 c2 c3 v b rw pw)) [0, 1, 2, 3] (by decide) rfl
  have hKc := hK.sub (tys' := wE_t c1 c2 c3) [0, 1, 2] rfl
  have hFc := va_free (wc := (wE aE bE rE pE c1 c2 c3 v b rw pw)) hD hS hA [0, 1, 2, 3] rfl
  refine zbSi (wr := [(aN2, .inr (1, [.ref bN2, .int (v2 1), .int (v2 2), .int (v2 3), .int (v2 4), .int (v2 5), .int (v2 6), .int (v2 7)])), (bN2, .inl (c12, 25, .inl b2))]) (w1 := (wE aE bE rE pE c1 c2 c3 v q2.2 rw pw)) (w' := (wEN2 aE bE rE pE aN2 bN2 c1 c2 c3 c12 v q2.2 rw pw v2 b2)) (va_runU (As := [.long q1, .int (v2 3)]) (rest := []) ⟨hx, hb, hml, hown, hw⟩ (k_E_takeNumber l D aE bE rE pE c1 c2 c3 _ q1 (v2 3) v b rw pw  q2 hq2) (va_cwA (C := RX0) (owner := RX1) (x := ⟨RX1, "takeNumber", "(JI)Z"⟩) 2 hw (zgoodL (List.forall_mem_cons.mpr ⟨zw386, List.forall_mem_cons.mpr ⟨zw387, List.forall_mem_cons.mpr ⟨zw391, List.forall_mem_cons.mpr ⟨zw390, List.forall_mem_cons.mpr ⟨zw259, fun _ h => absurd h List.not_mem_nil⟩⟩⟩⟩⟩) zw389) rfl rfl rfl (hX.1 _ zn11) (by decide +kernel) ⟨Nat.le_of_ble_eq_true rfl, Nat.le_of_ble_eq_true rfl⟩) (zpreV (zpre zC_ok hX hS hFc hPc hKc hDc) (va_recv hK hP rfl (q0 := 0) rfl)) rfl rfl hl.1 rfl (lv_room (Nat.le_of_ble_eq_true rfl)) dX1_takeField_9 ⟨Nat.zero_le _, Nat.zero_le _⟩) hP hD hS hFc [0, 1, 2, 3] [4, 5] [2, 3, 4, 5, 0, 1] rfl rfl (by decide) (by decide) rfl (by decide) (fun H locs hP hD hS => ?_)
  obtain ⟨hz3, -, hm⟩ := zbo_s hm
  cases hm
  exact zretz hx hb hr hlk hz3 hP hD hS dX1_takeField_12

def m_F_takeField_ET  (v : Nat → Int32) (b : Nat → Int32) (rw : Nat → Int32) (pw : Nat → Int32) (v2 : Nat → Int32) (b2 : Nat → Int32)  : Option ((Int32) × (Nat → Int32)) := (m_T_number v2 b2).bind (fun q1 => (m_E_takeNumber q1 (v2 3) v b rw pw).bind (fun q2 => (zbo q2.1 (some (q2.1, q2.2)))))
section
variable {p : Program} {l : Launch} {e : Env} {s : State} {m : MethodId} {args : Array Value} {below : List Frame} {meth : Method} {c : Code} {D : va_G} {w0 : va_W} {aE bE rE pE aT2 bT2 : Nat} {c1 c2 c3 c12 : ClassId} {v : Nat → Int32} {rw : Nat → Int32} {pw : Nat → Int32} {v2 : Nat → Int32} {b2 : Nat → Int32}
end
set_option maxRecDepth 100000 in
set_option maxHeartbeats 4000000 in
theorem k_F_takeField_ET (l : Launch) (D : va_G) (aE bE rE pE aT2 bT2 : Nat) (c1 c2 c3 c12 : ClassId) (sz : Nat)  (v : Nat → Int32) (b : Nat → Int32) (rw : Nat → Int32) (pw : Nat → Int32) (v2 : Nat → Int32) (b2 : Nat → Int32) (res : (Int32) × (Nat → Int32)) (hm : m_F_takeField_ET  v b rw pw v2 b2  = some res) : Met l yX1_takeField (Cond.code yX1_takeField cX1_takeField 2 (some .boolean) :: zBIG) (zR 5 119) (va_Pc [.ref aE, .ref aT2] (zP zC D vwCl (wET2_t c1 c2 c3 c12) (wET2 aE bE rE pE aT2 bT2 c1 c2 c3 c12 v b rw pw v2 b2) sz)) (zQi D vwCl (wET2 aE bE rE pE aT2 bT2 c1 c2 c3 c12 v b rw pw v2 b2) (wET2 aE bE rE pE aT2 bT2 c1 c2 c3 c12 v res.2 rw pw v2 b2) sz res.1) 0 0 (va_A (wET2 aE bE rE pE aT2 bT2 c1 c2 c3 c12 v b rw pw v2 b2) sz) := by
  refine zEnter RX1 [.ref aE, .ref aT2] (by decide) rfl (Nat.le_of_ble_eq_true rfl) (fun p e s m below meth c ls G hK hX hP hD hsz hl => ?_)
  subst hsz
  unfold m_F_takeField_ET at hm
  have hl : lv_has ls 2 [(0, .ref aE), (1, .ref aT2)] := hl
  have hS : va_S (va_A (wET2 aE bE rE pE aT2 bT2 c1 c2 c3 c12 v b rw pw v2 b2) s.heap.size) s.heap s.heap [] := va_S.rf
  have hA : ∀ q, s.heap.size ≤ q → va_A (wET2 aE bE rE pE aT2 bT2 c1 c2 c3 c12 v b rw pw v2 b2) s.heap.size q := fun q h => Or.inr h
  have G0 := G
  obtain ⟨hx, hb, hr, hml, hown, hw, hlk⟩ := G
  refine lv_aload_n hx hb dX1_takeField_0 rfl (lv_at hl 0 rfl) ?_
  refine lv_aload_n hx hb dX1_takeField_1 rfl (lv_at hl 1 rfl) ?_
  obtain ⟨q1, hq1, hm⟩ := zbind hm
  have hPc := hP.sub (ws' := (wT aT2 bT2 c12 v2 b2)) [4, 5] rfl
  have hDc := hD.sub (ws' := (wT aT2 bT2 c12 v2 b2)) [4, 5] (by decide) rfl
  have hKc := hK.sub (tys' := wT_t c12) [3] rfl
  have hFc := va_free (wc := (wT aT2 bT2 c12 v2 b2)) hD hS hA [4, 5] rfl
  refine zbSl (wr := [(aE, .inr (0, [.ref bE, .int (v 1), .int (v 2), .int (v 3), .int (v 4), .ref rE, .ref pE, .int (v 7), .int (v 8), .int (v 9), .int (v 10), .int (v 11), .int (v 12), .int (v 13), .int (v 14), .int (v 15)])), (bE, .inl (c1, 25, .inl b)), (rE, .inl (c2, 24, .inl rw)), (pE, .inl (c3, 24, .inl pw))]) (w1 := (wT aT2 bT2 c12 v2 b2)) (w' := (wET2 aE bE rE pE aT2 bT2 c1 c2 c3 c12 v b rw pw v2 b2)) (va_runU (As := []) (rest := [.ref aE]) ⟨hx, hb, hml, hown, hw⟩ (k_T_number l D aT2 bT2 c12 _ v2 b2  q1 hq1) (va_cwA (C := RX4) (owner := RX1) (x := ⟨RX1, "number", "()J"⟩) 0 hw (zgoodL (List.forall_mem_cons.mpr ⟨zw397, List.forall_mem_cons.mpr ⟨zw398, List.forall_mem_cons.mpr ⟨zw404, List.forall_mem_cons.mpr ⟨zw403, List.forall_mem_cons.mpr ⟨zw402, fun _ h => absurd h List.not_mem_nil⟩⟩⟩⟩⟩) zw401) rfl rfl rfl (hX.1 _ zn12) (by decide +kernel) ⟨Nat.le_of_ble_eq_true rfl, Nat.le_of_ble_eq_true rfl⟩) (zpreV (zpre zC_ok hX hS hFc hPc hKc hDc) (va_recv hK hP rfl (q0 := 4) rfl)) rfl rfl hl.1 rfl (lv_room (Nat.le_of_ble_eq_true rfl)) dX1_takeField_2 ⟨Nat.zero_le _, Nat.zero_le _⟩) hP hD hS hFc [4, 5] [0, 1, 2, 3] [0, 1, 2, 3, 4, 5] rfl rfl (by decide) (by decide) rfl (by decide) (fun H locs hP hD hS => ?_)
  refine lv_aload_n hx hb dX1_takeField_5 rfl (lv_at hl 1 rfl) ?_
  refine va_get (D := D) (ci := 3) (v := .int (v2 3)) (C := RX4) (T := TX4) (N := 5) hx hb hw zinX4 hown hK hP 4 rfl rfl 3 (by decide) (hw _ zw400) (fun _ h9 => h9) rfl dX1_takeField_6 ?_
  obtain ⟨q2, hq2, hm⟩ := zbind hm
  have hPc := hP.sub (ws' := (wE aE bE rE pE c1 c2 c3 v b rw pw)) [0, 1, 2, 3] rfl
  have hDc := hD.sub (ws' := (wE aE bE rE pE c1 c2 c3 v b rw pw)) [0, 1, 2, 3] (by decide) rfl
  have hKc := hK.sub (tys' := wE_t c1 c2 c3) [0, 1, 2] rfl
  have hFc := va_free (wc := (wE aE bE rE pE c1 c2 c3 v b rw pw)) hD hS hA [0, 1, 2, 3] rfl
  refine zbSi (wr := [(aT2, .inr (3, [.ref bT2, .int (v2 1), .int (v2 2), .int (v2 3), .int (v2 4)])), (bT2, .inl (c12, 25, .inl b2))]) (w1 := (wE aE bE rE pE c1 c2 c3 v q2.2 rw pw)) (w' := (wET2 aE bE rE pE aT2 bT2 c1 c2 c3 c12 v q2.2 rw pw v2 b2)) (va_runU (As := [.long q1, .int (v2 3)]) (rest := []) ⟨hx, hb, hml, hown, hw⟩ (k_E_takeNumber l D aE bE rE pE c1 c2 c3 _ q1 (v2 3) v b rw pw  q2 hq2) (va_cwA (C := RX0) (owner := RX1) (x := ⟨RX1, "takeNumber", "(JI)Z"⟩) 2 hw (zgoodL (List.forall_mem_cons.mpr ⟨zw386, List.forall_mem_cons.mpr ⟨zw387, List.forall_mem_cons.mpr ⟨zw391, List.forall_mem_cons.mpr ⟨zw390, List.forall_mem_cons.mpr ⟨zw259, fun _ h => absurd h List.not_mem_nil⟩⟩⟩⟩⟩) zw389) rfl rfl rfl (hX.1 _ zn11) (by decide +kernel) ⟨Nat.le_of_ble_eq_true rfl, Nat.le_of_ble_eq_true rfl⟩) (zpreV (zpre zC_ok hX hS hFc hPc hKc hDc) (va_recv hK hP rfl (q0 := 0) rfl)) rfl rfl hl.1 rfl (lv_room (Nat.le_of_ble_eq_true rfl)) dX1_takeField_9 ⟨Nat.zero_le _, Nat.zero_le _⟩) hP hD hS hFc [0, 1, 2, 3] [4, 5] [2, 3, 4, 5, 0, 1] rfl rfl (by decide) (by decide) rfl (by decide) (fun H locs hP hD hS => ?_)
  obtain ⟨hz3, -, hm⟩ := zbo_s hm
  cases hm
  exact zretz hx hb hr hlk hz3 hP hD hS dX1_takeField_12

def m_F_takeField_EE  (v : Nat → Int32) (b : Nat → Int32) (rw : Nat → Int32) (pw : Nat → Int32) (v2 : Nat → Int32) (b2 : Nat → Int32) (rw2 : Nat → Int32) (pw2 : Nat → Int32)  : Option ((Int32) × (Nat → Int32)) := (m_E_number v2 b2 rw2 pw2).bind (fun q1 => (m_E_takeNumber q1 (v2 3) v b rw pw).bind (fun q2 => (zbo q2.1 (some (q2.1, q2.2)))))
section
variable {p : Program} {l : Launch} {e : Env} {s : State} {m : MethodId} {args : Array Value} {below : List Frame} {meth : Method} {c : Code} {D : va_G} {w0 : va_W} {aE bE rE pE aE2 bE2 rE2 pE2 : Nat} {c1 c2 c3 c12 c22 c32 : ClassId} {v : Nat → Int32} {rw : Nat → Int32} {pw : Nat → Int32} {v2 : Nat → Int32} {b2 : Nat → Int32} {rw2 : Nat → Int32} {pw2 : Nat → Int32}
end
set_option maxRecDepth 100000 in
set_option maxHeartbeats 4000000 in
theorem k_F_takeField_EE (l : Launch) (D : va_G) (aE bE rE pE aE2 bE2 rE2 pE2 : Nat) (c1 c2 c3 c12 c22 c32 : ClassId) (sz : Nat)  (v : Nat → Int32) (b : Nat → Int32) (rw : Nat → Int32) (pw : Nat → Int32) (v2 : Nat → Int32) (b2 : Nat → Int32) (rw2 : Nat → Int32) (pw2 : Nat → Int32) (res : (Int32) × (Nat → Int32)) (hm : m_F_takeField_EE  v b rw pw v2 b2 rw2 pw2  = some res) : Met l yX1_takeField (Cond.code yX1_takeField cX1_takeField 2 (some .boolean) :: zBIG) (zR 5 119) (va_Pc [.ref aE, .ref aE2] (zP zC D vwCl (wEE2_t c1 c2 c3 c12 c22 c32) (wEE2 aE bE rE pE aE2 bE2 rE2 pE2 c1 c2 c3 c12 c22 c32 v b rw pw v2 b2 rw2 pw2) sz)) (zQi D vwCl (wEE2 aE bE rE pE aE2 bE2 rE2 pE2 c1 c2 c3 c12 c22 c32 v b rw pw v2 b2 rw2 pw2) (wEE2 aE bE rE pE aE2 bE2 rE2 pE2 c1 c2 c3 c12 c22 c32 v res.2 rw pw v2 b2 rw2 pw2) sz res.1) 0 0 (va_A (wEE2 aE bE rE pE aE2 bE2 rE2 pE2 c1 c2 c3 c12 c22 c32 v b rw pw v2 b2 rw2 pw2) sz) := by
  refine zEnter RX1 [.ref aE, .ref aE2] (by decide) rfl (Nat.le_of_ble_eq_true rfl) (fun p e s m below meth c ls G hK hX hP hD hsz hl => ?_)
  subst hsz
  unfold m_F_takeField_EE at hm
  have hl : lv_has ls 2 [(0, .ref aE), (1, .ref aE2)] := hl
  have hS : va_S (va_A (wEE2 aE bE rE pE aE2 bE2 rE2 pE2 c1 c2 c3 c12 c22 c32 v b rw pw v2 b2 rw2 pw2) s.heap.size) s.heap s.heap [] := va_S.rf
  have hA : ∀ q, s.heap.size ≤ q → va_A (wEE2 aE bE rE pE aE2 bE2 rE2 pE2 c1 c2 c3 c12 c22 c32 v b rw pw v2 b2 rw2 pw2) s.heap.size q := fun q h => Or.inr h
  have G0 := G
  obtain ⟨hx, hb, hr, hml, hown, hw, hlk⟩ := G
  refine lv_aload_n hx hb dX1_takeField_0 rfl (lv_at hl 0 rfl) ?_
  refine lv_aload_n hx hb dX1_takeField_1 rfl (lv_at hl 1 rfl) ?_
  obtain ⟨q1, hq1, hm⟩ := zbind hm
  have hPc := hP.sub (ws' := (wE aE2 bE2 rE2 pE2 c12 c22 c32 v2 b2 rw2 pw2)) [4, 5, 6, 7] rfl
  have hDc := hD.sub (ws' := (wE aE2 bE2 rE2 pE2 c12 c22 c32 v2 b2 rw2 pw2)) [4, 5, 6, 7] (by decide) rfl
  have hKc := hK.sub (tys' := wE_t c12 c22 c32) [3, 4, 5] rfl
  have hFc := va_free (wc := (wE aE2 bE2 rE2 pE2 c12 c22 c32 v2 b2 rw2 pw2)) hD hS hA [4, 5, 6, 7] rfl
  refine zbSl (wr := [(aE, .inr (0, [.ref bE, .int (v 1), .int (v 2), .int (v 3), .int (v 4), .ref rE, .ref pE, .int (v 7), .int (v 8), .int (v 9), .int (v 10), .int (v 11), .int (v 12), .int (v 13), .int (v 14), .int (v 15)])), (bE, .inl (c1, 25, .inl b)), (rE, .inl (c2, 24, .inl rw)), (pE, .inl (c3, 24, .inl pw))]) (w1 := (wE aE2 bE2 rE2 pE2 c12 c22 c32 v2 b2 rw2 pw2)) (w' := (wEE2 aE bE rE pE aE2 bE2 rE2 pE2 c1 c2 c3 c12 c22 c32 v b rw pw v2 b2 rw2 pw2)) (va_runU (As := []) (rest := [.ref aE]) ⟨hx, hb, hml, hown, hw⟩ (k_E_number l D aE2 bE2 rE2 pE2 c12 c22 c32 _ v2 b2 rw2 pw2  q1 hq1) (va_cwA (C := RX0) (owner := RX1) (x := ⟨RX1, "number", "()J"⟩) 0 hw (zgoodL (List.forall_mem_cons.mpr ⟨zw397, List.forall_mem_cons.mpr ⟨zw398, List.forall_mem_cons.mpr ⟨zw407, List.forall_mem_cons.mpr ⟨zw406, List.forall_mem_cons.mpr ⟨zw259, fun _ h => absurd h List.not_mem_nil⟩⟩⟩⟩⟩) zw405) rfl rfl rfl (hX.1 _ zn12) (by decide +kernel) ⟨Nat.le_of_ble_eq_true rfl, Nat.le_of_ble_eq_true rfl⟩) (zpreV (zpre zC_ok hX hS hFc hPc hKc hDc) (va_recv hK hP rfl (q0 := 4) rfl)) rfl rfl hl.1 rfl (lv_room (Nat.le_of_ble_eq_true rfl)) dX1_takeField_2 ⟨Nat.zero_le _, Nat.zero_le _⟩) hP hD hS hFc [4, 5, 6, 7] [0, 1, 2, 3] [0, 1, 2, 3, 4, 5, 6, 7] rfl rfl (by decide) (by decide) rfl (by decide) (fun H locs hP hD hS => ?_)
  refine lv_aload_n hx hb dX1_takeField_5 rfl (lv_at hl 1 rfl) ?_
  refine va_get (D := D) (ci := 0) (v := .int (v2 3)) (C := RX0) (T := TX0) (N := 16) hx hb hw zinX0 hown hK hP 4 rfl rfl 3 (by decide) (hw _ zw400) (fun _ h9 => h9) rfl dX1_takeField_6 ?_
  obtain ⟨q2, hq2, hm⟩ := zbind hm
  have hPc := hP.sub (ws' := (wE aE bE rE pE c1 c2 c3 v b rw pw)) [0, 1, 2, 3] rfl
  have hDc := hD.sub (ws' := (wE aE bE rE pE c1 c2 c3 v b rw pw)) [0, 1, 2, 3] (by decide) rfl
  have hKc := hK.sub (tys' := wE_t c1 c2 c3) [0, 1, 2] rfl
  have hFc := va_free (wc := (wE aE bE rE pE c1 c2 c3 v b rw pw)) hD hS hA [0, 1, 2, 3] rfl
  refine zbSi (wr := [(aE2, .inr (0, [.ref bE2, .int (v2 1), .int (v2 2), .int (v2 3), .int (v2 4), .ref rE2, .ref pE2, .int (v2 7), .int (v2 8), .int (v2 9), .int (v2 10), .int (v2 11), .int (v2 12), .int (v2 13), .int (v2 14), .int (v2 15)])), (bE2, .inl (c12, 25, .inl b2)), (rE2, .inl (c22, 24, .inl rw2)), (pE2, .inl (c32, 24, .inl pw2))]) (w1 := (wE aE bE rE pE c1 c2 c3 v q2.2 rw pw)) (w' := (wEE2 aE bE rE pE aE2 bE2 rE2 pE2 c1 c2 c3 c12 c22 c32 v q2.2 rw pw v2 b2 rw2 pw2)) (va_runU (As := [.long q1, .int (v2 3)]) (rest := []) ⟨hx, hb, hml, hown, hw⟩ (k_E_takeNumber l D aE bE rE pE c1 c2 c3 _ q1 (v2 3) v b rw pw  q2 hq2) (va_cwA (C := RX0) (owner := RX1) (x := ⟨RX1, "takeNumber", "(JI)Z"⟩) 2 hw (zgoodL (List.forall_mem_cons.mpr ⟨zw386, List.forall_mem_cons.mpr ⟨zw387, List.forall_mem_cons.mpr ⟨zw391, List.forall_mem_cons.mpr ⟨zw390, List.forall_mem_cons.mpr ⟨zw259, fun _ h => absurd h List.not_mem_nil⟩⟩⟩⟩⟩) zw389) rfl rfl rfl (hX.1 _ zn11) (by decide +kernel) ⟨Nat.le_of_ble_eq_true rfl, Nat.le_of_ble_eq_true rfl⟩) (zpreV (zpre zC_ok hX hS hFc hPc hKc hDc) (va_recv hK hP rfl (q0 := 0) rfl)) rfl rfl hl.1 rfl (lv_room (Nat.le_of_ble_eq_true rfl)) dX1_takeField_9 ⟨Nat.zero_le _, Nat.zero_le _⟩) hP hD hS hFc [0, 1, 2, 3] [4, 5, 6, 7] [4, 5, 6, 7, 0, 1, 2, 3] rfl rfl (by decide) (by decide) rfl (by decide) (fun H locs hP hD hS => ?_)
  obtain ⟨hz3, -, hm⟩ := zbo_s hm
  cases hm
  exact zretz hx hb hr hlk hz3 hP hD hS dX1_takeField_12

theorem dX4_takeField_0 : decode cX4_takeField 0 = .ok (.aload_n 1, 1) := by decide +kernel
theorem dX4_takeField_1 : decode cX4_takeField 1 = .ok (.aload_n 0, 1) := by decide +kernel
theorem dX4_takeField_2 : decode cX4_takeField 2 = .ok (.getfield 32, 3) := by decide +kernel
theorem dX4_takeField_5 : decode cX4_takeField 5 = .ok (.aload_n 0, 1) := by decide +kernel
theorem dX4_takeField_6 : decode cX4_takeField 6 = .ok (.getfield 19, 3) := by decide +kernel
theorem dX4_takeField_9 : decode cX4_takeField 9 = .ok (.invokevirtual 39, 3) := by decide +kernel
theorem dX4_takeField_12 : decode cX4_takeField 12 = .ok (.ireturn, 1) := by decide +kernel
def m_T_takeField_T  (v : Nat → Int32) (b : Nat → Int32)  : Option ((Int32) × (Nat → Int32)) := (m_F_spell_TT (v 1) v b).bind (fun q1 => (zbo q1.1 (some (q1.1, q1.2))))
section
variable {p : Program} {l : Launch} {e : Env} {s : State} {m : MethodId} {args : Array Value} {below : List Frame} {meth : Method} {c : Code} {D : va_G} {w0 : va_W} {aT bT : Nat} {c1 : ClassId} {v : Nat → Int32}
end
set_option maxRecDepth 100000 in
set_option maxHeartbeats 4000000 in
theorem k_T_takeField_T (l : Launch) (D : va_G) (aT bT : Nat) (c1 : ClassId) (sz : Nat)  (v : Nat → Int32) (b : Nat → Int32) (res : (Int32) × (Nat → Int32)) (hm : m_T_takeField_T  v b  = some res) : Met l yX4_takeField (Cond.code yX4_takeField cX4_takeField 2 (some .boolean) :: zBIG) (zR 1 23) (va_Pc [.ref aT, .ref aT] (zP zC D vwCl (wT_t c1) (wT aT bT c1 v b) sz)) (zQi D vwCl (wT aT bT c1 v b) (wT aT bT c1 v res.2) sz res.1) 0 0 (va_A (wT aT bT c1 v b) sz) := by
  refine zEnter RX4 [.ref aT, .ref aT] (by decide) rfl (Nat.le_of_ble_eq_true rfl) (fun p e s m below meth c ls G hK hX hP hD hsz hl => ?_)
  subst hsz
  unfold m_T_takeField_T at hm
  have hl : lv_has ls 2 [(0, .ref aT), (1, .ref aT)] := hl
  have hS : va_S (va_A (wT aT bT c1 v b) s.heap.size) s.heap s.heap [] := va_S.rf
  have hA : ∀ q, s.heap.size ≤ q → va_A (wT aT bT c1 v b) s.heap.size q := fun q h => Or.inr h
  have G0 := G
  obtain ⟨hx, hb, hr, hml, hown, hw, hlk⟩ := G
  refine lv_aload_n hx hb dX4_takeField_0 rfl (lv_at hl 1 rfl) ?_
  refine lv_aload_n hx hb dX4_takeField_1 rfl (lv_at hl 0 rfl) ?_
  refine va_get (D := D) (ci := 3) (v := .ref bT) (C := RX4) (T := TX4) (N := 5) hx hb hw zinX4 hown hK hP 0 rfl rfl 0 (by decide) (hw _ zw253) (fun x9 h9 => u_same (hw _ zw252) x9 h9) rfl dX4_takeField_2 ?_
  refine lv_aload_n hx hb dX4_takeField_5 rfl (lv_at hl 0 rfl) ?_
  refine va_get (D := D) (ci := 3) (v := .int (v 1)) (C := RX4) (T := TX4) (N := 5) hx hb hw zinX4 hown hK hP 0 rfl rfl 1 (by decide) (hw _ zw247) (fun x9 h9 => u_same (hw _ zw246) x9 h9) rfl dX4_takeField_6 ?_
  obtain ⟨q1, hq1, hm⟩ := zbind hm
  refine zbWi (va_runU (As := [.ref bT, .int (v 1)]) (rest := []) ⟨hx, hb, hml, hown, hw⟩ (k_F_spell_TT l D aT bT c1 _ (v 1) v b  q1 hq1) (va_cwU (C := RX4) (owner := RX1) (x := ⟨RX1, "spell", "([II)Z"⟩) 2 hw (zgoodL (List.forall_mem_cons.mpr ⟨zw411, List.forall_mem_cons.mpr ⟨zw412, List.forall_mem_cons.mpr ⟨zw413, List.forall_mem_cons.mpr ⟨zw410, List.forall_mem_cons.mpr ⟨zw409, fun _ h => absurd h List.not_mem_nil⟩⟩⟩⟩⟩) zw408) rfl rfl rfl rfl (by decide +kernel) ⟨Nat.le_of_ble_eq_true rfl, Nat.le_of_ble_eq_true rfl⟩) (zpreV (zpre zC_ok hX hS (zfree hD hS hA) hP hK hD) (va_recv hK hP rfl (q0 := 0) rfl)) rfl rfl hl.1 rfl (lv_room (Nat.le_of_ble_eq_true rfl)) dX4_takeField_9 ⟨Nat.zero_le _, Nat.zero_le _⟩) hS (zfree hD hS hA) (fun H locs hP hD hS => ?_)
  have hP : va_P D vwCl (wT aT bT c1 v q1.2) H := hP
  have hD : va_D _ (wT aT bT c1 v q1.2) := hD
  obtain ⟨hz2, -, hm⟩ := zbo_s hm
  cases hm
  exact zretz hx hb hr hlk hz2 hP hD hS dX4_takeField_12

def m_T_takeField_TN  (v : Nat → Int32) (b : Nat → Int32) (v2 : Nat → Int32) (b2 : Nat → Int32)  : Option ((Int32) × (Nat → Int32)) := (m_N_spell (v 1) v2 b2 b).bind (fun q1 => (zbo q1.1 (some (q1.1, q1.2))))
section
variable {p : Program} {l : Launch} {e : Env} {s : State} {m : MethodId} {args : Array Value} {below : List Frame} {meth : Method} {c : Code} {D : va_G} {w0 : va_W} {aT bT aN2 bN2 : Nat} {c1 c12 : ClassId} {v : Nat → Int32} {v2 : Nat → Int32} {b2 : Nat → Int32}
end
set_option maxRecDepth 100000 in
set_option maxHeartbeats 4000000 in
theorem k_T_takeField_TN (l : Launch) (D : va_G) (aT bT aN2 bN2 : Nat) (c1 c12 : ClassId) (sz : Nat)  (v : Nat → Int32) (b : Nat → Int32) (v2 : Nat → Int32) (b2 : Nat → Int32) (res : (Int32) × (Nat → Int32)) (hm : m_T_takeField_TN  v b v2 b2  = some res) : Met l yX4_takeField (Cond.code yX4_takeField cX4_takeField 2 (some .boolean) :: zBIG) (zR 3 70) (va_Pc [.ref aT, .ref aN2] (zP zC D vwCl (wTN2_t c1 c12) (wTN2 aT bT aN2 bN2 c1 c12 v b v2 b2) sz)) (zQi D vwCl (wTN2 aT bT aN2 bN2 c1 c12 v b v2 b2) (wTN2 aT bT aN2 bN2 c1 c12 v res.2 v2 b2) sz res.1) 0 0 (va_A (wTN2 aT bT aN2 bN2 c1 c12 v b v2 b2) sz) := by
  refine zEnter RX4 [.ref aT, .ref aN2] (by decide) rfl (Nat.le_of_ble_eq_true rfl) (fun p e s m below meth c ls G hK hX hP hD hsz hl => ?_)
  subst hsz
  unfold m_T_takeField_TN at hm
  have hl : lv_has ls 2 [(0, .ref aT), (1, .ref aN2)] := hl
  have hS : va_S (va_A (wTN2 aT bT aN2 bN2 c1 c12 v b v2 b2) s.heap.size) s.heap s.heap [] := va_S.rf
  have hA : ∀ q, s.heap.size ≤ q → va_A (wTN2 aT bT aN2 bN2 c1 c12 v b v2 b2) s.heap.size q := fun q h => Or.inr h
  have G0 := G
  obtain ⟨hx, hb, hr, hml, hown, hw, hlk⟩ := G
  refine lv_aload_n hx hb dX4_takeField_0 rfl (lv_at hl 1 rfl) ?_
  refine lv_aload_n hx hb dX4_takeField_1 rfl (lv_at hl 0 rfl) ?_
  refine va_get (D := D) (ci := 3) (v := .ref bT) (C := RX4) (T := TX4) (N := 5) hx hb hw zinX4 hown hK hP 0 rfl rfl 0 (by decide) (hw _ zw253) (fun x9 h9 => u_same (hw _ zw252) x9 h9) rfl dX4_takeField_2 ?_
  refine lv_aload_n hx hb dX4_takeField_5 rfl (lv_at hl 0 rfl) ?_
  refine va_get (D := D) (ci := 3) (v := .int (v 1)) (C := RX4) (T := TX4) (N := 5) hx hb hw zinX4 hown hK hP 0 rfl rfl 1 (by decide) (hw _ zw247) (fun x9 h9 => u_same (hw _ zw246) x9 h9) rfl dX4_takeField_6 ?_
  obtain ⟨q1, hq1, hm⟩ := zbind hm
  have hPc := hP.sub (ws' := (wNB aN2 bN2 bT c12 c1 v2 b2 b)) [2, 3, 1] rfl
  have hDc := hD.sub (ws' := (wNB aN2 bN2 bT c12 c1 v2 b2 b)) [2, 3, 1] (by decide) rfl
  have hKc := hK.sub (tys' := wNB_t c12 c1) [1, 0] rfl
  have hFc := va_free (wc := (wNB aN2 bN2 bT c12 c1 v2 b2 b)) hD hS hA [2, 3, 1] rfl
  refine zbSi (wr := [(aT, .inr (3, [.ref bT, .int (v 1), .int (v 2), .int (v 3), .int (v 4)]))]) (w1 := (wNB aN2 bN2 bT c12 c1 v2 b2 q1.2)) (w' := (wTN2 aT bT aN2 bN2 c1 c12 v q1.2 v2 b2)) (va_runU (As := [.ref bT, .int (v 1)]) (rest := []) ⟨hx, hb, hml, hown, hw⟩ (k_N_spell l D aN2 bN2 bT c12 c1 _ (v 1) v2 b2 b  q1 hq1) (va_cwO (C := RX2) (owner := RX1) (x := ⟨RX1, "spell", "([II)Z"⟩) 2 hw (zgoodL (List.forall_mem_cons.mpr ⟨zw411, List.forall_mem_cons.mpr ⟨zw412, List.forall_mem_cons.mpr ⟨zw410, List.forall_mem_cons.mpr ⟨zw416, List.forall_mem_cons.mpr ⟨zw415, List.forall_mem_cons.mpr ⟨zw210, fun _ h => absurd h List.not_mem_nil⟩⟩⟩⟩⟩⟩) zw414) rfl rfl rfl zw408 (by decide +kernel) ⟨Nat.le_of_ble_eq_true rfl, Nat.le_of_ble_eq_true rfl⟩) (zpreV (zpre zC_ok hX hS hFc hPc hKc hDc) (va_recv hK hP rfl (q0 := 2) rfl)) rfl rfl hl.1 rfl (lv_room (Nat.le_of_ble_eq_true rfl)) dX4_takeField_9 ⟨Nat.zero_le _, Nat.zero_le _⟩) hP hD hS hFc [2, 3, 1] [0] [0, 3, 1, 2] rfl rfl (by decide) (by decide) rfl (by decide) (fun H locs hP hD hS => ?_)
  obtain ⟨hz2, -, hm⟩ := zbo_s hm
  cases hm
  exact zretz hx hb hr hlk hz2 hP hD hS dX4_takeField_12

def m_T_takeField_TT  (v : Nat → Int32) (b : Nat → Int32) (v2 : Nat → Int32) (b2 : Nat → Int32)  : Option ((Int32) × (Nat → Int32)) := (m_F_spell_T (v 1) v2 b2 b).bind (fun q1 => (zbo q1.1 (some (q1.1, q1.2))))
section
variable {p : Program} {l : Launch} {e : Env} {s : State} {m : MethodId} {args : Array Value} {below : List Frame} {meth : Method} {c : Code} {D : va_G} {w0 : va_W} {aT bT aT2 bT2 : Nat} {c1 c12 : ClassId} {v : Nat → Int32} {v2 : Nat → Int32} {b2 : Nat → Int32}
end
set_option maxRecDepth 100000 in
set_option maxHeartbeats 4000000 in
theorem k_T_takeField_TT (l : Launch) (D : va_G) (aT bT aT2 bT2 : Nat) (c1 c12 : ClassId) (sz : Nat)  (v : Nat → Int32) (b : Nat → Int32) (v2 : Nat → Int32) (b2 : Nat → Int32) (res : (Int32) × (Nat → Int32)) (hm : m_T_takeField_TT  v b v2 b2  = some res) : Met l yX4_takeField (Cond.code yX4_takeField cX4_takeField 2 (some .boolean) :: zBIG) (zR 1 23) (va_Pc [.ref aT, .ref aT2] (zP zC D vwCl (wTT2_t c1 c12) (wTT2 aT bT aT2 bT2 c1 c12 v b v2 b2) sz)) (zQi D vwCl (wTT2 aT bT aT2 bT2 c1 c12 v b v2 b2) (wTT2 aT bT aT2 bT2 c1 c12 v res.2 v2 b2) sz res.1) 0 0 (va_A (wTT2 aT bT aT2 bT2 c1 c12 v b v2 b2) sz) := by
  refine zEnter RX4 [.ref aT, .ref aT2] (by decide) rfl (Nat.le_of_ble_eq_true rfl) (fun p e s m below meth c ls G hK hX hP hD hsz hl => ?_)
  subst hsz
  unfold m_T_takeField_TT at hm
  have hl : lv_has ls 2 [(0, .ref aT), (1, .ref aT2)] := hl
  have hS : va_S (va_A (wTT2 aT bT aT2 bT2 c1 c12 v b v2 b2) s.heap.size) s.heap s.heap [] := va_S.rf
  have hA : ∀ q, s.heap.size ≤ q → va_A (wTT2 aT bT aT2 bT2 c1 c12 v b v2 b2) s.heap.size q := fun q h => Or.inr h
  have G0 := G
  obtain ⟨hx, hb, hr, hml, hown, hw, hlk⟩ := G
  refine lv_aload_n hx hb dX4_takeField_0 rfl (lv_at hl 1 rfl) ?_
  refine lv_aload_n hx hb dX4_takeField_1 rfl (lv_at hl 0 rfl) ?_
  refine va_get (D := D) (ci := 3) (v := .ref bT) (C := RX4) (T := TX4) (N := 5) hx hb hw zinX4 hown hK hP 0 rfl rfl 0 (by decide) (hw _ zw253) (fun x9 h9 => u_same (hw _ zw252) x9 h9) rfl dX4_takeField_2 ?_
  refine lv_aload_n hx hb dX4_takeField_5 rfl (lv_at hl 0 rfl) ?_
  refine va_get (D := D) (ci := 3) (v := .int (v 1)) (C := RX4) (T := TX4) (N := 5) hx hb hw zinX4 hown hK hP 0 rfl rfl 1 (by decide) (hw _ zw247) (fun x9 h9 => u_same (hw _ zw246) x9 h9) rfl dX4_takeField_6 ?_
  obtain ⟨q1, hq1, hm⟩ := zbind hm
  have hPc := hP.sub (ws' := (wTB aT2 bT2 bT c12 c1 v2 b2 b)) [2, 3, 1] rfl
  have hDc := hD.sub (ws' := (wTB aT2 bT2 bT c12 c1 v2 b2 b)) [2, 3, 1] (by decide) rfl
  have hKc := hK.sub (tys' := wTB_t c12 c1) [1, 0] rfl
  have hFc := va_free (wc := (wTB aT2 bT2 bT c12 c1 v2 b2 b)) hD hS hA [2, 3, 1] rfl
  refine zbSi (wr := [(aT, .inr (3, [.ref bT, .int (v 1), .int (v 2), .int (v 3), .int (v 4)]))]) (w1 := (wTB aT2 bT2 bT c12 c1 v2 b2 q1.2)) (w' := (wTT2 aT bT aT2 bT2 c1 c12 v q1.2 v2 b2)) (va_runU (As := [.ref bT, .int (v 1)]) (rest := []) ⟨hx, hb, hml, hown, hw⟩ (k_F_spell_T l D aT2 bT2 bT c12 c1 _ (v 1) v2 b2 b  q1 hq1) (va_cwU (C := RX4) (owner := RX1) (x := ⟨RX1, "spell", "([II)Z"⟩) 2 hw (zgoodL (List.forall_mem_cons.mpr ⟨zw411, List.forall_mem_cons.mpr ⟨zw412, List.forall_mem_cons.mpr ⟨zw413, List.forall_mem_cons.mpr ⟨zw410, List.forall_mem_cons.mpr ⟨zw409, fun _ h => absurd h List.not_mem_nil⟩⟩⟩⟩⟩) zw408) rfl rfl rfl rfl (by decide +kernel) ⟨Nat.le_of_ble_eq_true rfl, Nat.le_of_ble_eq_true rfl⟩) (zpreV (zpre zC_ok hX hS hFc hPc hKc hDc) (va_recv hK hP rfl (q0 := 2) rfl)) rfl rfl hl.1 rfl (lv_room (Nat.le_of_ble_eq_true rfl)) dX4_takeField_9 ⟨Nat.zero_le _, Nat.zero_le _⟩) hP hD hS hFc [2, 3, 1] [0] [0, 3, 1, 2] rfl rfl (by decide) (by decide) rfl (by decide) (fun H locs hP hD hS => ?_)
  obtain ⟨hz2, -, hm⟩ := zbo_s hm
  cases hm
  exact zretz hx hb hr hlk hz2 hP hD hS dX4_takeField_12

def m_T_takeField_TE  (v : Nat → Int32) (b : Nat → Int32) (v2 : Nat → Int32) (b2 : Nat → Int32) (rw2 : Nat → Int32) (pw2 : Nat → Int32)  : Option ((Int32) × (Nat → Int32)) := (m_F_spell_E (v 1) v2 b2 rw2 pw2 b).bind (fun q1 => (zbo q1.1 (some (q1.1, q1.2))))
section
variable {p : Program} {l : Launch} {e : Env} {s : State} {m : MethodId} {args : Array Value} {below : List Frame} {meth : Method} {c : Code} {D : va_G} {w0 : va_W} {aT bT aE2 bE2 rE2 pE2 : Nat} {c1 c12 c22 c32 : ClassId} {v : Nat → Int32} {v2 : Nat → Int32} {b2 : Nat → Int32} {rw2 : Nat → Int32} {pw2 : Nat → Int32}
end
set_option maxRecDepth 100000 in
set_option maxHeartbeats 4000000 in
theorem k_T_takeField_TE (l : Launch) (D : va_G) (aT bT aE2 bE2 rE2 pE2 : Nat) (c1 c12 c22 c32 : ClassId) (sz : Nat)  (v : Nat → Int32) (b : Nat → Int32) (v2 : Nat → Int32) (b2 : Nat → Int32) (rw2 : Nat → Int32) (pw2 : Nat → Int32) (res : (Int32) × (Nat → Int32)) (hm : m_T_takeField_TE  v b v2 b2 rw2 pw2  = some res) : Met l yX4_takeField (Cond.code yX4_takeField cX4_takeField 2 (some .boolean) :: zBIG) (zR 1 23) (va_Pc [.ref aT, .ref aE2] (zP zC D vwCl (wTE2_t c1 c12 c22 c32) (wTE2 aT bT aE2 bE2 rE2 pE2 c1 c12 c22 c32 v b v2 b2 rw2 pw2) sz)) (zQi D vwCl (wTE2 aT bT aE2 bE2 rE2 pE2 c1 c12 c22 c32 v b v2 b2 rw2 pw2) (wTE2 aT bT aE2 bE2 rE2 pE2 c1 c12 c22 c32 v res.2 v2 b2 rw2 pw2) sz res.1) 0 0 (va_A (wTE2 aT bT aE2 bE2 rE2 pE2 c1 c12 c22 c32 v b v2 b2 rw2 pw2) sz) := by
  refine zEnter RX4 [.ref aT, .ref aE2] (by decide) rfl (Nat.le_of_ble_eq_true rfl) (fun p e s m below meth c ls G hK hX hP hD hsz hl => ?_)
  subst hsz
  unfold m_T_takeField_TE at hm
  have hl : lv_has ls 2 [(0, .ref aT), (1, .ref aE2)] := hl
  have hS : va_S (va_A (wTE2 aT bT aE2 bE2 rE2 pE2 c1 c12 c22 c32 v b v2 b2 rw2 pw2) s.heap.size) s.heap s.heap [] := va_S.rf
  have hA : ∀ q, s.heap.size ≤ q → va_A (wTE2 aT bT aE2 bE2 rE2 pE2 c1 c12 c22 c32 v b v2 b2 rw2 pw2) s.heap.size q := fun q h => Or.inr h
  have G0 := G
  obtain ⟨hx, hb, hr, hml, hown, hw, hlk⟩ := G
  refine lv_aload_n hx hb dX4_takeField_0 rfl (lv_at hl 1 rfl) ?_
  refine lv_aload_n hx hb dX4_takeField_1 rfl (lv_at hl 0 rfl) ?_
  refine va_get (D := D) (ci := 3) (v := .ref bT) (C := RX4) (T := TX4) (N := 5) hx hb hw zinX4 hown hK hP 0 rfl rfl 0 (by decide) (hw _ zw253) (fun x9 h9 => u_same (hw _ zw252) x9 h9) rfl dX4_takeField_2 ?_
  refine lv_aload_n hx hb dX4_takeField_5 rfl (lv_at hl 0 rfl) ?_
  refine va_get (D := D) (ci := 3) (v := .int (v 1)) (C := RX4) (T := TX4) (N := 5) hx hb hw zinX4 hown hK hP 0 rfl rfl 1 (by decide) (hw _ zw247) (fun x9 h9 => u_same (hw _ zw246) x9 h9) rfl dX4_takeField_6 ?_
  obtain ⟨q1, hq1, hm⟩ := zbind hm
  have hPc := hP.sub (ws' := (wEB aE2 bE2 rE2 pE2 bT c12 c22 c32 c1 v2 b2 rw2 pw2 b)) [2, 3, 4, 5, 1] rfl
  have hDc := hD.sub (ws' := (wEB aE2 bE2 rE2 pE2 bT c12 c22 c32 c1 v2 b2 rw2 pw2 b)) [2, 3, 4, 5, 1] (by decide) rfl
  have hKc := hK.sub (tys' := wEB_t c12 c22 c32 c1) [1, 2, 3, 0] rfl
  have hFc := va_free (wc := (wEB aE2 bE2 rE2 pE2 bT c12 c22 c32 c1 v2 b2 rw2 pw2 b)) hD hS hA [2, 3, 4, 5, 1] rfl
  refine zbSi (wr := [(aT, .inr (3, [.ref bT, .int (v 1), .int (v 2), .int (v 3), .int (v 4)]))]) (w1 := (wEB aE2 bE2 rE2 pE2 bT c12 c22 c32 c1 v2 b2 rw2 pw2 q1.2)) (w' := (wTE2 aT bT aE2 bE2 rE2 pE2 c1 c12 c22 c32 v q1.2 v2 b2 rw2 pw2)) (va_runU (As := [.ref bT, .int (v 1)]) (rest := []) ⟨hx, hb, hml, hown, hw⟩ (k_F_spell_E l D aE2 bE2 rE2 pE2 bT c12 c22 c32 c1 _ (v 1) v2 b2 rw2 pw2 b  q1 hq1) (va_cwU (C := RX0) (owner := RX1) (x := ⟨RX1, "spell", "([II)Z"⟩) 2 hw (zgoodL (List.forall_mem_cons.mpr ⟨zw411, List.forall_mem_cons.mpr ⟨zw412, List.forall_mem_cons.mpr ⟨zw417, List.forall_mem_cons.mpr ⟨zw410, List.forall_mem_cons.mpr ⟨zw409, fun _ h => absurd h List.not_mem_nil⟩⟩⟩⟩⟩) zw408) rfl rfl rfl rfl (by decide +kernel) ⟨Nat.le_of_ble_eq_true rfl, Nat.le_of_ble_eq_true rfl⟩) (zpreV (zpre zC_ok hX hS hFc hPc hKc hDc) (va_recv hK hP rfl (q0 := 2) rfl)) rfl rfl hl.1 rfl (lv_room (Nat.le_of_ble_eq_true rfl)) dX4_takeField_9 ⟨Nat.zero_le _, Nat.zero_le _⟩) hP hD hS hFc [2, 3, 4, 5, 1] [0] [0, 5, 1, 2, 3, 4] rfl rfl (by decide) (by decide) rfl (by decide) (fun H locs hP hD hS => ?_)
  obtain ⟨hz2, -, hm⟩ := zbo_s hm
  cases hm
  exact zretz hx hb hr hlk hz2 hP hD hS dX4_takeField_12

