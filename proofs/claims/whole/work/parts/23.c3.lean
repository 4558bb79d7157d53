theorem dX0_isSign_0 : decode cX0_isSign 0 = .ok (.iload_n 0, 1) := by decide +kernel
theorem dX0_isSign_1 : decode cX0_isSign 1 = .ok (.bipush 43, 2) := by decide +kernel
theorem dX0_isSign_3 : decode cX0_isSign 3 = .ok (.if_icmp .eq 9, 3) := by decide +kernel
theorem dX0_isSign_6 : decode cX0_isSign 6 = .ok (.iload_n 0, 1) := by decide +kernel
theorem dX0_isSign_7 : decode cX0_isSign 7 = .ok (.bipush 45, 2) := by decide +kernel
theorem dX0_isSign_9 : decode cX0_isSign 9 = .ok (.if_icmp .ne 7, 3) := by decide +kernel
theorem dX0_isSign_12 : decode cX0_isSign 12 = .ok (.iconst 1, 1) := by decide +kernel
theorem dX0_isSign_13 : decode cX0_isSign 13 = .ok (.goto 4, 3) := by decide +kernel
theorem dX0_isSign_16 : decode cX0_isSign 16 = .ok (.iconst 0, 1) := by decide +kernel
theorem dX0_isSign_17 : decode cX0_isSign 17 = .ok (.ireturn, 1) := by decide +kernel
def m_E_isSign_12    : Option ((Int32)) := (zbo 1 (some 1))
def m_E_isSign (a0 : Int32)   : Option ((Int32)) := (if a0 = 43 then m_E_isSign_12   else (if a0 = 45 then m_E_isSign_12   else (zbo 0 (some 0))))
section
variable {p : Program} {l : Launch} {e : Env} {s : State} {m : MethodId} {args : Array Value} {below : List Frame} {meth : Method} {c : Code} {D : va_G} {w0 : va_W}
set_option maxRecDepth 100000 in
set_option maxHeartbeats 4000000 in
theorem b_E_isSign_12 (G : zG p s m args meth c cX0_isSign RX0 1 (some .boolean)) (hK : va_K D vwCl [] s) (hX : zN (va_A w0 s.heap.size) s) {res : (Int32)} : m_E_isSign_12   = some res → zB p l e (zR 0 0) s m args below meth c D vwCl (va_A w0 s.heap.size) (MQ below (zQi D vwCl w0 [] s.heap.size res) args s 0 0 (va_A w0 s.heap.size)) 1 [] [] 12 [] := by
  intro  hm H locs ls hP hD hS hl
  unfold m_E_isSign_12 at hm
  have G0 := G
  obtain ⟨hx, hb, hr, hml, hown, hw, hlk⟩ := G
  have hA : ∀ q, s.heap.size ≤ q → va_A w0 s.heap.size q := fun q h => Or.inr h
  refine lv_iconst (v := 1) hx hb dX0_isSign_12 (by decide) ?_
  refine lv_goto (tgt := 17) hx hb dX0_isSign_13 rfl ?_
  obtain ⟨hz2, -, hm⟩ := zbo_s hm
  cases hm
  exact zretz hx hb hr hlk hz2 hP hD hS dX0_isSign_17
end
set_option maxRecDepth 100000 in
set_option maxHeartbeats 4000000 in
theorem k_E_isSign (l : Launch) (D : va_G)  (sz : Nat) (a0 : Int32)  (res : (Int32)) (hm : m_E_isSign a0   = some res) : Met l yX0_isSign (Cond.code yX0_isSign cX0_isSign 1 (some .boolean) :: zBIG) (zR 0 0) (va_Pc [.int a0] (zP zN D vwCl [] [] sz)) (zQi D vwCl [] [] sz res) 0 0 (va_A [] sz) := by
  refine zEnter RX0 [.int a0] (by decide) rfl (Nat.le_of_ble_eq_true rfl) (fun p e s m below meth c ls G hK hX hP hD hsz hl => ?_)
  subst hsz
  unfold m_E_isSign at hm
  have hl : lv_has ls 1 [(0, .int a0)] := hl
  have hS : va_S (va_A [] s.heap.size) s.heap s.heap [] := va_S.rf
  have hA : ∀ q, s.heap.size ≤ q → va_A [] s.heap.size q := fun q h => Or.inr h
  have G0 := G
  obtain ⟨hx, hb, hr, hml, hown, hw, hlk⟩ := G
  refine lv_iload_n hx hb dX0_isSign_0 rfl (lv_at hl 0 rfl) ?_
  refine lv_bipush (v := 43) hx hb dX0_isSign_1 (by decide) ?_
  refine lv_icmp_eq (tgt := 12) hx hb dX0_isSign_3 rfl (fun cd1 => ?_) (fun cd1 => ?_)
  · replace hm := zt cd1 hm
    exact b_E_isSign_12 G0 hK hX  hm _ _ _ hP hD hS (lv_sub hl [] rfl)
  · replace hm := zf cd1 hm
    refine lv_iload_n hx hb dX0_isSign_6 rfl (lv_at hl 0 rfl) ?_
    refine lv_bipush (v := 45) hx hb dX0_isSign_7 (by decide) ?_
    refine lv_icmp_ne (tgt := 16) hx hb dX0_isSign_9 rfl (fun cd3 => ?_) (fun cd3 => ?_)
    · replace hm := zf cd3 hm
      refine lv_iconst (v := 0) hx hb dX0_isSign_16 (by decide) ?_
      obtain ⟨hz4, -, hm⟩ := zbo_s hm
      cases hm
      exact zretz hx hb hr hlk hz4 hP hD hS dX0_isSign_17
    · replace hm := zt cd3 hm
      exact b_E_isSign_12 G0 hK hX  hm _ _ _ hP hD hS (lv_sub hl [] rfl)

theorem dX0_fixedCharacter_0 : decode cX0_fixedCharacter 0 = .ok (.iload_n 0, 1) := by decide +kernel
theorem dX0_fixedCharacter_1 : decode cX0_fixedCharacter 1 = .ok (.bipush 36, 2) := by decide +kernel
theorem dX0_fixedCharacter_3 : decode cX0_fixedCharacter 3 = .ok (.if_icmp .ne 6, 3) := by decide +kernel
theorem dX0_fixedCharacter_6 : decode cX0_fixedCharacter 6 = .ok (.bipush 36, 2) := by decide +kernel
theorem dX0_fixedCharacter_8 : decode cX0_fixedCharacter 8 = .ok (.ireturn, 1) := by decide +kernel
theorem dX0_fixedCharacter_9 : decode cX0_fixedCharacter 9 = .ok (.iload_n 1, 1) := by decide +kernel
theorem dX0_fixedCharacter_10 : decode cX0_fixedCharacter 10 = .ok (.ifCond .eq 6, 3) := by decide +kernel
theorem dX0_fixedCharacter_13 : decode cX0_fixedCharacter 13 = .ok (.bipush 45, 2) := by decide +kernel
theorem dX0_fixedCharacter_15 : decode cX0_fixedCharacter 15 = .ok (.ireturn, 1) := by decide +kernel
theorem dX0_fixedCharacter_16 : decode cX0_fixedCharacter 16 = .ok (.iload_n 0, 1) := by decide +kernel
theorem dX0_fixedCharacter_17 : decode cX0_fixedCharacter 17 = .ok (.bipush 43, 2) := by decide +kernel
theorem dX0_fixedCharacter_19 : decode cX0_fixedCharacter 19 = .ok (.if_icmp .ne 8, 3) := by decide +kernel
theorem dX0_fixedCharacter_22 : decode cX0_fixedCharacter 22 = .ok (.bipush 43, 2) := by decide +kernel
theorem dX0_fixedCharacter_24 : decode cX0_fixedCharacter 24 = .ok (.goto 5, 3) := by decide +kernel
theorem dX0_fixedCharacter_27 : decode cX0_fixedCharacter 27 = .ok (.bipush 32, 2) := by decide +kernel
theorem dX0_fixedCharacter_29 : decode cX0_fixedCharacter 29 = .ok (.ireturn, 1) := by decide +kernel
def m_E_fixedCharacter (a0 : Int32) (a1 : Int32)   : Option ((Int32)) := (if a0 = 36 then (some 36) else (if a1 = 0 then (if a0 = 43 then (some 43) else (some 32)) else (some 45)))
section
variable {p : Program} {l : Launch} {e : Env} {s : State} {m : MethodId} {args : Array Value} {below : List Frame} {meth : Method} {c : Code} {D : va_G} {w0 : va_W}
end
set_option maxRecDepth 100000 in
set_option maxHeartbeats 4000000 in
theorem k_E_fixedCharacter (l : Launch) (D : va_G)  (sz : Nat) (a0 : Int32) (a1 : Int32)  (res : (Int32)) (hm : m_E_fixedCharacter a0 a1   = some res) : Met l yX0_fixedCharacter (Cond.code yX0_fixedCharacter cX0_fixedCharacter 2 (some .int) :: zBIG) (zR 0 0) (va_Pc [.int a0, .int a1] (zP zN D vwCl [] [] sz)) (zQi D vwCl [] [] sz res) 0 0 (va_A [] sz) := by
  refine zEnter RX0 [.int a0, .int a1] (by decide) rfl (Nat.le_of_ble_eq_true rfl) (fun p e s m below meth c ls G hK hX hP hD hsz hl => ?_)
  subst hsz
  unfold m_E_fixedCharacter at hm
  have hl : lv_has ls 2 [(0, .int a0), (1, .int a1)] := hl
  have hS : va_S (va_A [] s.heap.size) s.heap s.heap [] := va_S.rf
  have hA : ∀ q, s.heap.size ≤ q → va_A [] s.heap.size q := fun q h => Or.inr h
  have G0 := G
  obtain ⟨hx, hb, hr, hml, hown, hw, hlk⟩ := G
  refine lv_iload_n hx hb dX0_fixedCharacter_0 rfl (lv_at hl 0 rfl) ?_
  refine lv_bipush (v := 36) hx hb dX0_fixedCharacter_1 (by decide) ?_
  refine lv_icmp_ne (tgt := 9) hx hb dX0_fixedCharacter_3 rfl (fun cd1 => ?_) (fun cd1 => ?_)
  · replace hm := zf cd1 hm
    refine lv_iload_n hx hb dX0_fixedCharacter_9 rfl (lv_at hl 1 rfl) ?_
    refine lv_if_eq (tgt := 16) hx hb dX0_fixedCharacter_10 rfl (fun cd2 => ?_) (fun cd2 => ?_)
    · replace hm := zt cd2 hm
      refine lv_iload_n hx hb dX0_fixedCharacter_16 rfl (lv_at hl 0 rfl) ?_
      refine lv_bipush (v := 43) hx hb dX0_fixedCharacter_17 (by decide) ?_
      refine lv_icmp_ne (tgt := 27) hx hb dX0_fixedCharacter_19 rfl (fun cd3 => ?_) (fun cd3 => ?_)
      · replace hm := zf cd3 hm
        refine lv_bipush (v := 32) hx hb dX0_fixedCharacter_27 (by decide) ?_
        cases hm
        exact zreti hx hb hr hlk hP hD hS dX0_fixedCharacter_29
      · replace hm := zt cd3 hm
        refine lv_bipush (v := 43) hx hb dX0_fixedCharacter_22 (by decide) ?_
        refine lv_goto (tgt := 29) hx hb dX0_fixedCharacter_24 rfl ?_
        cases hm
        exact zreti hx hb hr hlk hP hD hS dX0_fixedCharacter_29
    · replace hm := zf cd2 hm
      refine lv_bipush (v := 45) hx hb dX0_fixedCharacter_13 (by decide) ?_
      cases hm
      exact zreti hx hb hr hlk hP hD hS dX0_fixedCharacter_15
  · replace hm := zt cd1 hm
    refine lv_bipush (v := 36) hx hb dX0_fixedCharacter_6 (by decide) ?_
    cases hm
    exact zreti hx hb hr hlk hP hD hS dX0_fixedCharacter_8

theorem dX0_kind_0 : decode cX0_kind 0 = .ok (.iconst 2, 1) := by decide +kernel
theorem dX0_kind_1 : decode cX0_kind 1 = .ok (.ireturn, 1) := by decide +kernel
def m_E_kind  (v : Nat → Int32) (b : Nat → Int32) (rw : Nat → Int32) (pw : Nat → Int32)  : Option ((Int32)) := (some 2)
section
variable {p : Program} {l : Launch} {e : Env} {s : State} {m : MethodId} {args : Array Value} {below : List Frame} {meth : Method} {c : Code} {D : va_G} {w0 : va_W} {aE bE rE pE : Nat} {c1 c2 c3 : ClassId} {v : Nat → Int32} {b : Nat → Int32} {rw : Nat → Int32} {pw : Nat → Int32}
end
set_option maxRecDepth 100000 in
set_option maxHeartbeats 4000000 in
theorem k_E_kind (l : Launch) (D : va_G) (aE bE rE pE : Nat) (c1 c2 c3 : ClassId) (sz : Nat)  (v : Nat → Int32) (b : Nat → Int32) (rw : Nat → Int32) (pw : Nat → Int32) (res : (Int32)) (hm : m_E_kind  v b rw pw  = some res) : Met l yX0_kind (Cond.code yX0_kind cX0_kind 1 (some .int) :: zBIG) (zR 0 0) (va_Pc [.ref aE] (zP zC D vwCl (wE_t c1 c2 c3) (wE aE bE rE pE c1 c2 c3 v b rw pw) sz)) (zQi D vwCl (wE aE bE rE pE c1 c2 c3 v b rw pw) (wE aE bE rE pE c1 c2 c3 v b rw pw) sz res) 0 0 (va_A (wE aE bE rE pE c1 c2 c3 v b rw pw) sz) := by
  refine zEnter RX0 [.ref aE] (by decide) rfl (Nat.le_of_ble_eq_true rfl) (fun p e s m below meth c ls G hK hX hP hD hsz hl => ?_)
  subst hsz
  unfold m_E_kind at hm
  have hl : lv_has ls 1 [(0, .ref aE)] := hl
  have hS : va_S (va_A (wE aE bE rE pE c1 c2 c3 v b rw pw) s.heap.size) s.heap s.heap [] := va_S.rf
  have hA : ∀ q, s.heap.size ≤ q → va_A (wE aE bE rE pE c1 c2 c3 v b rw pw) s.heap.size q := fun q h => Or.inr h
  have G0 := G
  obtain ⟨hx, hb, hr, hml, hown, hw, hlk⟩ := G
  refine lv_iconst (v := 2) hx hb dX0_kind_0 (by decide) ?_
  cases hm
  exact zreti hx hb hr hlk hP hD hS dX0_kind_1

theorem dX0_firstOfRest_0 : decode cX0_firstOfRest 0 = .ok (.aload_n 0, 1) := by decide +kernel
theorem dX0_firstOfRest_1 : decode cX0_firstOfRest 1 = .ok (.getfield 80, 3) := by decide +kernel
theorem dX0_firstOfRest_4 : decode cX0_firstOfRest 4 = .ok (.aload_n 0, 1) := by decide +kernel
theorem dX0_firstOfRest_5 : decode cX0_firstOfRest 5 = .ok (.getfield 83, 3) := by decide +kernel
theorem dX0_firstOfRest_8 : decode cX0_firstOfRest 8 = .ok (.if_icmp .ge 15, 3) := by decide +kernel
theorem dX0_firstOfRest_11 : decode cX0_firstOfRest 11 = .ok (.aload_n 0, 1) := by decide +kernel
theorem dX0_firstOfRest_12 : decode cX0_firstOfRest 12 = .ok (.getfield 9, 3) := by decide +kernel
theorem dX0_firstOfRest_15 : decode cX0_firstOfRest 15 = .ok (.aload_n 0, 1) := by decide +kernel
theorem dX0_firstOfRest_16 : decode cX0_firstOfRest 16 = .ok (.getfield 80, 3) := by decide +kernel
theorem dX0_firstOfRest_19 : decode cX0_firstOfRest 19 = .ok (.iaload, 1) := by decide +kernel
theorem dX0_firstOfRest_20 : decode cX0_firstOfRest 20 = .ok (.goto 4, 3) := by decide +kernel
theorem dX0_firstOfRest_23 : decode cX0_firstOfRest 23 = .ok (.iconst (-1), 1) := by decide +kernel
theorem dX0_firstOfRest_24 : decode cX0_firstOfRest 24 = .ok (.ireturn, 1) := by decide +kernel
def m_E_firstOfRest  (v : Nat → Int32) (b : Nat → Int32) (rw : Nat → Int32) (pw : Nat → Int32)  : Option ((Int32)) := (if (v 10) ≤ (v 9) then (some (-1)) else zix (v 9) 24 ((some (rw (v 9).toNatClampNeg))))
section
variable {p : Program} {l : Launch} {e : Env} {s : State} {m : MethodId} {args : Array Value} {below : List Frame} {meth : Method} {c : Code} {D : va_G} {w0 : va_W} {aE bE rE pE : Nat} {c1 c2 c3 : ClassId} {v : Nat → Int32} {b : Nat → Int32} {rw : Nat → Int32} {pw : Nat → Int32}
end
set_option maxRecDepth 100000 in
set_option maxHeartbeats 4000000 in
theorem k_E_firstOfRest (l : Launch) (D : va_G) (aE bE rE pE : Nat) (c1 c2 c3 : ClassId) (sz : Nat)  (v : Nat → Int32) (b : Nat → Int32) (rw : Nat → Int32) (pw : Nat → Int32) (res : (Int32)) (hm : m_E_firstOfRest  v b rw pw  = some res) : Met l yX0_firstOfRest (Cond.code yX0_firstOfRest cX0_firstOfRest 1 (some .int) :: zBIG) (zR 0 0) (va_Pc [.ref aE] (zP zC D vwCl (wE_t c1 c2 c3) (wE aE bE rE pE c1 c2 c3 v b rw pw) sz)) (zQi D vwCl (wE aE bE rE pE c1 c2 c3 v b rw pw) (wE aE bE rE pE c1 c2 c3 v b rw pw) sz res) 0 0 (va_A (wE aE bE rE pE c1 c2 c3 v b rw pw) sz) := by
  refine zEnter RX0 [.ref aE] (by decide) rfl (Nat.le_of_ble_eq_true rfl) (fun p e s m below meth c ls G hK hX hP hD hsz hl => ?_)
  subst hsz
  unfold m_E_firstOfRest at hm
  have hl : lv_has ls 1 [(0, .ref aE)] := hl
  have hS : va_S (va_A (wE aE bE rE pE c1 c2 c3 v b rw pw) s.heap.size) s.heap s.heap [] := va_S.rf
  have hA : ∀ q, s.heap.size ≤ q → va_A (wE aE bE rE pE c1 c2 c3 v b rw pw) s.heap.size q := fun q h => Or.inr h
  have G0 := G
  obtain ⟨hx, hb, hr, hml, hown, hw, hlk⟩ := G
  refine lv_aload_n hx hb dX0_firstOfRest_0 rfl (lv_at hl 0 rfl) ?_
  refine va_get (D := D) (ci := 0) (v := .int (v 9)) (C := RX0) (T := TX0) (N := 16) hx hb hw zinX0 hown hK hP 0 rfl rfl 9 (by decide) (hw _ zw254) (fun _ h9 => h9) rfl dX0_firstOfRest_1 ?_
  refine lv_aload_n hx hb dX0_firstOfRest_4 rfl (lv_at hl 0 rfl) ?_
  refine va_get (D := D) (ci := 0) (v := .int (v 10)) (C := RX0) (T := TX0) (N := 16) hx hb hw zinX0 hown hK hP 0 rfl rfl 10 (by decide) (hw _ zw255) (fun _ h9 => h9) rfl dX0_firstOfRest_5 ?_
  refine lv_icmp_ge (tgt := 23) hx hb dX0_firstOfRest_8 rfl (fun cd1 => ?_) (fun cd1 => ?_)
  · replace hm := zt cd1 hm
    refine lv_iconst (v := (-1)) hx hb dX0_firstOfRest_23 (by decide) ?_
    cases hm
    exact zreti hx hb hr hlk hP hD hS dX0_firstOfRest_24
  · replace hm := zf cd1 hm
    refine lv_aload_n hx hb dX0_firstOfRest_11 rfl (lv_at hl 0 rfl) ?_
    refine va_get (D := D) (ci := 0) (v := .ref rE) (C := RX0) (T := TX0) (N := 16) hx hb hw zinX0 hown hK hP 0 rfl rfl 5 (by decide) (hw _ zw256) (fun _ h9 => h9) rfl dX0_firstOfRest_12 ?_
    refine lv_aload_n hx hb dX0_firstOfRest_15 rfl (lv_at hl 0 rfl) ?_
    refine va_get (D := D) (ci := 0) (v := .int (v 9)) (C := RX0) (T := TX0) (N := 16) hx hb hw zinX0 hown hK hP 0 rfl rfl 9 (by decide) (hw _ zw254) (fun _ h9 => h9) rfl dX0_firstOfRest_16 ?_
    obtain ⟨hi2, hm⟩ := zix_s hm
    refine va_iald (i := (v 9)) (f := rw) (n := 24) hx hb hK hP 2 1 rfl rfl hi2 dX0_firstOfRest_19 ?_
    refine lv_goto (tgt := 24) hx hb dX0_firstOfRest_20 rfl ?_
    cases hm
    exact zreti hx hb hr hlk hP hD hS dX0_firstOfRest_24

theorem dX0_standsOnce_0 : decode cX0_standsOnce 0 = .ok (.iconst 0, 1) := by decide +kernel
theorem dX0_standsOnce_1 : decode cX0_standsOnce 1 = .ok (.istore_n 2, 1) := by decide +kernel
theorem dX0_standsOnce_2 : decode cX0_standsOnce 2 = .ok (.aload_n 0, 1) := by decide +kernel
theorem dX0_standsOnce_3 : decode cX0_standsOnce 3 = .ok (.getfield 80, 3) := by decide +kernel
theorem dX0_standsOnce_6 : decode cX0_standsOnce 6 = .ok (.istore_n 3, 1) := by decide +kernel
theorem dX0_standsOnce_7 : decode cX0_standsOnce 7 = .ok (.iload_n 3, 1) := by decide +kernel
theorem dX0_standsOnce_8 : decode cX0_standsOnce 8 = .ok (.aload_n 0, 1) := by decide +kernel
theorem dX0_standsOnce_9 : decode cX0_standsOnce 9 = .ok (.getfield 83, 3) := by decide +kernel
theorem dX0_standsOnce_12 : decode cX0_standsOnce 12 = .ok (.if_icmp .ge 27, 3) := by decide +kernel
theorem dX0_standsOnce_15 : decode cX0_standsOnce 15 = .ok (.iload_n 2, 1) := by decide +kernel
theorem dX0_standsOnce_16 : decode cX0_standsOnce 16 = .ok (.aload_n 0, 1) := by decide +kernel
theorem dX0_standsOnce_17 : decode cX0_standsOnce 17 = .ok (.getfield 9, 3) := by decide +kernel
theorem dX0_standsOnce_20 : decode cX0_standsOnce 20 = .ok (.iload_n 3, 1) := by decide +kernel
theorem dX0_standsOnce_21 : decode cX0_standsOnce 21 = .ok (.iaload, 1) := by decide +kernel
theorem dX0_standsOnce_22 : decode cX0_standsOnce 22 = .ok (.iload_n 1, 1) := by decide +kernel
theorem dX0_standsOnce_23 : decode cX0_standsOnce 23 = .ok (.if_icmp .ne 7, 3) := by decide +kernel
theorem dX0_standsOnce_26 : decode cX0_standsOnce 26 = .ok (.iconst 1, 1) := by decide +kernel
theorem dX0_standsOnce_27 : decode cX0_standsOnce 27 = .ok (.goto 4, 3) := by decide +kernel
theorem dX0_standsOnce_30 : decode cX0_standsOnce 30 = .ok (.iconst 0, 1) := by decide +kernel
theorem dX0_standsOnce_31 : decode cX0_standsOnce 31 = .ok (.iadd, 1) := by decide +kernel
theorem dX0_standsOnce_32 : decode cX0_standsOnce 32 = .ok (.istore_n 2, 1) := by decide +kernel
theorem dX0_standsOnce_33 : decode cX0_standsOnce 33 = .ok (.iinc 3 1, 3) := by decide +kernel
theorem dX0_standsOnce_36 : decode cX0_standsOnce 36 = .ok (.goto (-29), 3) := by decide +kernel
theorem dX0_standsOnce_39 : decode cX0_standsOnce 39 = .ok (.iload_n 2, 1) := by decide +kernel
theorem dX0_standsOnce_40 : decode cX0_standsOnce 40 = .ok (.iconst 1, 1) := by decide +kernel
theorem dX0_standsOnce_41 : decode cX0_standsOnce 41 = .ok (.if_icmp .ne 7, 3) := by decide +kernel
theorem dX0_standsOnce_44 : decode cX0_standsOnce 44 = .ok (.iconst 1, 1) := by decide +kernel
theorem dX0_standsOnce_45 : decode cX0_standsOnce 45 = .ok (.goto 4, 3) := by decide +kernel
theorem dX0_standsOnce_48 : decode cX0_standsOnce 48 = .ok (.iconst 0, 1) := by decide +kernel
theorem dX0_standsOnce_49 : decode cX0_standsOnce 49 = .ok (.ireturn, 1) := by decide +kernel
def m_E_standsOnce_31 (v : Nat → Int32) (b : Nat → Int32) (rw : Nat → Int32) (pw : Nat → Int32) (rec : Int32 → Int32 → Int32 → Option ((Int32))) (x1 : Int32) (x3 : Int32) (t0 : Int32) (t1 : Int32)  : Option ((Int32)) := rec x1 (t1 + t0) (x3 + 1)
def m_E_standsOnce_7b (v : Nat → Int32) (b : Nat → Int32) (rw : Nat → Int32) (pw : Nat → Int32) (rec : Int32 → Int32 → Int32 → Option ((Int32))) (x1 : Int32) (x2 : Int32) (x3 : Int32)  : Option ((Int32)) := (if (v 10) ≤ x3 then (if x2 = 1 then (zbo 1 (some 1)) else (zbo 0 (some 0))) else zix x3 24 ((if (rw x3.toNatClampNeg) = x1 then m_E_standsOnce_31 v b rw pw rec x1 x3 1 x2 else m_E_standsOnce_31 v b rw pw rec x1 x3 0 x2)))
def m_E_standsOnce_7 (v : Nat → Int32) (b : Nat → Int32) (rw : Nat → Int32) (pw : Nat → Int32) : Nat → Int32 → Int32 → Int32 → Option ((Int32))
  | 0 => fun _ _ _ => none
  | n + 1 => fun x1 x2 x3 => m_E_standsOnce_7b v b rw pw (m_E_standsOnce_7 v b rw pw n) x1 x2 x3
def m_E_standsOnce (a0 : Int32) (v : Nat → Int32) (b : Nat → Int32) (rw : Nat → Int32) (pw : Nat → Int32)  : Option ((Int32)) := m_E_standsOnce_7 v b rw pw 64 a0 0 (v 9)
section
variable {p : Program} {l : Launch} {e : Env} {s : State} {m : MethodId} {args : Array Value} {below : List Frame} {meth : Method} {c : Code} {D : va_G} {w0 : va_W} {aE bE rE pE : Nat} {c1 c2 c3 : ClassId} {v : Nat → Int32} {b : Nat → Int32} {rw : Nat → Int32} {pw : Nat → Int32}
set_option maxRecDepth 100000 in
set_option maxHeartbeats 4000000 in
theorem b_E_standsOnce_31 (G : zG p s m args meth c cX0_standsOnce RX0 4 (some .boolean)) (hK : va_K D vwCl (wE_t c1 c2 c3) s) (hX : zC (va_A w0 s.heap.size) s) {res : (Int32)} (rec : Int32 → Int32 → Int32 → Option ((Int32))) (hrec : ∀ (x1 : Int32) (x2 : Int32) (x3 : Int32), rec x1 x2 x3 = some res → zB p l e (zR 0 0) s m args below meth c D vwCl (va_A w0 s.heap.size) (MQ below (zQi D vwCl w0 (wE aE bE rE pE c1 c2 c3 v b rw pw) s.heap.size res) args s 0 0 (va_A w0 s.heap.size)) 4 (wE aE bE rE pE c1 c2 c3 v b rw pw) [(0, .ref aE), (1, .int x1), (2, .int x2), (3, .int x3)] 7 []) : ∀ (x1 : Int32) (x3 : Int32) (t0 : Int32) (t1 : Int32), m_E_standsOnce_31 v b rw pw rec x1 x3 t0 t1 = some res → zB p l e (zR 0 0) s m args below meth c D vwCl (va_A w0 s.heap.size) (MQ below (zQi D vwCl w0 (wE aE bE rE pE c1 c2 c3 v b rw pw) s.heap.size res) args s 0 0 (va_A w0 s.heap.size)) 4 (wE aE bE rE pE c1 c2 c3 v b rw pw) [(0, .ref aE), (1, .int x1), (3, .int x3)] 31 [.int t0, .int t1] := by
  intro x1 x3 t0 t1 hm H locs ls hP hD hS hl
  unfold m_E_standsOnce_31 at hm
  have G0 := G
  obtain ⟨hx, hb, hr, hml, hown, hw, hlk⟩ := G
  have hA : ∀ q, s.heap.size ≤ q → va_A w0 s.heap.size q := fun q h => Or.inr h
  refine lv_iadd hx hb dX0_standsOnce_31 ?_
  refine lv_istore_n (lv' := [(2, .int (t1 + t0)), (0, .ref aE), (1, .int x1), (3, .int x3)]) hx hb dX0_standsOnce_32 rfl hl (by decide) rfl (fun ls hl => ?_)
  refine lv_iinc (k := 3) (v := (x3 + 1)) (lv' := [(3, .int (x3 + 1)), (2, .int (t1 + t0)), (0, .ref aE), (1, .int x1)]) hx hb dX0_standsOnce_33 hl rfl rfl (by decide) rfl (fun ls hl => ?_)
  refine lv_goto (tgt := 7) hx hb dX0_standsOnce_36 rfl ?_
  exact hrec _ _ _ hm H _ _ hP hD hS (lv_sub hl [2, 3, 1, 0] rfl)
set_option maxRecDepth 100000 in
set_option maxHeartbeats 4000000 in
theorem b_E_standsOnce_7 (G : zG p s m args meth c cX0_standsOnce RX0 4 (some .boolean)) (hK : va_K D vwCl (wE_t c1 c2 c3) s) (hX : zC (va_A w0 s.heap.size) s) {res : (Int32)} : ∀ n : Nat, ∀ (x1 : Int32) (x2 : Int32) (x3 : Int32), m_E_standsOnce_7 v b rw pw n x1 x2 x3 = some res → zB p l e (zR 0 0) s m args below meth c D vwCl (va_A w0 s.heap.size) (MQ below (zQi D vwCl w0 (wE aE bE rE pE c1 c2 c3 v b rw pw) s.heap.size res) args s 0 0 (va_A w0 s.heap.size)) 4 (wE aE bE rE pE c1 c2 c3 v b rw pw) [(0, .ref aE), (1, .int x1), (2, .int x2), (3, .int x3)] 7 [] := by
  intro n
  induction n with
  | zero => intro x1 x2 x3 hm; cases hm
  | succ n ih =>
  have hrec := ih
  intro x1 x2 x3 hm H locs ls hP hD hS hl
  replace hm : m_E_standsOnce_7b v b rw pw (m_E_standsOnce_7 v b rw pw n) x1 x2 x3 = some res := hm
  generalize m_E_standsOnce_7 v b rw pw n = rec at hm hrec
  unfold m_E_standsOnce_7b at hm
  clear ih
  have G0 := G
  obtain ⟨hx, hb, hr, hml, hown, hw, hlk⟩ := G
  have hA : ∀ q, s.heap.size ≤ q → va_A w0 s.heap.size q := fun q h => Or.inr h
  refine lv_iload_n hx hb dX0_standsOnce_7 rfl (lv_at hl 3 rfl) ?_
  refine lv_aload_n hx hb dX0_standsOnce_8 rfl (lv_at hl 0 rfl) ?_
  refine va_get (D := D) (ci := 0) (v := .int (v 10)) (C := RX0) (T := TX0) (N := 16) hx hb hw zinX0 hown hK hP 0 rfl rfl 10 (by decide) (hw _ zw255) (fun _ h9 => h9) rfl dX0_standsOnce_9 ?_
  refine lv_icmp_ge (tgt := 39) hx hb dX0_standsOnce_12 rfl (fun cd1 => ?_) (fun cd1 => ?_)
  · replace hm := zt cd1 hm
    refine lv_iload_n hx hb dX0_standsOnce_39 rfl (lv_at hl 2 rfl) ?_
    refine lv_iconst (v := 1) hx hb dX0_standsOnce_40 (by decide) ?_
    refine lv_icmp_ne (tgt := 48) hx hb dX0_standsOnce_41 rfl (fun cd2 => ?_) (fun cd2 => ?_)
    · replace hm := zf cd2 hm
      refine lv_iconst (v := 0) hx hb dX0_standsOnce_48 (by decide) ?_
      obtain ⟨hz3, -, hm⟩ := zbo_s hm
      cases hm
      exact zretz hx hb hr hlk hz3 hP hD hS dX0_standsOnce_49
    · replace hm := zt cd2 hm
      refine lv_iconst (v := 1) hx hb dX0_standsOnce_44 (by decide) ?_
      refine lv_goto (tgt := 49) hx hb dX0_standsOnce_45 rfl ?_
      obtain ⟨hz4, -, hm⟩ := zbo_s hm
      cases hm
      exact zretz hx hb hr hlk hz4 hP hD hS dX0_standsOnce_49
  · replace hm := zf cd1 hm
    refine lv_iload_n hx hb dX0_standsOnce_15 rfl (lv_at hl 2 rfl) ?_
    refine lv_aload_n hx hb dX0_standsOnce_16 rfl (lv_at hl 0 rfl) ?_
    refine va_get (D := D) (ci := 0) (v := .ref rE) (C := RX0) (T := TX0) (N := 16) hx hb hw zinX0 hown hK hP 0 rfl rfl 5 (by decide) (hw _ zw256) (fun _ h9 => h9) rfl dX0_standsOnce_17 ?_
    refine lv_iload_n hx hb dX0_standsOnce_20 rfl (lv_at hl 3 rfl) ?_
    obtain ⟨hi5, hm⟩ := zix_s hm
    refine va_iald (i := x3) (f := rw) (n := 24) hx hb hK hP 2 1 rfl rfl hi5 dX0_standsOnce_21 ?_
    refine lv_iload_n hx hb dX0_standsOnce_22 rfl (lv_at hl 1 rfl) ?_
    refine lv_icmp_ne (tgt := 30) hx hb dX0_standsOnce_23 rfl (fun cd6 => ?_) (fun cd6 => ?_)
    · replace hm := zf cd6 hm
      refine lv_iconst (v := 0) hx hb dX0_standsOnce_30 (by decide) ?_
      exact b_E_standsOnce_31 G0 hK hX rec hrec _ _ _ _ hm H _ _ hP hD hS (lv_sub hl [0, 1, 3] rfl)
    · replace hm := zt cd6 hm
      refine lv_iconst (v := 1) hx hb dX0_standsOnce_26 (by decide) ?_
      refine lv_goto (tgt := 31) hx hb dX0_standsOnce_27 rfl ?_
      exact b_E_standsOnce_31 G0 hK hX rec hrec _ _ _ _ hm H _ _ hP hD hS (lv_sub hl [0, 1, 3] rfl)
end
set_option maxRecDepth 100000 in
set_option maxHeartbeats 4000000 in
theorem k_E_standsOnce (l : Launch) (D : va_G) (aE bE rE pE : Nat) (c1 c2 c3 : ClassId) (sz : Nat) (a0 : Int32) (v : Nat → Int32) (b : Nat → Int32) (rw : Nat → Int32) (pw : Nat → Int32) (res : (Int32)) (hm : m_E_standsOnce a0 v b rw pw  = some res) : Met l yX0_standsOnce (Cond.code yX0_standsOnce cX0_standsOnce 4 (some .boolean) :: zBIG) (zR 0 0) (va_Pc [.ref aE, .int a0] (zP zC D vwCl (wE_t c1 c2 c3) (wE aE bE rE pE c1 c2 c3 v b rw pw) sz)) (zQi D vwCl (wE aE bE rE pE c1 c2 c3 v b rw pw) (wE aE bE rE pE c1 c2 c3 v b rw pw) sz res) 0 0 (va_A (wE aE bE rE pE c1 c2 c3 v b rw pw) sz) := by
  refine zEnter RX0 [.ref aE, .int a0] (by decide) rfl (Nat.le_of_ble_eq_true rfl) (fun p e s m below meth c ls G hK hX hP hD hsz hl => ?_)
  subst hsz
  unfold m_E_standsOnce at hm
  have hl : lv_has ls 4 [(0, .ref aE), (1, .int a0)] := hl
  have hS : va_S (va_A (wE aE bE rE pE c1 c2 c3 v b rw pw) s.heap.size) s.heap s.heap [] := va_S.rf
  have hA : ∀ q, s.heap.size ≤ q → va_A (wE aE bE rE pE c1 c2 c3 v b rw pw) s.heap.size q := fun q h => Or.inr h
  have G0 := G
  obtain ⟨hx, hb, hr, hml, hown, hw, hlk⟩ := G
  refine lv_iconst (v := 0) hx hb dX0_standsOnce_0 (by decide) ?_
  refine lv_istore_n (lv' := [(2, .int 0), (0, .ref aE), (1, .int a0)]) hx hb dX0_standsOnce_1 rfl hl (by decide) rfl (fun ls hl => ?_)
  refine lv_aload_n hx hb dX0_standsOnce_2 rfl (lv_at hl 1 rfl) ?_
  refine va_get (D := D) (ci := 0) (v := .int (v 9)) (C := RX0) (T := TX0) (N := 16) hx hb hw zinX0 hown hK hP 0 rfl rfl 9 (by decide) (hw _ zw254) (fun _ h9 => h9) rfl dX0_standsOnce_3 ?_
  refine lv_istore_n (lv' := [(3, .int (v 9)), (2, .int 0), (0, .ref aE), (1, .int a0)]) hx hb dX0_standsOnce_6 rfl hl (by decide) rfl (fun ls hl => ?_)
  exact b_E_standsOnce_7 G0 hK hX 64 _ _ _ hm _ _ _ hP hD hS (lv_sub hl [2, 3, 1, 0] rfl)

theorem dX0_takeApart_0 : decode cX0_takeApart 0 = .ok (.aload_n 0, 1) := by decide +kernel
theorem dX0_takeApart_1 : decode cX0_takeApart 1 = .ok (.iconst 0, 1) := by decide +kernel
theorem dX0_takeApart_2 : decode cX0_takeApart 2 = .ok (.putfield 80, 3) := by decide +kernel
theorem dX0_takeApart_5 : decode cX0_takeApart 5 = .ok (.aload_n 0, 1) := by decide +kernel
theorem dX0_takeApart_6 : decode cX0_takeApart 6 = .ok (.iload_n 1, 1) := by decide +kernel
theorem dX0_takeApart_7 : decode cX0_takeApart 7 = .ok (.putfield 83, 3) := by decide +kernel
theorem dX0_takeApart_10 : decode cX0_takeApart 10 = .ok (.aload_n 0, 1) := by decide +kernel
theorem dX0_takeApart_11 : decode cX0_takeApart 11 = .ok (.getfield 9, 3) := by decide +kernel
theorem dX0_takeApart_14 : decode cX0_takeApart 14 = .ok (.iload_n 1, 1) := by decide +kernel
theorem dX0_takeApart_15 : decode cX0_takeApart 15 = .ok (.iconst 1, 1) := by decide +kernel
theorem dX0_takeApart_16 : decode cX0_takeApart 16 = .ok (.isub, 1) := by decide +kernel
theorem dX0_takeApart_17 : decode cX0_takeApart 17 = .ok (.iaload, 1) := by decide +kernel
theorem dX0_takeApart_18 : decode cX0_takeApart 18 = .ok (.istore_n 2, 1) := by decide +kernel
theorem dX0_takeApart_19 : decode cX0_takeApart 19 = .ok (.iload_n 2, 1) := by decide +kernel
theorem dX0_takeApart_20 : decode cX0_takeApart 20 = .ok (.bipush 67, 2) := by decide +kernel
theorem dX0_takeApart_22 : decode cX0_takeApart 22 = .ok (.if_icmp .eq 24, 3) := by decide +kernel
theorem dX0_takeApart_25 : decode cX0_takeApart 25 = .ok (.iload_n 2, 1) := by decide +kernel
theorem dX0_takeApart_26 : decode cX0_takeApart 26 = .ok (.bipush 68, 2) := by decide +kernel
theorem dX0_takeApart_28 : decode cX0_takeApart 28 = .ok (.if_icmp .eq 18, 3) := by decide +kernel
theorem dX0_takeApart_31 : decode cX0_takeApart 31 = .ok (.iload_n 2, 1) := by decide +kernel
theorem dX0_takeApart_32 : decode cX0_takeApart 32 = .ok (.invokestatic 57, 3) := by decide +kernel
theorem dX0_takeApart_35 : decode cX0_takeApart 35 = .ok (.ifCond .eq 15, 3) := by decide +kernel
theorem dX0_takeApart_38 : decode cX0_takeApart 38 = .ok (.aload_n 0, 1) := by decide +kernel
theorem dX0_takeApart_39 : decode cX0_takeApart 39 = .ok (.iload_n 2, 1) := by decide +kernel
theorem dX0_takeApart_40 : decode cX0_takeApart 40 = .ok (.invokevirtual 86, 3) := by decide +kernel
theorem dX0_takeApart_43 : decode cX0_takeApart 43 = .ok (.ifCond .eq 7, 3) := by decide +kernel
theorem dX0_takeApart_46 : decode cX0_takeApart 46 = .ok (.iconst 1, 1) := by decide +kernel
theorem dX0_takeApart_47 : decode cX0_takeApart 47 = .ok (.goto 4, 3) := by decide +kernel
theorem dX0_takeApart_50 : decode cX0_takeApart 50 = .ok (.iconst 0, 1) := by decide +kernel
theorem dX0_takeApart_51 : decode cX0_takeApart 51 = .ok (.istore_n 3, 1) := by decide +kernel
theorem dX0_takeApart_52 : decode cX0_takeApart 52 = .ok (.aload_n 0, 1) := by decide +kernel
theorem dX0_takeApart_53 : decode cX0_takeApart 53 = .ok (.iload_n 3, 1) := by decide +kernel
theorem dX0_takeApart_54 : decode cX0_takeApart 54 = .ok (.ifCond .eq 7, 3) := by decide +kernel
theorem dX0_takeApart_57 : decode cX0_takeApart 57 = .ok (.iload_n 2, 1) := by decide +kernel
theorem dX0_takeApart_58 : decode cX0_takeApart 58 = .ok (.goto 4, 3) := by decide +kernel
theorem dX0_takeApart_61 : decode cX0_takeApart 61 = .ok (.iconst (-1), 1) := by decide +kernel
theorem dX0_takeApart_62 : decode cX0_takeApart 62 = .ok (.putfield 51, 3) := by decide +kernel
theorem dX0_takeApart_65 : decode cX0_takeApart 65 = .ok (.aload_n 0, 1) := by decide +kernel
theorem dX0_takeApart_66 : decode cX0_takeApart 66 = .ok (.dup, 1) := by decide +kernel
theorem dX0_takeApart_67 : decode cX0_takeApart 67 = .ok (.getfield 83, 3) := by decide +kernel
theorem dX0_takeApart_70 : decode cX0_takeApart 70 = .ok (.iload_n 3, 1) := by decide +kernel
theorem dX0_takeApart_71 : decode cX0_takeApart 71 = .ok (.ifCond .eq 7, 3) := by decide +kernel
theorem dX0_takeApart_74 : decode cX0_takeApart 74 = .ok (.iconst 1, 1) := by decide +kernel
theorem dX0_takeApart_75 : decode cX0_takeApart 75 = .ok (.goto 4, 3) := by decide +kernel
theorem dX0_takeApart_78 : decode cX0_takeApart 78 = .ok (.iconst 0, 1) := by decide +kernel
theorem dX0_takeApart_79 : decode cX0_takeApart 79 = .ok (.isub, 1) := by decide +kernel
theorem dX0_takeApart_80 : decode cX0_takeApart 80 = .ok (.putfield 83, 3) := by decide +kernel
theorem dX0_takeApart_83 : decode cX0_takeApart 83 = .ok (.aload_n 0, 1) := by decide +kernel
theorem dX0_takeApart_84 : decode cX0_takeApart 84 = .ok (.invokevirtual 89, 3) := by decide +kernel
theorem dX0_takeApart_87 : decode cX0_takeApart 87 = .ok (.istore 4, 2) := by decide +kernel
theorem dX0_takeApart_89 : decode cX0_takeApart 89 = .ok (.iload 4, 2) := by decide +kernel
theorem dX0_takeApart_91 : decode cX0_takeApart 91 = .ok (.invokestatic 57, 3) := by decide +kernel
theorem dX0_takeApart_94 : decode cX0_takeApart 94 = .ok (.ifCond .eq 16, 3) := by decide +kernel
theorem dX0_takeApart_97 : decode cX0_takeApart 97 = .ok (.aload_n 0, 1) := by decide +kernel
theorem dX0_takeApart_98 : decode cX0_takeApart 98 = .ok (.iload 4, 2) := by decide +kernel
theorem dX0_takeApart_100 : decode cX0_takeApart 100 = .ok (.invokevirtual 86, 3) := by decide +kernel
theorem dX0_takeApart_103 : decode cX0_takeApart 103 = .ok (.ifCond .eq 7, 3) := by decide +kernel
theorem dX0_takeApart_106 : decode cX0_takeApart 106 = .ok (.iconst 1, 1) := by decide +kernel
theorem dX0_takeApart_107 : decode cX0_takeApart 107 = .ok (.goto 4, 3) := by decide +kernel
theorem dX0_takeApart_110 : decode cX0_takeApart 110 = .ok (.iconst 0, 1) := by decide +kernel
theorem dX0_takeApart_111 : decode cX0_takeApart 111 = .ok (.istore 5, 2) := by decide +kernel
theorem dX0_takeApart_113 : decode cX0_takeApart 113 = .ok (.aload_n 0, 1) := by decide +kernel
theorem dX0_takeApart_114 : decode cX0_takeApart 114 = .ok (.iload 5, 2) := by decide +kernel
theorem dX0_takeApart_116 : decode cX0_takeApart 116 = .ok (.ifCond .eq 8, 3) := by decide +kernel
theorem dX0_takeApart_119 : decode cX0_takeApart 119 = .ok (.iload 4, 2) := by decide +kernel
theorem dX0_takeApart_121 : decode cX0_takeApart 121 = .ok (.goto 4, 3) := by decide +kernel
theorem dX0_takeApart_124 : decode cX0_takeApart 124 = .ok (.iconst (-1), 1) := by decide +kernel
theorem dX0_takeApart_125 : decode cX0_takeApart 125 = .ok (.putfield 48, 3) := by decide +kernel
theorem dX0_takeApart_128 : decode cX0_takeApart 128 = .ok (.aload_n 0, 1) := by decide +kernel
theorem dX0_takeApart_129 : decode cX0_takeApart 129 = .ok (.dup, 1) := by decide +kernel
theorem dX0_takeApart_130 : decode cX0_takeApart 130 = .ok (.getfield 80, 3) := by decide +kernel
theorem dX0_takeApart_133 : decode cX0_takeApart 133 = .ok (.iload 5, 2) := by decide +kernel
theorem dX0_takeApart_135 : decode cX0_takeApart 135 = .ok (.ifCond .eq 7, 3) := by decide +kernel
theorem dX0_takeApart_138 : decode cX0_takeApart 138 = .ok (.iconst 1, 1) := by decide +kernel
theorem dX0_takeApart_139 : decode cX0_takeApart 139 = .ok (.goto 4, 3) := by decide +kernel
theorem dX0_takeApart_142 : decode cX0_takeApart 142 = .ok (.iconst 0, 1) := by decide +kernel
theorem dX0_takeApart_143 : decode cX0_takeApart 143 = .ok (.iadd, 1) := by decide +kernel
theorem dX0_takeApart_144 : decode cX0_takeApart 144 = .ok (.putfield 80, 3) := by decide +kernel
theorem dX0_takeApart_147 : decode cX0_takeApart 147 = .ok (.aload_n 0, 1) := by decide +kernel
theorem dX0_takeApart_148 : decode cX0_takeApart 148 = .ok (.dup, 1) := by decide +kernel
theorem dX0_takeApart_149 : decode cX0_takeApart 149 = .ok (.getfield 80, 3) := by decide +kernel
theorem dX0_takeApart_152 : decode cX0_takeApart 152 = .ok (.aload_n 0, 1) := by decide +kernel
theorem dX0_takeApart_153 : decode cX0_takeApart 153 = .ok (.invokevirtual 89, 3) := by decide +kernel
theorem dX0_takeApart_156 : decode cX0_takeApart 156 = .ok (.bipush 36, 2) := by decide +kernel
theorem dX0_takeApart_158 : decode cX0_takeApart 158 = .ok (.if_icmp .ne 16, 3) := by decide +kernel
theorem dX0_takeApart_161 : decode cX0_takeApart 161 = .ok (.aload_n 0, 1) := by decide +kernel
theorem dX0_takeApart_162 : decode cX0_takeApart 162 = .ok (.bipush 36, 2) := by decide +kernel
theorem dX0_takeApart_164 : decode cX0_takeApart 164 = .ok (.invokevirtual 86, 3) := by decide +kernel
theorem dX0_takeApart_167 : decode cX0_takeApart 167 = .ok (.ifCond .eq 7, 3) := by decide +kernel
theorem dX0_takeApart_170 : decode cX0_takeApart 170 = .ok (.iconst 1, 1) := by decide +kernel
theorem dX0_takeApart_171 : decode cX0_takeApart 171 = .ok (.goto 4, 3) := by decide +kernel
theorem dX0_takeApart_174 : decode cX0_takeApart 174 = .ok (.iconst 0, 1) := by decide +kernel
theorem dX0_takeApart_175 : decode cX0_takeApart 175 = .ok (.iadd, 1) := by decide +kernel
theorem dX0_takeApart_176 : decode cX0_takeApart 176 = .ok (.putfield 80, 3) := by decide +kernel
theorem dX0_takeApart_179 : decode cX0_takeApart 179 = .ok (.return_, 1) := by decide +kernel
def m_E_takeApart_175 (b : Nat → Int32) (rw : Nat → Int32) (pw : Nat → Int32) (t0 : Int32) (t1 : Int32) (v : Nat → Int32) : Option ((Nat → Int32)) := (some (upd v 9 (t1 + t0)))
def m_E_takeApart_174 (b : Nat → Int32) (rw : Nat → Int32) (pw : Nat → Int32) (t0 : Int32) (v : Nat → Int32) : Option ((Nat → Int32)) := m_E_takeApart_175 b rw pw 0 t0 v
def m_E_takeApart_143 (b : Nat → Int32) (rw : Nat → Int32) (pw : Nat → Int32) (t0 : Int32) (t1 : Int32) (v : Nat → Int32) : Option ((Nat → Int32)) := (m_E_firstOfRest (upd v 9 (t1 + t0)) b rw pw).bind (fun q10 => (if q10 = 36 then (m_E_standsOnce 36 (upd v 9 (t1 + t0)) b rw pw).bind (fun q12 => (if q12 = 0 then m_E_takeApart_174 b rw pw ((upd v 9 (t1 + t0)) 9) (upd v 9 (t1 + t0)) else m_E_takeApart_175 b rw pw 1 ((upd v 9 (t1 + t0)) 9) (upd v 9 (t1 + t0)))) else m_E_takeApart_174 b rw pw ((upd v 9 (t1 + t0)) 9) (upd v 9 (t1 + t0))))
def m_E_takeApart_125 (b : Nat → Int32) (rw : Nat → Int32) (pw : Nat → Int32) (x5 : Int32) (t0 : Int32) (v : Nat → Int32) : Option ((Nat → Int32)) := (if x5 = 0 then m_E_takeApart_143 b rw pw 0 ((upd v 7 t0) 9) (upd v 7 t0) else m_E_takeApart_143 b rw pw 1 ((upd v 7 t0) 9) (upd v 7 t0))
def m_E_takeApart_111 (b : Nat → Int32) (rw : Nat → Int32) (pw : Nat → Int32) (x4 : Int32) (t0 : Int32) (v : Nat → Int32) : Option ((Nat → Int32)) := (if t0 = 0 then m_E_takeApart_125 b rw pw t0 (-1) v else m_E_takeApart_125 b rw pw t0 x4 v)
def m_E_takeApart_110 (b : Nat → Int32) (rw : Nat → Int32) (pw : Nat → Int32) (x4 : Int32) (v : Nat → Int32) : Option ((Nat → Int32)) := m_E_takeApart_111 b rw pw x4 0 v
def m_E_takeApart_79 (b : Nat → Int32) (rw : Nat → Int32) (pw : Nat → Int32) (t0 : Int32) (t1 : Int32) (v : Nat → Int32) : Option ((Nat → Int32)) := (m_E_firstOfRest (upd v 10 (t1 - t0)) b rw pw).bind (fun q5 => (m_E_isSign q5).bind (fun q6 => (if q6 = 0 then m_E_takeApart_110 b rw pw q5 (upd v 10 (t1 - t0)) else (m_E_standsOnce q5 (upd v 10 (t1 - t0)) b rw pw).bind (fun q14 => (if q14 = 0 then m_E_takeApart_110 b rw pw q5 (upd v 10 (t1 - t0)) else m_E_takeApart_111 b rw pw q5 1 (upd v 10 (t1 - t0)))))))
def m_E_takeApart_62 (b : Nat → Int32) (rw : Nat → Int32) (pw : Nat → Int32) (x3 : Int32) (t0 : Int32) (v : Nat → Int32) : Option ((Nat → Int32)) := (if x3 = 0 then m_E_takeApart_79 b rw pw 0 ((upd v 8 t0) 10) (upd v 8 t0) else m_E_takeApart_79 b rw pw 1 ((upd v 8 t0) 10) (upd v 8 t0))
def m_E_takeApart_51 (b : Nat → Int32) (rw : Nat → Int32) (pw : Nat → Int32) (x2 : Int32) (t0 : Int32) (v : Nat → Int32) : Option ((Nat → Int32)) := (if t0 = 0 then m_E_takeApart_62 b rw pw t0 (-1) v else m_E_takeApart_62 b rw pw t0 x2 v)
def m_E_takeApart_46 (b : Nat → Int32) (rw : Nat → Int32) (pw : Nat → Int32) (x2 : Int32) (v : Nat → Int32) : Option ((Nat → Int32)) := m_E_takeApart_51 b rw pw x2 1 v
def m_E_takeApart_50 (b : Nat → Int32) (rw : Nat → Int32) (pw : Nat → Int32) (x2 : Int32) (v : Nat → Int32) : Option ((Nat → Int32)) := m_E_takeApart_51 b rw pw x2 0 v
def m_E_takeApart (a0 : Int32) (v : Nat → Int32) (b : Nat → Int32) (rw : Nat → Int32) (pw : Nat → Int32)  : Option ((Nat → Int32)) := zix (a0 - 1) 24 ((if (rw (a0 - 1).toNatClampNeg) = 67 then m_E_takeApart_46 b rw pw (rw (a0 - 1).toNatClampNeg) (upd (upd v 9 0) 10 a0) else (if (rw (a0 - 1).toNatClampNeg) = 68 then m_E_takeApart_46 b rw pw (rw (a0 - 1).toNatClampNeg) (upd (upd v 9 0) 10 a0) else (m_E_isSign (rw (a0 - 1).toNatClampNeg)).bind (fun q17 => (if q17 = 0 then m_E_takeApart_50 b rw pw (rw (a0 - 1).toNatClampNeg) (upd (upd v 9 0) 10 a0) else (m_E_standsOnce (rw (a0 - 1).toNatClampNeg) (upd (upd v 9 0) 10 a0) b rw pw).bind (fun q19 => (if q19 = 0 then m_E_takeApart_50 b rw pw (rw (a0 - 1).toNatClampNeg) (upd (upd v 9 0) 10 a0) else m_E_takeApart_46 b rw pw (rw (a0 - 1).toNatClampNeg) (upd (upd v 9 0) 10 a0))))))))
section
variable {p : Program} {l : Launch} {e : Env} {s : State} {m : MethodId} {args : Array Value} {below : List Frame} {meth : Method} {c : Code} {D : va_G} {w0 : va_W} {aE bE rE pE : Nat} {c1 c2 c3 : ClassId} {b : Nat → Int32} {rw : Nat → Int32} {pw : Nat → Int32}
set_option maxRecDepth 100000 in
set_option maxHeartbeats 4000000 in
theorem b_E_takeApart_175 (G : zG p s m args meth c cX0_takeApart RX0 6 none) (hK : va_K D vwCl (wE_t c1 c2 c3) s) (hX : zC (va_A w0 s.heap.size) s) {res : (Nat → Int32)} : ∀ (t0 : Int32) (t1 : Int32) (v : Nat → Int32), m_E_takeApart_175 b rw pw t0 t1 v = some res → zB p l e (zR 1 23) s m args below meth c D vwCl (va_A w0 s.heap.size) (MQ below (zQv D vwCl w0 (wE aE bE rE pE c1 c2 c3 res b rw pw) s.heap.size) args s 0 0 (va_A w0 s.heap.size)) 6 (wE aE bE rE pE c1 c2 c3 v b rw pw) [] 175 [.int t0, .int t1, .ref aE] := by
  intro t0 t1 v hm H locs ls hP hD hS hl
  unfold m_E_takeApart_175 at hm
  have G0 := G
  obtain ⟨hx, hb, hr, hml, hown, hw, hlk⟩ := G
  have hA : ∀ q, s.heap.size ≤ q → va_A w0 s.heap.size q := fun q h => Or.inr h
  refine lv_iadd hx hb dX0_takeApart_175 ?_
  refine va_put (D := D) (ci := 0) (v := .int (t1 + t0)) (ty := .int) (C := RX0) (T := TX0) (N := 16) hx hb hw zinX0 tyX0 tyX0_ok nmX0 hown hK hP hD hS 0 rfl rfl 9 (by decide) (hw _ zw254) (fun _ h9 => h9) rfl (by decide +kernel) rfl rfl (Nat.le_of_ble_eq_true rfl) dX0_takeApart_176 (fun H locs hP hD hS => ?_)
  have hP : va_P D vwCl (wE aE bE rE pE c1 c2 c3 (upd v 9 (t1 + t0)) b rw pw) H := hP
  have hD : va_D _ (wE aE bE rE pE c1 c2 c3 (upd v 9 (t1 + t0)) b rw pw) := hD
  cases hm
  exact zretv hx hb hr hlk hP hD hS dX0_takeApart_179
set_option maxRecDepth 100000 in
set_option maxHeartbeats 4000000 in
theorem b_E_takeApart_174 (G : zG p s m args meth c cX0_takeApart RX0 6 none) (hK : va_K D vwCl (wE_t c1 c2 c3) s) (hX : zC (va_A w0 s.heap.size) s) {res : (Nat → Int32)} : ∀ (t0 : Int32) (v : Nat → Int32), m_E_takeApart_174 b rw pw t0 v = some res → zB p l e (zR 1 23) s m args below meth c D vwCl (va_A w0 s.heap.size) (MQ below (zQv D vwCl w0 (wE aE bE rE pE c1 c2 c3 res b rw pw) s.heap.size) args s 0 0 (va_A w0 s.heap.size)) 6 (wE aE bE rE pE c1 c2 c3 v b rw pw) [] 174 [.int t0, .ref aE] := by
  intro t0 v hm H locs ls hP hD hS hl
  unfold m_E_takeApart_174 at hm
  have G0 := G
  obtain ⟨hx, hb, hr, hml, hown, hw, hlk⟩ := G
  have hA : ∀ q, s.heap.size ≤ q → va_A w0 s.heap.size q := fun q h => Or.inr h
  refine lv_iconst (v := 0) hx hb dX0_takeApart_174 (by decide) ?_
  exact b_E_takeApart_175 G0 hK hX _ _ _ hm H _ _ hP hD hS hl
set_option maxRecDepth 100000 in
set_option maxHeartbeats 4000000 in
theorem b_E_takeApart_143 (G : zG p s m args meth c cX0_takeApart RX0 6 none) (hK : va_K D vwCl (wE_t c1 c2 c3) s) (hX : zC (va_A w0 s.heap.size) s) {res : (Nat → Int32)} : ∀ (t0 : Int32) (t1 : Int32) (v : Nat → Int32), m_E_takeApart_143 b rw pw t0 t1 v = some res → zB p l e (zR 1 23) s m args below meth c D vwCl (va_A w0 s.heap.size) (MQ below (zQv D vwCl w0 (wE aE bE rE pE c1 c2 c3 res b rw pw) s.heap.size) args s 0 0 (va_A w0 s.heap.size)) 6 (wE aE bE rE pE c1 c2 c3 v b rw pw) [(0, .ref aE)] 143 [.int t0, .int t1, .ref aE] := by
  intro t0 t1 v hm H locs ls hP hD hS hl
  unfold m_E_takeApart_143 at hm
  have G0 := G
  obtain ⟨hx, hb, hr, hml, hown, hw, hlk⟩ := G
  have hA : ∀ q, s.heap.size ≤ q → va_A w0 s.heap.size q := fun q h => Or.inr h
  refine lv_iadd hx hb dX0_takeApart_143 ?_
  refine va_put (D := D) (ci := 0) (v := .int (t1 + t0)) (ty := .int) (C := RX0) (T := TX0) (N := 16) hx hb hw zinX0 tyX0 tyX0_ok nmX0 hown hK hP hD hS 0 rfl rfl 9 (by decide) (hw _ zw254) (fun _ h9 => h9) rfl (by decide +kernel) rfl rfl (Nat.le_of_ble_eq_true rfl) dX0_takeApart_144 (fun H locs hP hD hS => ?_)
  have hP : va_P D vwCl (wE aE bE rE pE c1 c2 c3 (upd v 9 (t1 + t0)) b rw pw) H := hP
  have hD : va_D _ (wE aE bE rE pE c1 c2 c3 (upd v 9 (t1 + t0)) b rw pw) := hD
  refine lv_aload_n hx hb dX0_takeApart_147 rfl (lv_at hl 0 rfl) ?_
  refine lv_dup hx hb dX0_takeApart_148 rfl ?_
  refine va_get (D := D) (ci := 0) (v := .int ((upd v 9 (t1 + t0)) 9)) (C := RX0) (T := TX0) (N := 16) hx hb hw zinX0 hown hK hP 0 rfl rfl 9 (by decide) (hw _ zw254) (fun _ h9 => h9) rfl dX0_takeApart_149 ?_
  refine lv_aload_n hx hb dX0_takeApart_152 rfl (lv_at hl 0 rfl) ?_
  obtain ⟨q10, hq10, hm⟩ := zbind hm
  refine zbWi (va_runV (As := []) (rest := [.int ((upd v 9 (t1 + t0)) 9), .ref aE]) ⟨hx, hb, hml, hown, hw⟩ (k_E_firstOfRest l D aE bE rE pE c1 c2 c3 _ (upd v 9 (t1 + t0)) b rw pw  q10 hq10) (zcV (C := RX0) 0 hw (zgood zw258) rfl rfl rfl zw259 zw261 zw260 zw262 hdX0_firstOfRest ⟨Nat.le_of_ble_eq_true rfl, Nat.le_of_ble_eq_true rfl⟩) (zpreV (zpre zC_ok hX hS (zfree hD hS hA) hP hK hD) (va_recv hK hP rfl (q0 := 0) rfl)) rfl rfl hl.1 rfl (lv_room (Nat.le_of_ble_eq_true rfl)) dX0_takeApart_153 ⟨Nat.zero_le _, Nat.zero_le _⟩) hS (zfree hD hS hA) (fun H locs hP hD hS => ?_)
  refine lv_bipush (v := 36) hx hb dX0_takeApart_156 (by decide) ?_
  refine lv_icmp_ne (tgt := 174) hx hb dX0_takeApart_158 rfl (fun cd11 => ?_) (fun cd11 => ?_)
  · replace hm := zf cd11 hm
    exact b_E_takeApart_174 G0 hK hX _ _ hm H _ _ hP hD hS (lv_sub hl [] rfl)
  · replace hm := zt cd11 hm
    refine lv_aload_n hx hb dX0_takeApart_161 rfl (lv_at hl 0 rfl) ?_
    refine lv_bipush (v := 36) hx hb dX0_takeApart_162 (by decide) ?_
    obtain ⟨q12, hq12, hm⟩ := zbind hm
    refine zbWi (va_runV (As := [.int 36]) (rest := [.int ((upd v 9 (t1 + t0)) 9), .ref aE]) ⟨hx, hb, hml, hown, hw⟩ (k_E_standsOnce l D aE bE rE pE c1 c2 c3 _ 36 (upd v 9 (t1 + t0)) b rw pw  q12 hq12) (zcV (C := RX0) 1 hw (zgood zw267) rfl rfl rfl zw259 zw269 zw268 zw270 hdX0_standsOnce ⟨Nat.le_of_ble_eq_true rfl, Nat.le_of_ble_eq_true rfl⟩) (zpreV (zpre zC_ok hX hS (zfree hD hS hA) hP hK hD) (va_recv hK hP rfl (q0 := 0) rfl)) rfl rfl hl.1 rfl (lv_room (Nat.le_of_ble_eq_true rfl)) dX0_takeApart_164 ⟨Nat.zero_le _, Nat.zero_le _⟩) hS (zfree hD hS hA) (fun H locs hP hD hS => ?_)
    refine lv_if_eq (tgt := 174) hx hb dX0_takeApart_167 rfl (fun cd13 => ?_) (fun cd13 => ?_)
    · replace hm := zt cd13 hm
      exact b_E_takeApart_174 G0 hK hX _ _ hm H _ _ hP hD hS (lv_sub hl [] rfl)
    · replace hm := zf cd13 hm
      refine lv_iconst (v := 1) hx hb dX0_takeApart_170 (by decide) ?_
      refine lv_goto (tgt := 175) hx hb dX0_takeApart_171 rfl ?_
      exact b_E_takeApart_175 G0 hK hX _ _ _ hm H _ _ hP hD hS (lv_sub hl [] rfl)
set_option maxRecDepth 100000 in
set_option maxHeartbeats 4000000 in
theorem b_E_takeApart_125 (G : zG p s m args meth c cX0_takeApart RX0 6 none) (hK : va_K D vwCl (wE_t c1 c2 c3) s) (hX : zC (va_A w0 s.heap.size) s) {res : (Nat → Int32)} : ∀ (x5 : Int32) (t0 : Int32) (v : Nat → Int32), m_E_takeApart_125 b rw pw x5 t0 v = some res → zB p l e (zR 1 23) s m args below meth c D vwCl (va_A w0 s.heap.size) (MQ below (zQv D vwCl w0 (wE aE bE rE pE c1 c2 c3 res b rw pw) s.heap.size) args s 0 0 (va_A w0 s.heap.size)) 6 (wE aE bE rE pE c1 c2 c3 v b rw pw) [(0, .ref aE), (5, .int x5)] 125 [.int t0, .ref aE] := by
  intro x5 t0 v hm H locs ls hP hD hS hl
  unfold m_E_takeApart_125 at hm
  have G0 := G
  obtain ⟨hx, hb, hr, hml, hown, hw, hlk⟩ := G
  have hA : ∀ q, s.heap.size ≤ q → va_A w0 s.heap.size q := fun q h => Or.inr h
  refine va_put (D := D) (ci := 0) (v := .int t0) (ty := .int) (C := RX0) (T := TX0) (N := 16) hx hb hw zinX0 tyX0 tyX0_ok nmX0 hown hK hP hD hS 0 rfl rfl 7 (by decide) (hw _ zw266) (fun _ h9 => h9) rfl (by decide +kernel) rfl rfl (Nat.le_of_ble_eq_true rfl) dX0_takeApart_125 (fun H locs hP hD hS => ?_)
  have hP : va_P D vwCl (wE aE bE rE pE c1 c2 c3 (upd v 7 t0) b rw pw) H := hP
  have hD : va_D _ (wE aE bE rE pE c1 c2 c3 (upd v 7 t0) b rw pw) := hD
  refine lv_aload_n hx hb dX0_takeApart_128 rfl (lv_at hl 0 rfl) ?_
  refine lv_dup hx hb dX0_takeApart_129 rfl ?_
  refine va_get (D := D) (ci := 0) (v := .int ((upd v 7 t0) 9)) (C := RX0) (T := TX0) (N := 16) hx hb hw zinX0 hown hK hP 0 rfl rfl 9 (by decide) (hw _ zw254) (fun _ h9 => h9) rfl dX0_takeApart_130 ?_
  refine lv_iload hx hb dX0_takeApart_133 (lv_at hl 1 rfl) ?_
  refine lv_if_eq (tgt := 142) hx hb dX0_takeApart_135 rfl (fun cd9 => ?_) (fun cd9 => ?_)
  · replace hm := zt cd9 hm
    refine lv_iconst (v := 0) hx hb dX0_takeApart_142 (by decide) ?_
    exact b_E_takeApart_143 G0 hK hX _ _ _ hm H _ _ hP hD hS (lv_sub hl [0] rfl)
  · replace hm := zf cd9 hm
    refine lv_iconst (v := 1) hx hb dX0_takeApart_138 (by decide) ?_
    refine lv_goto (tgt := 143) hx hb dX0_takeApart_139 rfl ?_
    exact b_E_takeApart_143 G0 hK hX _ _ _ hm H _ _ hP hD hS (lv_sub hl [0] rfl)
set_option maxRecDepth 100000 in
set_option maxHeartbeats 4000000 in
theorem b_E_takeApart_111 (G : zG p s m args meth c cX0_takeApart RX0 6 none) (hK : va_K D vwCl (wE_t c1 c2 c3) s) (hX : zC (va_A w0 s.heap.size) s) {res : (Nat → Int32)} : ∀ (x4 : Int32) (t0 : Int32) (v : Nat → Int32), m_E_takeApart_111 b rw pw x4 t0 v = some res → zB p l e (zR 1 23) s m args below meth c D vwCl (va_A w0 s.heap.size) (MQ below (zQv D vwCl w0 (wE aE bE rE pE c1 c2 c3 res b rw pw) s.heap.size) args s 0 0 (va_A w0 s.heap.size)) 6 (wE aE bE rE pE c1 c2 c3 v b rw pw) [(0, .ref aE), (4, .int x4)] 111 [.int t0] := by
  intro x4 t0 v hm H locs ls hP hD hS hl
  unfold m_E_takeApart_111 at hm
  have G0 := G
  obtain ⟨hx, hb, hr, hml, hown, hw, hlk⟩ := G
  have hA : ∀ q, s.heap.size ≤ q → va_A w0 s.heap.size q := fun q h => Or.inr h
  refine lv_istore (lv' := [(5, .int t0), (0, .ref aE), (4, .int x4)]) hx hb dX0_takeApart_111 hl (by decide) rfl (fun ls hl => ?_)
  refine lv_aload_n hx hb dX0_takeApart_113 rfl (lv_at hl 1 rfl) ?_
  refine lv_iload hx hb dX0_takeApart_114 (lv_at hl 0 rfl) ?_
  refine lv_if_eq (tgt := 124) hx hb dX0_takeApart_116 rfl (fun cd8 => ?_) (fun cd8 => ?_)
  · replace hm := zt cd8 hm
    refine lv_iconst (v := (-1)) hx hb dX0_takeApart_124 (by decide) ?_
    exact b_E_takeApart_125 G0 hK hX _ _ _ hm H _ _ hP hD hS (lv_sub hl [1, 0] rfl)
  · replace hm := zf cd8 hm
    refine lv_iload hx hb dX0_takeApart_119 (lv_at hl 2 rfl) ?_
    refine lv_goto (tgt := 125) hx hb dX0_takeApart_121 rfl ?_
    exact b_E_takeApart_125 G0 hK hX _ _ _ hm H _ _ hP hD hS (lv_sub hl [1, 0] rfl)
set_option maxRecDepth 100000 in
set_option maxHeartbeats 4000000 in
theorem b_E_takeApart_110 (G : zG p s m args meth c cX0_takeApart RX0 6 none) (hK : va_K D vwCl (wE_t c1 c2 c3) s) (hX : zC (va_A w0 s.heap.size) s) {res : (Nat → Int32)} : ∀ (x4 : Int32) (v : Nat → Int32), m_E_takeApart_110 b rw pw x4 v = some res → zB p l e (zR 1 23) s m args below meth c D vwCl (va_A w0 s.heap.size) (MQ below (zQv D vwCl w0 (wE aE bE rE pE c1 c2 c3 res b rw pw) s.heap.size) args s 0 0 (va_A w0 s.heap.size)) 6 (wE aE bE rE pE c1 c2 c3 v b rw pw) [(0, .ref aE), (4, .int x4)] 110 [] := by
  intro x4 v hm H locs ls hP hD hS hl
  unfold m_E_takeApart_110 at hm
  have G0 := G
  obtain ⟨hx, hb, hr, hml, hown, hw, hlk⟩ := G
  have hA : ∀ q, s.heap.size ≤ q → va_A w0 s.heap.size q := fun q h => Or.inr h
  refine lv_iconst (v := 0) hx hb dX0_takeApart_110 (by decide) ?_
  exact b_E_takeApart_111 G0 hK hX _ _ _ hm H _ _ hP hD hS hl
set_option maxRecDepth 100000 in
set_option maxHeartbeats 4000000 in
theorem b_E_takeApart_79 (G : zG p s m args meth c cX0_takeApart RX0 6 none) (hK : va_K D vwCl (wE_t c1 c2 c3) s) (hX : zC (va_A w0 s.heap.size) s) {res : (Nat → Int32)} : ∀ (t0 : Int32) (t1 : Int32) (v : Nat → Int32), m_E_takeApart_79 b rw pw t0 t1 v = some res → zB p l e (zR 1 23) s m args below meth c D vwCl (va_A w0 s.heap.size) (MQ below (zQv D vwCl w0 (wE aE bE rE pE c1 c2 c3 res b rw pw) s.heap.size) args s 0 0 (va_A w0 s.heap.size)) 6 (wE aE bE rE pE c1 c2 c3 v b rw pw) [(0, .ref aE)] 79 [.int t0, .int t1, .ref aE] := by
  intro t0 t1 v hm H locs ls hP hD hS hl
  unfold m_E_takeApart_79 at hm
  have G0 := G
  obtain ⟨hx, hb, hr, hml, hown, hw, hlk⟩ := G
  have hA : ∀ q, s.heap.size ≤ q → va_A w0 s.heap.size q := fun q h => Or.inr h
  refine lv_isub hx hb dX0_takeApart_79 ?_
  refine va_put (D := D) (ci := 0) (v := .int (t1 - t0)) (ty := .int) (C := RX0) (T := TX0) (N := 16) hx hb hw zinX0 tyX0 tyX0_ok nmX0 hown hK hP hD hS 0 rfl rfl 10 (by decide) (hw _ zw255) (fun _ h9 => h9) rfl (by decide +kernel) rfl rfl (Nat.le_of_ble_eq_true rfl) dX0_takeApart_80 (fun H locs hP hD hS => ?_)
  have hP : va_P D vwCl (wE aE bE rE pE c1 c2 c3 (upd v 10 (t1 - t0)) b rw pw) H := hP
  have hD : va_D _ (wE aE bE rE pE c1 c2 c3 (upd v 10 (t1 - t0)) b rw pw) := hD
  refine lv_aload_n hx hb dX0_takeApart_83 rfl (lv_at hl 0 rfl) ?_
  obtain ⟨q5, hq5, hm⟩ := zbind hm
  refine zbWi (va_runV (As := []) (rest := []) ⟨hx, hb, hml, hown, hw⟩ (k_E_firstOfRest l D aE bE rE pE c1 c2 c3 _ (upd v 10 (t1 - t0)) b rw pw  q5 hq5) (zcV (C := RX0) 0 hw (zgood zw258) rfl rfl rfl zw259 zw261 zw260 zw262 hdX0_firstOfRest ⟨Nat.le_of_ble_eq_true rfl, Nat.le_of_ble_eq_true rfl⟩) (zpreV (zpre zC_ok hX hS (zfree hD hS hA) hP hK hD) (va_recv hK hP rfl (q0 := 0) rfl)) rfl rfl hl.1 rfl (lv_room (Nat.le_of_ble_eq_true rfl)) dX0_takeApart_84 ⟨Nat.zero_le _, Nat.zero_le _⟩) hS (zfree hD hS hA) (fun H locs hP hD hS => ?_)
  refine lv_istore (lv' := [(4, .int q5), (0, .ref aE)]) hx hb dX0_takeApart_87 hl (by decide) rfl (fun ls hl => ?_)
  refine lv_iload hx hb dX0_takeApart_89 (lv_at hl 0 rfl) ?_
  obtain ⟨q6, hq6, hm⟩ := zbind hm
  refine zb0i (va_runS (As := [.int q5]) (rest := []) ⟨hx, hb, hml, hown, hw⟩ (k_E_isSign l D  _ q5  q6 hq6) ⟨zcB 1 hw (zgood zw263) rfl rfl rfl zw259 zw265 hdX0_isSign ⟨Nat.le_of_ble_eq_true rfl, Nat.le_of_ble_eq_true rfl⟩, hw _ zw264⟩ (zpre zN_ok trivial hS (zfree0 hS hA) zP0 (hK.sub (tys' := []) [] rfl) zD0) rfl rfl hl.1 rfl (lv_room (Nat.le_of_ble_eq_true rfl)) dX0_takeApart_91 ⟨Nat.zero_le _, Nat.zero_le _⟩) hP hD hS (zfree0 hS hA) (fun H locs hP hD hS => ?_)
  refine lv_if_eq (tgt := 110) hx hb dX0_takeApart_94 rfl (fun cd7 => ?_) (fun cd7 => ?_)
  · replace hm := zt cd7 hm
    exact b_E_takeApart_110 G0 hK hX _ _ hm H _ _ hP hD hS (lv_sub hl [1, 0] rfl)
  · replace hm := zf cd7 hm
    refine lv_aload_n hx hb dX0_takeApart_97 rfl (lv_at hl 1 rfl) ?_
    refine lv_iload hx hb dX0_takeApart_98 (lv_at hl 0 rfl) ?_
    obtain ⟨q14, hq14, hm⟩ := zbind hm
    refine zbWi (va_runV (As := [.int q5]) (rest := []) ⟨hx, hb, hml, hown, hw⟩ (k_E_standsOnce l D aE bE rE pE c1 c2 c3 _ q5 (upd v 10 (t1 - t0)) b rw pw  q14 hq14) (zcV (C := RX0) 1 hw (zgood zw267) rfl rfl rfl zw259 zw269 zw268 zw270 hdX0_standsOnce ⟨Nat.le_of_ble_eq_true rfl, Nat.le_of_ble_eq_true rfl⟩) (zpreV (zpre zC_ok hX hS (zfree hD hS hA) hP hK hD) (va_recv hK hP rfl (q0 := 0) rfl)) rfl rfl hl.1 rfl (lv_room (Nat.le_of_ble_eq_true rfl)) dX0_takeApart_100 ⟨Nat.zero_le _, Nat.zero_le _⟩) hS (zfree hD hS hA) (fun H locs hP hD hS => ?_)
    refine lv_if_eq (tgt := 110) hx hb dX0_takeApart_103 rfl (fun cd15 => ?_) (fun cd15 => ?_)
    · replace hm := zt cd15 hm
      exact b_E_takeApart_110 G0 hK hX _ _ hm H _ _ hP hD hS (lv_sub hl [1, 0] rfl)
    · replace hm := zf cd15 hm
      refine lv_iconst (v := 1) hx hb dX0_takeApart_106 (by decide) ?_
      refine lv_goto (tgt := 111) hx hb dX0_takeApart_107 rfl ?_
      exact b_E_takeApart_111 G0 hK hX _ _ _ hm H _ _ hP hD hS (lv_sub hl [1, 0] rfl)
set_option maxRecDepth 100000 in
set_option maxHeartbeats 4000000 in
theorem b_E_takeApart_62 (G : zG p s m args meth c cX0_takeApart RX0 6 none) (hK : va_K D vwCl (wE_t c1 c2 c3) s) (hX : zC (va_A w0 s.heap.size) s) {res : (Nat → Int32)} : ∀ (x3 : Int32) (t0 : Int32) (v : Nat → Int32), m_E_takeApart_62 b rw pw x3 t0 v = some res → zB p l e (zR 1 23) s m args below meth c D vwCl (va_A w0 s.heap.size) (MQ below (zQv D vwCl w0 (wE aE bE rE pE c1 c2 c3 res b rw pw) s.heap.size) args s 0 0 (va_A w0 s.heap.size)) 6 (wE aE bE rE pE c1 c2 c3 v b rw pw) [(0, .ref aE), (3, .int x3)] 62 [.int t0, .ref aE] := by
  intro x3 t0 v hm H locs ls hP hD hS hl
  unfold m_E_takeApart_62 at hm
  have G0 := G
  obtain ⟨hx, hb, hr, hml, hown, hw, hlk⟩ := G
  have hA : ∀ q, s.heap.size ≤ q → va_A w0 s.heap.size q := fun q h => Or.inr h
  refine va_put (D := D) (ci := 0) (v := .int t0) (ty := .int) (C := RX0) (T := TX0) (N := 16) hx hb hw zinX0 tyX0 tyX0_ok nmX0 hown hK hP hD hS 0 rfl rfl 8 (by decide) (hw _ zw257) (fun _ h9 => h9) rfl (by decide +kernel) rfl rfl (Nat.le_of_ble_eq_true rfl) dX0_takeApart_62 (fun H locs hP hD hS => ?_)
  have hP : va_P D vwCl (wE aE bE rE pE c1 c2 c3 (upd v 8 t0) b rw pw) H := hP
  have hD : va_D _ (wE aE bE rE pE c1 c2 c3 (upd v 8 t0) b rw pw) := hD
  refine lv_aload_n hx hb dX0_takeApart_65 rfl (lv_at hl 0 rfl) ?_
  refine lv_dup hx hb dX0_takeApart_66 rfl ?_
  refine va_get (D := D) (ci := 0) (v := .int ((upd v 8 t0) 10)) (C := RX0) (T := TX0) (N := 16) hx hb hw zinX0 hown hK hP 0 rfl rfl 10 (by decide) (hw _ zw255) (fun _ h9 => h9) rfl dX0_takeApart_67 ?_
  refine lv_iload_n hx hb dX0_takeApart_70 rfl (lv_at hl 1 rfl) ?_
  refine lv_if_eq (tgt := 78) hx hb dX0_takeApart_71 rfl (fun cd4 => ?_) (fun cd4 => ?_)
  · replace hm := zt cd4 hm
    refine lv_iconst (v := 0) hx hb dX0_takeApart_78 (by decide) ?_
    exact b_E_takeApart_79 G0 hK hX _ _ _ hm H _ _ hP hD hS (lv_sub hl [0] rfl)
  · replace hm := zf cd4 hm
    refine lv_iconst (v := 1) hx hb dX0_takeApart_74 (by decide) ?_
    refine lv_goto (tgt := 79) hx hb dX0_takeApart_75 rfl ?_
    exact b_E_takeApart_79 G0 hK hX _ _ _ hm H _ _ hP hD hS (lv_sub hl [0] rfl)
set_option maxRecDepth 100000 in
set_option maxHeartbeats 4000000 in
theorem b_E_takeApart_51 (G : zG p s m args meth c cX0_takeApart RX0 6 none) (hK : va_K D vwCl (wE_t c1 c2 c3) s) (hX : zC (va_A w0 s.heap.size) s) {res : (Nat → Int32)} : ∀ (x2 : Int32) (t0 : Int32) (v : Nat → Int32), m_E_takeApart_51 b rw pw x2 t0 v = some res → zB p l e (zR 1 23) s m args below meth c D vwCl (va_A w0 s.heap.size) (MQ below (zQv D vwCl w0 (wE aE bE rE pE c1 c2 c3 res b rw pw) s.heap.size) args s 0 0 (va_A w0 s.heap.size)) 6 (wE aE bE rE pE c1 c2 c3 v b rw pw) [(0, .ref aE), (2, .int x2)] 51 [.int t0] := by
  intro x2 t0 v hm H locs ls hP hD hS hl
  unfold m_E_takeApart_51 at hm
  have G0 := G
  obtain ⟨hx, hb, hr, hml, hown, hw, hlk⟩ := G
  have hA : ∀ q, s.heap.size ≤ q → va_A w0 s.heap.size q := fun q h => Or.inr h
  refine lv_istore_n (lv' := [(3, .int t0), (0, .ref aE), (2, .int x2)]) hx hb dX0_takeApart_51 rfl hl (by decide) rfl (fun ls hl => ?_)
  refine lv_aload_n hx hb dX0_takeApart_52 rfl (lv_at hl 1 rfl) ?_
  refine lv_iload_n hx hb dX0_takeApart_53 rfl (lv_at hl 0 rfl) ?_
  refine lv_if_eq (tgt := 61) hx hb dX0_takeApart_54 rfl (fun cd3 => ?_) (fun cd3 => ?_)
  · replace hm := zt cd3 hm
    refine lv_iconst (v := (-1)) hx hb dX0_takeApart_61 (by decide) ?_
    exact b_E_takeApart_62 G0 hK hX _ _ _ hm H _ _ hP hD hS (lv_sub hl [1, 0] rfl)
  · replace hm := zf cd3 hm
    refine lv_iload_n hx hb dX0_takeApart_57 rfl (lv_at hl 2 rfl) ?_
    refine lv_goto (tgt := 62) hx hb dX0_takeApart_58 rfl ?_
    exact b_E_takeApart_62 G0 hK hX _ _ _ hm H _ _ hP hD hS (lv_sub hl [1, 0] rfl)
set_option maxRecDepth 100000 in
set_option maxHeartbeats 4000000 in
theorem b_E_takeApart_46 (G : zG p s m args meth c cX0_takeApart RX0 6 none) (hK : va_K D vwCl (wE_t c1 c2 c3) s) (hX : zC (va_A w0 s.heap.size) s) {res : (Nat → Int32)} : ∀ (x2 : Int32) (v : Nat → Int32), m_E_takeApart_46 b rw pw x2 v = some res → zB p l e (zR 1 23) s m args below meth c D vwCl (va_A w0 s.heap.size) (MQ below (zQv D vwCl w0 (wE aE bE rE pE c1 c2 c3 res b rw pw) s.heap.size) args s 0 0 (va_A w0 s.heap.size)) 6 (wE aE bE rE pE c1 c2 c3 v b rw pw) [(0, .ref aE), (2, .int x2)] 46 [] := by
  intro x2 v hm H locs ls hP hD hS hl
  unfold m_E_takeApart_46 at hm
  have G0 := G
  obtain ⟨hx, hb, hr, hml, hown, hw, hlk⟩ := G
  have hA : ∀ q, s.heap.size ≤ q → va_A w0 s.heap.size q := fun q h => Or.inr h
  refine lv_iconst (v := 1) hx hb dX0_takeApart_46 (by decide) ?_
  refine lv_goto (tgt := 51) hx hb dX0_takeApart_47 rfl ?_
  exact b_E_takeApart_51 G0 hK hX _ _ _ hm H _ _ hP hD hS hl
set_option maxRecDepth 100000 in
set_option maxHeartbeats 4000000 in
theorem b_E_takeApart_50 (G : zG p s m args meth c cX0_takeApart RX0 6 none) (hK : va_K D vwCl (wE_t c1 c2 c3) s) (hX : zC (va_A w0 s.heap.size) s) {res : (Nat → Int32)} : ∀ (x2 : Int32) (v : Nat → Int32), m_E_takeApart_50 b rw pw x2 v = some res → zB p l e (zR 1 23) s m args below meth c D vwCl (va_A w0 s.heap.size) (MQ below (zQv D vwCl w0 (wE aE bE rE pE c1 c2 c3 res b rw pw) s.heap.size) args s 0 0 (va_A w0 s.heap.size)) 6 (wE aE bE rE pE c1 c2 c3 v b rw pw) [(0, .ref aE), (2, .int x2)] 50 [] := by
  intro x2 v hm H locs ls hP hD hS hl
  unfold m_E_takeApart_50 at hm
  have G0 := G
  obtain ⟨hx, hb, hr, hml, hown, hw, hlk⟩ := G
  have hA : ∀ q, s.heap.size ≤ q → va_A w0 s.heap.size q := fun q h => Or.inr h
  refine lv_iconst (v := 0) hx hb dX0_takeApart_50 (by decide) ?_
  exact b_E_takeApart_51 G0 hK hX _ _ _ hm H _ _ hP hD hS hl
end
set_option maxRecDepth 100000 in
set_option maxHeartbeats 4000000 in
theorem k_E_takeApart (l : Launch) (D : va_G) (aE bE rE pE : Nat) (c1 c2 c3 : ClassId) (sz : Nat) (a0 : Int32) (v : Nat → Int32) (b : Nat → Int32) (rw : Nat → Int32) (pw : Nat → Int32) (res : (Nat → Int32)) (hm : m_E_takeApart a0 v b rw pw  = some res) : Met l yX0_takeApart (Cond.code yX0_takeApart cX0_takeApart 6 none :: zBIG) (zR 1 23) (va_Pc [.ref aE, .int a0] (zP zC D vwCl (wE_t c1 c2 c3) (wE aE bE rE pE c1 c2 c3 v b rw pw) sz)) (zQv D vwCl (wE aE bE rE pE c1 c2 c3 v b rw pw) (wE aE bE rE pE c1 c2 c3 res b rw pw) sz) 0 0 (va_A (wE aE bE rE pE c1 c2 c3 v b rw pw) sz) := by
  refine zEnter RX0 [.ref aE, .int a0] (by decide) rfl (Nat.le_of_ble_eq_true rfl) (fun p e s m below meth c ls G hK hX hP hD hsz hl => ?_)
  subst hsz
  unfold m_E_takeApart at hm
  have hl : lv_has ls 6 [(0, .ref aE), (1, .int a0)] := hl
  have hS : va_S (va_A (wE aE bE rE pE c1 c2 c3 v b rw pw) s.heap.size) s.heap s.heap [] := va_S.rf
  have hA : ∀ q, s.heap.size ≤ q → va_A (wE aE bE rE pE c1 c2 c3 v b rw pw) s.heap.size q := fun q h => Or.inr h
  have G0 := G
  obtain ⟨hx, hb, hr, hml, hown, hw, hlk⟩ := G
  refine lv_aload_n hx hb dX0_takeApart_0 rfl (lv_at hl 0 rfl) ?_
  refine lv_iconst (v := 0) hx hb dX0_takeApart_1 (by decide) ?_
  refine va_put (D := D) (ci := 0) (v := .int 0) (ty := .int) (C := RX0) (T := TX0) (N := 16) hx hb hw zinX0 tyX0 tyX0_ok nmX0 hown hK hP hD hS 0 rfl rfl 9 (by decide) (hw _ zw254) (fun _ h9 => h9) rfl (by decide +kernel) rfl rfl (Nat.le_of_ble_eq_true rfl) dX0_takeApart_2 (fun H locs hP hD hS => ?_)
  have hP : va_P D vwCl (wE aE bE rE pE c1 c2 c3 (upd v 9 0) b rw pw) H := hP
  have hD : va_D _ (wE aE bE rE pE c1 c2 c3 (upd v 9 0) b rw pw) := hD
  refine lv_aload_n hx hb dX0_takeApart_5 rfl (lv_at hl 0 rfl) ?_
  refine lv_iload_n hx hb dX0_takeApart_6 rfl (lv_at hl 1 rfl) ?_
  refine va_put (D := D) (ci := 0) (v := .int a0) (ty := .int) (C := RX0) (T := TX0) (N := 16) hx hb hw zinX0 tyX0 tyX0_ok nmX0 hown hK hP hD hS 0 rfl rfl 10 (by decide) (hw _ zw255) (fun _ h9 => h9) rfl (by decide +kernel) rfl rfl (Nat.le_of_ble_eq_true rfl) dX0_takeApart_7 (fun H locs hP hD hS => ?_)
  have hP : va_P D vwCl (wE aE bE rE pE c1 c2 c3 (upd (upd v 9 0) 10 a0) b rw pw) H := hP
  have hD : va_D _ (wE aE bE rE pE c1 c2 c3 (upd (upd v 9 0) 10 a0) b rw pw) := hD
  refine lv_aload_n hx hb dX0_takeApart_10 rfl (lv_at hl 0 rfl) ?_
  refine va_get (D := D) (ci := 0) (v := .ref rE) (C := RX0) (T := TX0) (N := 16) hx hb hw zinX0 hown hK hP 0 rfl rfl 5 (by decide) (hw _ zw256) (fun _ h9 => h9) rfl dX0_takeApart_11 ?_
  refine lv_iload_n hx hb dX0_takeApart_14 rfl (lv_at hl 1 rfl) ?_
  refine lv_iconst (v := 1) hx hb dX0_takeApart_15 (by decide) ?_
  refine lv_isub hx hb dX0_takeApart_16 ?_
  obtain ⟨hi1, hm⟩ := zix_s hm
  refine va_iald (i := (a0 - 1)) (f := rw) (n := 24) hx hb hK hP 2 1 rfl rfl hi1 dX0_takeApart_17 ?_
  refine lv_istore_n (lv' := [(2, .int (rw (a0 - 1).toNatClampNeg)), (0, .ref aE), (1, .int a0)]) hx hb dX0_takeApart_18 rfl hl (by decide) rfl (fun ls hl => ?_)
  refine lv_iload_n hx hb dX0_takeApart_19 rfl (lv_at hl 0 rfl) ?_
  refine lv_bipush (v := 67) hx hb dX0_takeApart_20 (by decide) ?_
  refine lv_icmp_eq (tgt := 46) hx hb dX0_takeApart_22 rfl (fun cd2 => ?_) (fun cd2 => ?_)
  · replace hm := zt cd2 hm
    exact b_E_takeApart_46 G0 hK hX _ _ hm _ _ _ hP hD hS (lv_sub hl [1, 0] rfl)
  · replace hm := zf cd2 hm
    refine lv_iload_n hx hb dX0_takeApart_25 rfl (lv_at hl 0 rfl) ?_
    refine lv_bipush (v := 68) hx hb dX0_takeApart_26 (by decide) ?_
    refine lv_icmp_eq (tgt := 46) hx hb dX0_takeApart_28 rfl (fun cd16 => ?_) (fun cd16 => ?_)
    · replace hm := zt cd16 hm
      exact b_E_takeApart_46 G0 hK hX _ _ hm _ _ _ hP hD hS (lv_sub hl [1, 0] rfl)
    · replace hm := zf cd16 hm
      refine lv_iload_n hx hb dX0_takeApart_31 rfl (lv_at hl 0 rfl) ?_
      obtain ⟨q17, hq17, hm⟩ := zbind hm
      refine zb0i (va_runS (As := [.int (rw (a0 - 1).toNatClampNeg)]) (rest := []) ⟨hx, hb, hml, hown, hw⟩ (k_E_isSign l D  _ (rw (a0 - 1).toNatClampNeg)  q17 hq17) ⟨zcB 1 hw (zgood zw263) rfl rfl rfl zw259 zw265 hdX0_isSign ⟨Nat.le_of_ble_eq_true rfl, Nat.le_of_ble_eq_true rfl⟩, hw _ zw264⟩ (zpre zN_ok trivial hS (zfree0 hS hA) zP0 (hK.sub (tys' := []) [] rfl) zD0) rfl rfl hl.1 rfl (lv_room (Nat.le_of_ble_eq_true rfl)) dX0_takeApart_32 ⟨Nat.zero_le _, Nat.zero_le _⟩) hP hD hS (zfree0 hS hA) (fun H locs hP hD hS => ?_)
      refine lv_if_eq (tgt := 50) hx hb dX0_takeApart_35 rfl (fun cd18 => ?_) (fun cd18 => ?_)
      · replace hm := zt cd18 hm
        exact b_E_takeApart_50 G0 hK hX _ _ hm _ _ _ hP hD hS (lv_sub hl [1, 0] rfl)
      · replace hm := zf cd18 hm
        refine lv_aload_n hx hb dX0_takeApart_38 rfl (lv_at hl 1 rfl) ?_
        refine lv_iload_n hx hb dX0_takeApart_39 rfl (lv_at hl 0 rfl) ?_
        obtain ⟨q19, hq19, hm⟩ := zbind hm
        refine zbWi (va_runV (As := [.int (rw (a0 - 1).toNatClampNeg)]) (rest := []) ⟨hx, hb, hml, hown, hw⟩ (k_E_standsOnce l D aE bE rE pE c1 c2 c3 _ (rw (a0 - 1).toNatClampNeg) (upd (upd v 9 0) 10 a0) b rw pw  q19 hq19) (zcV (C := RX0) 1 hw (zgood zw267) rfl rfl rfl zw259 zw269 zw268 zw270 hdX0_standsOnce ⟨Nat.le_of_ble_eq_true rfl, Nat.le_of_ble_eq_true rfl⟩) (zpreV (zpre zC_ok hX hS (zfree hD hS hA) hP hK hD) (va_recv hK hP rfl (q0 := 0) rfl)) rfl rfl hl.1 rfl (lv_room (Nat.le_of_ble_eq_true rfl)) dX0_takeApart_40 ⟨Nat.zero_le _, Nat.zero_le _⟩) hS (zfree hD hS hA) (fun H locs hP hD hS => ?_)
        refine lv_if_eq (tgt := 50) hx hb dX0_takeApart_43 rfl (fun cd20 => ?_) (fun cd20 => ?_)
        · replace hm := zt cd20 hm
          exact b_E_takeApart_50 G0 hK hX _ _ hm _ _ _ hP hD hS (lv_sub hl [1, 0] rfl)
        · replace hm := zf cd20 hm
          exact b_E_takeApart_46 G0 hK hX _ _ hm _ _ _ hP hD hS (lv_sub hl [1, 0] rfl)

theorem dX0_countFill_0 : decode cX0_countFill 0 = .ok (.aload_n 0, 1) := by decide +kernel
theorem dX0_countFill_1 : decode cX0_countFill 1 = .ok (.getfield 93, 3) := by decide +kernel
theorem dX0_countFill_4 : decode cX0_countFill 4 = .ok (.ifCond .ne 18, 3) := by decide +kernel
theorem dX0_countFill_7 : decode cX0_countFill 7 = .ok (.aload_n 0, 1) := by decide +kernel
theorem dX0_countFill_8 : decode cX0_countFill 8 = .ok (.aload_n 0, 1) := by decide +kernel
theorem dX0_countFill_9 : decode cX0_countFill 9 = .ok (.getfield 9, 3) := by decide +kernel
theorem dX0_countFill_12 : decode cX0_countFill 12 = .ok (.iload_n 1, 1) := by decide +kernel
theorem dX0_countFill_13 : decode cX0_countFill 13 = .ok (.iaload, 1) := by decide +kernel
theorem dX0_countFill_14 : decode cX0_countFill 14 = .ok (.putfield 54, 3) := by decide +kernel
theorem dX0_countFill_17 : decode cX0_countFill 17 = .ok (.aload_n 0, 1) := by decide +kernel
theorem dX0_countFill_18 : decode cX0_countFill 18 = .ok (.iload_n 1, 1) := by decide +kernel
theorem dX0_countFill_19 : decode cX0_countFill 19 = .ok (.putfield 96, 3) := by decide +kernel
theorem dX0_countFill_22 : decode cX0_countFill 22 = .ok (.aload_n 0, 1) := by decide +kernel
theorem dX0_countFill_23 : decode cX0_countFill 23 = .ok (.dup, 1) := by decide +kernel
theorem dX0_countFill_24 : decode cX0_countFill 24 = .ok (.getfield 93, 3) := by decide +kernel
theorem dX0_countFill_27 : decode cX0_countFill 27 = .ok (.iconst 1, 1) := by decide +kernel
theorem dX0_countFill_28 : decode cX0_countFill 28 = .ok (.iadd, 1) := by decide +kernel
theorem dX0_countFill_29 : decode cX0_countFill 29 = .ok (.putfield 93, 3) := by decide +kernel
theorem dX0_countFill_32 : decode cX0_countFill 32 = .ok (.aload_n 0, 1) := by decide +kernel
theorem dX0_countFill_33 : decode cX0_countFill 33 = .ok (.getfield 9, 3) := by decide +kernel
theorem dX0_countFill_36 : decode cX0_countFill 36 = .ok (.iload_n 1, 1) := by decide +kernel
theorem dX0_countFill_37 : decode cX0_countFill 37 = .ok (.iaload, 1) := by decide +kernel
theorem dX0_countFill_38 : decode cX0_countFill 38 = .ok (.aload_n 0, 1) := by decide +kernel
theorem dX0_countFill_39 : decode cX0_countFill 39 = .ok (.getfield 54, 3) := by decide +kernel
theorem dX0_countFill_42 : decode cX0_countFill 42 = .ok (.if_icmp .ne 7, 3) := by decide +kernel
theorem dX0_countFill_45 : decode cX0_countFill 45 = .ok (.iconst 1, 1) := by decide +kernel
theorem dX0_countFill_46 : decode cX0_countFill 46 = .ok (.goto 4, 3) := by decide +kernel
theorem dX0_countFill_49 : decode cX0_countFill 49 = .ok (.iconst 0, 1) := by decide +kernel
theorem dX0_countFill_50 : decode cX0_countFill 50 = .ok (.ireturn, 1) := by decide +kernel
def m_E_countFill_22 (b : Nat → Int32) (rw : Nat → Int32) (pw : Nat → Int32) (x1 : Int32) (v : Nat → Int32) : Option ((Int32) × (Nat → Int32)) := zix x1 24 ((if (rw x1.toNatClampNeg) = ((upd v 12 ((v 12) + 1)) 11) then (zbo 1 (some (1, (upd v 12 ((v 12) + 1))))) else (zbo 0 (some (0, (upd v 12 ((v 12) + 1)))))))
def m_E_countFill (a0 : Int32) (v : Nat → Int32) (b : Nat → Int32) (rw : Nat → Int32) (pw : Nat → Int32)  : Option ((Int32) × (Nat → Int32)) := (if (v 12) = 0 then zix a0 24 (m_E_countFill_22 b rw pw a0 (upd (upd v 11 (rw a0.toNatClampNeg)) 13 a0)) else m_E_countFill_22 b rw pw a0 v)
section
variable {p : Program} {l : Launch} {e : Env} {s : State} {m : MethodId} {args : Array Value} {below : List Frame} {meth : Method} {c : Code} {D : va_G} {w0 : va_W} {aE bE rE pE : Nat} {c1 c2 c3 : ClassId} {b : Nat → Int32} {rw : Nat → Int32} {pw : Nat → Int32}
set_option maxRecDepth 100000 in
set_option maxHeartbeats 4000000 in
theorem b_E_countFill_22 (G : zG p s m args meth c cX0_countFill RX0 2 (some .boolean)) (hK : va_K D vwCl (wE_t c1 c2 c3) s) (hX : zC (va_A w0 s.heap.size) s) {res : (Int32) × (Nat → Int32)} : ∀ (x1 : Int32) (v : Nat → Int32), m_E_countFill_22 b rw pw x1 v = some res → zB p l e (zR 0 0) s m args below meth c D vwCl (va_A w0 s.heap.size) (MQ below (zQi D vwCl w0 (wE aE bE rE pE c1 c2 c3 res.2 b rw pw) s.heap.size res.1) args s 0 0 (va_A w0 s.heap.size)) 2 (wE aE bE rE pE c1 c2 c3 v b rw pw) [(0, .ref aE), (1, .int x1)] 22 [] := by
  intro x1 v hm H locs ls hP hD hS hl
  unfold m_E_countFill_22 at hm
  have G0 := G
  obtain ⟨hx, hb, hr, hml, hown, hw, hlk⟩ := G
  have hA : ∀ q, s.heap.size ≤ q → va_A w0 s.heap.size q := fun q h => Or.inr h
  refine lv_aload_n hx hb dX0_countFill_22 rfl (lv_at hl 0 rfl) ?_
  refine lv_dup hx hb dX0_countFill_23 rfl ?_
  refine va_get (D := D) (ci := 0) (v := .int (v 12)) (C := RX0) (T := TX0) (N := 16) hx hb hw zinX0 hown hK hP 0 rfl rfl 12 (by decide) (hw _ zw271) (fun _ h9 => h9) rfl dX0_countFill_24 ?_
  refine lv_iconst (v := 1) hx hb dX0_countFill_27 (by decide) ?_
  refine lv_iadd hx hb dX0_countFill_28 ?_
  refine va_put (D := D) (ci := 0) (v := .int ((v 12) + 1)) (ty := .int) (C := RX0) (T := TX0) (N := 16) hx hb hw zinX0 tyX0 tyX0_ok nmX0 hown hK hP hD hS 0 rfl rfl 12 (by decide) (hw _ zw271) (fun _ h9 => h9) rfl (by decide +kernel) rfl rfl (Nat.le_of_ble_eq_true rfl) dX0_countFill_29 (fun H locs hP hD hS => ?_)
  have hP : va_P D vwCl (wE aE bE rE pE c1 c2 c3 (upd v 12 ((v 12) + 1)) b rw pw) H := hP
  have hD : va_D _ (wE aE bE rE pE c1 c2 c3 (upd v 12 ((v 12) + 1)) b rw pw) := hD
  refine lv_aload_n hx hb dX0_countFill_32 rfl (lv_at hl 0 rfl) ?_
  refine va_get (D := D) (ci := 0) (v := .ref rE) (C := RX0) (T := TX0) (N := 16) hx hb hw zinX0 hown hK hP 0 rfl rfl 5 (by decide) (hw _ zw256) (fun _ h9 => h9) rfl dX0_countFill_33 ?_
  refine lv_iload_n hx hb dX0_countFill_36 rfl (lv_at hl 1 rfl) ?_
  obtain ⟨hi2, hm⟩ := zix_s hm
  refine va_iald (i := x1) (f := rw) (n := 24) hx hb hK hP 2 1 rfl rfl hi2 dX0_countFill_37 ?_
  refine lv_aload_n hx hb dX0_countFill_38 rfl (lv_at hl 0 rfl) ?_
  refine va_get (D := D) (ci := 0) (v := .int ((upd v 12 ((v 12) + 1)) 11)) (C := RX0) (T := TX0) (N := 16) hx hb hw zinX0 hown hK hP 0 rfl rfl 11 (by decide) (hw _ zw272) (fun _ h9 => h9) rfl dX0_countFill_39 ?_
  refine lv_icmp_ne (tgt := 49) hx hb dX0_countFill_42 rfl (fun cd3 => ?_) (fun cd3 => ?_)
  · replace hm := zf cd3 hm
    refine lv_iconst (v := 0) hx hb dX0_countFill_49 (by decide) ?_
    obtain ⟨hz4, -, hm⟩ := zbo_s hm
    cases hm
    exact zretz hx hb hr hlk hz4 hP hD hS dX0_countFill_50
  · replace hm := zt cd3 hm
    refine lv_iconst (v := 1) hx hb dX0_countFill_45 (by decide) ?_
    refine lv_goto (tgt := 50) hx hb dX0_countFill_46 rfl ?_
    obtain ⟨hz5, -, hm⟩ := zbo_s hm
    cases hm
    exact zretz hx hb hr hlk hz5 hP hD hS dX0_countFill_50
end
set_option maxRecDepth 100000 in
set_option maxHeartbeats 4000000 in
theorem k_E_countFill (l : Launch) (D : va_G) (aE bE rE pE : Nat) (c1 c2 c3 : ClassId) (sz : Nat) (a0 : Int32) (v : Nat → Int32) (b : Nat → Int32) (rw : Nat → Int32) (pw : Nat → Int32) (res : (Int32) × (Nat → Int32)) (hm : m_E_countFill a0 v b rw pw  = some res) : Met l yX0_countFill (Cond.code yX0_countFill cX0_countFill 2 (some .boolean) :: zBIG) (zR 0 0) (va_Pc [.ref aE, .int a0] (zP zC D vwCl (wE_t c1 c2 c3) (wE aE bE rE pE c1 c2 c3 v b rw pw) sz)) (zQi D vwCl (wE aE bE rE pE c1 c2 c3 v b rw pw) (wE aE bE rE pE c1 c2 c3 res.2 b rw pw) sz res.1) 0 0 (va_A (wE aE bE rE pE c1 c2 c3 v b rw pw) sz) := by
  refine zEnter RX0 [.ref aE, .int a0] (by decide) rfl (Nat.le_of_ble_eq_true rfl) (fun p e s m below meth c ls G hK hX hP hD hsz hl => ?_)
  subst hsz
  unfold m_E_countFill at hm
  have hl : lv_has ls 2 [(0, .ref aE), (1, .int a0)] := hl
  have hS : va_S (va_A (wE aE bE rE pE c1 c2 c3 v b rw pw) s.heap.size) s.heap s.heap [] := va_S.rf
  have hA : ∀ q, s.heap.size ≤ q → va_A (wE aE bE rE pE c1 c2 c3 v b rw pw) s.heap.size q := fun q h => Or.inr h
  have G0 := G
  obtain ⟨hx, hb, hr, hml, hown, hw, hlk⟩ := G
  refine lv_aload_n hx hb dX0_countFill_0 rfl (lv_at hl 0 rfl) ?_
  refine va_get (D := D) (ci := 0) (v := .int (v 12)) (C := RX0) (T := TX0) (N := 16) hx hb hw zinX0 hown hK hP 0 rfl rfl 12 (by decide) (hw _ zw271) (fun _ h9 => h9) rfl dX0_countFill_1 ?_
  refine lv_if_ne (tgt := 22) hx hb dX0_countFill_4 rfl (fun cd1 => ?_) (fun cd1 => ?_)
  · replace hm := zf cd1 hm
    exact b_E_countFill_22 G0 hK hX _ _ hm _ _ _ hP hD hS hl
  · replace hm := zt cd1 hm
    refine lv_aload_n hx hb dX0_countFill_7 rfl (lv_at hl 0 rfl) ?_
    refine lv_aload_n hx hb dX0_countFill_8 rfl (lv_at hl 0 rfl) ?_
    refine va_get (D := D) (ci := 0) (v := .ref rE) (C := RX0) (T := TX0) (N := 16) hx hb hw zinX0 hown hK hP 0 rfl rfl 5 (by decide) (hw _ zw256) (fun _ h9 => h9) rfl dX0_countFill_9 ?_
    refine lv_iload_n hx hb dX0_countFill_12 rfl (lv_at hl 1 rfl) ?_
    obtain ⟨hi6, hm⟩ := zix_s hm
    refine va_iald (i := a0) (f := rw) (n := 24) hx hb hK hP 2 1 rfl rfl hi6 dX0_countFill_13 ?_
    refine va_put (D := D) (ci := 0) (v := .int (rw a0.toNatClampNeg)) (ty := .int) (C := RX0) (T := TX0) (N := 16) hx hb hw zinX0 tyX0 tyX0_ok nmX0 hown hK hP hD hS 0 rfl rfl 11 (by decide) (hw _ zw272) (fun _ h9 => h9) rfl (by decide +kernel) rfl rfl (Nat.le_of_ble_eq_true rfl) dX0_countFill_14 (fun H locs hP hD hS => ?_)
    have hP : va_P D vwCl (wE aE bE rE pE c1 c2 c3 (upd v 11 (rw a0.toNatClampNeg)) b rw pw) H := hP
    have hD : va_D _ (wE aE bE rE pE c1 c2 c3 (upd v 11 (rw a0.toNatClampNeg)) b rw pw) := hD
    refine lv_aload_n hx hb dX0_countFill_17 rfl (lv_at hl 0 rfl) ?_
    refine lv_iload_n hx hb dX0_countFill_18 rfl (lv_at hl 1 rfl) ?_
    refine va_put (D := D) (ci := 0) (v := .int a0) (ty := .int) (C := RX0) (T := TX0) (N := 16) hx hb hw zinX0 tyX0 tyX0_ok nmX0 hown hK hP hD hS 0 rfl rfl 13 (by decide) (hw _ zw273) (fun _ h9 => h9) rfl (by decide +kernel) rfl rfl (Nat.le_of_ble_eq_true rfl) dX0_countFill_19 (fun H locs hP hD hS => ?_)
    have hP : va_P D vwCl (wE aE bE rE pE c1 c2 c3 (upd (upd v 11 (rw a0.toNatClampNeg)) 13 a0) b rw pw) H := hP
    have hD : va_D _ (wE aE bE rE pE c1 c2 c3 (upd (upd v 11 (rw a0.toNatClampNeg)) 13 a0) b rw pw) := hD
    exact b_E_countFill_22 G0 hK hX _ _ hm _ _ _ hP hD hS hl

theorem dX0_countSymbol_0 : decode cX0_countSymbol 0 = .ok (.aload_n 0, 1) := by decide +kernel
theorem dX0_countSymbol_1 : decode cX0_countSymbol 1 = .ok (.getfield 9, 3) := by decide +kernel
theorem dX0_countSymbol_4 : decode cX0_countSymbol 4 = .ok (.iload_n 1, 1) := by decide +kernel
theorem dX0_countSymbol_5 : decode cX0_countSymbol 5 = .ok (.iaload, 1) := by decide +kernel
theorem dX0_countSymbol_6 : decode cX0_countSymbol 6 = .ok (.lookupswitch 150 #[(36, 118), (42, 118), (43, 118), (44, 148), (45, 118), (46, 124), (47, 148), (48, 148), (57, 106), (66, 148), (86, 124), (90, 118)], 106) := by decide +kernel
theorem dX0_countSymbol_112 : decode cX0_countSymbol 112 = .ok (.aload_n 0, 1) := by decide +kernel
theorem dX0_countSymbol_113 : decode cX0_countSymbol 113 = .ok (.dup, 1) := by decide +kernel
theorem dX0_countSymbol_114 : decode cX0_countSymbol 114 = .ok (.getfield 99, 3) := by decide +kernel
theorem dX0_countSymbol_117 : decode cX0_countSymbol 117 = .ok (.iconst 1, 1) := by decide +kernel
theorem dX0_countSymbol_118 : decode cX0_countSymbol 118 = .ok (.iadd, 1) := by decide +kernel
theorem dX0_countSymbol_119 : decode cX0_countSymbol 119 = .ok (.putfield 99, 3) := by decide +kernel
theorem dX0_countSymbol_122 : decode cX0_countSymbol 122 = .ok (.iconst 1, 1) := by decide +kernel
theorem dX0_countSymbol_123 : decode cX0_countSymbol 123 = .ok (.ireturn, 1) := by decide +kernel
theorem dX0_countSymbol_124 : decode cX0_countSymbol 124 = .ok (.aload_n 0, 1) := by decide +kernel
theorem dX0_countSymbol_125 : decode cX0_countSymbol 125 = .ok (.iload_n 1, 1) := by decide +kernel
theorem dX0_countSymbol_126 : decode cX0_countSymbol 126 = .ok (.invokevirtual 108, 3) := by decide +kernel
theorem dX0_countSymbol_129 : decode cX0_countSymbol 129 = .ok (.ireturn, 1) := by decide +kernel
theorem dX0_countSymbol_130 : decode cX0_countSymbol 130 = .ok (.aload_n 0, 1) := by decide +kernel
theorem dX0_countSymbol_131 : decode cX0_countSymbol 131 = .ok (.getfield 102, 3) := by decide +kernel
theorem dX0_countSymbol_134 : decode cX0_countSymbol 134 = .ok (.aload_n 0, 1) := by decide +kernel
theorem dX0_countSymbol_135 : decode cX0_countSymbol 135 = .ok (.getfield 83, 3) := by decide +kernel
theorem dX0_countSymbol_138 : decode cX0_countSymbol 138 = .ok (.if_icmp .ne 7, 3) := by decide +kernel
theorem dX0_countSymbol_141 : decode cX0_countSymbol 141 = .ok (.iconst 1, 1) := by decide +kernel
theorem dX0_countSymbol_142 : decode cX0_countSymbol 142 = .ok (.goto 4, 3) := by decide +kernel
theorem dX0_countSymbol_145 : decode cX0_countSymbol 145 = .ok (.iconst 0, 1) := by decide +kernel
theorem dX0_countSymbol_146 : decode cX0_countSymbol 146 = .ok (.istore_n 2, 1) := by decide +kernel
theorem dX0_countSymbol_147 : decode cX0_countSymbol 147 = .ok (.aload_n 0, 1) := by decide +kernel
theorem dX0_countSymbol_148 : decode cX0_countSymbol 148 = .ok (.iload_n 1, 1) := by decide +kernel
theorem dX0_countSymbol_149 : decode cX0_countSymbol 149 = .ok (.putfield 102, 3) := by decide +kernel
theorem dX0_countSymbol_152 : decode cX0_countSymbol 152 = .ok (.iload_n 2, 1) := by decide +kernel
theorem dX0_countSymbol_153 : decode cX0_countSymbol 153 = .ok (.ireturn, 1) := by decide +kernel
theorem dX0_countSymbol_154 : decode cX0_countSymbol 154 = .ok (.iconst 1, 1) := by decide +kernel
theorem dX0_countSymbol_155 : decode cX0_countSymbol 155 = .ok (.ireturn, 1) := by decide +kernel
theorem dX0_countSymbol_156 : decode cX0_countSymbol 156 = .ok (.iconst 0, 1) := by decide +kernel
theorem dX0_countSymbol_157 : decode cX0_countSymbol 157 = .ok (.ireturn, 1) := by decide +kernel
def m_E_countSymbol_124 (b : Nat → Int32) (rw : Nat → Int32) (pw : Nat → Int32) (x1 : Int32) (v : Nat → Int32) : Option ((Int32) × (Nat → Int32)) := (m_E_countFill x1 v b rw pw).bind (fun q14 => (zbo q14.1 (some (q14.1, q14.2))))
def m_E_countSymbol_146 (b : Nat → Int32) (rw : Nat → Int32) (pw : Nat → Int32) (x1 : Int32) (t0 : Int32) (v : Nat → Int32) : Option ((Int32) × (Nat → Int32)) := (zbo t0 (some (t0, (upd v 15 x1))))
def m_E_countSymbol_130 (b : Nat → Int32) (rw : Nat → Int32) (pw : Nat → Int32) (x1 : Int32) (v : Nat → Int32) : Option ((Int32) × (Nat → Int32)) := (if (v 15) = (v 10) then m_E_countSymbol_146 b rw pw x1 1 v else m_E_countSymbol_146 b rw pw x1 0 v)
def m_E_countSymbol (a0 : Int32) (v : Nat → Int32) (b : Nat → Int32) (rw : Nat → Int32) (pw : Nat → Int32)  : Option ((Int32) × (Nat → Int32)) := zix a0 24 ((if (rw a0.toNatClampNeg) = 36 then m_E_countSymbol_124 b rw pw a0 v else (if (rw a0.toNatClampNeg) = 42 then m_E_countSymbol_124 b rw pw a0 v else (if (rw a0.toNatClampNeg) = 43 then m_E_countSymbol_124 b rw pw a0 v else (if (rw a0.toNatClampNeg) = 44 then (zbo 1 (some (1, v))) else (if (rw a0.toNatClampNeg) = 45 then m_E_countSymbol_124 b rw pw a0 v else (if (rw a0.toNatClampNeg) = 46 then m_E_countSymbol_130 b rw pw a0 v else (if (rw a0.toNatClampNeg) = 47 then (zbo 1 (some (1, v))) else (if (rw a0.toNatClampNeg) = 48 then (zbo 1 (some (1, v))) else (if (rw a0.toNatClampNeg) = 57 then (zbo 1 (some (1, (upd v 14 ((v 14) + 1))))) else (if (rw a0.toNatClampNeg) = 66 then (zbo 1 (some (1, v))) else (if (rw a0.toNatClampNeg) = 86 then m_E_countSymbol_130 b rw pw a0 v else (if (rw a0.toNatClampNeg) = 90 then m_E_countSymbol_124 b rw pw a0 v else (zbo 0 (some (0, v))))))))))))))))
section
variable {p : Program} {l : Launch} {e : Env} {s : State} {m : MethodId} {args : Array Value} {below : List Frame} {meth : Method} {c : Code} {D : va_G} {w0 : va_W} {aE bE rE pE : Nat} {c1 c2 c3 : ClassId} {b : Nat → Int32} {rw : Nat → Int32} {pw : Nat → Int32}
set_option maxRecDepth 100000 in
set_option maxHeartbeats 4000000 in
theorem b_E_countSymbol_124 (G : zG p s m args meth c cX0_countSymbol RX0 3 (some .boolean)) (hK : va_K D vwCl (wE_t c1 c2 c3) s) (hX : zC (va_A w0 s.heap.size) s) {res : (Int32) × (Nat → Int32)} : ∀ (x1 : Int32) (v : Nat → Int32), m_E_countSymbol_124 b rw pw x1 v = some res → zB p l e (zR 1 21) s m args below meth c D vwCl (va_A w0 s.heap.size) (MQ below (zQi D vwCl w0 (wE aE bE rE pE c1 c2 c3 res.2 b rw pw) s.heap.size res.1) args s 0 0 (va_A w0 s.heap.size)) 3 (wE aE bE rE pE c1 c2 c3 v b rw pw) [(0, .ref aE), (1, .int x1)] 124 [] := by
  intro x1 v hm H locs ls hP hD hS hl
  unfold m_E_countSymbol_124 at hm
  have G0 := G
  obtain ⟨hx, hb, hr, hml, hown, hw, hlk⟩ := G
  have hA : ∀ q, s.heap.size ≤ q → va_A w0 s.heap.size q := fun q h => Or.inr h
  refine lv_aload_n hx hb dX0_countSymbol_124 rfl (lv_at hl 0 rfl) ?_
  refine lv_iload_n hx hb dX0_countSymbol_125 rfl (lv_at hl 1 rfl) ?_
  obtain ⟨q14, hq14, hm⟩ := zbind hm
  refine zbWi (va_runV (As := [.int x1]) (rest := []) ⟨hx, hb, hml, hown, hw⟩ (k_E_countFill l D aE bE rE pE c1 c2 c3 _ x1 v b rw pw  q14 hq14) (zcV (C := RX0) 1 hw (zgood zw274) rfl rfl rfl zw259 zw276 zw275 zw277 hdX0_countFill ⟨Nat.le_of_ble_eq_true rfl, Nat.le_of_ble_eq_true rfl⟩) (zpreV (zpre zC_ok hX hS (zfree hD hS hA) hP hK hD) (va_recv hK hP rfl (q0 := 0) rfl)) rfl rfl hl.1 rfl (lv_room (Nat.le_of_ble_eq_true rfl)) dX0_countSymbol_126 ⟨Nat.zero_le _, Nat.zero_le _⟩) hS (zfree hD hS hA) (fun H locs hP hD hS => ?_)
  have hP : va_P D vwCl (wE aE bE rE pE c1 c2 c3 q14.2 b rw pw) H := hP
  have hD : va_D _ (wE aE bE rE pE c1 c2 c3 q14.2 b rw pw) := hD
  obtain ⟨hz15, -, hm⟩ := zbo_s hm
  cases hm
  exact zretz hx hb hr hlk hz15 hP hD hS dX0_countSymbol_129
set_option maxRecDepth 100000 in
set_option maxHeartbeats 4000000 in
theorem b_E_countSymbol_146 (G : zG p s m args meth c cX0_countSymbol RX0 3 (some .boolean)) (hK : va_K D vwCl (wE_t c1 c2 c3) s) (hX : zC (va_A w0 s.heap.size) s) {res : (Int32) × (Nat → Int32)} : ∀ (x1 : Int32) (t0 : Int32) (v : Nat → Int32), m_E_countSymbol_146 b rw pw x1 t0 v = some res → zB p l e (zR 1 21) s m args below meth c D vwCl (va_A w0 s.heap.size) (MQ below (zQi D vwCl w0 (wE aE bE rE pE c1 c2 c3 res.2 b rw pw) s.heap.size res.1) args s 0 0 (va_A w0 s.heap.size)) 3 (wE aE bE rE pE c1 c2 c3 v b rw pw) [(0, .ref aE), (1, .int x1)] 146 [.int t0] := by
  intro x1 t0 v hm H locs ls hP hD hS hl
  unfold m_E_countSymbol_146 at hm
  have G0 := G
  obtain ⟨hx, hb, hr, hml, hown, hw, hlk⟩ := G
  have hA : ∀ q, s.heap.size ≤ q → va_A w0 s.heap.size q := fun q h => Or.inr h
  refine lv_istore_n (lv' := [(2, .int t0), (0, .ref aE), (1, .int x1)]) hx hb dX0_countSymbol_146 rfl hl (by decide) rfl (fun ls hl => ?_)
  refine lv_aload_n hx hb dX0_countSymbol_147 rfl (lv_at hl 1 rfl) ?_
  refine lv_iload_n hx hb dX0_countSymbol_148 rfl (lv_at hl 2 rfl) ?_
  refine va_put (D := D) (ci := 0) (v := .int x1) (ty := .int) (C := RX0) (T := TX0) (N := 16) hx hb hw zinX0 tyX0 tyX0_ok nmX0 hown hK hP hD hS 0 rfl rfl 15 (by decide) (hw _ zw278) (fun _ h9 => h9) rfl (by decide +kernel) rfl rfl (Nat.le_of_ble_eq_true rfl) dX0_countSymbol_149 (fun H locs hP hD hS => ?_)
  have hP : va_P D vwCl (wE aE bE rE pE c1 c2 c3 (upd v 15 x1) b rw pw) H := hP
  have hD : va_D _ (wE aE bE rE pE c1 c2 c3 (upd v 15 x1) b rw pw) := hD
  refine lv_iload_n hx hb dX0_countSymbol_152 rfl (lv_at hl 0 rfl) ?_
  obtain ⟨hz18, -, hm⟩ := zbo_s hm
  cases hm
  exact zretz hx hb hr hlk hz18 hP hD hS dX0_countSymbol_153
set_option maxRecDepth 100000 in
set_option maxHeartbeats 4000000 in
theorem b_E_countSymbol_130 (G : zG p s m args meth c cX0_countSymbol RX0 3 (some .boolean)) (hK : va_K D vwCl (wE_t c1 c2 c3) s) (hX : zC (va_A w0 s.heap.size) s) {res : (Int32) × (Nat → Int32)} : ∀ (x1 : Int32) (v : Nat → Int32), m_E_countSymbol_130 b rw pw x1 v = some res → zB p l e (zR 1 21) s m args below meth c D vwCl (va_A w0 s.heap.size) (MQ below (zQi D vwCl w0 (wE aE bE rE pE c1 c2 c3 res.2 b rw pw) s.heap.size res.1) args s 0 0 (va_A w0 s.heap.size)) 3 (wE aE bE rE pE c1 c2 c3 v b rw pw) [(0, .ref aE), (1, .int x1)] 130 [] := by
  intro x1 v hm H locs ls hP hD hS hl
  unfold m_E_countSymbol_130 at hm
  have G0 := G
  obtain ⟨hx, hb, hr, hml, hown, hw, hlk⟩ := G
  have hA : ∀ q, s.heap.size ≤ q → va_A w0 s.heap.size q := fun q h => Or.inr h
  refine lv_aload_n hx hb dX0_countSymbol_130 rfl (lv_at hl 0 rfl) ?_
  refine va_get (D := D) (ci := 0) (v := .int (v 15)) (C := RX0) (T := TX0) (N := 16) hx hb hw zinX0 hown hK hP 0 rfl rfl 15 (by decide) (hw _ zw278) (fun _ h9 => h9) rfl dX0_countSymbol_131 ?_
  refine lv_aload_n hx hb dX0_countSymbol_134 rfl (lv_at hl 0 rfl) ?_
  refine va_get (D := D) (ci := 0) (v := .int (v 10)) (C := RX0) (T := TX0) (N := 16) hx hb hw zinX0 hown hK hP 0 rfl rfl 10 (by decide) (hw _ zw255) (fun _ h9 => h9) rfl dX0_countSymbol_135 ?_
  refine lv_icmp_ne (tgt := 145) hx hb dX0_countSymbol_138 rfl (fun cd17 => ?_) (fun cd17 => ?_)
  · replace hm := zf cd17 hm
    refine lv_iconst (v := 0) hx hb dX0_countSymbol_145 (by decide) ?_
    exact b_E_countSymbol_146 G0 hK hX _ _ _ hm H _ _ hP hD hS hl
  · replace hm := zt cd17 hm
    refine lv_iconst (v := 1) hx hb dX0_countSymbol_141 (by decide) ?_
    refine lv_goto (tgt := 146) hx hb dX0_countSymbol_142 rfl ?_
    exact b_E_countSymbol_146 G0 hK hX _ _ _ hm H _ _ hP hD hS hl
end
set_option maxRecDepth 100000 in
set_option maxHeartbeats 4000000 in
theorem k_E_countSymbol (l : Launch) (D : va_G) (aE bE rE pE : Nat) (c1 c2 c3 : ClassId) (sz : Nat) (a0 : Int32) (v : Nat → Int32) (b : Nat → Int32) (rw : Nat → Int32) (pw : Nat → Int32) (res : (Int32) × (Nat → Int32)) (hm : m_E_countSymbol a0 v b rw pw  = some res) : Met l yX0_countSymbol (Cond.code yX0_countSymbol cX0_countSymbol 3 (some .boolean) :: zBIG) (zR 1 21) (va_Pc [.ref aE, .int a0] (zP zC D vwCl (wE_t c1 c2 c3) (wE aE bE rE pE c1 c2 c3 v b rw pw) sz)) (zQi D vwCl (wE aE bE rE pE c1 c2 c3 v b rw pw) (wE aE bE rE pE c1 c2 c3 res.2 b rw pw) sz res.1) 0 0 (va_A (wE aE bE rE pE c1 c2 c3 v b rw pw) sz) := by
  refine zEnter RX0 [.ref aE, .int a0] (by decide) rfl (Nat.le_of_ble_eq_true rfl) (fun p e s m below meth c ls G hK hX hP hD hsz hl => ?_)
  subst hsz
  unfold m_E_countSymbol at hm
  have hl : lv_has ls 3 [(0, .ref aE), (1, .int a0)] := hl
  have hS : va_S (va_A (wE aE bE rE pE c1 c2 c3 v b rw pw) s.heap.size) s.heap s.heap [] := va_S.rf
  have hA : ∀ q, s.heap.size ≤ q → va_A (wE aE bE rE pE c1 c2 c3 v b rw pw) s.heap.size q := fun q h => Or.inr h
  have G0 := G
  obtain ⟨hx, hb, hr, hml, hown, hw, hlk⟩ := G
  refine lv_aload_n hx hb dX0_countSymbol_0 rfl (lv_at hl 0 rfl) ?_
  refine va_get (D := D) (ci := 0) (v := .ref rE) (C := RX0) (T := TX0) (N := 16) hx hb hw zinX0 hown hK hP 0 rfl rfl 5 (by decide) (hw _ zw256) (fun _ h9 => h9) rfl dX0_countSymbol_1 ?_
  refine lv_iload_n hx hb dX0_countSymbol_4 rfl (lv_at hl 1 rfl) ?_
  obtain ⟨hi1, hm⟩ := zix_s hm
  refine va_iald (i := a0) (f := rw) (n := 24) hx hb hK hP 2 1 rfl rfl hi1 dX0_countSymbol_5 ?_
  by_cases cd2 : (rw a0.toNatClampNeg) = 36
  · replace hm := zt cd2 hm
    refine lv_lookup (off := 118) (tgt := 124) hx hb dX0_countSymbol_6 (by decide) (by rw [cd2]; decide) rfl ?_
    exact b_E_countSymbol_124 G0 hK hX _ _ hm _ _ _ hP hD hS hl
  · replace hm := zf cd2 hm
    by_cases cd3 : (rw a0.toNatClampNeg) = 42
    · replace hm := zt cd3 hm
      refine lv_lookup (off := 118) (tgt := 124) hx hb dX0_countSymbol_6 (by decide) (by rw [cd3]; decide) rfl ?_
      exact b_E_countSymbol_124 G0 hK hX _ _ hm _ _ _ hP hD hS hl
    · replace hm := zf cd3 hm
      by_cases cd4 : (rw a0.toNatClampNeg) = 43
      · replace hm := zt cd4 hm
        refine lv_lookup (off := 118) (tgt := 124) hx hb dX0_countSymbol_6 (by decide) (by rw [cd4]; decide) rfl ?_
        exact b_E_countSymbol_124 G0 hK hX _ _ hm _ _ _ hP hD hS hl
      · replace hm := zf cd4 hm
        by_cases cd5 : (rw a0.toNatClampNeg) = 44
        · replace hm := zt cd5 hm
          refine lv_lookup (off := 148) (tgt := 154) hx hb dX0_countSymbol_6 (by decide) (by rw [cd5]; decide) rfl ?_
          refine lv_iconst (v := 1) hx hb dX0_countSymbol_154 (by decide) ?_
          obtain ⟨hz16, -, hm⟩ := zbo_s hm
          cases hm
          exact zretz hx hb hr hlk hz16 hP hD hS dX0_countSymbol_155
        · replace hm := zf cd5 hm
          by_cases cd6 : (rw a0.toNatClampNeg) = 45
          · replace hm := zt cd6 hm
            refine lv_lookup (off := 118) (tgt := 124) hx hb dX0_countSymbol_6 (by decide) (by rw [cd6]; decide) rfl ?_
            exact b_E_countSymbol_124 G0 hK hX _ _ hm _ _ _ hP hD hS hl
          · replace hm := zf cd6 hm
            by_cases cd7 : (rw a0.toNatClampNeg) = 46
            · replace hm := zt cd7 hm
              refine lv_lookup (off := 124) (tgt := 130) hx hb dX0_countSymbol_6 (by decide) (by rw [cd7]; decide) rfl ?_
              exact b_E_countSymbol_130 G0 hK hX _ _ hm _ _ _ hP hD hS hl
            · replace hm := zf cd7 hm
              by_cases cd8 : (rw a0.toNatClampNeg) = 47
              · replace hm := zt cd8 hm
                refine lv_lookup (off := 148) (tgt := 154) hx hb dX0_countSymbol_6 (by decide) (by rw [cd8]; decide) rfl ?_
                refine lv_iconst (v := 1) hx hb dX0_countSymbol_154 (by decide) ?_
                obtain ⟨hz19, -, hm⟩ := zbo_s hm
                cases hm
                exact zretz hx hb hr hlk hz19 hP hD hS dX0_countSymbol_155
              · replace hm := zf cd8 hm
                by_cases cd9 : (rw a0.toNatClampNeg) = 48
                · replace hm := zt cd9 hm
                  refine lv_lookup (off := 148) (tgt := 154) hx hb dX0_countSymbol_6 (by decide) (by rw [cd9]; decide) rfl ?_
                  refine lv_iconst (v := 1) hx hb dX0_countSymbol_154 (by decide) ?_
                  obtain ⟨hz20, -, hm⟩ := zbo_s hm
                  cases hm
                  exact zretz hx hb hr hlk hz20 hP hD hS dX0_countSymbol_155
                · replace hm := zf cd9 hm
                  by_cases cd10 : (rw a0.toNatClampNeg) = 57
                  · replace hm := zt cd10 hm
                    refine lv_lookup (off := 106) (tgt := 112) hx hb dX0_countSymbol_6 (by decide) (by rw [cd10]; decide) rfl ?_
                    refine lv_aload_n hx hb dX0_countSymbol_112 rfl (lv_at hl 0 rfl) ?_
                    refine lv_dup hx hb dX0_countSymbol_113 rfl ?_
                    refine va_get (D := D) (ci := 0) (v := .int (v 14)) (C := RX0) (T := TX0) (N := 16) hx hb hw zinX0 hown hK hP 0 rfl rfl 14 (by decide) (hw _ zw279) (fun _ h9 => h9) rfl dX0_countSymbol_114 ?_
                    refine lv_iconst (v := 1) hx hb dX0_countSymbol_117 (by decide) ?_
                    refine lv_iadd hx hb dX0_countSymbol_118 ?_
                    refine va_put (D := D) (ci := 0) (v := .int ((v 14) + 1)) (ty := .int) (C := RX0) (T := TX0) (N := 16) hx hb hw zinX0 tyX0 tyX0_ok nmX0 hown hK hP hD hS 0 rfl rfl 14 (by decide) (hw _ zw279) (fun _ h9 => h9) rfl (by decide +kernel) rfl rfl (Nat.le_of_ble_eq_true rfl) dX0_countSymbol_119 (fun H locs hP hD hS => ?_)
                    have hP : va_P D vwCl (wE aE bE rE pE c1 c2 c3 (upd v 14 ((v 14) + 1)) b rw pw) H := hP
                    have hD : va_D _ (wE aE bE rE pE c1 c2 c3 (upd v 14 ((v 14) + 1)) b rw pw) := hD
                    refine lv_iconst (v := 1) hx hb dX0_countSymbol_122 (by decide) ?_
                    obtain ⟨hz21, -, hm⟩ := zbo_s hm
                    cases hm
                    exact zretz hx hb hr hlk hz21 hP hD hS dX0_countSymbol_123
                  · replace hm := zf cd10 hm
                    by_cases cd11 : (rw a0.toNatClampNeg) = 66
                    · replace hm := zt cd11 hm
                      refine lv_lookup (off := 148) (tgt := 154) hx hb dX0_countSymbol_6 (by decide) (by rw [cd11]; decide) rfl ?_
                      refine lv_iconst (v := 1) hx hb dX0_countSymbol_154 (by decide) ?_
                      obtain ⟨hz22, -, hm⟩ := zbo_s hm
                      cases hm
                      exact zretz hx hb hr hlk hz22 hP hD hS dX0_countSymbol_155
                    · replace hm := zf cd11 hm
                      by_cases cd12 : (rw a0.toNatClampNeg) = 86
                      · replace hm := zt cd12 hm
                        refine lv_lookup (off := 124) (tgt := 130) hx hb dX0_countSymbol_6 (by decide) (by rw [cd12]; decide) rfl ?_
                        exact b_E_countSymbol_130 G0 hK hX _ _ hm _ _ _ hP hD hS hl
                      · replace hm := zf cd12 hm
                        by_cases cd13 : (rw a0.toNatClampNeg) = 90
                        · replace hm := zt cd13 hm
                          refine lv_lookup (off := 118) (tgt := 124) hx hb dX0_countSymbol_6 (by decide) (by rw [cd13]; decide) rfl ?_
                          exact b_E_countSymbol_124 G0 hK hX _ _ hm _ _ _ hP hD hS hl
                        · replace hm := zf cd13 hm
                          refine lv_lookup (off := 150) (tgt := 156) hx hb dX0_countSymbol_6 (by decide) ((lv_osw cd2 rfl).trans ((lv_osw cd3 rfl).trans ((lv_osw cd4 rfl).trans ((lv_osw cd5 rfl).trans ((lv_osw cd6 rfl).trans ((lv_osw cd7 rfl).trans ((lv_osw cd8 rfl).trans ((lv_osw cd9 rfl).trans ((lv_osw cd10 rfl).trans ((lv_osw cd11 rfl).trans ((lv_osw cd12 rfl).trans ((lv_osw cd13 rfl).trans rfl)))))))))))) rfl ?_
                          refine lv_iconst (v := 0) hx hb dX0_countSymbol_156 (by decide) ?_
                          obtain ⟨hz23, -, hm⟩ := zbo_s hm
                          cases hm
                          exact zretz hx hb hr hlk hz23 hP hD hS dX0_countSymbol_157

theorem dX0_countBody_0 : decode cX0_countBody 0 = .ok (.aload_n 0, 1) := by decide +kernel
theorem dX0_countBody_1 : decode cX0_countBody 1 = .ok (.iconst (-1), 1) := by decide +kernel
theorem dX0_countBody_2 : decode cX0_countBody 2 = .ok (.putfield 54, 3) := by decide +kernel
theorem dX0_countBody_5 : decode cX0_countBody 5 = .ok (.aload_n 0, 1) := by decide +kernel
theorem dX0_countBody_6 : decode cX0_countBody 6 = .ok (.iconst 0, 1) := by decide +kernel
theorem dX0_countBody_7 : decode cX0_countBody 7 = .ok (.putfield 93, 3) := by decide +kernel
theorem dX0_countBody_10 : decode cX0_countBody 10 = .ok (.aload_n 0, 1) := by decide +kernel
theorem dX0_countBody_11 : decode cX0_countBody 11 = .ok (.aload_n 0, 1) := by decide +kernel
theorem dX0_countBody_12 : decode cX0_countBody 12 = .ok (.getfield 83, 3) := by decide +kernel
theorem dX0_countBody_15 : decode cX0_countBody 15 = .ok (.putfield 96, 3) := by decide +kernel
theorem dX0_countBody_18 : decode cX0_countBody 18 = .ok (.aload_n 0, 1) := by decide +kernel
theorem dX0_countBody_19 : decode cX0_countBody 19 = .ok (.iconst 0, 1) := by decide +kernel
theorem dX0_countBody_20 : decode cX0_countBody 20 = .ok (.putfield 99, 3) := by decide +kernel
theorem dX0_countBody_23 : decode cX0_countBody 23 = .ok (.aload_n 0, 1) := by decide +kernel
theorem dX0_countBody_24 : decode cX0_countBody 24 = .ok (.aload_n 0, 1) := by decide +kernel
theorem dX0_countBody_25 : decode cX0_countBody 25 = .ok (.getfield 83, 3) := by decide +kernel
theorem dX0_countBody_28 : decode cX0_countBody 28 = .ok (.putfield 102, 3) := by decide +kernel
theorem dX0_countBody_31 : decode cX0_countBody 31 = .ok (.iconst 1, 1) := by decide +kernel
theorem dX0_countBody_32 : decode cX0_countBody 32 = .ok (.istore_n 1, 1) := by decide +kernel
theorem dX0_countBody_33 : decode cX0_countBody 33 = .ok (.aload_n 0, 1) := by decide +kernel
theorem dX0_countBody_34 : decode cX0_countBody 34 = .ok (.getfield 80, 3) := by decide +kernel
theorem dX0_countBody_37 : decode cX0_countBody 37 = .ok (.istore_n 2, 1) := by decide +kernel
theorem dX0_countBody_38 : decode cX0_countBody 38 = .ok (.iload_n 2, 1) := by decide +kernel
theorem dX0_countBody_39 : decode cX0_countBody 39 = .ok (.aload_n 0, 1) := by decide +kernel
theorem dX0_countBody_40 : decode cX0_countBody 40 = .ok (.getfield 83, 3) := by decide +kernel
theorem dX0_countBody_43 : decode cX0_countBody 43 = .ok (.if_icmp .ge 27, 3) := by decide +kernel
theorem dX0_countBody_46 : decode cX0_countBody 46 = .ok (.iload_n 1, 1) := by decide +kernel
theorem dX0_countBody_47 : decode cX0_countBody 47 = .ok (.ifCond .eq 15, 3) := by decide +kernel
theorem dX0_countBody_50 : decode cX0_countBody 50 = .ok (.aload_n 0, 1) := by decide +kernel
theorem dX0_countBody_51 : decode cX0_countBody 51 = .ok (.iload_n 2, 1) := by decide +kernel
theorem dX0_countBody_52 : decode cX0_countBody 52 = .ok (.invokevirtual 105, 3) := by decide +kernel
theorem dX0_countBody_55 : decode cX0_countBody 55 = .ok (.ifCond .eq 7, 3) := by decide +kernel
theorem dX0_countBody_58 : decode cX0_countBody 58 = .ok (.iconst 1, 1) := by decide +kernel
theorem dX0_countBody_59 : decode cX0_countBody 59 = .ok (.goto 4, 3) := by decide +kernel
theorem dX0_countBody_62 : decode cX0_countBody 62 = .ok (.iconst 0, 1) := by decide +kernel
theorem dX0_countBody_63 : decode cX0_countBody 63 = .ok (.istore_n 1, 1) := by decide +kernel
theorem dX0_countBody_64 : decode cX0_countBody 64 = .ok (.iinc 2 1, 3) := by decide +kernel
theorem dX0_countBody_67 : decode cX0_countBody 67 = .ok (.goto (-29), 3) := by decide +kernel
theorem dX0_countBody_70 : decode cX0_countBody 70 = .ok (.iload_n 1, 1) := by decide +kernel
theorem dX0_countBody_71 : decode cX0_countBody 71 = .ok (.ireturn, 1) := by decide +kernel
def m_E_countBody_63 (b : Nat → Int32) (rw : Nat → Int32) (pw : Nat → Int32) (rec : Int32 → Int32 → (Nat → Int32) → Option ((Int32) × (Nat → Int32))) (x2 : Int32) (t0 : Int32) (v : Nat → Int32) : Option ((Int32) × (Nat → Int32)) := rec t0 (x2 + 1) v
def m_E_countBody_62 (b : Nat → Int32) (rw : Nat → Int32) (pw : Nat → Int32) (rec : Int32 → Int32 → (Nat → Int32) → Option ((Int32) × (Nat → Int32))) (x2 : Int32) (v : Nat → Int32) : Option ((Int32) × (Nat → Int32)) := m_E_countBody_63 b rw pw rec x2 0 v
def m_E_countBody_38b (b : Nat → Int32) (rw : Nat → Int32) (pw : Nat → Int32) (rec : Int32 → Int32 → (Nat → Int32) → Option ((Int32) × (Nat → Int32))) (x1 : Int32) (x2 : Int32) (v : Nat → Int32) : Option ((Int32) × (Nat → Int32)) := (if (v 10) ≤ x2 then (zbo x1 (some (x1, v))) else (if x1 = 0 then m_E_countBody_62 b rw pw rec x2 v else (m_E_countSymbol x2 v b rw pw).bind (fun q4 => (if q4.1 = 0 then m_E_countBody_62 b rw pw rec x2 q4.2 else m_E_countBody_63 b rw pw rec x2 1 q4.2))))
def m_E_countBody_38 (b : Nat → Int32) (rw : Nat → Int32) (pw : Nat → Int32) : Nat → Int32 → Int32 → (Nat → Int32) → Option ((Int32) × (Nat → Int32))
  | 0 => fun _ _ _ => none
  | n + 1 => fun x1 x2 v => m_E_countBody_38b b rw pw (m_E_countBody_38 b rw pw n) x1 x2 v
def m_E_countBody_31 (b : Nat → Int32) (rw : Nat → Int32) (pw : Nat → Int32)  (v : Nat → Int32) : Option ((Int32) × (Nat → Int32)) := m_E_countBody_38 b rw pw 64 1 (v 9) v
def m_E_countBody  (v : Nat → Int32) (b : Nat → Int32) (rw : Nat → Int32) (pw : Nat → Int32)  : Option ((Int32) × (Nat → Int32)) := m_E_countBody_31 b rw pw (upd (upd (upd (upd (upd v 11 (-1)) 12 0) 13 ((upd (upd v 11 (-1)) 12 0) 10)) 14 0) 15 ((upd (upd (upd (upd v 11 (-1)) 12 0) 13 ((upd (upd v 11 (-1)) 12 0) 10)) 14 0) 10))
section
variable {p : Program} {l : Launch} {e : Env} {s : State} {m : MethodId} {args : Array Value} {below : List Frame} {meth : Method} {c : Code} {D : va_G} {w0 : va_W} {aE bE rE pE : Nat} {c1 c2 c3 : ClassId} {b : Nat → Int32} {rw : Nat → Int32} {pw : Nat → Int32}
set_option maxRecDepth 100000 in
set_option maxHeartbeats 4000000 in
theorem b_E_countBody_63 (G : zG p s m args meth c cX0_countBody RX0 3 (some .boolean)) (hK : va_K D vwCl (wE_t c1 c2 c3) s) (hX : zC (va_A w0 s.heap.size) s) {res : (Int32) × (Nat → Int32)} (rec : Int32 → Int32 → (Nat → Int32) → Option ((Int32) × (Nat → Int32))) (hrec : ∀ (x1 : Int32) (x2 : Int32) (v : Nat → Int32), rec x1 x2 v = some res → zB p l e (zR 2 43) s m args below meth c D vwCl (va_A w0 s.heap.size) (MQ below (zQi D vwCl w0 (wE aE bE rE pE c1 c2 c3 res.2 b rw pw) s.heap.size res.1) args s 0 0 (va_A w0 s.heap.size)) 3 (wE aE bE rE pE c1 c2 c3 v b rw pw) [(0, .ref aE), (1, .int x1), (2, .int x2)] 38 []) : ∀ (x2 : Int32) (t0 : Int32) (v : Nat → Int32), m_E_countBody_63 b rw pw rec x2 t0 v = some res → zB p l e (zR 2 43) s m args below meth c D vwCl (va_A w0 s.heap.size) (MQ below (zQi D vwCl w0 (wE aE bE rE pE c1 c2 c3 res.2 b rw pw) s.heap.size res.1) args s 0 0 (va_A w0 s.heap.size)) 3 (wE aE bE rE pE c1 c2 c3 v b rw pw) [(0, .ref aE), (2, .int x2)] 63 [.int t0] := by
  intro x2 t0 v hm H locs ls hP hD hS hl
  unfold m_E_countBody_63 at hm
  have G0 := G
  obtain ⟨hx, hb, hr, hml, hown, hw, hlk⟩ := G
  have hA : ∀ q, s.heap.size ≤ q → va_A w0 s.heap.size q := fun q h => Or.inr h
  refine lv_istore_n (lv' := [(1, .int t0), (0, .ref aE), (2, .int x2)]) hx hb dX0_countBody_63 rfl hl (by decide) rfl (fun ls hl => ?_)
  refine lv_iinc (k := 2) (v := (x2 + 1)) (lv' := [(2, .int (x2 + 1)), (1, .int t0), (0, .ref aE)]) hx hb dX0_countBody_64 hl rfl rfl (by decide) rfl (fun ls hl => ?_)
  refine lv_goto (tgt := 38) hx hb dX0_countBody_67 rfl ?_
  exact hrec _ _ _ hm H _ _ hP hD hS (lv_sub hl [2, 1, 0] rfl)
set_option maxRecDepth 100000 in
set_option maxHeartbeats 4000000 in
theorem b_E_countBody_62 (G : zG p s m args meth c cX0_countBody RX0 3 (some .boolean)) (hK : va_K D vwCl (wE_t c1 c2 c3) s) (hX : zC (va_A w0 s.heap.size) s) {res : (Int32) × (Nat → Int32)} (rec : Int32 → Int32 → (Nat → Int32) → Option ((Int32) × (Nat → Int32))) (hrec : ∀ (x1 : Int32) (x2 : Int32) (v : Nat → Int32), rec x1 x2 v = some res → zB p l e (zR 2 43) s m args below meth c D vwCl (va_A w0 s.heap.size) (MQ below (zQi D vwCl w0 (wE aE bE rE pE c1 c2 c3 res.2 b rw pw) s.heap.size res.1) args s 0 0 (va_A w0 s.heap.size)) 3 (wE aE bE rE pE c1 c2 c3 v b rw pw) [(0, .ref aE), (1, .int x1), (2, .int x2)] 38 []) : ∀ (x2 : Int32) (v : Nat → Int32), m_E_countBody_62 b rw pw rec x2 v = some res → zB p l e (zR 2 43) s m args below meth c D vwCl (va_A w0 s.heap.size) (MQ below (zQi D vwCl w0 (wE aE bE rE pE c1 c2 c3 res.2 b rw pw) s.heap.size res.1) args s 0 0 (va_A w0 s.heap.size)) 3 (wE aE bE rE pE c1 c2 c3 v b rw pw) [(0, .ref aE), (2, .int x2)] 62 [] := by
  intro x2 v hm H locs ls hP hD hS hl
  unfold m_E_countBody_62 at hm
  have G0 := G
  obtain ⟨hx, hb, hr, hml, hown, hw, hlk⟩ := G
  have hA : ∀ q, s.heap.size ≤ q → va_A w0 s.heap.size q := fun q h => Or.inr h
  refine lv_iconst (v := 0) hx hb dX0_countBody_62 (by decide) ?_
  exact b_E_countBody_63 G0 hK hX rec hrec _ _ _ hm H _ _ hP hD hS hl
set_option maxRecDepth 100000 in
set_option maxHeartbeats 4000000 in
theorem b_E_countBody_38 (G : zG p s m args meth c cX0_countBody RX0 3 (some .boolean)) (hK : va_K D vwCl (wE_t c1 c2 c3) s) (hX : zC (va_A w0 s.heap.size) s) {res : (Int32) × (Nat → Int32)} : ∀ n : Nat, ∀ (x1 : Int32) (x2 : Int32) (v : Nat → Int32), m_E_countBody_38 b rw pw n x1 x2 v = some res → zB p l e (zR 2 43) s m args below meth c D vwCl (va_A w0 s.heap.size) (MQ below (zQi D vwCl w0 (wE aE bE rE pE c1 c2 c3 res.2 b rw pw) s.heap.size res.1) args s 0 0 (va_A w0 s.heap.size)) 3 (wE aE bE rE pE c1 c2 c3 v b rw pw) [(0, .ref aE), (1, .int x1), (2, .int x2)] 38 [] := by
  intro n
  induction n with
  | zero => intro x1 x2 v hm; cases hm
  | succ n ih =>
  have hrec := ih
  intro x1 x2 v hm H locs ls hP hD hS hl
  replace hm : m_E_countBody_38b b rw pw (m_E_countBody_38 b rw pw n) x1 x2 v = some res := hm
  generalize m_E_countBody_38 b rw pw n = rec at hm hrec
  unfold m_E_countBody_38b at hm
  clear ih
  have G0 := G
  obtain ⟨hx, hb, hr, hml, hown, hw, hlk⟩ := G
  have hA : ∀ q, s.heap.size ≤ q → va_A w0 s.heap.size q := fun q h => Or.inr h
  refine lv_iload_n hx hb dX0_countBody_38 rfl (lv_at hl 2 rfl) ?_
  refine lv_aload_n hx hb dX0_countBody_39 rfl (lv_at hl 0 rfl) ?_
  refine va_get (D := D) (ci := 0) (v := .int (v 10)) (C := RX0) (T := TX0) (N := 16) hx hb hw zinX0 hown hK hP 0 rfl rfl 10 (by decide) (hw _ zw255) (fun _ h9 => h9) rfl dX0_countBody_40 ?_
  refine lv_icmp_ge (tgt := 70) hx hb dX0_countBody_43 rfl (fun cd1 => ?_) (fun cd1 => ?_)
  · replace hm := zt cd1 hm
    refine lv_iload_n hx hb dX0_countBody_70 rfl (lv_at hl 1 rfl) ?_
    obtain ⟨hz2, -, hm⟩ := zbo_s hm
    cases hm
    exact zretz hx hb hr hlk hz2 hP hD hS dX0_countBody_71
  · replace hm := zf cd1 hm
    refine lv_iload_n hx hb dX0_countBody_46 rfl (lv_at hl 1 rfl) ?_
    refine lv_if_eq (tgt := 62) hx hb dX0_countBody_47 rfl (fun cd3 => ?_) (fun cd3 => ?_)
    · replace hm := zt cd3 hm
      exact b_E_countBody_62 G0 hK hX rec hrec _ _ hm H _ _ hP hD hS (lv_sub hl [0, 2] rfl)
    · replace hm := zf cd3 hm
      refine lv_aload_n hx hb dX0_countBody_50 rfl (lv_at hl 0 rfl) ?_
      refine lv_iload_n hx hb dX0_countBody_51 rfl (lv_at hl 2 rfl) ?_
      obtain ⟨q4, hq4, hm⟩ := zbind hm
      refine zbWi (va_runV (As := [.int x2]) (rest := []) ⟨hx, hb, hml, hown, hw⟩ (k_E_countSymbol l D aE bE rE pE c1 c2 c3 _ x2 v b rw pw  q4 hq4) (zcV (C := RX0) 1 hw (zgood zw280) rfl rfl rfl zw259 zw282 zw281 zw283 hdX0_countSymbol ⟨Nat.le_of_ble_eq_true rfl, Nat.le_of_ble_eq_true rfl⟩) (zpreV (zpre zC_ok hX hS (zfree hD hS hA) hP hK hD) (va_recv hK hP rfl (q0 := 0) rfl)) rfl rfl hl.1 rfl (lv_room (Nat.le_of_ble_eq_true rfl)) dX0_countBody_52 ⟨Nat.zero_le _, Nat.zero_le _⟩) hS (zfree hD hS hA) (fun H locs hP hD hS => ?_)
      have hP : va_P D vwCl (wE aE bE rE pE c1 c2 c3 q4.2 b rw pw) H := hP
      have hD : va_D _ (wE aE bE rE pE c1 c2 c3 q4.2 b rw pw) := hD
      refine lv_if_eq (tgt := 62) hx hb dX0_countBody_55 rfl (fun cd5 => ?_) (fun cd5 => ?_)
      · replace hm := zt cd5 hm
        exact b_E_countBody_62 G0 hK hX rec hrec _ _ hm H _ _ hP hD hS (lv_sub hl [0, 2] rfl)
      · replace hm := zf cd5 hm
        refine lv_iconst (v := 1) hx hb dX0_countBody_58 (by decide) ?_
        refine lv_goto (tgt := 63) hx hb dX0_countBody_59 rfl ?_
        exact b_E_countBody_63 G0 hK hX rec hrec _ _ _ hm H _ _ hP hD hS (lv_sub hl [0, 2] rfl)
set_option maxRecDepth 100000 in
set_option maxHeartbeats 4000000 in
theorem b_E_countBody_31 (G : zG p s m args meth c cX0_countBody RX0 3 (some .boolean)) (hK : va_K D vwCl (wE_t c1 c2 c3) s) (hX : zC (va_A w0 s.heap.size) s) {res : (Int32) × (Nat → Int32)} : ∀ (v : Nat → Int32), m_E_countBody_31 b rw pw v = some res → zB p l e (zR 2 43) s m args below meth c D vwCl (va_A w0 s.heap.size) (MQ below (zQi D vwCl w0 (wE aE bE rE pE c1 c2 c3 res.2 b rw pw) s.heap.size res.1) args s 0 0 (va_A w0 s.heap.size)) 3 (wE aE bE rE pE c1 c2 c3 v b rw pw) [(0, .ref aE)] 31 [] := by
  intro v hm H locs ls hP hD hS hl
  unfold m_E_countBody_31 at hm
  have G0 := G
  obtain ⟨hx, hb, hr, hml, hown, hw, hlk⟩ := G
  have hA : ∀ q, s.heap.size ≤ q → va_A w0 s.heap.size q := fun q h => Or.inr h
  refine lv_iconst (v := 1) hx hb dX0_countBody_31 (by decide) ?_
  refine lv_istore_n (lv' := [(1, .int 1), (0, .ref aE)]) hx hb dX0_countBody_32 rfl hl (by decide) rfl (fun ls hl => ?_)
  refine lv_aload_n hx hb dX0_countBody_33 rfl (lv_at hl 1 rfl) ?_
  refine va_get (D := D) (ci := 0) (v := .int (v 9)) (C := RX0) (T := TX0) (N := 16) hx hb hw zinX0 hown hK hP 0 rfl rfl 9 (by decide) (hw _ zw254) (fun _ h9 => h9) rfl dX0_countBody_34 ?_
  refine lv_istore_n (lv' := [(2, .int (v 9)), (1, .int 1), (0, .ref aE)]) hx hb dX0_countBody_37 rfl hl (by decide) rfl (fun ls hl => ?_)
  exact b_E_countBody_38 G0 hK hX 64 _ _ _ hm H _ _ hP hD hS (lv_sub hl [2, 1, 0] rfl)
end
set_option maxRecDepth 100000 in
set_option maxHeartbeats 4000000 in
theorem k_E_countBody (l : Launch) (D : va_G) (aE bE rE pE : Nat) (c1 c2 c3 : ClassId) (sz : Nat)  (v : Nat → Int32) (b : Nat → Int32) (rw : Nat → Int32) (pw : Nat → Int32) (res : (Int32) × (Nat → Int32)) (hm : m_E_countBody  v b rw pw  = some res) : Met l yX0_countBody (Cond.code yX0_countBody cX0_countBody 3 (some .boolean) :: zBIG) (zR 2 43) (va_Pc [.ref aE] (zP zC D vwCl (wE_t c1 c2 c3) (wE aE bE rE pE c1 c2 c3 v b rw pw) sz)) (zQi D vwCl (wE aE bE rE pE c1 c2 c3 v b rw pw) (wE aE bE rE pE c1 c2 c3 res.2 b rw pw) sz res.1) 0 0 (va_A (wE aE bE rE pE c1 c2 c3 v b rw pw) sz) := by
  refine zEnter RX0 [.ref aE] (by decide) rfl (Nat.le_of_ble_eq_true rfl) (fun p e s m below meth c ls G hK hX hP hD hsz hl => ?_)
  subst hsz
  unfold m_E_countBody at hm
  have hl : lv_has ls 3 [(0, .ref aE)] := hl
  have hS : va_S (va_A (wE aE bE rE pE c1 c2 c3 v b rw pw) s.heap.size) s.heap s.heap [] := va_S.rf
  have hA : ∀ q, s.heap.size ≤ q → va_A (wE aE bE rE pE c1 c2 c3 v b rw pw) s.heap.size q := fun q h => Or.inr h
  have G0 := G
  obtain ⟨hx, hb, hr, hml, hown, hw, hlk⟩ := G
  refine lv_aload_n hx hb dX0_countBody_0 rfl (lv_at hl 0 rfl) ?_
  refine lv_iconst (v := (-1)) hx hb dX0_countBody_1 (by decide) ?_
  refine va_put (D := D) (ci := 0) (v := .int (-1)) (ty := .int) (C := RX0) (T := TX0) (N := 16) hx hb hw zinX0 tyX0 tyX0_ok nmX0 hown hK hP hD hS 0 rfl rfl 11 (by decide) (hw _ zw272) (fun _ h9 => h9) rfl (by decide +kernel) rfl rfl (Nat.le_of_ble_eq_true rfl) dX0_countBody_2 (fun H locs hP hD hS => ?_)
  have hP : va_P D vwCl (wE aE bE rE pE c1 c2 c3 (upd v 11 (-1)) b rw pw) H := hP
  have hD : va_D _ (wE aE bE rE pE c1 c2 c3 (upd v 11 (-1)) b rw pw) := hD
  refine lv_aload_n hx hb dX0_countBody_5 rfl (lv_at hl 0 rfl) ?_
  refine lv_iconst (v := 0) hx hb dX0_countBody_6 (by decide) ?_
  refine va_put (D := D) (ci := 0) (v := .int 0) (ty := .int) (C := RX0) (T := TX0) (N := 16) hx hb hw zinX0 tyX0 tyX0_ok nmX0 hown hK hP hD hS 0 rfl rfl 12 (by decide) (hw _ zw271) (fun _ h9 => h9) rfl (by decide +kernel) rfl rfl (Nat.le_of_ble_eq_true rfl) dX0_countBody_7 (fun H locs hP hD hS => ?_)
  have hP : va_P D vwCl (wE aE bE rE pE c1 c2 c3 (upd (upd v 11 (-1)) 12 0) b rw pw) H := hP
  have hD : va_D _ (wE aE bE rE pE c1 c2 c3 (upd (upd v 11 (-1)) 12 0) b rw pw) := hD
  refine lv_aload_n hx hb dX0_countBody_10 rfl (lv_at hl 0 rfl) ?_
  refine lv_aload_n hx hb dX0_countBody_11 rfl (lv_at hl 0 rfl) ?_
  refine va_get (D := D) (ci := 0) (v := .int ((upd (upd v 11 (-1)) 12 0) 10)) (C := RX0) (T := TX0) (N := 16) hx hb hw zinX0 hown hK hP 0 rfl rfl 10 (by decide) (hw _ zw255) (fun _ h9 => h9) rfl dX0_countBody_12 ?_
  refine va_put (D := D) (ci := 0) (v := .int ((upd (upd v 11 (-1)) 12 0) 10)) (ty := .int) (C := RX0) (T := TX0) (N := 16) hx hb hw zinX0 tyX0 tyX0_ok nmX0 hown hK hP hD hS 0 rfl rfl 13 (by decide) (hw _ zw273) (fun _ h9 => h9) rfl (by decide +kernel) rfl rfl (Nat.le_of_ble_eq_true rfl) dX0_countBody_15 (fun H locs hP hD hS => ?_)
  have hP : va_P D vwCl (wE aE bE rE pE c1 c2 c3 (upd (upd (upd v 11 (-1)) 12 0) 13 ((upd (upd v 11 (-1)) 12 0) 10)) b rw pw) H := hP
  have hD : va_D _ (wE aE bE rE pE c1 c2 c3 (upd (upd (upd v 11 (-1)) 12 0) 13 ((upd (upd v 11 (-1)) 12 0) 10)) b rw pw) := hD
  refine lv_aload_n hx hb dX0_countBody_18 rfl (lv_at hl 0 rfl) ?_
  refine lv_iconst (v := 0) hx hb dX0_countBody_19 (by decide) ?_
  refine va_put (D := D) (ci := 0) (v := .int 0) (ty := .int) (C := RX0) (T := TX0) (N := 16) hx hb hw zinX0 tyX0 tyX0_ok nmX0 hown hK hP hD hS 0 rfl rfl 14 (by decide) (hw _ zw279) (fun _ h9 => h9) rfl (by decide +kernel) rfl rfl (Nat.le_of_ble_eq_true rfl) dX0_countBody_20 (fun H locs hP hD hS => ?_)
  have hP : va_P D vwCl (wE aE bE rE pE c1 c2 c3 (upd (upd (upd (upd v 11 (-1)) 12 0) 13 ((upd (upd v 11 (-1)) 12 0) 10)) 14 0) b rw pw) H := hP
  have hD : va_D _ (wE aE bE rE pE c1 c2 c3 (upd (upd (upd (upd v 11 (-1)) 12 0) 13 ((upd (upd v 11 (-1)) 12 0) 10)) 14 0) b rw pw) := hD
  refine lv_aload_n hx hb dX0_countBody_23 rfl (lv_at hl 0 rfl) ?_
  refine lv_aload_n hx hb dX0_countBody_24 rfl (lv_at hl 0 rfl) ?_
  refine va_get (D := D) (ci := 0) (v := .int ((upd (upd (upd (upd v 11 (-1)) 12 0) 13 ((upd (upd v 11 (-1)) 12 0) 10)) 14 0) 10)) (C := RX0) (T := TX0) (N := 16) hx hb hw zinX0 hown hK hP 0 rfl rfl 10 (by decide) (hw _ zw255) (fun _ h9 => h9) rfl dX0_countBody_25 ?_
  refine va_put (D := D) (ci := 0) (v := .int ((upd (upd (upd (upd v 11 (-1)) 12 0) 13 ((upd (upd v 11 (-1)) 12 0) 10)) 14 0) 10)) (ty := .int) (C := RX0) (T := TX0) (N := 16) hx hb hw zinX0 tyX0 tyX0_ok nmX0 hown hK hP hD hS 0 rfl rfl 15 (by decide) (hw _ zw278) (fun _ h9 => h9) rfl (by decide +kernel) rfl rfl (Nat.le_of_ble_eq_true rfl) dX0_countBody_28 (fun H locs hP hD hS => ?_)
  have hP : va_P D vwCl (wE aE bE rE pE c1 c2 c3 (upd (upd (upd (upd (upd v 11 (-1)) 12 0) 13 ((upd (upd v 11 (-1)) 12 0) 10)) 14 0) 15 ((upd (upd (upd (upd v 11 (-1)) 12 0) 13 ((upd (upd v 11 (-1)) 12 0) 10)) 14 0) 10)) b rw pw) H := hP
  have hD : va_D _ (wE aE bE rE pE c1 c2 c3 (upd (upd (upd (upd (upd v 11 (-1)) 12 0) 13 ((upd (upd v 11 (-1)) 12 0) 10)) 14 0) 15 ((upd (upd (upd (upd v 11 (-1)) 12 0) 13 ((upd (upd v 11 (-1)) 12 0) 10)) 14 0) 10)) b rw pw) := hD
  exact b_E_countBody_31 G0 hK hX _ hm _ _ _ hP hD hS hl

theorem dX0_signsAgree_0 : decode cX0_signsAgree 0 = .ok (.aload_n 0, 1) := by decide +kernel
theorem dX0_signsAgree_1 : decode cX0_signsAgree 1 = .ok (.getfield 54, 3) := by decide +kernel
theorem dX0_signsAgree_4 : decode cX0_signsAgree 4 = .ok (.invokestatic 57, 3) := by decide +kernel
theorem dX0_signsAgree_7 : decode cX0_signsAgree 7 = .ok (.ifCond .eq 25, 3) := by decide +kernel
theorem dX0_signsAgree_10 : decode cX0_signsAgree 10 = .ok (.aload_n 0, 1) := by decide +kernel
theorem dX0_signsAgree_11 : decode cX0_signsAgree 11 = .ok (.getfield 48, 3) := by decide +kernel
theorem dX0_signsAgree_14 : decode cX0_signsAgree 14 = .ok (.iconst (-1), 1) := by decide +kernel
theorem dX0_signsAgree_15 : decode cX0_signsAgree 15 = .ok (.if_icmp .ne 15, 3) := by decide +kernel
theorem dX0_signsAgree_18 : decode cX0_signsAgree 18 = .ok (.aload_n 0, 1) := by decide +kernel
theorem dX0_signsAgree_19 : decode cX0_signsAgree 19 = .ok (.getfield 51, 3) := by decide +kernel
theorem dX0_signsAgree_22 : decode cX0_signsAgree 22 = .ok (.iconst (-1), 1) := by decide +kernel
theorem dX0_signsAgree_23 : decode cX0_signsAgree 23 = .ok (.if_icmp .ne 7, 3) := by decide +kernel
theorem dX0_signsAgree_26 : decode cX0_signsAgree 26 = .ok (.iconst 1, 1) := by decide +kernel
theorem dX0_signsAgree_27 : decode cX0_signsAgree 27 = .ok (.goto 4, 3) := by decide +kernel
theorem dX0_signsAgree_30 : decode cX0_signsAgree 30 = .ok (.iconst 0, 1) := by decide +kernel
theorem dX0_signsAgree_31 : decode cX0_signsAgree 31 = .ok (.ireturn, 1) := by decide +kernel
theorem dX0_signsAgree_32 : decode cX0_signsAgree 32 = .ok (.aload_n 0, 1) := by decide +kernel
theorem dX0_signsAgree_33 : decode cX0_signsAgree 33 = .ok (.getfield 48, 3) := by decide +kernel
theorem dX0_signsAgree_36 : decode cX0_signsAgree 36 = .ok (.iconst (-1), 1) := by decide +kernel
theorem dX0_signsAgree_37 : decode cX0_signsAgree 37 = .ok (.if_icmp .eq 11, 3) := by decide +kernel
theorem dX0_signsAgree_40 : decode cX0_signsAgree 40 = .ok (.aload_n 0, 1) := by decide +kernel
theorem dX0_signsAgree_41 : decode cX0_signsAgree 41 = .ok (.getfield 51, 3) := by decide +kernel
theorem dX0_signsAgree_44 : decode cX0_signsAgree 44 = .ok (.iconst (-1), 1) := by decide +kernel
theorem dX0_signsAgree_45 : decode cX0_signsAgree 45 = .ok (.if_icmp .ne 7, 3) := by decide +kernel
theorem dX0_signsAgree_48 : decode cX0_signsAgree 48 = .ok (.iconst 1, 1) := by decide +kernel
theorem dX0_signsAgree_49 : decode cX0_signsAgree 49 = .ok (.goto 4, 3) := by decide +kernel
theorem dX0_signsAgree_52 : decode cX0_signsAgree 52 = .ok (.iconst 0, 1) := by decide +kernel
theorem dX0_signsAgree_53 : decode cX0_signsAgree 53 = .ok (.ireturn, 1) := by decide +kernel
def m_E_signsAgree_48 (v : Nat → Int32) (b : Nat → Int32) (rw : Nat → Int32) (pw : Nat → Int32)   : Option ((Int32)) := (zbo 1 (some 1))
def m_E_signsAgree  (v : Nat → Int32) (b : Nat → Int32) (rw : Nat → Int32) (pw : Nat → Int32)  : Option ((Int32)) := (m_E_isSign (v 11)).bind (fun q1 => (if q1 = 0 then (if (v 7) = (-1) then m_E_signsAgree_48 v b rw pw  else (if (v 8) = (-1) then m_E_signsAgree_48 v b rw pw  else (zbo 0 (some 0)))) else (if (v 7) = (-1) then (if (v 8) = (-1) then (zbo 1 (some 1)) else (zbo 0 (some 0))) else (zbo 0 (some 0)))))
section
variable {p : Program} {l : Launch} {e : Env} {s : State} {m : MethodId} {args : Array Value} {below : List Frame} {meth : Method} {c : Code} {D : va_G} {w0 : va_W} {aE bE rE pE : Nat} {c1 c2 c3 : ClassId} {v : Nat → Int32} {b : Nat → Int32} {rw : Nat → Int32} {pw : Nat → Int32}
set_option maxRecDepth 100000 in
set_option maxHeartbeats 4000000 in
theorem b_E_signsAgree_48 (G : zG p s m args meth c cX0_signsAgree RX0 1 (some .boolean)) (hK : va_K D vwCl (wE_t c1 c2 c3) s) (hX : zC (va_A w0 s.heap.size) s) {res : (Int32)} : m_E_signsAgree_48 v b rw pw  = some res → zB p l e (zR 1 20) s m args below meth c D vwCl (va_A w0 s.heap.size) (MQ below (zQi D vwCl w0 (wE aE bE rE pE c1 c2 c3 v b rw pw) s.heap.size res) args s 0 0 (va_A w0 s.heap.size)) 1 (wE aE bE rE pE c1 c2 c3 v b rw pw) [] 48 [] := by
  intro  hm H locs ls hP hD hS hl
  unfold m_E_signsAgree_48 at hm
  have G0 := G
  obtain ⟨hx, hb, hr, hml, hown, hw, hlk⟩ := G
  have hA : ∀ q, s.heap.size ≤ q → va_A w0 s.heap.size q := fun q h => Or.inr h
  refine lv_iconst (v := 1) hx hb dX0_signsAgree_48 (by decide) ?_
  refine lv_goto (tgt := 53) hx hb dX0_signsAgree_49 rfl ?_
  obtain ⟨hz4, -, hm⟩ := zbo_s hm
  cases hm
  exact zretz hx hb hr hlk hz4 hP hD hS dX0_signsAgree_53
end
set_option maxRecDepth 100000 in
set_option maxHeartbeats 4000000 in
theorem k_E_signsAgree (l : Launch) (D : va_G) (aE bE rE pE : Nat) (c1 c2 c3 : ClassId) (sz : Nat)  (v : Nat → Int32) (b : Nat → Int32) (rw : Nat → Int32) (pw : Nat → Int32) (res : (Int32)) (hm : m_E_signsAgree  v b rw pw  = some res) : Met l yX0_signsAgree (Cond.code yX0_signsAgree cX0_signsAgree 1 (some .boolean) :: zBIG) (zR 1 20) (va_Pc [.ref aE] (zP zC D vwCl (wE_t c1 c2 c3) (wE aE bE rE pE c1 c2 c3 v b rw pw) sz)) (zQi D vwCl (wE aE bE rE pE c1 c2 c3 v b rw pw) (wE aE bE rE pE c1 c2 c3 v b rw pw) sz res) 0 0 (va_A (wE aE bE rE pE c1 c2 c3 v b rw pw) sz) := by
  refine zEnter RX0 [.ref aE] (by decide) rfl (Nat.le_of_ble_eq_true rfl) (fun p e s m below meth c ls G hK hX hP hD hsz hl => ?_)
  subst hsz
  unfold m_E_signsAgree at hm
  have hl : lv_has ls 1 [(0, .ref aE)] := hl
  have hS : va_S (va_A (wE aE bE rE pE c1 c2 c3 v b rw pw) s.heap.size) s.heap s.heap [] := va_S.rf
  have hA : ∀ q, s.heap.size ≤ q → va_A (wE aE bE rE pE c1 c2 c3 v b rw pw) s.heap.size q := fun q h => Or.inr h
  have G0 := G
  obtain ⟨hx, hb, hr, hml, hown, hw, hlk⟩ := G
  refine lv_aload_n hx hb dX0_signsAgree_0 rfl (lv_at hl 0 rfl) ?_
  refine va_get (D := D) (ci := 0) (v := .int (v 11)) (C := RX0) (T := TX0) (N := 16) hx hb hw zinX0 hown hK hP 0 rfl rfl 11 (by decide) (hw _ zw272) (fun _ h9 => h9) rfl dX0_signsAgree_1 ?_
  obtain ⟨q1, hq1, hm⟩ := zbind hm
  refine zb0i (va_runS (As := [.int (v 11)]) (rest := []) ⟨hx, hb, hml, hown, hw⟩ (k_E_isSign l D  _ (v 11)  q1 hq1) ⟨zcB 1 hw (zgood zw263) rfl rfl rfl zw259 zw265 hdX0_isSign ⟨Nat.le_of_ble_eq_true rfl, Nat.le_of_ble_eq_true rfl⟩, hw _ zw264⟩ (zpre zN_ok trivial hS (zfree0 hS hA) zP0 (hK.sub (tys' := []) [] rfl) zD0) rfl rfl hl.1 rfl (lv_room (Nat.le_of_ble_eq_true rfl)) dX0_signsAgree_4 ⟨Nat.zero_le _, Nat.zero_le _⟩) hP hD hS (zfree0 hS hA) (fun H locs hP hD hS => ?_)
  refine lv_if_eq (tgt := 32) hx hb dX0_signsAgree_7 rfl (fun cd2 => ?_) (fun cd2 => ?_)
  · replace hm := zt cd2 hm
    refine lv_aload_n hx hb dX0_signsAgree_32 rfl (lv_at hl 0 rfl) ?_
    refine va_get (D := D) (ci := 0) (v := .int (v 7)) (C := RX0) (T := TX0) (N := 16) hx hb hw zinX0 hown hK hP 0 rfl rfl 7 (by decide) (hw _ zw266) (fun _ h9 => h9) rfl dX0_signsAgree_33 ?_
    refine lv_iconst (v := (-1)) hx hb dX0_signsAgree_36 (by decide) ?_
    refine lv_icmp_eq (tgt := 48) hx hb dX0_signsAgree_37 rfl (fun cd3 => ?_) (fun cd3 => ?_)
    · replace hm := zt cd3 hm
      exact b_E_signsAgree_48 G0 hK hX  hm _ _ _ hP hD hS (lv_sub hl [] rfl)
    · replace hm := zf cd3 hm
      refine lv_aload_n hx hb dX0_signsAgree_40 rfl (lv_at hl 0 rfl) ?_
      refine va_get (D := D) (ci := 0) (v := .int (v 8)) (C := RX0) (T := TX0) (N := 16) hx hb hw zinX0 hown hK hP 0 rfl rfl 8 (by decide) (hw _ zw257) (fun _ h9 => h9) rfl dX0_signsAgree_41 ?_
      refine lv_iconst (v := (-1)) hx hb dX0_signsAgree_44 (by decide) ?_
      refine lv_icmp_ne (tgt := 52) hx hb dX0_signsAgree_45 rfl (fun cd5 => ?_) (fun cd5 => ?_)
      · replace hm := zf cd5 hm
        refine lv_iconst (v := 0) hx hb dX0_signsAgree_52 (by decide) ?_
        obtain ⟨hz6, -, hm⟩ := zbo_s hm
        cases hm
        exact zretz hx hb hr hlk hz6 hP hD hS dX0_signsAgree_53
      · replace hm := zt cd5 hm
        exact b_E_signsAgree_48 G0 hK hX  hm _ _ _ hP hD hS (lv_sub hl [] rfl)
  · replace hm := zf cd2 hm
    refine lv_aload_n hx hb dX0_signsAgree_10 rfl (lv_at hl 0 rfl) ?_
    refine va_get (D := D) (ci := 0) (v := .int (v 7)) (C := RX0) (T := TX0) (N := 16) hx hb hw zinX0 hown hK hP 0 rfl rfl 7 (by decide) (hw _ zw266) (fun _ h9 => h9) rfl dX0_signsAgree_11 ?_
    refine lv_iconst (v := (-1)) hx hb dX0_signsAgree_14 (by decide) ?_
    refine lv_icmp_ne (tgt := 30) hx hb dX0_signsAgree_15 rfl (fun cd7 => ?_) (fun cd7 => ?_)
    · replace hm := zf cd7 hm
      refine lv_iconst (v := 0) hx hb dX0_signsAgree_30 (by decide) ?_
      obtain ⟨hz8, -, hm⟩ := zbo_s hm
      cases hm
      exact zretz hx hb hr hlk hz8 hP hD hS dX0_signsAgree_31
    · replace hm := zt cd7 hm
      refine lv_aload_n hx hb dX0_signsAgree_18 rfl (lv_at hl 0 rfl) ?_
      refine va_get (D := D) (ci := 0) (v := .int (v 8)) (C := RX0) (T := TX0) (N := 16) hx hb hw zinX0 hown hK hP 0 rfl rfl 8 (by decide) (hw _ zw257) (fun _ h9 => h9) rfl dX0_signsAgree_19 ?_
      refine lv_iconst (v := (-1)) hx hb dX0_signsAgree_22 (by decide) ?_
      refine lv_icmp_ne (tgt := 30) hx hb dX0_signsAgree_23 rfl (fun cd9 => ?_) (fun cd9 => ?_)
      · replace hm := zf cd9 hm
        refine lv_iconst (v := 0) hx hb dX0_signsAgree_30 (by decide) ?_
        obtain ⟨hz10, -, hm⟩ := zbo_s hm
        cases hm
        exact zretz hx hb hr hlk hz10 hP hD hS dX0_signsAgree_31
      · replace hm := zt cd9 hm
        refine lv_iconst (v := 1) hx hb dX0_signsAgree_26 (by decide) ?_
        refine lv_goto (tgt := 31) hx hb dX0_signsAgree_27 rfl ?_
        obtain ⟨hz11, -, hm⟩ := zbo_s hm
        cases hm
        exact zretz hx hb hr hlk hz11 hP hD hS dX0_signsAgree_31

theorem dX0_isFloating_0 : decode cX0_isFloating 0 = .ok (.aload_n 0, 1) := by decide +kernel
theorem dX0_isFloating_1 : decode cX0_isFloating 1 = .ok (.getfield 54, 3) := by decide +kernel
theorem dX0_isFloating_4 : decode cX0_isFloating 4 = .ok (.invokestatic 57, 3) := by decide +kernel
theorem dX0_isFloating_7 : decode cX0_isFloating 7 = .ok (.ifCond .ne 12, 3) := by decide +kernel
theorem dX0_isFloating_10 : decode cX0_isFloating 10 = .ok (.aload_n 0, 1) := by decide +kernel
theorem dX0_isFloating_11 : decode cX0_isFloating 11 = .ok (.getfield 54, 3) := by decide +kernel
theorem dX0_isFloating_14 : decode cX0_isFloating 14 = .ok (.bipush 36, 2) := by decide +kernel
theorem dX0_isFloating_16 : decode cX0_isFloating 16 = .ok (.if_icmp .ne 7, 3) := by decide +kernel
theorem dX0_isFloating_19 : decode cX0_isFloating 19 = .ok (.iconst 1, 1) := by decide +kernel
theorem dX0_isFloating_20 : decode cX0_isFloating 20 = .ok (.goto 4, 3) := by decide +kernel
theorem dX0_isFloating_23 : decode cX0_isFloating 23 = .ok (.iconst 0, 1) := by decide +kernel
theorem dX0_isFloating_24 : decode cX0_isFloating 24 = .ok (.ireturn, 1) := by decide +kernel
def m_E_isFloating_19 (v : Nat → Int32) (b : Nat → Int32) (rw : Nat → Int32) (pw : Nat → Int32)   : Option ((Int32)) := (zbo 1 (some 1))
def m_E_isFloating  (v : Nat → Int32) (b : Nat → Int32) (rw : Nat → Int32) (pw : Nat → Int32)  : Option ((Int32)) := (m_E_isSign (v 11)).bind (fun q1 => (if q1 = 0 then (if (v 11) = 36 then m_E_isFloating_19 v b rw pw  else (zbo 0 (some 0))) else m_E_isFloating_19 v b rw pw ))
section
variable {p : Program} {l : Launch} {e : Env} {s : State} {m : MethodId} {args : Array Value} {below : List Frame} {meth : Method} {c : Code} {D : va_G} {w0 : va_W} {aE bE rE pE : Nat} {c1 c2 c3 : ClassId} {v : Nat → Int32} {b : Nat → Int32} {rw : Nat → Int32} {pw : Nat → Int32}
set_option maxRecDepth 100000 in
set_option maxHeartbeats 4000000 in
theorem b_E_isFloating_19 (G : zG p s m args meth c cX0_isFloating RX0 1 (some .boolean)) (hK : va_K D vwCl (wE_t c1 c2 c3) s) (hX : zC (va_A w0 s.heap.size) s) {res : (Int32)} : m_E_isFloating_19 v b rw pw  = some res → zB p l e (zR 1 20) s m args below meth c D vwCl (va_A w0 s.heap.size) (MQ below (zQi D vwCl w0 (wE aE bE rE pE c1 c2 c3 v b rw pw) s.heap.size res) args s 0 0 (va_A w0 s.heap.size)) 1 (wE aE bE rE pE c1 c2 c3 v b rw pw) [] 19 [] := by
  intro  hm H locs ls hP hD hS hl
  unfold m_E_isFloating_19 at hm
  have G0 := G
  obtain ⟨hx, hb, hr, hml, hown, hw, hlk⟩ := G
  have hA : ∀ q, s.heap.size ≤ q → va_A w0 s.heap.size q := fun q h => Or.inr h
  refine lv_iconst (v := 1) hx hb dX0_isFloating_19 (by decide) ?_
  refine lv_goto (tgt := 24) hx hb dX0_isFloating_20 rfl ?_
  obtain ⟨hz3, -, hm⟩ := zbo_s hm
  cases hm
  exact zretz hx hb hr hlk hz3 hP hD hS dX0_isFloating_24
end
set_option maxRecDepth 100000 in
set_option maxHeartbeats 4000000 in
theorem k_E_isFloating (l : Launch) (D : va_G) (aE bE rE pE : Nat) (c1 c2 c3 : ClassId) (sz : Nat)  (v : Nat → Int32) (b : Nat → Int32) (rw : Nat → Int32) (pw : Nat → Int32) (res : (Int32)) (hm : m_E_isFloating  v b rw pw  = some res) : Met l yX0_isFloating (Cond.code yX0_isFloating cX0_isFloating 1 (some .boolean) :: zBIG) (zR 1 20) (va_Pc [.ref aE] (zP zC D vwCl (wE_t c1 c2 c3) (wE aE bE rE pE c1 c2 c3 v b rw pw) sz)) (zQi D vwCl (wE aE bE rE pE c1 c2 c3 v b rw pw) (wE aE bE rE pE c1 c2 c3 v b rw pw) sz res) 0 0 (va_A (wE aE bE rE pE c1 c2 c3 v b rw pw) sz) := by
  refine zEnter RX0 [.ref aE] (by decide) rfl (Nat.le_of_ble_eq_true rfl) (fun p e s m below meth c ls G hK hX hP hD hsz hl => ?_)
  subst hsz
  unfold m_E_isFloating at hm
  have hl : lv_has ls 1 [(0, .ref aE)] := hl
  have hS : va_S (va_A (wE aE bE rE pE c1 c2 c3 v b rw pw) s.heap.size) s.heap s.heap [] := va_S.rf
  have hA : ∀ q, s.heap.size ≤ q → va_A (wE aE bE rE pE c1 c2 c3 v b rw pw) s.heap.size q := fun q h => Or.inr h
  have G0 := G
  obtain ⟨hx, hb, hr, hml, hown, hw, hlk⟩ := G
  refine lv_aload_n hx hb dX0_isFloating_0 rfl (lv_at hl 0 rfl) ?_
  refine va_get (D := D) (ci := 0) (v := .int (v 11)) (C := RX0) (T := TX0) (N := 16) hx hb hw zinX0 hown hK hP 0 rfl rfl 11 (by decide) (hw _ zw272) (fun _ h9 => h9) rfl dX0_isFloating_1 ?_
  obtain ⟨q1, hq1, hm⟩ := zbind hm
  refine zb0i (va_runS (As := [.int (v 11)]) (rest := []) ⟨hx, hb, hml, hown, hw⟩ (k_E_isSign l D  _ (v 11)  q1 hq1) ⟨zcB 1 hw (zgood zw263) rfl rfl rfl zw259 zw265 hdX0_isSign ⟨Nat.le_of_ble_eq_true rfl, Nat.le_of_ble_eq_true rfl⟩, hw _ zw264⟩ (zpre zN_ok trivial hS (zfree0 hS hA) zP0 (hK.sub (tys' := []) [] rfl) zD0) rfl rfl hl.1 rfl (lv_room (Nat.le_of_ble_eq_true rfl)) dX0_isFloating_4 ⟨Nat.zero_le _, Nat.zero_le _⟩) hP hD hS (zfree0 hS hA) (fun H locs hP hD hS => ?_)
  refine lv_if_ne (tgt := 19) hx hb dX0_isFloating_7 rfl (fun cd2 => ?_) (fun cd2 => ?_)
  · replace hm := zf cd2 hm
    exact b_E_isFloating_19 G0 hK hX  hm _ _ _ hP hD hS (lv_sub hl [] rfl)
  · replace hm := zt cd2 hm
    refine lv_aload_n hx hb dX0_isFloating_10 rfl (lv_at hl 0 rfl) ?_
    refine va_get (D := D) (ci := 0) (v := .int (v 11)) (C := RX0) (T := TX0) (N := 16) hx hb hw zinX0 hown hK hP 0 rfl rfl 11 (by decide) (hw _ zw272) (fun _ h9 => h9) rfl dX0_isFloating_11 ?_
    refine lv_bipush (v := 36) hx hb dX0_isFloating_14 (by decide) ?_
    refine lv_icmp_ne (tgt := 23) hx hb dX0_isFloating_16 rfl (fun cd4 => ?_) (fun cd4 => ?_)
    · replace hm := zf cd4 hm
      refine lv_iconst (v := 0) hx hb dX0_isFloating_23 (by decide) ?_
      obtain ⟨hz5, -, hm⟩ := zbo_s hm
      cases hm
      exact zretz hx hb hr hlk hz5 hP hD hS dX0_isFloating_24
    · replace hm := zt cd4 hm
      exact b_E_isFloating_19 G0 hK hX  hm _ _ _ hP hD hS (lv_sub hl [] rfl)

theorem dX0_fillsStandRight_0 : decode cX0_fillsStandRight 0 = .ok (.aload_n 0, 1) := by decide +kernel
theorem dX0_fillsStandRight_1 : decode cX0_fillsStandRight 1 = .ok (.getfield 93, 3) := by decide +kernel
theorem dX0_fillsStandRight_4 : decode cX0_fillsStandRight 4 = .ok (.ifCond .ne 5, 3) := by decide +kernel
theorem dX0_fillsStandRight_7 : decode cX0_fillsStandRight 7 = .ok (.iconst 1, 1) := by decide +kernel
theorem dX0_fillsStandRight_8 : decode cX0_fillsStandRight 8 = .ok (.ireturn, 1) := by decide +kernel
theorem dX0_fillsStandRight_9 : decode cX0_fillsStandRight 9 = .ok (.aload_n 0, 1) := by decide +kernel
theorem dX0_fillsStandRight_10 : decode cX0_fillsStandRight 10 = .ok (.getfield 96, 3) := by decide +kernel
theorem dX0_fillsStandRight_13 : decode cX0_fillsStandRight 13 = .ok (.aload_n 0, 1) := by decide +kernel
theorem dX0_fillsStandRight_14 : decode cX0_fillsStandRight 14 = .ok (.getfield 102, 3) := by decide +kernel
theorem dX0_fillsStandRight_17 : decode cX0_fillsStandRight 17 = .ok (.if_icmp .gt 18, 3) := by decide +kernel
theorem dX0_fillsStandRight_20 : decode cX0_fillsStandRight 20 = .ok (.aload_n 0, 1) := by decide +kernel
theorem dX0_fillsStandRight_21 : decode cX0_fillsStandRight 21 = .ok (.invokevirtual 111, 3) := by decide +kernel
theorem dX0_fillsStandRight_24 : decode cX0_fillsStandRight 24 = .ok (.ifCond .eq 13, 3) := by decide +kernel
theorem dX0_fillsStandRight_27 : decode cX0_fillsStandRight 27 = .ok (.aload_n 0, 1) := by decide +kernel
theorem dX0_fillsStandRight_28 : decode cX0_fillsStandRight 28 = .ok (.getfield 93, 3) := by decide +kernel
theorem dX0_fillsStandRight_31 : decode cX0_fillsStandRight 31 = .ok (.iconst 2, 1) := by decide +kernel
theorem dX0_fillsStandRight_32 : decode cX0_fillsStandRight 32 = .ok (.if_icmp .ge 5, 3) := by decide +kernel
theorem dX0_fillsStandRight_35 : decode cX0_fillsStandRight 35 = .ok (.iconst 0, 1) := by decide +kernel
theorem dX0_fillsStandRight_36 : decode cX0_fillsStandRight 36 = .ok (.ireturn, 1) := by decide +kernel
theorem dX0_fillsStandRight_37 : decode cX0_fillsStandRight 37 = .ok (.iconst 0, 1) := by decide +kernel
theorem dX0_fillsStandRight_38 : decode cX0_fillsStandRight 38 = .ok (.istore_n 1, 1) := by decide +kernel
theorem dX0_fillsStandRight_39 : decode cX0_fillsStandRight 39 = .ok (.aload_n 0, 1) := by decide +kernel
theorem dX0_fillsStandRight_40 : decode cX0_fillsStandRight 40 = .ok (.getfield 80, 3) := by decide +kernel
theorem dX0_fillsStandRight_43 : decode cX0_fillsStandRight 43 = .ok (.istore_n 2, 1) := by decide +kernel
theorem dX0_fillsStandRight_44 : decode cX0_fillsStandRight 44 = .ok (.iload_n 2, 1) := by decide +kernel
theorem dX0_fillsStandRight_45 : decode cX0_fillsStandRight 45 = .ok (.aload_n 0, 1) := by decide +kernel
theorem dX0_fillsStandRight_46 : decode cX0_fillsStandRight 46 = .ok (.getfield 83, 3) := by decide +kernel
theorem dX0_fillsStandRight_49 : decode cX0_fillsStandRight 49 = .ok (.if_icmp .ge 74, 3) := by decide +kernel
theorem dX0_fillsStandRight_52 : decode cX0_fillsStandRight 52 = .ok (.iload_n 1, 1) := by decide +kernel
theorem dX0_fillsStandRight_53 : decode cX0_fillsStandRight 53 = .ok (.ifCond .ne 18, 3) := by decide +kernel
theorem dX0_fillsStandRight_56 : decode cX0_fillsStandRight 56 = .ok (.iload_n 2, 1) := by decide +kernel
theorem dX0_fillsStandRight_57 : decode cX0_fillsStandRight 57 = .ok (.aload_n 0, 1) := by decide +kernel
theorem dX0_fillsStandRight_58 : decode cX0_fillsStandRight 58 = .ok (.getfield 102, 3) := by decide +kernel
theorem dX0_fillsStandRight_61 : decode cX0_fillsStandRight 61 = .ok (.if_icmp .le 14, 3) := by decide +kernel
theorem dX0_fillsStandRight_64 : decode cX0_fillsStandRight 64 = .ok (.aload_n 0, 1) := by decide +kernel
theorem dX0_fillsStandRight_65 : decode cX0_fillsStandRight 65 = .ok (.getfield 99, 3) := by decide +kernel
theorem dX0_fillsStandRight_68 : decode cX0_fillsStandRight 68 = .ok (.ifCond .le 7, 3) := by decide +kernel
theorem dX0_fillsStandRight_71 : decode cX0_fillsStandRight 71 = .ok (.iconst 1, 1) := by decide +kernel
theorem dX0_fillsStandRight_72 : decode cX0_fillsStandRight 72 = .ok (.goto 4, 3) := by decide +kernel
theorem dX0_fillsStandRight_75 : decode cX0_fillsStandRight 75 = .ok (.iconst 0, 1) := by decide +kernel
theorem dX0_fillsStandRight_76 : decode cX0_fillsStandRight 76 = .ok (.istore_n 3, 1) := by decide +kernel
theorem dX0_fillsStandRight_77 : decode cX0_fillsStandRight 77 = .ok (.aload_n 0, 1) := by decide +kernel
theorem dX0_fillsStandRight_78 : decode cX0_fillsStandRight 78 = .ok (.getfield 9, 3) := by decide +kernel
theorem dX0_fillsStandRight_81 : decode cX0_fillsStandRight 81 = .ok (.iload_n 2, 1) := by decide +kernel
theorem dX0_fillsStandRight_82 : decode cX0_fillsStandRight 82 = .ok (.iaload, 1) := by decide +kernel
theorem dX0_fillsStandRight_83 : decode cX0_fillsStandRight 83 = .ok (.aload_n 0, 1) := by decide +kernel
theorem dX0_fillsStandRight_84 : decode cX0_fillsStandRight 84 = .ok (.getfield 54, 3) := by decide +kernel
theorem dX0_fillsStandRight_87 : decode cX0_fillsStandRight 87 = .ok (.if_icmp .ne 9, 3) := by decide +kernel
theorem dX0_fillsStandRight_90 : decode cX0_fillsStandRight 90 = .ok (.iload_n 3, 1) := by decide +kernel
theorem dX0_fillsStandRight_91 : decode cX0_fillsStandRight 91 = .ok (.ifCond .eq 5, 3) := by decide +kernel
theorem dX0_fillsStandRight_94 : decode cX0_fillsStandRight 94 = .ok (.iconst 0, 1) := by decide +kernel
theorem dX0_fillsStandRight_95 : decode cX0_fillsStandRight 95 = .ok (.ireturn, 1) := by decide +kernel
theorem dX0_fillsStandRight_96 : decode cX0_fillsStandRight 96 = .ok (.iload_n 1, 1) := by decide +kernel
theorem dX0_fillsStandRight_97 : decode cX0_fillsStandRight 97 = .ok (.ifCond .ne 14, 3) := by decide +kernel
theorem dX0_fillsStandRight_100 : decode cX0_fillsStandRight 100 = .ok (.aload_n 0, 1) := by decide +kernel
theorem dX0_fillsStandRight_101 : decode cX0_fillsStandRight 101 = .ok (.getfield 9, 3) := by decide +kernel
theorem dX0_fillsStandRight_104 : decode cX0_fillsStandRight 104 = .ok (.iload_n 2, 1) := by decide +kernel
theorem dX0_fillsStandRight_105 : decode cX0_fillsStandRight 105 = .ok (.iaload, 1) := by decide +kernel
theorem dX0_fillsStandRight_106 : decode cX0_fillsStandRight 106 = .ok (.bipush 57, 2) := by decide +kernel
theorem dX0_fillsStandRight_108 : decode cX0_fillsStandRight 108 = .ok (.if_icmp .ne 7, 3) := by decide +kernel
theorem dX0_fillsStandRight_111 : decode cX0_fillsStandRight 111 = .ok (.iconst 1, 1) := by decide +kernel
theorem dX0_fillsStandRight_112 : decode cX0_fillsStandRight 112 = .ok (.goto 4, 3) := by decide +kernel
theorem dX0_fillsStandRight_115 : decode cX0_fillsStandRight 115 = .ok (.iconst 0, 1) := by decide +kernel
theorem dX0_fillsStandRight_116 : decode cX0_fillsStandRight 116 = .ok (.istore_n 1, 1) := by decide +kernel
theorem dX0_fillsStandRight_117 : decode cX0_fillsStandRight 117 = .ok (.iinc 2 1, 3) := by decide +kernel
theorem dX0_fillsStandRight_120 : decode cX0_fillsStandRight 120 = .ok (.goto (-76), 3) := by decide +kernel
theorem dX0_fillsStandRight_123 : decode cX0_fillsStandRight 123 = .ok (.iconst 1, 1) := by decide +kernel
theorem dX0_fillsStandRight_124 : decode cX0_fillsStandRight 124 = .ok (.ireturn, 1) := by decide +kernel
def m_E_fillsStandRight_116 (v : Nat → Int32) (b : Nat → Int32) (rw : Nat → Int32) (pw : Nat → Int32) (rec : Int32 → Int32 → Option ((Int32))) (x2 : Int32) (t0 : Int32)  : Option ((Int32)) := rec t0 (x2 + 1)
def m_E_fillsStandRight_111 (v : Nat → Int32) (b : Nat → Int32) (rw : Nat → Int32) (pw : Nat → Int32) (rec : Int32 → Int32 → Option ((Int32))) (x2 : Int32)  : Option ((Int32)) := m_E_fillsStandRight_116 v b rw pw rec x2 1
def m_E_fillsStandRight_96 (v : Nat → Int32) (b : Nat → Int32) (rw : Nat → Int32) (pw : Nat → Int32) (rec : Int32 → Int32 → Option ((Int32))) (x1 : Int32) (x2 : Int32)  : Option ((Int32)) := (if x1 = 0 then zix x2 24 ((if (rw x2.toNatClampNeg) = 57 then m_E_fillsStandRight_111 v b rw pw rec x2 else m_E_fillsStandRight_116 v b rw pw rec x2 0)) else m_E_fillsStandRight_111 v b rw pw rec x2)
def m_E_fillsStandRight_76 (v : Nat → Int32) (b : Nat → Int32) (rw : Nat → Int32) (pw : Nat → Int32) (rec : Int32 → Int32 → Option ((Int32))) (x1 : Int32) (x2 : Int32) (t0 : Int32)  : Option ((Int32)) := zix x2 24 ((if (rw x2.toNatClampNeg) = (v 11) then (if t0 = 0 then m_E_fillsStandRight_96 v b rw pw rec x1 x2 else (zbo 0 (some 0))) else m_E_fillsStandRight_96 v b rw pw rec x1 x2))
def m_E_fillsStandRight_71 (v : Nat → Int32) (b : Nat → Int32) (rw : Nat → Int32) (pw : Nat → Int32) (rec : Int32 → Int32 → Option ((Int32))) (x1 : Int32) (x2 : Int32)  : Option ((Int32)) := m_E_fillsStandRight_76 v b rw pw rec x1 x2 1
def m_E_fillsStandRight_75 (v : Nat → Int32) (b : Nat → Int32) (rw : Nat → Int32) (pw : Nat → Int32) (rec : Int32 → Int32 → Option ((Int32))) (x1 : Int32) (x2 : Int32)  : Option ((Int32)) := m_E_fillsStandRight_76 v b rw pw rec x1 x2 0
def m_E_fillsStandRight_44b (v : Nat → Int32) (b : Nat → Int32) (rw : Nat → Int32) (pw : Nat → Int32) (rec : Int32 → Int32 → Option ((Int32))) (x1 : Int32) (x2 : Int32)  : Option ((Int32)) := (if (v 10) ≤ x2 then (zbo 1 (some 1)) else (if x1 = 0 then (if x2 ≤ (v 15) then m_E_fillsStandRight_75 v b rw pw rec x1 x2 else (if (v 14) ≤ 0 then m_E_fillsStandRight_75 v b rw pw rec x1 x2 else m_E_fillsStandRight_71 v b rw pw rec x1 x2)) else m_E_fillsStandRight_71 v b rw pw rec x1 x2))
def m_E_fillsStandRight_44 (v : Nat → Int32) (b : Nat → Int32) (rw : Nat → Int32) (pw : Nat → Int32) : Nat → Int32 → Int32 → Option ((Int32))
  | 0 => fun _ _ => none
  | n + 1 => fun x1 x2 => m_E_fillsStandRight_44b v b rw pw (m_E_fillsStandRight_44 v b rw pw n) x1 x2
def m_E_fillsStandRight_37 (v : Nat → Int32) (b : Nat → Int32) (rw : Nat → Int32) (pw : Nat → Int32)   : Option ((Int32)) := m_E_fillsStandRight_44 v b rw pw 64 0 (v 9)
def m_E_fillsStandRight  (v : Nat → Int32) (b : Nat → Int32) (rw : Nat → Int32) (pw : Nat → Int32)  : Option ((Int32)) := (if (v 12) = 0 then (zbo 1 (some 1)) else (if (v 15) < (v 13) then (zbo 0 (some 0)) else (m_E_isFloating v b rw pw).bind (fun q4 => (if q4 = 0 then m_E_fillsStandRight_37 v b rw pw  else (if 2 ≤ (v 12) then m_E_fillsStandRight_37 v b rw pw  else (zbo 0 (some 0)))))))
section
variable {p : Program} {l : Launch} {e : Env} {s : State} {m : MethodId} {args : Array Value} {below : List Frame} {meth : Method} {c : Code} {D : va_G} {w0 : va_W} {aE bE rE pE : Nat} {c1 c2 c3 : ClassId} {v : Nat → Int32} {b : Nat → Int32} {rw : Nat → Int32} {pw : Nat → Int32}
set_option maxRecDepth 100000 in
set_option maxHeartbeats 4000000 in
theorem b_E_fillsStandRight_116 (G : zG p s m args meth c cX0_fillsStandRight RX0 4 (some .boolean)) (hK : va_K D vwCl (wE_t c1 c2 c3) s) (hX : zC (va_A w0 s.heap.size) s) {res : (Int32)} (rec : Int32 → Int32 → Option ((Int32))) (hrec : ∀ (x1 : Int32) (x2 : Int32), rec x1 x2 = some res → zB p l e (zR 2 40) s m args below meth c D vwCl (va_A w0 s.heap.size) (MQ below (zQi D vwCl w0 (wE aE bE rE pE c1 c2 c3 v b rw pw) s.heap.size res) args s 0 0 (va_A w0 s.heap.size)) 4 (wE aE bE rE pE c1 c2 c3 v b rw pw) [(0, .ref aE), (1, .int x1), (2, .int x2)] 44 []) : ∀ (x2 : Int32) (t0 : Int32), m_E_fillsStandRight_116 v b rw pw rec x2 t0 = some res → zB p l e (zR 2 40) s m args below meth c D vwCl (va_A w0 s.heap.size) (MQ below (zQi D vwCl w0 (wE aE bE rE pE c1 c2 c3 v b rw pw) s.heap.size res) args s 0 0 (va_A w0 s.heap.size)) 4 (wE aE bE rE pE c1 c2 c3 v b rw pw) [(0, .ref aE), (2, .int x2)] 116 [.int t0] := by
  intro x2 t0 hm H locs ls hP hD hS hl
  unfold m_E_fillsStandRight_116 at hm
  have G0 := G
  obtain ⟨hx, hb, hr, hml, hown, hw, hlk⟩ := G
  have hA : ∀ q, s.heap.size ≤ q → va_A w0 s.heap.size q := fun q h => Or.inr h
  refine lv_istore_n (lv' := [(1, .int t0), (0, .ref aE), (2, .int x2)]) hx hb dX0_fillsStandRight_116 rfl hl (by decide) rfl (fun ls hl => ?_)
  refine lv_iinc (k := 2) (v := (x2 + 1)) (lv' := [(2, .int (x2 + 1)), (1, .int t0), (0, .ref aE)]) hx hb dX0_fillsStandRight_117 hl rfl rfl (by decide) rfl (fun ls hl => ?_)
  refine lv_goto (tgt := 44) hx hb dX0_fillsStandRight_120 rfl ?_
  exact hrec _ _ hm H _ _ hP hD hS (lv_sub hl [2, 1, 0] rfl)
set_option maxRecDepth 100000 in
set_option maxHeartbeats 4000000 in
theorem b_E_fillsStandRight_111 (G : zG p s m args meth c cX0_fillsStandRight RX0 4 (some .boolean)) (hK : va_K D vwCl (wE_t c1 c2 c3) s) (hX : zC (va_A w0 s.heap.size) s) {res : (Int32)} (rec : Int32 → Int32 → Option ((Int32))) (hrec : ∀ (x1 : Int32) (x2 : Int32), rec x1 x2 = some res → zB p l e (zR 2 40) s m args below meth c D vwCl (va_A w0 s.heap.size) (MQ below (zQi D vwCl w0 (wE aE bE rE pE c1 c2 c3 v b rw pw) s.heap.size res) args s 0 0 (va_A w0 s.heap.size)) 4 (wE aE bE rE pE c1 c2 c3 v b rw pw) [(0, .ref aE), (1, .int x1), (2, .int x2)] 44 []) : ∀ (x2 : Int32), m_E_fillsStandRight_111 v b rw pw rec x2 = some res → zB p l e (zR 2 40) s m args below meth c D vwCl (va_A w0 s.heap.size) (MQ below (zQi D vwCl w0 (wE aE bE rE pE c1 c2 c3 v b rw pw) s.heap.size res) args s 0 0 (va_A w0 s.heap.size)) 4 (wE aE bE rE pE c1 c2 c3 v b rw pw) [(0, .ref aE), (2, .int x2)] 111 [] := by
  intro x2 hm H locs ls hP hD hS hl
  unfold m_E_fillsStandRight_111 at hm
  have G0 := G
  obtain ⟨hx, hb, hr, hml, hown, hw, hlk⟩ := G
  have hA : ∀ q, s.heap.size ≤ q → va_A w0 s.heap.size q := fun q h => Or.inr h
  refine lv_iconst (v := 1) hx hb dX0_fillsStandRight_111 (by decide) ?_
  refine lv_goto (tgt := 116) hx hb dX0_fillsStandRight_112 rfl ?_
  exact b_E_fillsStandRight_116 G0 hK hX rec hrec _ _ hm H _ _ hP hD hS hl
set_option maxRecDepth 100000 in
set_option maxHeartbeats 4000000 in
theorem b_E_fillsStandRight_96 (G : zG p s m args meth c cX0_fillsStandRight RX0 4 (some .boolean)) (hK : va_K D vwCl (wE_t c1 c2 c3) s) (hX : zC (va_A w0 s.heap.size) s) {res : (Int32)} (rec : Int32 → Int32 → Option ((Int32))) (hrec : ∀ (x1 : Int32) (x2 : Int32), rec x1 x2 = some res → zB p l e (zR 2 40) s m args below meth c D vwCl (va_A w0 s.heap.size) (MQ below (zQi D vwCl w0 (wE aE bE rE pE c1 c2 c3 v b rw pw) s.heap.size res) args s 0 0 (va_A w0 s.heap.size)) 4 (wE aE bE rE pE c1 c2 c3 v b rw pw) [(0, .ref aE), (1, .int x1), (2, .int x2)] 44 []) : ∀ (x1 : Int32) (x2 : Int32), m_E_fillsStandRight_96 v b rw pw rec x1 x2 = some res → zB p l e (zR 2 40) s m args below meth c D vwCl (va_A w0 s.heap.size) (MQ below (zQi D vwCl w0 (wE aE bE rE pE c1 c2 c3 v b rw pw) s.heap.size res) args s 0 0 (va_A w0 s.heap.size)) 4 (wE aE bE rE pE c1 c2 c3 v b rw pw) [(0, .ref aE), (1, .int x1), (2, .int x2)] 96 [] := by
  intro x1 x2 hm H locs ls hP hD hS hl
  unfold m_E_fillsStandRight_96 at hm
  have G0 := G
  obtain ⟨hx, hb, hr, hml, hown, hw, hlk⟩ := G
  have hA : ∀ q, s.heap.size ≤ q → va_A w0 s.heap.size q := fun q h => Or.inr h
  refine lv_iload_n hx hb dX0_fillsStandRight_96 rfl (lv_at hl 1 rfl) ?_
  refine lv_if_ne (tgt := 111) hx hb dX0_fillsStandRight_97 rfl (fun cd11 => ?_) (fun cd11 => ?_)
  · replace hm := zf cd11 hm
    exact b_E_fillsStandRight_111 G0 hK hX rec hrec _ hm H _ _ hP hD hS (lv_sub hl [0, 2] rfl)
  · replace hm := zt cd11 hm
    refine lv_aload_n hx hb dX0_fillsStandRight_100 rfl (lv_at hl 0 rfl) ?_
    refine va_get (D := D) (ci := 0) (v := .ref rE) (C := RX0) (T := TX0) (N := 16) hx hb hw zinX0 hown hK hP 0 rfl rfl 5 (by decide) (hw _ zw256) (fun _ h9 => h9) rfl dX0_fillsStandRight_101 ?_
    refine lv_iload_n hx hb dX0_fillsStandRight_104 rfl (lv_at hl 2 rfl) ?_
    obtain ⟨hi12, hm⟩ := zix_s hm
    refine va_iald (i := x2) (f := rw) (n := 24) hx hb hK hP 2 1 rfl rfl hi12 dX0_fillsStandRight_105 ?_
    refine lv_bipush (v := 57) hx hb dX0_fillsStandRight_106 (by decide) ?_
    refine lv_icmp_ne (tgt := 115) hx hb dX0_fillsStandRight_108 rfl (fun cd13 => ?_) (fun cd13 => ?_)
    · replace hm := zf cd13 hm
      refine lv_iconst (v := 0) hx hb dX0_fillsStandRight_115 (by decide) ?_
      exact b_E_fillsStandRight_116 G0 hK hX rec hrec _ _ hm H _ _ hP hD hS (lv_sub hl [0, 2] rfl)
    · replace hm := zt cd13 hm
      exact b_E_fillsStandRight_111 G0 hK hX rec hrec _ hm H _ _ hP hD hS (lv_sub hl [0, 2] rfl)
set_option maxRecDepth 100000 in
set_option maxHeartbeats 4000000 in
theorem b_E_fillsStandRight_76 (G : zG p s m args meth c cX0_fillsStandRight RX0 4 (some .boolean)) (hK : va_K D vwCl (wE_t c1 c2 c3) s) (hX : zC (va_A w0 s.heap.size) s) {res : (Int32)} (rec : Int32 → Int32 → Option ((Int32))) (hrec : ∀ (x1 : Int32) (x2 : Int32), rec x1 x2 = some res → zB p l e (zR 2 40) s m args below meth c D vwCl (va_A w0 s.heap.size) (MQ below (zQi D vwCl w0 (wE aE bE rE pE c1 c2 c3 v b rw pw) s.heap.size res) args s 0 0 (va_A w0 s.heap.size)) 4 (wE aE bE rE pE c1 c2 c3 v b rw pw) [(0, .ref aE), (1, .int x1), (2, .int x2)] 44 []) : ∀ (x1 : Int32) (x2 : Int32) (t0 : Int32), m_E_fillsStandRight_76 v b rw pw rec x1 x2 t0 = some res → zB p l e (zR 2 40) s m args below meth c D vwCl (va_A w0 s.heap.size) (MQ below (zQi D vwCl w0 (wE aE bE rE pE c1 c2 c3 v b rw pw) s.heap.size res) args s 0 0 (va_A w0 s.heap.size)) 4 (wE aE bE rE pE c1 c2 c3 v b rw pw) [(0, .ref aE), (1, .int x1), (2, .int x2)] 76 [.int t0] := by
  intro x1 x2 t0 hm H locs ls hP hD hS hl
  unfold m_E_fillsStandRight_76 at hm
  have G0 := G
  obtain ⟨hx, hb, hr, hml, hown, hw, hlk⟩ := G
  have hA : ∀ q, s.heap.size ≤ q → va_A w0 s.heap.size q := fun q h => Or.inr h
  refine lv_istore_n (lv' := [(3, .int t0), (0, .ref aE), (1, .int x1), (2, .int x2)]) hx hb dX0_fillsStandRight_76 rfl hl (by decide) rfl (fun ls hl => ?_)
  refine lv_aload_n hx hb dX0_fillsStandRight_77 rfl (lv_at hl 1 rfl) ?_
  refine va_get (D := D) (ci := 0) (v := .ref rE) (C := RX0) (T := TX0) (N := 16) hx hb hw zinX0 hown hK hP 0 rfl rfl 5 (by decide) (hw _ zw256) (fun _ h9 => h9) rfl dX0_fillsStandRight_78 ?_
  refine lv_iload_n hx hb dX0_fillsStandRight_81 rfl (lv_at hl 3 rfl) ?_
  obtain ⟨hi9, hm⟩ := zix_s hm
  refine va_iald (i := x2) (f := rw) (n := 24) hx hb hK hP 2 1 rfl rfl hi9 dX0_fillsStandRight_82 ?_
  refine lv_aload_n hx hb dX0_fillsStandRight_83 rfl (lv_at hl 1 rfl) ?_
  refine va_get (D := D) (ci := 0) (v := .int (v 11)) (C := RX0) (T := TX0) (N := 16) hx hb hw zinX0 hown hK hP 0 rfl rfl 11 (by decide) (hw _ zw272) (fun _ h9 => h9) rfl dX0_fillsStandRight_84 ?_
  refine lv_icmp_ne (tgt := 96) hx hb dX0_fillsStandRight_87 rfl (fun cd10 => ?_) (fun cd10 => ?_)
  · replace hm := zf cd10 hm
    exact b_E_fillsStandRight_96 G0 hK hX rec hrec _ _ hm H _ _ hP hD hS (lv_sub hl [1, 2, 3] rfl)
  · replace hm := zt cd10 hm
    refine lv_iload_n hx hb dX0_fillsStandRight_90 rfl (lv_at hl 0 rfl) ?_
    refine lv_if_eq (tgt := 96) hx hb dX0_fillsStandRight_91 rfl (fun cd14 => ?_) (fun cd14 => ?_)
    · replace hm := zt cd14 hm
      exact b_E_fillsStandRight_96 G0 hK hX rec hrec _ _ hm H _ _ hP hD hS (lv_sub hl [1, 2, 3] rfl)
    · replace hm := zf cd14 hm
      refine lv_iconst (v := 0) hx hb dX0_fillsStandRight_94 (by decide) ?_
      obtain ⟨hz15, -, hm⟩ := zbo_s hm
      cases hm
      exact zretz hx hb hr hlk hz15 hP hD hS dX0_fillsStandRight_95
set_option maxRecDepth 100000 in
set_option maxHeartbeats 4000000 in
theorem b_E_fillsStandRight_71 (G : zG p s m args meth c cX0_fillsStandRight RX0 4 (some .boolean)) (hK : va_K D vwCl (wE_t c1 c2 c3) s) (hX : zC (va_A w0 s.heap.size) s) {res : (Int32)} (rec : Int32 → Int32 → Option ((Int32))) (hrec : ∀ (x1 : Int32) (x2 : Int32), rec x1 x2 = some res → zB p l e (zR 2 40) s m args below meth c D vwCl (va_A w0 s.heap.size) (MQ below (zQi D vwCl w0 (wE aE bE rE pE c1 c2 c3 v b rw pw) s.heap.size res) args s 0 0 (va_A w0 s.heap.size)) 4 (wE aE bE rE pE c1 c2 c3 v b rw pw) [(0, .ref aE), (1, .int x1), (2, .int x2)] 44 []) : ∀ (x1 : Int32) (x2 : Int32), m_E_fillsStandRight_71 v b rw pw rec x1 x2 = some res → zB p l e (zR 2 40) s m args below meth c D vwCl (va_A w0 s.heap.size) (MQ below (zQi D vwCl w0 (wE aE bE rE pE c1 c2 c3 v b rw pw) s.heap.size res) args s 0 0 (va_A w0 s.heap.size)) 4 (wE aE bE rE pE c1 c2 c3 v b rw pw) [(0, .ref aE), (1, .int x1), (2, .int x2)] 71 [] := by
  intro x1 x2 hm H locs ls hP hD hS hl
  unfold m_E_fillsStandRight_71 at hm
  have G0 := G
  obtain ⟨hx, hb, hr, hml, hown, hw, hlk⟩ := G
  have hA : ∀ q, s.heap.size ≤ q → va_A w0 s.heap.size q := fun q h => Or.inr h
  refine lv_iconst (v := 1) hx hb dX0_fillsStandRight_71 (by decide) ?_
  refine lv_goto (tgt := 76) hx hb dX0_fillsStandRight_72 rfl ?_
  exact b_E_fillsStandRight_76 G0 hK hX rec hrec _ _ _ hm H _ _ hP hD hS hl
set_option maxRecDepth 100000 in
set_option maxHeartbeats 4000000 in
theorem b_E_fillsStandRight_75 (G : zG p s m args meth c cX0_fillsStandRight RX0 4 (some .boolean)) (hK : va_K D vwCl (wE_t c1 c2 c3) s) (hX : zC (va_A w0 s.heap.size) s) {res : (Int32)} (rec : Int32 → Int32 → Option ((Int32))) (hrec : ∀ (x1 : Int32) (x2 : Int32), rec x1 x2 = some res → zB p l e (zR 2 40) s m args below meth c D vwCl (va_A w0 s.heap.size) (MQ below (zQi D vwCl w0 (wE aE bE rE pE c1 c2 c3 v b rw pw) s.heap.size res) args s 0 0 (va_A w0 s.heap.size)) 4 (wE aE bE rE pE c1 c2 c3 v b rw pw) [(0, .ref aE), (1, .int x1), (2, .int x2)] 44 []) : ∀ (x1 : Int32) (x2 : Int32), m_E_fillsStandRight_75 v b rw pw rec x1 x2 = some res → zB p l e (zR 2 40) s m args below meth c D vwCl (va_A w0 s.heap.size) (MQ below (zQi D vwCl w0 (wE aE bE rE pE c1 c2 c3 v b rw pw) s.heap.size res) args s 0 0 (va_A w0 s.heap.size)) 4 (wE aE bE rE pE c1 c2 c3 v b rw pw) [(0, .ref aE), (1, .int x1), (2, .int x2)] 75 [] := by
  intro x1 x2 hm H locs ls hP hD hS hl
  unfold m_E_fillsStandRight_75 at hm
  have G0 := G
  obtain ⟨hx, hb, hr, hml, hown, hw, hlk⟩ := G
  have hA : ∀ q, s.heap.size ≤ q → va_A w0 s.heap.size q := fun q h => Or.inr h
  refine lv_iconst (v := 0) hx hb dX0_fillsStandRight_75 (by decide) ?_
  exact b_E_fillsStandRight_76 G0 hK hX rec hrec _ _ _ hm H _ _ hP hD hS hl
set_option maxRecDepth 100000 in
set_option maxHeartbeats 4000000 in
theorem b_E_fillsStandRight_44 (G : zG p s m args meth c cX0_fillsStandRight RX0 4 (some .boolean)) (hK : va_K D vwCl (wE_t c1 c2 c3) s) (hX : zC (va_A w0 s.heap.size) s) {res : (Int32)} : ∀ n : Nat, ∀ (x1 : Int32) (x2 : Int32), m_E_fillsStandRight_44 v b rw pw n x1 x2 = some res → zB p l e (zR 2 40) s m args below meth c D vwCl (va_A w0 s.heap.size) (MQ below (zQi D vwCl w0 (wE aE bE rE pE c1 c2 c3 v b rw pw) s.heap.size res) args s 0 0 (va_A w0 s.heap.size)) 4 (wE aE bE rE pE c1 c2 c3 v b rw pw) [(0, .ref aE), (1, .int x1), (2, .int x2)] 44 [] := by
  intro n
  induction n with
  | zero => intro x1 x2 hm; cases hm
  | succ n ih =>
  have hrec := ih
  intro x1 x2 hm H locs ls hP hD hS hl
  replace hm : m_E_fillsStandRight_44b v b rw pw (m_E_fillsStandRight_44 v b rw pw n) x1 x2 = some res := hm
  generalize m_E_fillsStandRight_44 v b rw pw n = rec at hm hrec
  unfold m_E_fillsStandRight_44b at hm
  clear ih
  have G0 := G
  obtain ⟨hx, hb, hr, hml, hown, hw, hlk⟩ := G
  have hA : ∀ q, s.heap.size ≤ q → va_A w0 s.heap.size q := fun q h => Or.inr h
  refine lv_iload_n hx hb dX0_fillsStandRight_44 rfl (lv_at hl 2 rfl) ?_
  refine lv_aload_n hx hb dX0_fillsStandRight_45 rfl (lv_at hl 0 rfl) ?_
  refine va_get (D := D) (ci := 0) (v := .int (v 10)) (C := RX0) (T := TX0) (N := 16) hx hb hw zinX0 hown hK hP 0 rfl rfl 10 (by decide) (hw _ zw255) (fun _ h9 => h9) rfl dX0_fillsStandRight_46 ?_
  refine lv_icmp_ge (tgt := 123) hx hb dX0_fillsStandRight_49 rfl (fun cd6 => ?_) (fun cd6 => ?_)
  · replace hm := zt cd6 hm
    refine lv_iconst (v := 1) hx hb dX0_fillsStandRight_123 (by decide) ?_
    obtain ⟨hz7, -, hm⟩ := zbo_s hm
    cases hm
    exact zretz hx hb hr hlk hz7 hP hD hS dX0_fillsStandRight_124
  · replace hm := zf cd6 hm
    refine lv_iload_n hx hb dX0_fillsStandRight_52 rfl (lv_at hl 1 rfl) ?_
    refine lv_if_ne (tgt := 71) hx hb dX0_fillsStandRight_53 rfl (fun cd8 => ?_) (fun cd8 => ?_)
    · replace hm := zf cd8 hm
      exact b_E_fillsStandRight_71 G0 hK hX rec hrec _ _ hm H _ _ hP hD hS hl
    · replace hm := zt cd8 hm
      refine lv_iload_n hx hb dX0_fillsStandRight_56 rfl (lv_at hl 2 rfl) ?_
      refine lv_aload_n hx hb dX0_fillsStandRight_57 rfl (lv_at hl 0 rfl) ?_
      refine va_get (D := D) (ci := 0) (v := .int (v 15)) (C := RX0) (T := TX0) (N := 16) hx hb hw zinX0 hown hK hP 0 rfl rfl 15 (by decide) (hw _ zw278) (fun _ h9 => h9) rfl dX0_fillsStandRight_58 ?_
      refine lv_icmp_le (tgt := 75) hx hb dX0_fillsStandRight_61 rfl (fun cd16 => ?_) (fun cd16 => ?_)
      · replace hm := zt cd16 hm
        exact b_E_fillsStandRight_75 G0 hK hX rec hrec _ _ hm H _ _ hP hD hS hl
      · replace hm := zf cd16 hm
        refine lv_aload_n hx hb dX0_fillsStandRight_64 rfl (lv_at hl 0 rfl) ?_
        refine va_get (D := D) (ci := 0) (v := .int (v 14)) (C := RX0) (T := TX0) (N := 16) hx hb hw zinX0 hown hK hP 0 rfl rfl 14 (by decide) (hw _ zw279) (fun _ h9 => h9) rfl dX0_fillsStandRight_65 ?_
        refine lv_if_le (tgt := 75) hx hb dX0_fillsStandRight_68 rfl (fun cd17 => ?_) (fun cd17 => ?_)
        · replace hm := zt cd17 hm
          exact b_E_fillsStandRight_75 G0 hK hX rec hrec _ _ hm H _ _ hP hD hS hl
        · replace hm := zf cd17 hm
          exact b_E_fillsStandRight_71 G0 hK hX rec hrec _ _ hm H _ _ hP hD hS hl
set_option maxRecDepth 100000 in
set_option maxHeartbeats 4000000 in
theorem b_E_fillsStandRight_37 (G : zG p s m args meth c cX0_fillsStandRight RX0 4 (some .boolean)) (hK : va_K D vwCl (wE_t c1 c2 c3) s) (hX : zC (va_A w0 s.heap.size) s) {res : (Int32)} : m_E_fillsStandRight_37 v b rw pw  = some res → zB p l e (zR 2 40) s m args below meth c D vwCl (va_A w0 s.heap.size) (MQ below (zQi D vwCl w0 (wE aE bE rE pE c1 c2 c3 v b rw pw) s.heap.size res) args s 0 0 (va_A w0 s.heap.size)) 4 (wE aE bE rE pE c1 c2 c3 v b rw pw) [(0, .ref aE)] 37 [] := by
  intro  hm H locs ls hP hD hS hl
  unfold m_E_fillsStandRight_37 at hm
  have G0 := G
  obtain ⟨hx, hb, hr, hml, hown, hw, hlk⟩ := G
  have hA : ∀ q, s.heap.size ≤ q → va_A w0 s.heap.size q := fun q h => Or.inr h
  refine lv_iconst (v := 0) hx hb dX0_fillsStandRight_37 (by decide) ?_
  refine lv_istore_n (lv' := [(1, .int 0), (0, .ref aE)]) hx hb dX0_fillsStandRight_38 rfl hl (by decide) rfl (fun ls hl => ?_)
  refine lv_aload_n hx hb dX0_fillsStandRight_39 rfl (lv_at hl 1 rfl) ?_
  refine va_get (D := D) (ci := 0) (v := .int (v 9)) (C := RX0) (T := TX0) (N := 16) hx hb hw zinX0 hown hK hP 0 rfl rfl 9 (by decide) (hw _ zw254) (fun _ h9 => h9) rfl dX0_fillsStandRight_40 ?_
  refine lv_istore_n (lv' := [(2, .int (v 9)), (1, .int 0), (0, .ref aE)]) hx hb dX0_fillsStandRight_43 rfl hl (by decide) rfl (fun ls hl => ?_)
  exact b_E_fillsStandRight_44 G0 hK hX 64 _ _ hm H _ _ hP hD hS (lv_sub hl [2, 1, 0] rfl)
end
set_option maxRecDepth 100000 in
set_option maxHeartbeats 4000000 in
theorem k_E_fillsStandRight (l : Launch) (D : va_G) (aE bE rE pE : Nat) (c1 c2 c3 : ClassId) (sz : Nat)  (v : Nat → Int32) (b : Nat → Int32) (rw : Nat → Int32) (pw : Nat → Int32) (res : (Int32)) (hm : m_E_fillsStandRight  v b rw pw  = some res) : Met l yX0_fillsStandRight (Cond.code yX0_fillsStandRight cX0_fillsStandRight 4 (some .boolean) :: zBIG) (zR 2 40) (va_Pc [.ref aE] (zP zC D vwCl (wE_t c1 c2 c3) (wE aE bE rE pE c1 c2 c3 v b rw pw) sz)) (zQi D vwCl (wE aE bE rE pE c1 c2 c3 v b rw pw) (wE aE bE rE pE c1 c2 c3 v b rw pw) sz res) 0 0 (va_A (wE aE bE rE pE c1 c2 c3 v b rw pw) sz) := by
  refine zEnter RX0 [.ref aE] (by decide) rfl (Nat.le_of_ble_eq_true rfl) (fun p e s m below meth c ls G hK hX hP hD hsz hl => ?_)
  subst hsz
  unfold m_E_fillsStandRight at hm
  have hl : lv_has ls 4 [(0, .ref aE)] := hl
  have hS : va_S (va_A (wE aE bE rE pE c1 c2 c3 v b rw pw) s.heap.size) s.heap s.heap [] := va_S.rf
  have hA : ∀ q, s.heap.size ≤ q → va_A (wE aE bE rE pE c1 c2 c3 v b rw pw) s.heap.size q := fun q h => Or.inr h
  have G0 := G
  obtain ⟨hx, hb, hr, hml, hown, hw, hlk⟩ := G
  refine lv_aload_n hx hb dX0_fillsStandRight_0 rfl (lv_at hl 0 rfl) ?_
  refine va_get (D := D) (ci := 0) (v := .int (v 12)) (C := RX0) (T := TX0) (N := 16) hx hb hw zinX0 hown hK hP 0 rfl rfl 12 (by decide) (hw _ zw271) (fun _ h9 => h9) rfl dX0_fillsStandRight_1 ?_
  refine lv_if_ne (tgt := 9) hx hb dX0_fillsStandRight_4 rfl (fun cd1 => ?_) (fun cd1 => ?_)
  · replace hm := zf cd1 hm
    refine lv_aload_n hx hb dX0_fillsStandRight_9 rfl (lv_at hl 0 rfl) ?_
    refine va_get (D := D) (ci := 0) (v := .int (v 13)) (C := RX0) (T := TX0) (N := 16) hx hb hw zinX0 hown hK hP 0 rfl rfl 13 (by decide) (hw _ zw273) (fun _ h9 => h9) rfl dX0_fillsStandRight_10 ?_
    refine lv_aload_n hx hb dX0_fillsStandRight_13 rfl (lv_at hl 0 rfl) ?_
    refine va_get (D := D) (ci := 0) (v := .int (v 15)) (C := RX0) (T := TX0) (N := 16) hx hb hw zinX0 hown hK hP 0 rfl rfl 15 (by decide) (hw _ zw278) (fun _ h9 => h9) rfl dX0_fillsStandRight_14 ?_
    refine lv_icmp_gt (tgt := 35) hx hb dX0_fillsStandRight_17 rfl (fun cd2 => ?_) (fun cd2 => ?_)
    · replace hm := zt cd2 hm
      refine lv_iconst (v := 0) hx hb dX0_fillsStandRight_35 (by decide) ?_
      obtain ⟨hz3, -, hm⟩ := zbo_s hm
      cases hm
      exact zretz hx hb hr hlk hz3 hP hD hS dX0_fillsStandRight_36
    · replace hm := zf cd2 hm
      refine lv_aload_n hx hb dX0_fillsStandRight_20 rfl (lv_at hl 0 rfl) ?_
      obtain ⟨q4, hq4, hm⟩ := zbind hm
      refine zbWi (va_runV (As := []) (rest := []) ⟨hx, hb, hml, hown, hw⟩ (k_E_isFloating l D aE bE rE pE c1 c2 c3 _ v b rw pw  q4 hq4) (zcV (C := RX0) 0 hw (zgood zw284) rfl rfl rfl zw259 zw286 zw285 zw287 hdX0_isFloating ⟨Nat.le_of_ble_eq_true rfl, Nat.le_of_ble_eq_true rfl⟩) (zpreV (zpre zC_ok hX hS (zfree hD hS hA) hP hK hD) (va_recv hK hP rfl (q0 := 0) rfl)) rfl rfl hl.1 rfl (lv_room (Nat.le_of_ble_eq_true rfl)) dX0_fillsStandRight_21 ⟨Nat.zero_le _, Nat.zero_le _⟩) hS (zfree hD hS hA) (fun H locs hP hD hS => ?_)
      refine lv_if_eq (tgt := 37) hx hb dX0_fillsStandRight_24 rfl (fun cd5 => ?_) (fun cd5 => ?_)
      · replace hm := zt cd5 hm
        exact b_E_fillsStandRight_37 G0 hK hX  hm _ _ _ hP hD hS hl
      · replace hm := zf cd5 hm
        refine lv_aload_n hx hb dX0_fillsStandRight_27 rfl (lv_at hl 0 rfl) ?_
        refine va_get (D := D) (ci := 0) (v := .int (v 12)) (C := RX0) (T := TX0) (N := 16) hx hb hw zinX0 hown hK hP 0 rfl rfl 12 (by decide) (hw _ zw271) (fun _ h9 => h9) rfl dX0_fillsStandRight_28 ?_
        refine lv_iconst (v := 2) hx hb dX0_fillsStandRight_31 (by decide) ?_
        refine lv_icmp_ge (tgt := 37) hx hb dX0_fillsStandRight_32 rfl (fun cd18 => ?_) (fun cd18 => ?_)
        · replace hm := zt cd18 hm
          exact b_E_fillsStandRight_37 G0 hK hX  hm _ _ _ hP hD hS hl
        · replace hm := zf cd18 hm
          refine lv_iconst (v := 0) hx hb dX0_fillsStandRight_35 (by decide) ?_
          obtain ⟨hz19, -, hm⟩ := zbo_s hm
          cases hm
          exact zretz hx hb hr hlk hz19 hP hD hS dX0_fillsStandRight_36
  · replace hm := zt cd1 hm
    refine lv_iconst (v := 1) hx hb dX0_fillsStandRight_7 (by decide) ?_
    obtain ⟨hz20, -, hm⟩ := zbo_s hm
    cases hm
    exact zretz hx hb hr hlk hz20 hP hD hS dX0_fillsStandRight_8

theorem dX0_isDigitPlace_0 : decode cX0_isDigitPlace 0 = .ok (.aload_n 0, 1) := by decide +kernel
theorem dX0_isDigitPlace_1 : decode cX0_isDigitPlace 1 = .ok (.invokevirtual 111, 3) := by decide +kernel
theorem dX0_isDigitPlace_4 : decode cX0_isDigitPlace 4 = .ok (.ifCond .eq 13, 3) := by decide +kernel
theorem dX0_isDigitPlace_7 : decode cX0_isDigitPlace 7 = .ok (.iload_n 1, 1) := by decide +kernel
theorem dX0_isDigitPlace_8 : decode cX0_isDigitPlace 8 = .ok (.aload_n 0, 1) := by decide +kernel
theorem dX0_isDigitPlace_9 : decode cX0_isDigitPlace 9 = .ok (.getfield 96, 3) := by decide +kernel
theorem dX0_isDigitPlace_12 : decode cX0_isDigitPlace 12 = .ok (.if_icmp .ne 5, 3) := by decide +kernel
theorem dX0_isDigitPlace_15 : decode cX0_isDigitPlace 15 = .ok (.iconst 0, 1) := by decide +kernel
theorem dX0_isDigitPlace_16 : decode cX0_isDigitPlace 16 = .ok (.ireturn, 1) := by decide +kernel
theorem dX0_isDigitPlace_17 : decode cX0_isDigitPlace 17 = .ok (.aload_n 0, 1) := by decide +kernel
theorem dX0_isDigitPlace_18 : decode cX0_isDigitPlace 18 = .ok (.getfield 9, 3) := by decide +kernel
theorem dX0_isDigitPlace_21 : decode cX0_isDigitPlace 21 = .ok (.iload_n 1, 1) := by decide +kernel
theorem dX0_isDigitPlace_22 : decode cX0_isDigitPlace 22 = .ok (.iaload, 1) := by decide +kernel
theorem dX0_isDigitPlace_23 : decode cX0_isDigitPlace 23 = .ok (.bipush 57, 2) := by decide +kernel
theorem dX0_isDigitPlace_25 : decode cX0_isDigitPlace 25 = .ok (.if_icmp .eq 16, 3) := by decide +kernel
theorem dX0_isDigitPlace_28 : decode cX0_isDigitPlace 28 = .ok (.aload_n 0, 1) := by decide +kernel
theorem dX0_isDigitPlace_29 : decode cX0_isDigitPlace 29 = .ok (.getfield 9, 3) := by decide +kernel
theorem dX0_isDigitPlace_32 : decode cX0_isDigitPlace 32 = .ok (.iload_n 1, 1) := by decide +kernel
theorem dX0_isDigitPlace_33 : decode cX0_isDigitPlace 33 = .ok (.iaload, 1) := by decide +kernel
theorem dX0_isDigitPlace_34 : decode cX0_isDigitPlace 34 = .ok (.aload_n 0, 1) := by decide +kernel
theorem dX0_isDigitPlace_35 : decode cX0_isDigitPlace 35 = .ok (.getfield 54, 3) := by decide +kernel
theorem dX0_isDigitPlace_38 : decode cX0_isDigitPlace 38 = .ok (.if_icmp .ne 7, 3) := by decide +kernel
theorem dX0_isDigitPlace_41 : decode cX0_isDigitPlace 41 = .ok (.iconst 1, 1) := by decide +kernel
theorem dX0_isDigitPlace_42 : decode cX0_isDigitPlace 42 = .ok (.goto 4, 3) := by decide +kernel
theorem dX0_isDigitPlace_45 : decode cX0_isDigitPlace 45 = .ok (.iconst 0, 1) := by decide +kernel
theorem dX0_isDigitPlace_46 : decode cX0_isDigitPlace 46 = .ok (.ireturn, 1) := by decide +kernel
def m_E_isDigitPlace_41 (v : Nat → Int32) (b : Nat → Int32) (rw : Nat → Int32) (pw : Nat → Int32)   : Option ((Int32)) := (zbo 1 (some 1))
def m_E_isDigitPlace_17 (v : Nat → Int32) (b : Nat → Int32) (rw : Nat → Int32) (pw : Nat → Int32) (x1 : Int32)  : Option ((Int32)) := zix x1 24 ((if (rw x1.toNatClampNeg) = 57 then m_E_isDigitPlace_41 v b rw pw  else zix x1 24 ((if (rw x1.toNatClampNeg) = (v 11) then m_E_isDigitPlace_41 v b rw pw  else (zbo 0 (some 0))))))
def m_E_isDigitPlace (a0 : Int32) (v : Nat → Int32) (b : Nat → Int32) (rw : Nat → Int32) (pw : Nat → Int32)  : Option ((Int32)) := (m_E_isFloating v b rw pw).bind (fun q1 => (if q1 = 0 then m_E_isDigitPlace_17 v b rw pw a0 else (if a0 = (v 13) then (zbo 0 (some 0)) else m_E_isDigitPlace_17 v b rw pw a0)))
section
variable {p : Program} {l : Launch} {e : Env} {s : State} {m : MethodId} {args : Array Value} {below : List Frame} {meth : Method} {c : Code} {D : va_G} {w0 : va_W} {aE bE rE pE : Nat} {c1 c2 c3 : ClassId} {v : Nat → Int32} {b : Nat → Int32} {rw : Nat → Int32} {pw : Nat → Int32}
set_option maxRecDepth 100000 in
set_option maxHeartbeats 4000000 in
theorem b_E_isDigitPlace_41 (G : zG p s m args meth c cX0_isDigitPlace RX0 2 (some .boolean)) (hK : va_K D vwCl (wE_t c1 c2 c3) s) (hX : zC (va_A w0 s.heap.size) s) {res : (Int32)} : m_E_isDigitPlace_41 v b rw pw  = some res → zB p l e (zR 2 40) s m args below meth c D vwCl (va_A w0 s.heap.size) (MQ below (zQi D vwCl w0 (wE aE bE rE pE c1 c2 c3 v b rw pw) s.heap.size res) args s 0 0 (va_A w0 s.heap.size)) 2 (wE aE bE rE pE c1 c2 c3 v b rw pw) [] 41 [] := by
  intro  hm H locs ls hP hD hS hl
  unfold m_E_isDigitPlace_41 at hm
  have G0 := G
  obtain ⟨hx, hb, hr, hml, hown, hw, hlk⟩ := G
  have hA : ∀ q, s.heap.size ≤ q → va_A w0 s.heap.size q := fun q h => Or.inr h
  refine lv_iconst (v := 1) hx hb dX0_isDigitPlace_41 (by decide) ?_
  refine lv_goto (tgt := 46) hx hb dX0_isDigitPlace_42 rfl ?_
  obtain ⟨hz5, -, hm⟩ := zbo_s hm
  cases hm
  exact zretz hx hb hr hlk hz5 hP hD hS dX0_isDigitPlace_46
set_option maxRecDepth 100000 in
set_option maxHeartbeats 4000000 in
theorem b_E_isDigitPlace_17 (G : zG p s m args meth c cX0_isDigitPlace RX0 2 (some .boolean)) (hK : va_K D vwCl (wE_t c1 c2 c3) s) (hX : zC (va_A w0 s.heap.size) s) {res : (Int32)} : ∀ (x1 : Int32), m_E_isDigitPlace_17 v b rw pw x1 = some res → zB p l e (zR 2 40) s m args below meth c D vwCl (va_A w0 s.heap.size) (MQ below (zQi D vwCl w0 (wE aE bE rE pE c1 c2 c3 v b rw pw) s.heap.size res) args s 0 0 (va_A w0 s.heap.size)) 2 (wE aE bE rE pE c1 c2 c3 v b rw pw) [(0, .ref aE), (1, .int x1)] 17 [] := by
  intro x1 hm H locs ls hP hD hS hl
  unfold m_E_isDigitPlace_17 at hm
  have G0 := G
  obtain ⟨hx, hb, hr, hml, hown, hw, hlk⟩ := G
  have hA : ∀ q, s.heap.size ≤ q → va_A w0 s.heap.size q := fun q h => Or.inr h
  refine lv_aload_n hx hb dX0_isDigitPlace_17 rfl (lv_at hl 0 rfl) ?_
  refine va_get (D := D) (ci := 0) (v := .ref rE) (C := RX0) (T := TX0) (N := 16) hx hb hw zinX0 hown hK hP 0 rfl rfl 5 (by decide) (hw _ zw256) (fun _ h9 => h9) rfl dX0_isDigitPlace_18 ?_
  refine lv_iload_n hx hb dX0_isDigitPlace_21 rfl (lv_at hl 1 rfl) ?_
  obtain ⟨hi3, hm⟩ := zix_s hm
  refine va_iald (i := x1) (f := rw) (n := 24) hx hb hK hP 2 1 rfl rfl hi3 dX0_isDigitPlace_22 ?_
  refine lv_bipush (v := 57) hx hb dX0_isDigitPlace_23 (by decide) ?_
  refine lv_icmp_eq (tgt := 41) hx hb dX0_isDigitPlace_25 rfl (fun cd4 => ?_) (fun cd4 => ?_)
  · replace hm := zt cd4 hm
    exact b_E_isDigitPlace_41 G0 hK hX  hm H _ _ hP hD hS (lv_sub hl [] rfl)
  · replace hm := zf cd4 hm
    refine lv_aload_n hx hb dX0_isDigitPlace_28 rfl (lv_at hl 0 rfl) ?_
    refine va_get (D := D) (ci := 0) (v := .ref rE) (C := RX0) (T := TX0) (N := 16) hx hb hw zinX0 hown hK hP 0 rfl rfl 5 (by decide) (hw _ zw256) (fun _ h9 => h9) rfl dX0_isDigitPlace_29 ?_
    refine lv_iload_n hx hb dX0_isDigitPlace_32 rfl (lv_at hl 1 rfl) ?_
    obtain ⟨hi6, hm⟩ := zix_s hm
    refine va_iald (i := x1) (f := rw) (n := 24) hx hb hK hP 2 1 rfl rfl hi6 dX0_isDigitPlace_33 ?_
    refine lv_aload_n hx hb dX0_isDigitPlace_34 rfl (lv_at hl 0 rfl) ?_
    refine va_get (D := D) (ci := 0) (v := .int (v 11)) (C := RX0) (T := TX0) (N := 16) hx hb hw zinX0 hown hK hP 0 rfl rfl 11 (by decide) (hw _ zw272) (fun _ h9 => h9) rfl dX0_isDigitPlace_35 ?_
    refine lv_icmp_ne (tgt := 45) hx hb dX0_isDigitPlace_38 rfl (fun cd7 => ?_) (fun cd7 => ?_)
    · replace hm := zf cd7 hm
      refine lv_iconst (v := 0) hx hb dX0_isDigitPlace_45 (by decide) ?_
      obtain ⟨hz8, -, hm⟩ := zbo_s hm
      cases hm
      exact zretz hx hb hr hlk hz8 hP hD hS dX0_isDigitPlace_46
    · replace hm := zt cd7 hm
      exact b_E_isDigitPlace_41 G0 hK hX  hm H _ _ hP hD hS (lv_sub hl [] rfl)
end
set_option maxRecDepth 100000 in
set_option maxHeartbeats 4000000 in
theorem k_E_isDigitPlace (l : Launch) (D : va_G) (aE bE rE pE : Nat) (c1 c2 c3 : ClassId) (sz : Nat) (a0 : Int32) (v : Nat → Int32) (b : Nat → Int32) (rw : Nat → Int32) (pw : Nat → Int32) (res : (Int32)) (hm : m_E_isDigitPlace a0 v b rw pw  = some res) : Met l yX0_isDigitPlace (Cond.code yX0_isDigitPlace cX0_isDigitPlace 2 (some .boolean) :: zBIG) (zR 2 40) (va_Pc [.ref aE, .int a0] (zP zC D vwCl (wE_t c1 c2 c3) (wE aE bE rE pE c1 c2 c3 v b rw pw) sz)) (zQi D vwCl (wE aE bE rE pE c1 c2 c3 v b rw pw) (wE aE bE rE pE c1 c2 c3 v b rw pw) sz res) 0 0 (va_A (wE aE bE rE pE c1 c2 c3 v b rw pw) sz) := by
  refine zEnter RX0 [.ref aE, .int a0] (by decide) rfl (Nat.le_of_ble_eq_true rfl) (fun p e s m below meth c ls G hK hX hP hD hsz hl => ?_)
  subst hsz
  unfold m_E_isDigitPlace at hm
  have hl : lv_has ls 2 [(0, .ref aE), (1, .int a0)] := hl
  have hS : va_S (va_A (wE aE bE rE pE c1 c2 c3 v b rw pw) s.heap.size) s.heap s.heap [] := va_S.rf
  have hA : ∀ q, s.heap.size ≤ q → va_A (wE aE bE rE pE c1 c2 c3 v b rw pw) s.heap.size q := fun q h => Or.inr h
  have G0 := G
  obtain ⟨hx, hb, hr, hml, hown, hw, hlk⟩ := G
  refine lv_aload_n hx hb dX0_isDigitPlace_0 rfl (lv_at hl 0 rfl) ?_
  obtain ⟨q1, hq1, hm⟩ := zbind hm
  refine zbWi (va_runV (As := []) (rest := []) ⟨hx, hb, hml, hown, hw⟩ (k_E_isFloating l D aE bE rE pE c1 c2 c3 _ v b rw pw  q1 hq1) (zcV (C := RX0) 0 hw (zgood zw284) rfl rfl rfl zw259 zw286 zw285 zw287 hdX0_isFloating ⟨Nat.le_of_ble_eq_true rfl, Nat.le_of_ble_eq_true rfl⟩) (zpreV (zpre zC_ok hX hS (zfree hD hS hA) hP hK hD) (va_recv hK hP rfl (q0 := 0) rfl)) rfl rfl hl.1 rfl (lv_room (Nat.le_of_ble_eq_true rfl)) dX0_isDigitPlace_1 ⟨Nat.zero_le _, Nat.zero_le _⟩) hS (zfree hD hS hA) (fun H locs hP hD hS => ?_)
  refine lv_if_eq (tgt := 17) hx hb dX0_isDigitPlace_4 rfl (fun cd2 => ?_) (fun cd2 => ?_)
  · replace hm := zt cd2 hm
    exact b_E_isDigitPlace_17 G0 hK hX _ hm _ _ _ hP hD hS hl
  · replace hm := zf cd2 hm
    refine lv_iload_n hx hb dX0_isDigitPlace_7 rfl (lv_at hl 1 rfl) ?_
    refine lv_aload_n hx hb dX0_isDigitPlace_8 rfl (lv_at hl 0 rfl) ?_
    refine va_get (D := D) (ci := 0) (v := .int (v 13)) (C := RX0) (T := TX0) (N := 16) hx hb hw zinX0 hown hK hP 0 rfl rfl 13 (by decide) (hw _ zw273) (fun _ h9 => h9) rfl dX0_isDigitPlace_9 ?_
    refine lv_icmp_ne (tgt := 17) hx hb dX0_isDigitPlace_12 rfl (fun cd9 => ?_) (fun cd9 => ?_)
    · replace hm := zf cd9 hm
      exact b_E_isDigitPlace_17 G0 hK hX _ hm _ _ _ hP hD hS hl
    · replace hm := zt cd9 hm
      refine lv_iconst (v := 0) hx hb dX0_isDigitPlace_15 (by decide) ?_
      obtain ⟨hz10, -, hm⟩ := zbo_s hm
      cases hm
      exact zretz hx hb hr hlk hz10 hP hD hS dX0_isDigitPlace_16

theorem dX0_placeDigits_0 : decode cX0_placeDigits 0 = .ok (.aload_n 0, 1) := by decide +kernel
theorem dX0_placeDigits_1 : decode cX0_placeDigits 1 = .ok (.iconst 0, 1) := by decide +kernel
theorem dX0_placeDigits_2 : decode cX0_placeDigits 2 = .ok (.putfield 74, 3) := by decide +kernel
theorem dX0_placeDigits_5 : decode cX0_placeDigits 5 = .ok (.aload_n 0, 1) := by decide +kernel
theorem dX0_placeDigits_6 : decode cX0_placeDigits 6 = .ok (.iconst 0, 1) := by decide +kernel
theorem dX0_placeDigits_7 : decode cX0_placeDigits 7 = .ok (.putfield 77, 3) := by decide +kernel
theorem dX0_placeDigits_10 : decode cX0_placeDigits 10 = .ok (.aload_n 0, 1) := by decide +kernel
theorem dX0_placeDigits_11 : decode cX0_placeDigits 11 = .ok (.getfield 80, 3) := by decide +kernel
theorem dX0_placeDigits_14 : decode cX0_placeDigits 14 = .ok (.istore_n 1, 1) := by decide +kernel
theorem dX0_placeDigits_15 : decode cX0_placeDigits 15 = .ok (.iload_n 1, 1) := by decide +kernel
theorem dX0_placeDigits_16 : decode cX0_placeDigits 16 = .ok (.aload_n 0, 1) := by decide +kernel
theorem dX0_placeDigits_17 : decode cX0_placeDigits 17 = .ok (.getfield 83, 3) := by decide +kernel
theorem dX0_placeDigits_20 : decode cX0_placeDigits 20 = .ok (.if_icmp .ge 61, 3) := by decide +kernel
theorem dX0_placeDigits_23 : decode cX0_placeDigits 23 = .ok (.aload_n 0, 1) := by decide +kernel
theorem dX0_placeDigits_24 : decode cX0_placeDigits 24 = .ok (.iload_n 1, 1) := by decide +kernel
theorem dX0_placeDigits_25 : decode cX0_placeDigits 25 = .ok (.invokevirtual 114, 3) := by decide +kernel
theorem dX0_placeDigits_28 : decode cX0_placeDigits 28 = .ok (.ifCond .eq 47, 3) := by decide +kernel
theorem dX0_placeDigits_31 : decode cX0_placeDigits 31 = .ok (.aload_n 0, 1) := by decide +kernel
theorem dX0_placeDigits_32 : decode cX0_placeDigits 32 = .ok (.dup, 1) := by decide +kernel
theorem dX0_placeDigits_33 : decode cX0_placeDigits 33 = .ok (.getfield 74, 3) := by decide +kernel
theorem dX0_placeDigits_36 : decode cX0_placeDigits 36 = .ok (.iload_n 1, 1) := by decide +kernel
theorem dX0_placeDigits_37 : decode cX0_placeDigits 37 = .ok (.aload_n 0, 1) := by decide +kernel
theorem dX0_placeDigits_38 : decode cX0_placeDigits 38 = .ok (.getfield 102, 3) := by decide +kernel
theorem dX0_placeDigits_41 : decode cX0_placeDigits 41 = .ok (.if_icmp .ge 7, 3) := by decide +kernel
theorem dX0_placeDigits_44 : decode cX0_placeDigits 44 = .ok (.iconst 1, 1) := by decide +kernel
theorem dX0_placeDigits_45 : decode cX0_placeDigits 45 = .ok (.goto 4, 3) := by decide +kernel
theorem dX0_placeDigits_48 : decode cX0_placeDigits 48 = .ok (.iconst 0, 1) := by decide +kernel
theorem dX0_placeDigits_49 : decode cX0_placeDigits 49 = .ok (.iadd, 1) := by decide +kernel
theorem dX0_placeDigits_50 : decode cX0_placeDigits 50 = .ok (.putfield 74, 3) := by decide +kernel
theorem dX0_placeDigits_53 : decode cX0_placeDigits 53 = .ok (.aload_n 0, 1) := by decide +kernel
theorem dX0_placeDigits_54 : decode cX0_placeDigits 54 = .ok (.dup, 1) := by decide +kernel
theorem dX0_placeDigits_55 : decode cX0_placeDigits 55 = .ok (.getfield 77, 3) := by decide +kernel
theorem dX0_placeDigits_58 : decode cX0_placeDigits 58 = .ok (.iload_n 1, 1) := by decide +kernel
theorem dX0_placeDigits_59 : decode cX0_placeDigits 59 = .ok (.aload_n 0, 1) := by decide +kernel
theorem dX0_placeDigits_60 : decode cX0_placeDigits 60 = .ok (.getfield 102, 3) := by decide +kernel
theorem dX0_placeDigits_63 : decode cX0_placeDigits 63 = .ok (.if_icmp .le 7, 3) := by decide +kernel
theorem dX0_placeDigits_66 : decode cX0_placeDigits 66 = .ok (.iconst 1, 1) := by decide +kernel
theorem dX0_placeDigits_67 : decode cX0_placeDigits 67 = .ok (.goto 4, 3) := by decide +kernel
theorem dX0_placeDigits_70 : decode cX0_placeDigits 70 = .ok (.iconst 0, 1) := by decide +kernel
theorem dX0_placeDigits_71 : decode cX0_placeDigits 71 = .ok (.iadd, 1) := by decide +kernel
theorem dX0_placeDigits_72 : decode cX0_placeDigits 72 = .ok (.putfield 77, 3) := by decide +kernel
theorem dX0_placeDigits_75 : decode cX0_placeDigits 75 = .ok (.iinc 1 1, 3) := by decide +kernel
theorem dX0_placeDigits_78 : decode cX0_placeDigits 78 = .ok (.goto (-63), 3) := by decide +kernel
theorem dX0_placeDigits_81 : decode cX0_placeDigits 81 = .ok (.aload_n 0, 1) := by decide +kernel
theorem dX0_placeDigits_82 : decode cX0_placeDigits 82 = .ok (.getfield 74, 3) := by decide +kernel
theorem dX0_placeDigits_85 : decode cX0_placeDigits 85 = .ok (.istore_n 1, 1) := by decide +kernel
theorem dX0_placeDigits_86 : decode cX0_placeDigits 86 = .ok (.aload_n 0, 1) := by decide +kernel
theorem dX0_placeDigits_87 : decode cX0_placeDigits 87 = .ok (.getfield 80, 3) := by decide +kernel
theorem dX0_placeDigits_90 : decode cX0_placeDigits 90 = .ok (.istore_n 2, 1) := by decide +kernel
theorem dX0_placeDigits_91 : decode cX0_placeDigits 91 = .ok (.iload_n 2, 1) := by decide +kernel
theorem dX0_placeDigits_92 : decode cX0_placeDigits 92 = .ok (.aload_n 0, 1) := by decide +kernel
theorem dX0_placeDigits_93 : decode cX0_placeDigits 93 = .ok (.getfield 83, 3) := by decide +kernel
theorem dX0_placeDigits_96 : decode cX0_placeDigits 96 = .ok (.if_icmp .ge 43, 3) := by decide +kernel
theorem dX0_placeDigits_99 : decode cX0_placeDigits 99 = .ok (.aload_n 0, 1) := by decide +kernel
theorem dX0_placeDigits_100 : decode cX0_placeDigits 100 = .ok (.iload_n 2, 1) := by decide +kernel
theorem dX0_placeDigits_101 : decode cX0_placeDigits 101 = .ok (.invokevirtual 114, 3) := by decide +kernel
theorem dX0_placeDigits_104 : decode cX0_placeDigits 104 = .ok (.istore_n 3, 1) := by decide +kernel
theorem dX0_placeDigits_105 : decode cX0_placeDigits 105 = .ok (.iload_n 1, 1) := by decide +kernel
theorem dX0_placeDigits_106 : decode cX0_placeDigits 106 = .ok (.iload_n 3, 1) := by decide +kernel
theorem dX0_placeDigits_107 : decode cX0_placeDigits 107 = .ok (.ifCond .eq 7, 3) := by decide +kernel
theorem dX0_placeDigits_110 : decode cX0_placeDigits 110 = .ok (.iconst 1, 1) := by decide +kernel
theorem dX0_placeDigits_111 : decode cX0_placeDigits 111 = .ok (.goto 4, 3) := by decide +kernel
theorem dX0_placeDigits_114 : decode cX0_placeDigits 114 = .ok (.iconst 0, 1) := by decide +kernel
theorem dX0_placeDigits_115 : decode cX0_placeDigits 115 = .ok (.isub, 1) := by decide +kernel
theorem dX0_placeDigits_116 : decode cX0_placeDigits 116 = .ok (.istore_n 1, 1) := by decide +kernel
theorem dX0_placeDigits_117 : decode cX0_placeDigits 117 = .ok (.aload_n 0, 1) := by decide +kernel
theorem dX0_placeDigits_118 : decode cX0_placeDigits 118 = .ok (.getfield 15, 3) := by decide +kernel
theorem dX0_placeDigits_121 : decode cX0_placeDigits 121 = .ok (.iload_n 2, 1) := by decide +kernel
theorem dX0_placeDigits_122 : decode cX0_placeDigits 122 = .ok (.iload_n 3, 1) := by decide +kernel
theorem dX0_placeDigits_123 : decode cX0_placeDigits 123 = .ok (.ifCond .eq 7, 3) := by decide +kernel
theorem dX0_placeDigits_126 : decode cX0_placeDigits 126 = .ok (.iload_n 1, 1) := by decide +kernel
theorem dX0_placeDigits_127 : decode cX0_placeDigits 127 = .ok (.goto 5, 3) := by decide +kernel
theorem dX0_placeDigits_130 : decode cX0_placeDigits 130 = .ok (.bipush 99, 2) := by decide +kernel
theorem dX0_placeDigits_132 : decode cX0_placeDigits 132 = .ok (.iastore, 1) := by decide +kernel
theorem dX0_placeDigits_133 : decode cX0_placeDigits 133 = .ok (.iinc 2 1, 3) := by decide +kernel
theorem dX0_placeDigits_136 : decode cX0_placeDigits 136 = .ok (.goto (-45), 3) := by decide +kernel
theorem dX0_placeDigits_139 : decode cX0_placeDigits 139 = .ok (.return_, 1) := by decide +kernel
def m_E_placeDigits_132 (b : Nat → Int32) (rw : Nat → Int32) (rec : Int32 → Int32 → (Nat → Int32) → (Nat → Int32) → Option ((Nat → Int32) × (Nat → Int32))) (x1 : Int32) (x2 : Int32) (t0 : Int32) (t1 : Int32) (v : Nat → Int32) (pw : Nat → Int32) : Option ((Nat → Int32) × (Nat → Int32)) := zix t1 24 (rec x1 (x2 + 1) v (upd pw t1.toNatClampNeg t0))
def m_E_placeDigits_115 (b : Nat → Int32) (rw : Nat → Int32) (rec : Int32 → Int32 → (Nat → Int32) → (Nat → Int32) → Option ((Nat → Int32) × (Nat → Int32))) (x2 : Int32) (x3 : Int32) (t0 : Int32) (t1 : Int32) (v : Nat → Int32) (pw : Nat → Int32) : Option ((Nat → Int32) × (Nat → Int32)) := (if x3 = 0 then m_E_placeDigits_132 b rw rec (t1 - t0) x2 99 x2 v pw else m_E_placeDigits_132 b rw rec (t1 - t0) x2 (t1 - t0) x2 v pw)
def m_E_placeDigits_91b (b : Nat → Int32) (rw : Nat → Int32) (rec : Int32 → Int32 → (Nat → Int32) → (Nat → Int32) → Option ((Nat → Int32) × (Nat → Int32))) (x1 : Int32) (x2 : Int32) (v : Nat → Int32) (pw : Nat → Int32) : Option ((Nat → Int32) × (Nat → Int32)) := (if (v 10) ≤ x2 then (some (v, pw)) else (m_E_isDigitPlace x2 v b rw pw).bind (fun q3 => (if q3 = 0 then m_E_placeDigits_115 b rw rec x2 q3 0 x1 v pw else m_E_placeDigits_115 b rw rec x2 q3 1 x1 v pw)))
def m_E_placeDigits_91 (b : Nat → Int32) (rw : Nat → Int32) : Nat → Int32 → Int32 → (Nat → Int32) → (Nat → Int32) → Option ((Nat → Int32) × (Nat → Int32))
  | 0 => fun _ _ _ _ => none
  | n + 1 => fun x1 x2 v pw => m_E_placeDigits_91b b rw (m_E_placeDigits_91 b rw n) x1 x2 v pw
def m_E_placeDigits_75 (b : Nat → Int32) (rw : Nat → Int32) (rec : Int32 → (Nat → Int32) → (Nat → Int32) → Option ((Nat → Int32) × (Nat → Int32))) (x1 : Int32) (v : Nat → Int32) (pw : Nat → Int32) : Option ((Nat → Int32) × (Nat → Int32)) := rec (x1 + 1) v pw
def m_E_placeDigits_71 (b : Nat → Int32) (rw : Nat → Int32) (rec : Int32 → (Nat → Int32) → (Nat → Int32) → Option ((Nat → Int32) × (Nat → Int32))) (x1 : Int32) (t0 : Int32) (t1 : Int32) (v : Nat → Int32) (pw : Nat → Int32) : Option ((Nat → Int32) × (Nat → Int32)) := m_E_placeDigits_75 b rw rec x1 (upd v 3 (t1 + t0)) pw
def m_E_placeDigits_49 (b : Nat → Int32) (rw : Nat → Int32) (rec : Int32 → (Nat → Int32) → (Nat → Int32) → Option ((Nat → Int32) × (Nat → Int32))) (x1 : Int32) (t0 : Int32) (t1 : Int32) (v : Nat → Int32) (pw : Nat → Int32) : Option ((Nat → Int32) × (Nat → Int32)) := (if x1 ≤ ((upd v 2 (t1 + t0)) 15) then m_E_placeDigits_71 b rw rec x1 0 ((upd v 2 (t1 + t0)) 3) (upd v 2 (t1 + t0)) pw else m_E_placeDigits_71 b rw rec x1 1 ((upd v 2 (t1 + t0)) 3) (upd v 2 (t1 + t0)) pw)
def m_E_placeDigits_15b (b : Nat → Int32) (rw : Nat → Int32) (rec : Int32 → (Nat → Int32) → (Nat → Int32) → Option ((Nat → Int32) × (Nat → Int32))) (x1 : Int32) (v : Nat → Int32) (pw : Nat → Int32) : Option ((Nat → Int32) × (Nat → Int32)) := (if (v 10) ≤ x1 then m_E_placeDigits_91 b rw 64 (v 2) (v 9) v pw else (m_E_isDigitPlace x1 v b rw pw).bind (fun q7 => (if q7 = 0 then m_E_placeDigits_75 b rw rec x1 v pw else (if (v 15) ≤ x1 then m_E_placeDigits_49 b rw rec x1 0 (v 2) v pw else m_E_placeDigits_49 b rw rec x1 1 (v 2) v pw))))
def m_E_placeDigits_15 (b : Nat → Int32) (rw : Nat → Int32) : Nat → Int32 → (Nat → Int32) → (Nat → Int32) → Option ((Nat → Int32) × (Nat → Int32))
  | 0 => fun _ _ _ => none
  | n + 1 => fun x1 v pw => m_E_placeDigits_15b b rw (m_E_placeDigits_15 b rw n) x1 v pw
def m_E_placeDigits  (v : Nat → Int32) (b : Nat → Int32) (rw : Nat → Int32) (pw : Nat → Int32)  : Option ((Nat → Int32) × (Nat → Int32)) := m_E_placeDigits_15 b rw 64 ((upd (upd v 2 0) 3 0) 9) (upd (upd v 2 0) 3 0) pw
section
variable {p : Program} {l : Launch} {e : Env} {s : State} {m : MethodId} {args : Array Value} {below : List Frame} {meth : Method} {c : Code} {D : va_G} {w0 : va_W} {aE bE rE pE : Nat} {c1 c2 c3 : ClassId} {b : Nat → Int32} {rw : Nat → Int32}
set_option maxRecDepth 100000 in
set_option maxHeartbeats 4000000 in
theorem b_E_placeDigits_132 (G : zG p s m args meth c cX0_placeDigits RX0 4 none) (hK : va_K D vwCl (wE_t c1 c2 c3) s) (hX : zC (va_A w0 s.heap.size) s) {res : (Nat → Int32) × (Nat → Int32)} (rec : Int32 → Int32 → (Nat → Int32) → (Nat → Int32) → Option ((Nat → Int32) × (Nat → Int32))) (hrec : ∀ (x1 : Int32) (x2 : Int32) (v : Nat → Int32) (pw : Nat → Int32), rec x1 x2 v pw = some res → zB p l e (zR 3 61) s m args below meth c D vwCl (va_A w0 s.heap.size) (MQ below (zQv D vwCl w0 (wE aE bE rE pE c1 c2 c3 res.1 b rw res.2) s.heap.size) args s 0 0 (va_A w0 s.heap.size)) 4 (wE aE bE rE pE c1 c2 c3 v b rw pw) [(0, .ref aE), (1, .int x1), (2, .int x2)] 91 []) : ∀ (x1 : Int32) (x2 : Int32) (t0 : Int32) (t1 : Int32) (v : Nat → Int32) (pw : Nat → Int32), m_E_placeDigits_132 b rw rec x1 x2 t0 t1 v pw = some res → zB p l e (zR 3 61) s m args below meth c D vwCl (va_A w0 s.heap.size) (MQ below (zQv D vwCl w0 (wE aE bE rE pE c1 c2 c3 res.1 b rw res.2) s.heap.size) args s 0 0 (va_A w0 s.heap.size)) 4 (wE aE bE rE pE c1 c2 c3 v b rw pw) [(0, .ref aE), (1, .int x1), (2, .int x2)] 132 [.int t0, .int t1, .ref pE] := by
  intro x1 x2 t0 t1 v pw hm H locs ls hP hD hS hl
  unfold m_E_placeDigits_132 at hm
  have G0 := G
  obtain ⟨hx, hb, hr, hml, hown, hw, hlk⟩ := G
  have hA : ∀ q, s.heap.size ≤ q → va_A w0 s.heap.size q := fun q h => Or.inr h
  obtain ⟨hi6, hm⟩ := zix_s hm
  refine va_iast (i := t1) (x := t0) (f := pw) (n := 24) hx hb hK hP hD hS 3 2 rfl rfl hi6 dX0_placeDigits_132 (fun H locs hP hD hS => ?_)
  have hP : va_P D vwCl (wE aE bE rE pE c1 c2 c3 v b rw (upd pw t1.toNatClampNeg t0)) H := hP
  have hD : va_D _ (wE aE bE rE pE c1 c2 c3 v b rw (upd pw t1.toNatClampNeg t0)) := hD
  refine lv_iinc (k := 2) (v := (x2 + 1)) (lv' := [(2, .int (x2 + 1)), (0, .ref aE), (1, .int x1)]) hx hb dX0_placeDigits_133 hl rfl rfl (by decide) rfl (fun ls hl => ?_)
  refine lv_goto (tgt := 91) hx hb dX0_placeDigits_136 rfl ?_
  exact hrec _ _ _ _ hm H _ _ hP hD hS (lv_sub hl [1, 2, 0] rfl)
set_option maxRecDepth 100000 in
set_option maxHeartbeats 4000000 in
theorem b_E_placeDigits_115 (G : zG p s m args meth c cX0_placeDigits RX0 4 none) (hK : va_K D vwCl (wE_t c1 c2 c3) s) (hX : zC (va_A w0 s.heap.size) s) {res : (Nat → Int32) × (Nat → Int32)} (rec : Int32 → Int32 → (Nat → Int32) → (Nat → Int32) → Option ((Nat → Int32) × (Nat → Int32))) (hrec : ∀ (x1 : Int32) (x2 : Int32) (v : Nat → Int32) (pw : Nat → Int32), rec x1 x2 v pw = some res → zB p l e (zR 3 61) s m args below meth c D vwCl (va_A w0 s.heap.size) (MQ below (zQv D vwCl w0 (wE aE bE rE pE c1 c2 c3 res.1 b rw res.2) s.heap.size) args s 0 0 (va_A w0 s.heap.size)) 4 (wE aE bE rE pE c1 c2 c3 v b rw pw) [(0, .ref aE), (1, .int x1), (2, .int x2)] 91 []) : ∀ (x2 : Int32) (x3 : Int32) (t0 : Int32) (t1 : Int32) (v : Nat → Int32) (pw : Nat → Int32), m_E_placeDigits_115 b rw rec x2 x3 t0 t1 v pw = some res → zB p l e (zR 3 61) s m args below meth c D vwCl (va_A w0 s.heap.size) (MQ below (zQv D vwCl w0 (wE aE bE rE pE c1 c2 c3 res.1 b rw res.2) s.heap.size) args s 0 0 (va_A w0 s.heap.size)) 4 (wE aE bE rE pE c1 c2 c3 v b rw pw) [(0, .ref aE), (2, .int x2), (3, .int x3)] 115 [.int t0, .int t1] := by
  intro x2 x3 t0 t1 v pw hm H locs ls hP hD hS hl
  unfold m_E_placeDigits_115 at hm
  have G0 := G
  obtain ⟨hx, hb, hr, hml, hown, hw, hlk⟩ := G
  have hA : ∀ q, s.heap.size ≤ q → va_A w0 s.heap.size q := fun q h => Or.inr h
  refine lv_isub hx hb dX0_placeDigits_115 ?_
  refine lv_istore_n (lv' := [(1, .int (t1 - t0)), (0, .ref aE), (2, .int x2), (3, .int x3)]) hx hb dX0_placeDigits_116 rfl hl (by decide) rfl (fun ls hl => ?_)
  refine lv_aload_n hx hb dX0_placeDigits_117 rfl (lv_at hl 1 rfl) ?_
  refine va_get (D := D) (ci := 0) (v := .ref pE) (C := RX0) (T := TX0) (N := 16) hx hb hw zinX0 hown hK hP 0 rfl rfl 6 (by decide) (hw _ zw296) (fun _ h9 => h9) rfl dX0_placeDigits_118 ?_
  refine lv_iload_n hx hb dX0_placeDigits_121 rfl (lv_at hl 2 rfl) ?_
  refine lv_iload_n hx hb dX0_placeDigits_122 rfl (lv_at hl 3 rfl) ?_
  refine lv_if_eq (tgt := 130) hx hb dX0_placeDigits_123 rfl (fun cd5 => ?_) (fun cd5 => ?_)
  · replace hm := zt cd5 hm
    refine lv_bipush (v := 99) hx hb dX0_placeDigits_130 (by decide) ?_
    exact b_E_placeDigits_132 G0 hK hX rec hrec _ _ _ _ _ _ hm H _ _ hP hD hS (lv_sub hl [1, 0, 2] rfl)
  · replace hm := zf cd5 hm
    refine lv_iload_n hx hb dX0_placeDigits_126 rfl (lv_at hl 0 rfl) ?_
    refine lv_goto (tgt := 132) hx hb dX0_placeDigits_127 rfl ?_
    exact b_E_placeDigits_132 G0 hK hX rec hrec _ _ _ _ _ _ hm H _ _ hP hD hS (lv_sub hl [1, 0, 2] rfl)
set_option maxRecDepth 100000 in
set_option maxHeartbeats 4000000 in
theorem b_E_placeDigits_91 (G : zG p s m args meth c cX0_placeDigits RX0 4 none) (hK : va_K D vwCl (wE_t c1 c2 c3) s) (hX : zC (va_A w0 s.heap.size) s) {res : (Nat → Int32) × (Nat → Int32)} : ∀ n : Nat, ∀ (x1 : Int32) (x2 : Int32) (v : Nat → Int32) (pw : Nat → Int32), m_E_placeDigits_91 b rw n x1 x2 v pw = some res → zB p l e (zR 3 61) s m args below meth c D vwCl (va_A w0 s.heap.size) (MQ below (zQv D vwCl w0 (wE aE bE rE pE c1 c2 c3 res.1 b rw res.2) s.heap.size) args s 0 0 (va_A w0 s.heap.size)) 4 (wE aE bE rE pE c1 c2 c3 v b rw pw) [(0, .ref aE), (1, .int x1), (2, .int x2)] 91 [] := by
  intro n
  induction n with
  | zero => intro x1 x2 v pw hm; cases hm
  | succ n ih =>
  have hrec := ih
  intro x1 x2 v pw hm H locs ls hP hD hS hl
  replace hm : m_E_placeDigits_91b b rw (m_E_placeDigits_91 b rw n) x1 x2 v pw = some res := hm
  generalize m_E_placeDigits_91 b rw n = rec at hm hrec
  unfold m_E_placeDigits_91b at hm
  clear ih
  have G0 := G
  obtain ⟨hx, hb, hr, hml, hown, hw, hlk⟩ := G
  have hA : ∀ q, s.heap.size ≤ q → va_A w0 s.heap.size q := fun q h => Or.inr h
  refine lv_iload_n hx hb dX0_placeDigits_91 rfl (lv_at hl 2 rfl) ?_
  refine lv_aload_n hx hb dX0_placeDigits_92 rfl (lv_at hl 0 rfl) ?_
  refine va_get (D := D) (ci := 0) (v := .int (v 10)) (C := RX0) (T := TX0) (N := 16) hx hb hw zinX0 hown hK hP 0 rfl rfl 10 (by decide) (hw _ zw255) (fun _ h9 => h9) rfl dX0_placeDigits_93 ?_
  refine lv_icmp_ge (tgt := 139) hx hb dX0_placeDigits_96 rfl (fun cd2 => ?_) (fun cd2 => ?_)
  · replace hm := zt cd2 hm
    cases hm
    exact zretv hx hb hr hlk hP hD hS dX0_placeDigits_139
  · replace hm := zf cd2 hm
    refine lv_aload_n hx hb dX0_placeDigits_99 rfl (lv_at hl 0 rfl) ?_
    refine lv_iload_n hx hb dX0_placeDigits_100 rfl (lv_at hl 2 rfl) ?_
    obtain ⟨q3, hq3, hm⟩ := zbind hm
    refine zbWi (va_runV (As := [.int x2]) (rest := []) ⟨hx, hb, hml, hown, hw⟩ (k_E_isDigitPlace l D aE bE rE pE c1 c2 c3 _ x2 v b rw pw  q3 hq3) (zcV (C := RX0) 1 hw (zgood zw292) rfl rfl rfl zw259 zw294 zw293 zw295 hdX0_isDigitPlace ⟨Nat.le_of_ble_eq_true rfl, Nat.le_of_ble_eq_true rfl⟩) (zpreV (zpre zC_ok hX hS (zfree hD hS hA) hP hK hD) (va_recv hK hP rfl (q0 := 0) rfl)) rfl rfl hl.1 rfl (lv_room (Nat.le_of_ble_eq_true rfl)) dX0_placeDigits_101 ⟨Nat.zero_le _, Nat.zero_le _⟩) hS (zfree hD hS hA) (fun H locs hP hD hS => ?_)
    refine lv_istore_n (lv' := [(3, .int q3), (0, .ref aE), (1, .int x1), (2, .int x2)]) hx hb dX0_placeDigits_104 rfl hl (by decide) rfl (fun ls hl => ?_)
    refine lv_iload_n hx hb dX0_placeDigits_105 rfl (lv_at hl 2 rfl) ?_
    refine lv_iload_n hx hb dX0_placeDigits_106 rfl (lv_at hl 0 rfl) ?_
    refine lv_if_eq (tgt := 114) hx hb dX0_placeDigits_107 rfl (fun cd4 => ?_) (fun cd4 => ?_)
    · replace hm := zt cd4 hm
      refine lv_iconst (v := 0) hx hb dX0_placeDigits_114 (by decide) ?_
      exact b_E_placeDigits_115 G0 hK hX rec hrec _ _ _ _ _ _ hm H _ _ hP hD hS (lv_sub hl [1, 3, 0] rfl)
    · replace hm := zf cd4 hm
      refine lv_iconst (v := 1) hx hb dX0_placeDigits_110 (by decide) ?_
      refine lv_goto (tgt := 115) hx hb dX0_placeDigits_111 rfl ?_
      exact b_E_placeDigits_115 G0 hK hX rec hrec _ _ _ _ _ _ hm H _ _ hP hD hS (lv_sub hl [1, 3, 0] rfl)
set_option maxRecDepth 100000 in
set_option maxHeartbeats 4000000 in
theorem b_E_placeDigits_75 (G : zG p s m args meth c cX0_placeDigits RX0 4 none) (hK : va_K D vwCl (wE_t c1 c2 c3) s) (hX : zC (va_A w0 s.heap.size) s) {res : (Nat → Int32) × (Nat → Int32)} (rec : Int32 → (Nat → Int32) → (Nat → Int32) → Option ((Nat → Int32) × (Nat → Int32))) (hrec : ∀ (x1 : Int32) (v : Nat → Int32) (pw : Nat → Int32), rec x1 v pw = some res → zB p l e (zR 3 61) s m args below meth c D vwCl (va_A w0 s.heap.size) (MQ below (zQv D vwCl w0 (wE aE bE rE pE c1 c2 c3 res.1 b rw res.2) s.heap.size) args s 0 0 (va_A w0 s.heap.size)) 4 (wE aE bE rE pE c1 c2 c3 v b rw pw) [(0, .ref aE), (1, .int x1)] 15 []) : ∀ (x1 : Int32) (v : Nat → Int32) (pw : Nat → Int32), m_E_placeDigits_75 b rw rec x1 v pw = some res → zB p l e (zR 3 61) s m args below meth c D vwCl (va_A w0 s.heap.size) (MQ below (zQv D vwCl w0 (wE aE bE rE pE c1 c2 c3 res.1 b rw res.2) s.heap.size) args s 0 0 (va_A w0 s.heap.size)) 4 (wE aE bE rE pE c1 c2 c3 v b rw pw) [(0, .ref aE), (1, .int x1)] 75 [] := by
  intro x1 v pw hm H locs ls hP hD hS hl
  unfold m_E_placeDigits_75 at hm
  have G0 := G
  obtain ⟨hx, hb, hr, hml, hown, hw, hlk⟩ := G
  have hA : ∀ q, s.heap.size ≤ q → va_A w0 s.heap.size q := fun q h => Or.inr h
  refine lv_iinc (k := 1) (v := (x1 + 1)) (lv' := [(1, .int (x1 + 1)), (0, .ref aE)]) hx hb dX0_placeDigits_75 hl rfl rfl (by decide) rfl (fun ls hl => ?_)
  refine lv_goto (tgt := 15) hx hb dX0_placeDigits_78 rfl ?_
  exact hrec _ _ _ hm H _ _ hP hD hS (lv_sub hl [1, 0] rfl)
set_option maxRecDepth 100000 in
set_option maxHeartbeats 4000000 in
theorem b_E_placeDigits_71 (G : zG p s m args meth c cX0_placeDigits RX0 4 none) (hK : va_K D vwCl (wE_t c1 c2 c3) s) (hX : zC (va_A w0 s.heap.size) s) {res : (Nat → Int32) × (Nat → Int32)} (rec : Int32 → (Nat → Int32) → (Nat → Int32) → Option ((Nat → Int32) × (Nat → Int32))) (hrec : ∀ (x1 : Int32) (v : Nat → Int32) (pw : Nat → Int32), rec x1 v pw = some res → zB p l e (zR 3 61) s m args below meth c D vwCl (va_A w0 s.heap.size) (MQ below (zQv D vwCl w0 (wE aE bE rE pE c1 c2 c3 res.1 b rw res.2) s.heap.size) args s 0 0 (va_A w0 s.heap.size)) 4 (wE aE bE rE pE c1 c2 c3 v b rw pw) [(0, .ref aE), (1, .int x1)] 15 []) : ∀ (x1 : Int32) (t0 : Int32) (t1 : Int32) (v : Nat → Int32) (pw : Nat → Int32), m_E_placeDigits_71 b rw rec x1 t0 t1 v pw = some res → zB p l e (zR 3 61) s m args below meth c D vwCl (va_A w0 s.heap.size) (MQ below (zQv D vwCl w0 (wE aE bE rE pE c1 c2 c3 res.1 b rw res.2) s.heap.size) args s 0 0 (va_A w0 s.heap.size)) 4 (wE aE bE rE pE c1 c2 c3 v b rw pw) [(0, .ref aE), (1, .int x1)] 71 [.int t0, .int t1, .ref aE] := by
  intro x1 t0 t1 v pw hm H locs ls hP hD hS hl
  unfold m_E_placeDigits_71 at hm
  have G0 := G
  obtain ⟨hx, hb, hr, hml, hown, hw, hlk⟩ := G
  have hA : ∀ q, s.heap.size ≤ q → va_A w0 s.heap.size q := fun q h => Or.inr h
  refine lv_iadd hx hb dX0_placeDigits_71 ?_
  refine va_put (D := D) (ci := 0) (v := .int (t1 + t0)) (ty := .int) (C := RX0) (T := TX0) (N := 16) hx hb hw zinX0 tyX0 tyX0_ok nmX0 hown hK hP hD hS 0 rfl rfl 3 (by decide) (hw _ zw291) (fun x9 h9 => u_same (hw _ zw290) x9 h9) rfl (by decide +kernel) rfl rfl (Nat.le_of_ble_eq_true rfl) dX0_placeDigits_72 (fun H locs hP hD hS => ?_)
  have hP : va_P D vwCl (wE aE bE rE pE c1 c2 c3 (upd v 3 (t1 + t0)) b rw pw) H := hP
  have hD : va_D _ (wE aE bE rE pE c1 c2 c3 (upd v 3 (t1 + t0)) b rw pw) := hD
  exact b_E_placeDigits_75 G0 hK hX rec hrec _ _ _ hm H _ _ hP hD hS hl
set_option maxRecDepth 100000 in
set_option maxHeartbeats 4000000 in
theorem b_E_placeDigits_49 (G : zG p s m args meth c cX0_placeDigits RX0 4 none) (hK : va_K D vwCl (wE_t c1 c2 c3) s) (hX : zC (va_A w0 s.heap.size) s) {res : (Nat → Int32) × (Nat → Int32)} (rec : Int32 → (Nat → Int32) → (Nat → Int32) → Option ((Nat → Int32) × (Nat → Int32))) (hrec : ∀ (x1 : Int32) (v : Nat → Int32) (pw : Nat → Int32), rec x1 v pw = some res → zB p l e (zR 3 61) s m args below meth c D vwCl (va_A w0 s.heap.size) (MQ below (zQv D vwCl w0 (wE aE bE rE pE c1 c2 c3 res.1 b rw res.2) s.heap.size) args s 0 0 (va_A w0 s.heap.size)) 4 (wE aE bE rE pE c1 c2 c3 v b rw pw) [(0, .ref aE), (1, .int x1)] 15 []) : ∀ (x1 : Int32) (t0 : Int32) (t1 : Int32) (v : Nat → Int32) (pw : Nat → Int32), m_E_placeDigits_49 b rw rec x1 t0 t1 v pw = some res → zB p l e (zR 3 61) s m args below meth c D vwCl (va_A w0 s.heap.size) (MQ below (zQv D vwCl w0 (wE aE bE rE pE c1 c2 c3 res.1 b rw res.2) s.heap.size) args s 0 0 (va_A w0 s.heap.size)) 4 (wE aE bE rE pE c1 c2 c3 v b rw pw) [(0, .ref aE), (1, .int x1)] 49 [.int t0, .int t1, .ref aE] := by
  intro x1 t0 t1 v pw hm H locs ls hP hD hS hl
  unfold m_E_placeDigits_49 at hm
  have G0 := G
  obtain ⟨hx, hb, hr, hml, hown, hw, hlk⟩ := G
  have hA : ∀ q, s.heap.size ≤ q → va_A w0 s.heap.size q := fun q h => Or.inr h
  refine lv_iadd hx hb dX0_placeDigits_49 ?_
  refine va_put (D := D) (ci := 0) (v := .int (t1 + t0)) (ty := .int) (C := RX0) (T := TX0) (N := 16) hx hb hw zinX0 tyX0 tyX0_ok nmX0 hown hK hP hD hS 0 rfl rfl 2 (by decide) (hw _ zw289) (fun x9 h9 => u_same (hw _ zw288) x9 h9) rfl (by decide +kernel) rfl rfl (Nat.le_of_ble_eq_true rfl) dX0_placeDigits_50 (fun H locs hP hD hS => ?_)
  have hP : va_P D vwCl (wE aE bE rE pE c1 c2 c3 (upd v 2 (t1 + t0)) b rw pw) H := hP
  have hD : va_D _ (wE aE bE rE pE c1 c2 c3 (upd v 2 (t1 + t0)) b rw pw) := hD
  refine lv_aload_n hx hb dX0_placeDigits_53 rfl (lv_at hl 0 rfl) ?_
  refine lv_dup hx hb dX0_placeDigits_54 rfl ?_
  refine va_get (D := D) (ci := 0) (v := .int ((upd v 2 (t1 + t0)) 3)) (C := RX0) (T := TX0) (N := 16) hx hb hw zinX0 hown hK hP 0 rfl rfl 3 (by decide) (hw _ zw291) (fun x9 h9 => u_same (hw _ zw290) x9 h9) rfl dX0_placeDigits_55 ?_
  refine lv_iload_n hx hb dX0_placeDigits_58 rfl (lv_at hl 1 rfl) ?_
  refine lv_aload_n hx hb dX0_placeDigits_59 rfl (lv_at hl 0 rfl) ?_
  refine va_get (D := D) (ci := 0) (v := .int ((upd v 2 (t1 + t0)) 15)) (C := RX0) (T := TX0) (N := 16) hx hb hw zinX0 hown hK hP 0 rfl rfl 15 (by decide) (hw _ zw278) (fun _ h9 => h9) rfl dX0_placeDigits_60 ?_
  refine lv_icmp_le (tgt := 70) hx hb dX0_placeDigits_63 rfl (fun cd10 => ?_) (fun cd10 => ?_)
  · replace hm := zt cd10 hm
    refine lv_iconst (v := 0) hx hb dX0_placeDigits_70 (by decide) ?_
    exact b_E_placeDigits_71 G0 hK hX rec hrec _ _ _ _ _ hm H _ _ hP hD hS hl
  · replace hm := zf cd10 hm
    refine lv_iconst (v := 1) hx hb dX0_placeDigits_66 (by decide) ?_
    refine lv_goto (tgt := 71) hx hb dX0_placeDigits_67 rfl ?_
    exact b_E_placeDigits_71 G0 hK hX rec hrec _ _ _ _ _ hm H _ _ hP hD hS hl
set_option maxRecDepth 100000 in
set_option maxHeartbeats 4000000 in
theorem b_E_placeDigits_15 (G : zG p s m args meth c cX0_placeDigits RX0 4 none) (hK : va_K D vwCl (wE_t c1 c2 c3) s) (hX : zC (va_A w0 s.heap.size) s) {res : (Nat → Int32) × (Nat → Int32)} : ∀ n : Nat, ∀ (x1 : Int32) (v : Nat → Int32) (pw : Nat → Int32), m_E_placeDigits_15 b rw n x1 v pw = some res → zB p l e (zR 3 61) s m args below meth c D vwCl (va_A w0 s.heap.size) (MQ below (zQv D vwCl w0 (wE aE bE rE pE c1 c2 c3 res.1 b rw res.2) s.heap.size) args s 0 0 (va_A w0 s.heap.size)) 4 (wE aE bE rE pE c1 c2 c3 v b rw pw) [(0, .ref aE), (1, .int x1)] 15 [] := by
  intro n
  induction n with
  | zero => intro x1 v pw hm; cases hm
  | succ n ih =>
  have hrec := ih
  intro x1 v pw hm H locs ls hP hD hS hl
  replace hm : m_E_placeDigits_15b b rw (m_E_placeDigits_15 b rw n) x1 v pw = some res := hm
  generalize m_E_placeDigits_15 b rw n = rec at hm hrec
  unfold m_E_placeDigits_15b at hm
  clear ih
  have G0 := G
  obtain ⟨hx, hb, hr, hml, hown, hw, hlk⟩ := G
  have hA : ∀ q, s.heap.size ≤ q → va_A w0 s.heap.size q := fun q h => Or.inr h
  refine lv_iload_n hx hb dX0_placeDigits_15 rfl (lv_at hl 1 rfl) ?_
  refine lv_aload_n hx hb dX0_placeDigits_16 rfl (lv_at hl 0 rfl) ?_
  refine va_get (D := D) (ci := 0) (v := .int (v 10)) (C := RX0) (T := TX0) (N := 16) hx hb hw zinX0 hown hK hP 0 rfl rfl 10 (by decide) (hw _ zw255) (fun _ h9 => h9) rfl dX0_placeDigits_17 ?_
  refine lv_icmp_ge (tgt := 81) hx hb dX0_placeDigits_20 rfl (fun cd1 => ?_) (fun cd1 => ?_)
  · replace hm := zt cd1 hm
    refine lv_aload_n hx hb dX0_placeDigits_81 rfl (lv_at hl 0 rfl) ?_
    refine va_get (D := D) (ci := 0) (v := .int (v 2)) (C := RX0) (T := TX0) (N := 16) hx hb hw zinX0 hown hK hP 0 rfl rfl 2 (by decide) (hw _ zw289) (fun x9 h9 => u_same (hw _ zw288) x9 h9) rfl dX0_placeDigits_82 ?_
    refine lv_istore_n (lv' := [(1, .int (v 2)), (0, .ref aE)]) hx hb dX0_placeDigits_85 rfl hl (by decide) rfl (fun ls hl => ?_)
    refine lv_aload_n hx hb dX0_placeDigits_86 rfl (lv_at hl 1 rfl) ?_
    refine va_get (D := D) (ci := 0) (v := .int (v 9)) (C := RX0) (T := TX0) (N := 16) hx hb hw zinX0 hown hK hP 0 rfl rfl 9 (by decide) (hw _ zw254) (fun _ h9 => h9) rfl dX0_placeDigits_87 ?_
    refine lv_istore_n (lv' := [(2, .int (v 9)), (1, .int (v 2)), (0, .ref aE)]) hx hb dX0_placeDigits_90 rfl hl (by decide) rfl (fun ls hl => ?_)
    exact b_E_placeDigits_91 G0 hK hX 64 _ _ _ _ hm H _ _ hP hD hS (lv_sub hl [2, 1, 0] rfl)
  · replace hm := zf cd1 hm
    refine lv_aload_n hx hb dX0_placeDigits_23 rfl (lv_at hl 0 rfl) ?_
    refine lv_iload_n hx hb dX0_placeDigits_24 rfl (lv_at hl 1 rfl) ?_
    obtain ⟨q7, hq7, hm⟩ := zbind hm
    refine zbWi (va_runV (As := [.int x1]) (rest := []) ⟨hx, hb, hml, hown, hw⟩ (k_E_isDigitPlace l D aE bE rE pE c1 c2 c3 _ x1 v b rw pw  q7 hq7) (zcV (C := RX0) 1 hw (zgood zw292) rfl rfl rfl zw259 zw294 zw293 zw295 hdX0_isDigitPlace ⟨Nat.le_of_ble_eq_true rfl, Nat.le_of_ble_eq_true rfl⟩) (zpreV (zpre zC_ok hX hS (zfree hD hS hA) hP hK hD) (va_recv hK hP rfl (q0 := 0) rfl)) rfl rfl hl.1 rfl (lv_room (Nat.le_of_ble_eq_true rfl)) dX0_placeDigits_25 ⟨Nat.zero_le _, Nat.zero_le _⟩) hS (zfree hD hS hA) (fun H locs hP hD hS => ?_)
    refine lv_if_eq (tgt := 75) hx hb dX0_placeDigits_28 rfl (fun cd8 => ?_) (fun cd8 => ?_)
    · replace hm := zt cd8 hm
      exact b_E_placeDigits_75 G0 hK hX rec hrec _ _ _ hm H _ _ hP hD hS hl
    · replace hm := zf cd8 hm
      refine lv_aload_n hx hb dX0_placeDigits_31 rfl (lv_at hl 0 rfl) ?_
      refine lv_dup hx hb dX0_placeDigits_32 rfl ?_
      refine va_get (D := D) (ci := 0) (v := .int (v 2)) (C := RX0) (T := TX0) (N := 16) hx hb hw zinX0 hown hK hP 0 rfl rfl 2 (by decide) (hw _ zw289) (fun x9 h9 => u_same (hw _ zw288) x9 h9) rfl dX0_placeDigits_33 ?_
      refine lv_iload_n hx hb dX0_placeDigits_36 rfl (lv_at hl 1 rfl) ?_
      refine lv_aload_n hx hb dX0_placeDigits_37 rfl (lv_at hl 0 rfl) ?_
      refine va_get (D := D) (ci := 0) (v := .int (v 15)) (C := RX0) (T := TX0) (N := 16) hx hb hw zinX0 hown hK hP 0 rfl rfl 15 (by decide) (hw _ zw278) (fun _ h9 => h9) rfl dX0_placeDigits_38 ?_
      refine lv_icmp_ge (tgt := 48) hx hb dX0_placeDigits_41 rfl (fun cd9 => ?_) (fun cd9 => ?_)
      · replace hm := zt cd9 hm
        refine lv_iconst (v := 0) hx hb dX0_placeDigits_48 (by decide) ?_
        exact b_E_placeDigits_49 G0 hK hX rec hrec _ _ _ _ _ hm H _ _ hP hD hS hl
      · replace hm := zf cd9 hm
        refine lv_iconst (v := 1) hx hb dX0_placeDigits_44 (by decide) ?_
        refine lv_goto (tgt := 49) hx hb dX0_placeDigits_45 rfl ?_
        exact b_E_placeDigits_49 G0 hK hX rec hrec _ _ _ _ _ hm H _ _ hP hD hS hl
end
set_option maxRecDepth 100000 in
set_option maxHeartbeats 4000000 in
theorem k_E_placeDigits (l : Launch) (D : va_G) (aE bE rE pE : Nat) (c1 c2 c3 : ClassId) (sz : Nat)  (v : Nat → Int32) (b : Nat → Int32) (rw : Nat → Int32) (pw : Nat → Int32) (res : (Nat → Int32) × (Nat → Int32)) (hm : m_E_placeDigits  v b rw pw  = some res) : Met l yX0_placeDigits (Cond.code yX0_placeDigits cX0_placeDigits 4 none :: zBIG) (zR 3 61) (va_Pc [.ref aE] (zP zC D vwCl (wE_t c1 c2 c3) (wE aE bE rE pE c1 c2 c3 v b rw pw) sz)) (zQv D vwCl (wE aE bE rE pE c1 c2 c3 v b rw pw) (wE aE bE rE pE c1 c2 c3 res.1 b rw res.2) sz) 0 0 (va_A (wE aE bE rE pE c1 c2 c3 v b rw pw) sz) := by
  refine zEnter RX0 [.ref aE] (by decide) rfl (Nat.le_of_ble_eq_true rfl) (fun p e s m below meth c ls G hK hX hP hD hsz hl => ?_)
  subst hsz
  unfold m_E_placeDigits at hm
  have hl : lv_has ls 4 [(0, .ref aE)] := hl
  have hS : va_S (va_A (wE aE bE rE pE c1 c2 c3 v b rw pw) s.heap.size) s.heap s.heap [] := va_S.rf
  have hA : ∀ q, s.heap.size ≤ q → va_A (wE aE bE rE pE c1 c2 c3 v b rw pw) s.heap.size q := fun q h => Or.inr h
  have G0 := G
  obtain ⟨hx, hb, hr, hml, hown, hw, hlk⟩ := G
  refine lv_aload_n hx hb dX0_placeDigits_0 rfl (lv_at hl 0 rfl) ?_
  refine lv_iconst (v := 0) hx hb dX0_placeDigits_1 (by decide) ?_
  refine va_put (D := D) (ci := 0) (v := .int 0) (ty := .int) (C := RX0) (T := TX0) (N := 16) hx hb hw zinX0 tyX0 tyX0_ok nmX0 hown hK hP hD hS 0 rfl rfl 2 (by decide) (hw _ zw289) (fun x9 h9 => u_same (hw _ zw288) x9 h9) rfl (by decide +kernel) rfl rfl (Nat.le_of_ble_eq_true rfl) dX0_placeDigits_2 (fun H locs hP hD hS => ?_)
  have hP : va_P D vwCl (wE aE bE rE pE c1 c2 c3 (upd v 2 0) b rw pw) H := hP
  have hD : va_D _ (wE aE bE rE pE c1 c2 c3 (upd v 2 0) b rw pw) := hD
  refine lv_aload_n hx hb dX0_placeDigits_5 rfl (lv_at hl 0 rfl) ?_
  refine lv_iconst (v := 0) hx hb dX0_placeDigits_6 (by decide) ?_
  refine va_put (D := D) (ci := 0) (v := .int 0) (ty := .int) (C := RX0) (T := TX0) (N := 16) hx hb hw zinX0 tyX0 tyX0_ok nmX0 hown hK hP hD hS 0 rfl rfl 3 (by decide) (hw _ zw291) (fun x9 h9 => u_same (hw _ zw290) x9 h9) rfl (by decide +kernel) rfl rfl (Nat.le_of_ble_eq_true rfl) dX0_placeDigits_7 (fun H locs hP hD hS => ?_)
  have hP : va_P D vwCl (wE aE bE rE pE c1 c2 c3 (upd (upd v 2 0) 3 0) b rw pw) H := hP
  have hD : va_D _ (wE aE bE rE pE c1 c2 c3 (upd (upd v 2 0) 3 0) b rw pw) := hD
  refine lv_aload_n hx hb dX0_placeDigits_10 rfl (lv_at hl 0 rfl) ?_
  refine va_get (D := D) (ci := 0) (v := .int ((upd (upd v 2 0) 3 0) 9)) (C := RX0) (T := TX0) (N := 16) hx hb hw zinX0 hown hK hP 0 rfl rfl 9 (by decide) (hw _ zw254) (fun _ h9 => h9) rfl dX0_placeDigits_11 ?_
  refine lv_istore_n (lv' := [(1, .int ((upd (upd v 2 0) 3 0) 9)), (0, .ref aE)]) hx hb dX0_placeDigits_14 rfl hl (by decide) rfl (fun ls hl => ?_)
  exact b_E_placeDigits_15 G0 hK hX 64 _ _ _ hm _ _ _ hP hD hS (lv_sub hl [1, 0] rfl)

theorem dX0_isLetterSign_0 : decode cX0_isLetterSign 0 = .ok (.aload_n 0, 1) := by decide +kernel
theorem dX0_isLetterSign_1 : decode cX0_isLetterSign 1 = .ok (.getfield 51, 3) := by decide +kernel
theorem dX0_isLetterSign_4 : decode cX0_isLetterSign 4 = .ok (.bipush 67, 2) := by decide +kernel
theorem dX0_isLetterSign_6 : decode cX0_isLetterSign 6 = .ok (.if_icmp .eq 12, 3) := by decide +kernel
theorem dX0_isLetterSign_9 : decode cX0_isLetterSign 9 = .ok (.aload_n 0, 1) := by decide +kernel
theorem dX0_isLetterSign_10 : decode cX0_isLetterSign 10 = .ok (.getfield 51, 3) := by decide +kernel
theorem dX0_isLetterSign_13 : decode cX0_isLetterSign 13 = .ok (.bipush 68, 2) := by decide +kernel
theorem dX0_isLetterSign_15 : decode cX0_isLetterSign 15 = .ok (.if_icmp .ne 7, 3) := by decide +kernel
theorem dX0_isLetterSign_18 : decode cX0_isLetterSign 18 = .ok (.iconst 1, 1) := by decide +kernel
theorem dX0_isLetterSign_19 : decode cX0_isLetterSign 19 = .ok (.goto 4, 3) := by decide +kernel
theorem dX0_isLetterSign_22 : decode cX0_isLetterSign 22 = .ok (.iconst 0, 1) := by decide +kernel
theorem dX0_isLetterSign_23 : decode cX0_isLetterSign 23 = .ok (.ireturn, 1) := by decide +kernel
def m_E_isLetterSign_18 (v : Nat → Int32) (b : Nat → Int32) (rw : Nat → Int32) (pw : Nat → Int32)   : Option ((Int32)) := (zbo 1 (some 1))
def m_E_isLetterSign  (v : Nat → Int32) (b : Nat → Int32) (rw : Nat → Int32) (pw : Nat → Int32)  : Option ((Int32)) := (if (v 8) = 67 then m_E_isLetterSign_18 v b rw pw  else (if (v 8) = 68 then m_E_isLetterSign_18 v b rw pw  else (zbo 0 (some 0))))
section
variable {p : Program} {l : Launch} {e : Env} {s : State} {m : MethodId} {args : Array Value} {below : List Frame} {meth : Method} {c : Code} {D : va_G} {w0 : va_W} {aE bE rE pE : Nat} {c1 c2 c3 : ClassId} {v : Nat → Int32} {b : Nat → Int32} {rw : Nat → Int32} {pw : Nat → Int32}
set_option maxRecDepth 100000 in
set_option maxHeartbeats 4000000 in
theorem b_E_isLetterSign_18 (G : zG p s m args meth c cX0_isLetterSign RX0 1 (some .boolean)) (hK : va_K D vwCl (wE_t c1 c2 c3) s) (hX : zC (va_A w0 s.heap.size) s) {res : (Int32)} : m_E_isLetterSign_18 v b rw pw  = some res → zB p l e (zR 0 0) s m args below meth c D vwCl (va_A w0 s.heap.size) (MQ below (zQi D vwCl w0 (wE aE bE rE pE c1 c2 c3 v b rw pw) s.heap.size res) args s 0 0 (va_A w0 s.heap.size)) 1 (wE aE bE rE pE c1 c2 c3 v b rw pw) [] 18 [] := by
  intro  hm H locs ls hP hD hS hl
  unfold m_E_isLetterSign_18 at hm
  have G0 := G
  obtain ⟨hx, hb, hr, hml, hown, hw, hlk⟩ := G
  have hA : ∀ q, s.heap.size ≤ q → va_A w0 s.heap.size q := fun q h => Or.inr h
  refine lv_iconst (v := 1) hx hb dX0_isLetterSign_18 (by decide) ?_
  refine lv_goto (tgt := 23) hx hb dX0_isLetterSign_19 rfl ?_
  obtain ⟨hz2, -, hm⟩ := zbo_s hm
  cases hm
  exact zretz hx hb hr hlk hz2 hP hD hS dX0_isLetterSign_23
end
set_option maxRecDepth 100000 in
set_option maxHeartbeats 4000000 in
theorem k_E_isLetterSign (l : Launch) (D : va_G) (aE bE rE pE : Nat) (c1 c2 c3 : ClassId) (sz : Nat)  (v : Nat → Int32) (b : Nat → Int32) (rw : Nat → Int32) (pw : Nat → Int32) (res : (Int32)) (hm : m_E_isLetterSign  v b rw pw  = some res) : Met l yX0_isLetterSign (Cond.code yX0_isLetterSign cX0_isLetterSign 1 (some .boolean) :: zBIG) (zR 0 0) (va_Pc [.ref aE] (zP zC D vwCl (wE_t c1 c2 c3) (wE aE bE rE pE c1 c2 c3 v b rw pw) sz)) (zQi D vwCl (wE aE bE rE pE c1 c2 c3 v b rw pw) (wE aE bE rE pE c1 c2 c3 v b rw pw) sz res) 0 0 (va_A (wE aE bE rE pE c1 c2 c3 v b rw pw) sz) := by
  refine zEnter RX0 [.ref aE] (by decide) rfl (Nat.le_of_ble_eq_true rfl) (fun p e s m below meth c ls G hK hX hP hD hsz hl => ?_)
  subst hsz
  unfold m_E_isLetterSign at hm
  have hl : lv_has ls 1 [(0, .ref aE)] := hl
  have hS : va_S (va_A (wE aE bE rE pE c1 c2 c3 v b rw pw) s.heap.size) s.heap s.heap [] := va_S.rf
  have hA : ∀ q, s.heap.size ≤ q → va_A (wE aE bE rE pE c1 c2 c3 v b rw pw) s.heap.size q := fun q h => Or.inr h
  have G0 := G
  obtain ⟨hx, hb, hr, hml, hown, hw, hlk⟩ := G
  refine lv_aload_n hx hb dX0_isLetterSign_0 rfl (lv_at hl 0 rfl) ?_
  refine va_get (D := D) (ci := 0) (v := .int (v 8)) (C := RX0) (T := TX0) (N := 16) hx hb hw zinX0 hown hK hP 0 rfl rfl 8 (by decide) (hw _ zw257) (fun _ h9 => h9) rfl dX0_isLetterSign_1 ?_
  refine lv_bipush (v := 67) hx hb dX0_isLetterSign_4 (by decide) ?_
  refine lv_icmp_eq (tgt := 18) hx hb dX0_isLetterSign_6 rfl (fun cd1 => ?_) (fun cd1 => ?_)
  · replace hm := zt cd1 hm
    exact b_E_isLetterSign_18 G0 hK hX  hm _ _ _ hP hD hS (lv_sub hl [] rfl)
  · replace hm := zf cd1 hm
    refine lv_aload_n hx hb dX0_isLetterSign_9 rfl (lv_at hl 0 rfl) ?_
    refine va_get (D := D) (ci := 0) (v := .int (v 8)) (C := RX0) (T := TX0) (N := 16) hx hb hw zinX0 hown hK hP 0 rfl rfl 8 (by decide) (hw _ zw257) (fun _ h9 => h9) rfl dX0_isLetterSign_10 ?_
    refine lv_bipush (v := 68) hx hb dX0_isLetterSign_13 (by decide) ?_
    refine lv_icmp_ne (tgt := 22) hx hb dX0_isLetterSign_15 rfl (fun cd3 => ?_) (fun cd3 => ?_)
    · replace hm := zf cd3 hm
      refine lv_iconst (v := 0) hx hb dX0_isLetterSign_22 (by decide) ?_
      obtain ⟨hz4, -, hm⟩ := zbo_s hm
      cases hm
      exact zretz hx hb hr hlk hz4 hP hD hS dX0_isLetterSign_23
    · replace hm := zt cd3 hm
      exact b_E_isLetterSign_18 G0 hK hX  hm _ _ _ hP hD hS (lv_sub hl [] rfl)

theorem dX0_hasHiddenPoint_0 : decode cX0_hasHiddenPoint 0 = .ok (.aload_n 0, 1) := by decide +kernel
theorem dX0_hasHiddenPoint_1 : decode cX0_hasHiddenPoint 1 = .ok (.getfield 102, 3) := by decide +kernel
theorem dX0_hasHiddenPoint_4 : decode cX0_hasHiddenPoint 4 = .ok (.aload_n 0, 1) := by decide +kernel
theorem dX0_hasHiddenPoint_5 : decode cX0_hasHiddenPoint 5 = .ok (.getfield 83, 3) := by decide +kernel
theorem dX0_hasHiddenPoint_8 : decode cX0_hasHiddenPoint 8 = .ok (.if_icmp .ge 21, 3) := by decide +kernel
theorem dX0_hasHiddenPoint_11 : decode cX0_hasHiddenPoint 11 = .ok (.aload_n 0, 1) := by decide +kernel
theorem dX0_hasHiddenPoint_12 : decode cX0_hasHiddenPoint 12 = .ok (.getfield 9, 3) := by decide +kernel
theorem dX0_hasHiddenPoint_15 : decode cX0_hasHiddenPoint 15 = .ok (.aload_n 0, 1) := by decide +kernel
theorem dX0_hasHiddenPoint_16 : decode cX0_hasHiddenPoint 16 = .ok (.getfield 102, 3) := by decide +kernel
theorem dX0_hasHiddenPoint_19 : decode cX0_hasHiddenPoint 19 = .ok (.iaload, 1) := by decide +kernel
theorem dX0_hasHiddenPoint_20 : decode cX0_hasHiddenPoint 20 = .ok (.bipush 86, 2) := by decide +kernel
theorem dX0_hasHiddenPoint_22 : decode cX0_hasHiddenPoint 22 = .ok (.if_icmp .ne 7, 3) := by decide +kernel
theorem dX0_hasHiddenPoint_25 : decode cX0_hasHiddenPoint 25 = .ok (.iconst 1, 1) := by decide +kernel
theorem dX0_hasHiddenPoint_26 : decode cX0_hasHiddenPoint 26 = .ok (.goto 4, 3) := by decide +kernel
theorem dX0_hasHiddenPoint_29 : decode cX0_hasHiddenPoint 29 = .ok (.iconst 0, 1) := by decide +kernel
theorem dX0_hasHiddenPoint_30 : decode cX0_hasHiddenPoint 30 = .ok (.ireturn, 1) := by decide +kernel
def m_E_hasHiddenPoint  (v : Nat → Int32) (b : Nat → Int32) (rw : Nat → Int32) (pw : Nat → Int32)  : Option ((Int32)) := (if (v 10) ≤ (v 15) then (zbo 0 (some 0)) else zix (v 15) 24 ((if (rw (v 15).toNatClampNeg) = 86 then (zbo 1 (some 1)) else (zbo 0 (some 0)))))
section
variable {p : Program} {l : Launch} {e : Env} {s : State} {m : MethodId} {args : Array Value} {below : List Frame} {meth : Method} {c : Code} {D : va_G} {w0 : va_W} {aE bE rE pE : Nat} {c1 c2 c3 : ClassId} {v : Nat → Int32} {b : Nat → Int32} {rw : Nat → Int32} {pw : Nat → Int32}
end
set_option maxRecDepth 100000 in
set_option maxHeartbeats 4000000 in
theorem k_E_hasHiddenPoint (l : Launch) (D : va_G) (aE bE rE pE : Nat) (c1 c2 c3 : ClassId) (sz : Nat)  (v : Nat → Int32) (b : Nat → Int32) (rw : Nat → Int32) (pw : Nat → Int32) (res : (Int32)) (hm : m_E_hasHiddenPoint  v b rw pw  = some res) : Met l yX0_hasHiddenPoint (Cond.code yX0_hasHiddenPoint cX0_hasHiddenPoint 1 (some .boolean) :: zBIG) (zR 0 0) (va_Pc [.ref aE] (zP zC D vwCl (wE_t c1 c2 c3) (wE aE bE rE pE c1 c2 c3 v b rw pw) sz)) (zQi D vwCl (wE aE bE rE pE c1 c2 c3 v b rw pw) (wE aE bE rE pE c1 c2 c3 v b rw pw) sz res) 0 0 (va_A (wE aE bE rE pE c1 c2 c3 v b rw pw) sz) := by
  refine zEnter RX0 [.ref aE] (by decide) rfl (Nat.le_of_ble_eq_true rfl) (fun p e s m below meth c ls G hK hX hP hD hsz hl => ?_)
  subst hsz
  unfold m_E_hasHiddenPoint at hm
  have hl : lv_has ls 1 [(0, .ref aE)] := hl
  have hS : va_S (va_A (wE aE bE rE pE c1 c2 c3 v b rw pw) s.heap.size) s.heap s.heap [] := va_S.rf
  have hA : ∀ q, s.heap.size ≤ q → va_A (wE aE bE rE pE c1 c2 c3 v b rw pw) s.heap.size q := fun q h => Or.inr h
  have G0 := G
  obtain ⟨hx, hb, hr, hml, hown, hw, hlk⟩ := G
  refine lv_aload_n hx hb dX0_hasHiddenPoint_0 rfl (lv_at hl 0 rfl) ?_
  refine va_get (D := D) (ci := 0) (v := .int (v 15)) (C := RX0) (T := TX0) (N := 16) hx hb hw zinX0 hown hK hP 0 rfl rfl 15 (by decide) (hw _ zw278) (fun _ h9 => h9) rfl dX0_hasHiddenPoint_1 ?_
  refine lv_aload_n hx hb dX0_hasHiddenPoint_4 rfl (lv_at hl 0 rfl) ?_
  refine va_get (D := D) (ci := 0) (v := .int (v 10)) (C := RX0) (T := TX0) (N := 16) hx hb hw zinX0 hown hK hP 0 rfl rfl 10 (by decide) (hw _ zw255) (fun _ h9 => h9) rfl dX0_hasHiddenPoint_5 ?_
  refine lv_icmp_ge (tgt := 29) hx hb dX0_hasHiddenPoint_8 rfl (fun cd1 => ?_) (fun cd1 => ?_)
  · replace hm := zt cd1 hm
    refine lv_iconst (v := 0) hx hb dX0_hasHiddenPoint_29 (by decide) ?_
    obtain ⟨hz2, -, hm⟩ := zbo_s hm
    cases hm
    exact zretz hx hb hr hlk hz2 hP hD hS dX0_hasHiddenPoint_30
  · replace hm := zf cd1 hm
    refine lv_aload_n hx hb dX0_hasHiddenPoint_11 rfl (lv_at hl 0 rfl) ?_
    refine va_get (D := D) (ci := 0) (v := .ref rE) (C := RX0) (T := TX0) (N := 16) hx hb hw zinX0 hown hK hP 0 rfl rfl 5 (by decide) (hw _ zw256) (fun _ h9 => h9) rfl dX0_hasHiddenPoint_12 ?_
    refine lv_aload_n hx hb dX0_hasHiddenPoint_15 rfl (lv_at hl 0 rfl) ?_
    refine va_get (D := D) (ci := 0) (v := .int (v 15)) (C := RX0) (T := TX0) (N := 16) hx hb hw zinX0 hown hK hP 0 rfl rfl 15 (by decide) (hw _ zw278) (fun _ h9 => h9) rfl dX0_hasHiddenPoint_16 ?_
    obtain ⟨hi3, hm⟩ := zix_s hm
    refine va_iald (i := (v 15)) (f := rw) (n := 24) hx hb hK hP 2 1 rfl rfl hi3 dX0_hasHiddenPoint_19 ?_
    refine lv_bipush (v := 86) hx hb dX0_hasHiddenPoint_20 (by decide) ?_
    refine lv_icmp_ne (tgt := 29) hx hb dX0_hasHiddenPoint_22 rfl (fun cd4 => ?_) (fun cd4 => ?_)
    · replace hm := zf cd4 hm
      refine lv_iconst (v := 0) hx hb dX0_hasHiddenPoint_29 (by decide) ?_
      obtain ⟨hz5, -, hm⟩ := zbo_s hm
      cases hm
      exact zretz hx hb hr hlk hz5 hP hD hS dX0_hasHiddenPoint_30
    · replace hm := zt cd4 hm
      refine lv_iconst (v := 1) hx hb dX0_hasHiddenPoint_25 (by decide) ?_
      refine lv_goto (tgt := 30) hx hb dX0_hasHiddenPoint_26 rfl ?_
      obtain ⟨hz6, -, hm⟩ := zbo_s hm
      cases hm
      exact zretz hx hb hr hlk hz6 hP hD hS dX0_hasHiddenPoint_30

theorem dX0_byteOf_0 : decode cX0_byteOf 0 = .ok (.iload_n 1, 1) := by decide +kernel
theorem dX0_byteOf_1 : decode cX0_byteOf 1 = .ok (.aload_n 0, 1) := by decide +kernel
theorem dX0_byteOf_2 : decode cX0_byteOf 2 = .ok (.getfield 102, 3) := by decide +kernel
theorem dX0_byteOf_5 : decode cX0_byteOf 5 = .ok (.if_icmp .le 16, 3) := by decide +kernel
theorem dX0_byteOf_8 : decode cX0_byteOf 8 = .ok (.aload_n 0, 1) := by decide +kernel
theorem dX0_byteOf_9 : decode cX0_byteOf 9 = .ok (.invokevirtual 65, 3) := by decide +kernel
theorem dX0_byteOf_12 : decode cX0_byteOf 12 = .ok (.ifCond .eq 9, 3) := by decide +kernel
theorem dX0_byteOf_15 : decode cX0_byteOf 15 = .ok (.iload_n 1, 1) := by decide +kernel
theorem dX0_byteOf_16 : decode cX0_byteOf 16 = .ok (.iconst 1, 1) := by decide +kernel
theorem dX0_byteOf_17 : decode cX0_byteOf 17 = .ok (.isub, 1) := by decide +kernel
theorem dX0_byteOf_18 : decode cX0_byteOf 18 = .ok (.goto 4, 3) := by decide +kernel
theorem dX0_byteOf_21 : decode cX0_byteOf 21 = .ok (.iload_n 1, 1) := by decide +kernel
theorem dX0_byteOf_22 : decode cX0_byteOf 22 = .ok (.ireturn, 1) := by decide +kernel
def m_E_byteOf (a0 : Int32) (v : Nat → Int32) (b : Nat → Int32) (rw : Nat → Int32) (pw : Nat → Int32)  : Option ((Int32)) := (if a0 ≤ (v 15) then (some a0) else (m_E_hasHiddenPoint v b rw pw).bind (fun q2 => (if q2 = 0 then (some a0) else (some (a0 - 1)))))
section
variable {p : Program} {l : Launch} {e : Env} {s : State} {m : MethodId} {args : Array Value} {below : List Frame} {meth : Method} {c : Code} {D : va_G} {w0 : va_W} {aE bE rE pE : Nat} {c1 c2 c3 : ClassId} {v : Nat → Int32} {b : Nat → Int32} {rw : Nat → Int32} {pw : Nat → Int32}
end
set_option maxRecDepth 100000 in
set_option maxHeartbeats 4000000 in
theorem k_E_byteOf (l : Launch) (D : va_G) (aE bE rE pE : Nat) (c1 c2 c3 : ClassId) (sz : Nat) (a0 : Int32) (v : Nat → Int32) (b : Nat → Int32) (rw : Nat → Int32) (pw : Nat → Int32) (res : (Int32)) (hm : m_E_byteOf a0 v b rw pw  = some res) : Met l yX0_byteOf (Cond.code yX0_byteOf cX0_byteOf 2 (some .int) :: zBIG) (zR 1 20) (va_Pc [.ref aE, .int a0] (zP zC D vwCl (wE_t c1 c2 c3) (wE aE bE rE pE c1 c2 c3 v b rw pw) sz)) (zQi D vwCl (wE aE bE rE pE c1 c2 c3 v b rw pw) (wE aE bE rE pE c1 c2 c3 v b rw pw) sz res) 0 0 (va_A (wE aE bE rE pE c1 c2 c3 v b rw pw) sz) := by
  refine zEnter RX0 [.ref aE, .int a0] (by decide) rfl (Nat.le_of_ble_eq_true rfl) (fun p e s m below meth c ls G hK hX hP hD hsz hl => ?_)
  subst hsz
  unfold m_E_byteOf at hm
  have hl : lv_has ls 2 [(0, .ref aE), (1, .int a0)] := hl
  have hS : va_S (va_A (wE aE bE rE pE c1 c2 c3 v b rw pw) s.heap.size) s.heap s.heap [] := va_S.rf
  have hA : ∀ q, s.heap.size ≤ q → va_A (wE aE bE rE pE c1 c2 c3 v b rw pw) s.heap.size q := fun q h => Or.inr h
  have G0 := G
  obtain ⟨hx, hb, hr, hml, hown, hw, hlk⟩ := G
  refine lv_iload_n hx hb dX0_byteOf_0 rfl (lv_at hl 1 rfl) ?_
  refine lv_aload_n hx hb dX0_byteOf_1 rfl (lv_at hl 0 rfl) ?_
  refine va_get (D := D) (ci := 0) (v := .int (v 15)) (C := RX0) (T := TX0) (N := 16) hx hb hw zinX0 hown hK hP 0 rfl rfl 15 (by decide) (hw _ zw278) (fun _ h9 => h9) rfl dX0_byteOf_2 ?_
  refine lv_icmp_le (tgt := 21) hx hb dX0_byteOf_5 rfl (fun cd1 => ?_) (fun cd1 => ?_)
  · replace hm := zt cd1 hm
    refine lv_iload_n hx hb dX0_byteOf_21 rfl (lv_at hl 1 rfl) ?_
    cases hm
    exact zreti hx hb hr hlk hP hD hS dX0_byteOf_22
  · replace hm := zf cd1 hm
    refine lv_aload_n hx hb dX0_byteOf_8 rfl (lv_at hl 0 rfl) ?_
    obtain ⟨q2, hq2, hm⟩ := zbind hm
    refine zbWi (va_runV (As := []) (rest := []) ⟨hx, hb, hml, hown, hw⟩ (k_E_hasHiddenPoint l D aE bE rE pE c1 c2 c3 _ v b rw pw  q2 hq2) (zcV (C := RX0) 0 hw (zgood zw297) rfl rfl rfl zw259 zw299 zw298 zw300 hdX0_hasHiddenPoint ⟨Nat.le_of_ble_eq_true rfl, Nat.le_of_ble_eq_true rfl⟩) (zpreV (zpre zC_ok hX hS (zfree hD hS hA) hP hK hD) (va_recv hK hP rfl (q0 := 0) rfl)) rfl rfl hl.1 rfl (lv_room (Nat.le_of_ble_eq_true rfl)) dX0_byteOf_9 ⟨Nat.zero_le _, Nat.zero_le _⟩) hS (zfree hD hS hA) (fun H locs hP hD hS => ?_)
    refine lv_if_eq (tgt := 21) hx hb dX0_byteOf_12 rfl (fun cd3 => ?_) (fun cd3 => ?_)
    · replace hm := zt cd3 hm
      refine lv_iload_n hx hb dX0_byteOf_21 rfl (lv_at hl 1 rfl) ?_
      cases hm
      exact zreti hx hb hr hlk hP hD hS dX0_byteOf_22
    · replace hm := zf cd3 hm
      refine lv_iload_n hx hb dX0_byteOf_15 rfl (lv_at hl 1 rfl) ?_
      refine lv_iconst (v := 1) hx hb dX0_byteOf_16 (by decide) ?_
      refine lv_isub hx hb dX0_byteOf_17 ?_
      refine lv_goto (tgt := 22) hx hb dX0_byteOf_18 rfl ?_
      cases hm
      exact zreti hx hb hr hlk hP hD hS dX0_byteOf_22

theorem dX0_secondLetter_0 : decode cX0_secondLetter 0 = .ok (.aload_n 0, 1) := by decide +kernel
theorem dX0_secondLetter_1 : decode cX0_secondLetter 1 = .ok (.getfield 51, 3) := by decide +kernel
theorem dX0_secondLetter_4 : decode cX0_secondLetter 4 = .ok (.bipush 67, 2) := by decide +kernel
theorem dX0_secondLetter_6 : decode cX0_secondLetter 6 = .ok (.if_icmp .ne 8, 3) := by decide +kernel
theorem dX0_secondLetter_9 : decode cX0_secondLetter 9 = .ok (.bipush 82, 2) := by decide +kernel
theorem dX0_secondLetter_11 : decode cX0_secondLetter 11 = .ok (.goto 5, 3) := by decide +kernel
theorem dX0_secondLetter_14 : decode cX0_secondLetter 14 = .ok (.bipush 66, 2) := by decide +kernel
theorem dX0_secondLetter_16 : decode cX0_secondLetter 16 = .ok (.ireturn, 1) := by decide +kernel
def m_E_secondLetter  (v : Nat → Int32) (b : Nat → Int32) (rw : Nat → Int32) (pw : Nat → Int32)  : Option ((Int32)) := (if (v 8) = 67 then (some 82) else (some 66))
section
variable {p : Program} {l : Launch} {e : Env} {s : State} {m : MethodId} {args : Array Value} {below : List Frame} {meth : Method} {c : Code} {D : va_G} {w0 : va_W} {aE bE rE pE : Nat} {c1 c2 c3 : ClassId} {v : Nat → Int32} {b : Nat → Int32} {rw : Nat → Int32} {pw : Nat → Int32}
end
set_option maxRecDepth 100000 in
set_option maxHeartbeats 4000000 in
theorem k_E_secondLetter (l : Launch) (D : va_G) (aE bE rE pE : Nat) (c1 c2 c3 : ClassId) (sz : Nat)  (v : Nat → Int32) (b : Nat → Int32) (rw : Nat → Int32) (pw : Nat → Int32) (res : (Int32)) (hm : m_E_secondLetter  v b rw pw  = some res) : Met l yX0_secondLetter (Cond.code yX0_secondLetter cX0_secondLetter 1 (some .int) :: zBIG) (zR 0 0) (va_Pc [.ref aE] (zP zC D vwCl (wE_t c1 c2 c3) (wE aE bE rE pE c1 c2 c3 v b rw pw) sz)) (zQi D vwCl (wE aE bE rE pE c1 c2 c3 v b rw pw) (wE aE bE rE pE c1 c2 c3 v b rw pw) sz res) 0 0 (va_A (wE aE bE rE pE c1 c2 c3 v b rw pw) sz) := by
  refine zEnter RX0 [.ref aE] (by decide) rfl (Nat.le_of_ble_eq_true rfl) (fun p e s m below meth c ls G hK hX hP hD hsz hl => ?_)
  subst hsz
  unfold m_E_secondLetter at hm
  have hl : lv_has ls 1 [(0, .ref aE)] := hl
  have hS : va_S (va_A (wE aE bE rE pE c1 c2 c3 v b rw pw) s.heap.size) s.heap s.heap [] := va_S.rf
  have hA : ∀ q, s.heap.size ≤ q → va_A (wE aE bE rE pE c1 c2 c3 v b rw pw) s.heap.size q := fun q h => Or.inr h
  have G0 := G
  obtain ⟨hx, hb, hr, hml, hown, hw, hlk⟩ := G
  refine lv_aload_n hx hb dX0_secondLetter_0 rfl (lv_at hl 0 rfl) ?_
  refine va_get (D := D) (ci := 0) (v := .int (v 8)) (C := RX0) (T := TX0) (N := 16) hx hb hw zinX0 hown hK hP 0 rfl rfl 8 (by decide) (hw _ zw257) (fun _ h9 => h9) rfl dX0_secondLetter_1 ?_
  refine lv_bipush (v := 67) hx hb dX0_secondLetter_4 (by decide) ?_
  refine lv_icmp_ne (tgt := 14) hx hb dX0_secondLetter_6 rfl (fun cd1 => ?_) (fun cd1 => ?_)
  · replace hm := zf cd1 hm
    refine lv_bipush (v := 66) hx hb dX0_secondLetter_14 (by decide) ?_
    cases hm
    exact zreti hx hb hr hlk hP hD hS dX0_secondLetter_16
  · replace hm := zt cd1 hm
    refine lv_bipush (v := 82) hx hb dX0_secondLetter_9 (by decide) ?_
    refine lv_goto (tgt := 16) hx hb dX0_secondLetter_11 rfl ?_
    cases hm
    exact zreti hx hb hr hlk hP hD hS dX0_secondLetter_16

theorem dX0_isBelowZero_0 : decode cX0_isBelowZero 0 = .ok (.iconst 0, 1) := by decide +kernel
theorem dX0_isBelowZero_1 : decode cX0_isBelowZero 1 = .ok (.istore_n 1, 1) := by decide +kernel
theorem dX0_isBelowZero_2 : decode cX0_isBelowZero 2 = .ok (.iload_n 1, 1) := by decide +kernel
theorem dX0_isBelowZero_3 : decode cX0_isBelowZero 3 = .ok (.aload_n 0, 1) := by decide +kernel
theorem dX0_isBelowZero_4 : decode cX0_isBelowZero 4 = .ok (.getfield 71, 3) := by decide +kernel
theorem dX0_isBelowZero_7 : decode cX0_isBelowZero 7 = .ok (.if_icmp .ge 22, 3) := by decide +kernel
theorem dX0_isBelowZero_10 : decode cX0_isBelowZero 10 = .ok (.aload_n 0, 1) := by decide +kernel
theorem dX0_isBelowZero_11 : decode cX0_isBelowZero 11 = .ok (.getfield 117, 3) := by decide +kernel
theorem dX0_isBelowZero_14 : decode cX0_isBelowZero 14 = .ok (.iload_n 1, 1) := by decide +kernel
theorem dX0_isBelowZero_15 : decode cX0_isBelowZero 15 = .ok (.iaload, 1) := by decide +kernel
theorem dX0_isBelowZero_16 : decode cX0_isBelowZero 16 = .ok (.bipush 45, 2) := by decide +kernel
theorem dX0_isBelowZero_18 : decode cX0_isBelowZero 18 = .ok (.if_icmp .ne 5, 3) := by decide +kernel
theorem dX0_isBelowZero_21 : decode cX0_isBelowZero 21 = .ok (.iconst 1, 1) := by decide +kernel
theorem dX0_isBelowZero_22 : decode cX0_isBelowZero 22 = .ok (.ireturn, 1) := by decide +kernel
theorem dX0_isBelowZero_23 : decode cX0_isBelowZero 23 = .ok (.iinc 1 1, 3) := by decide +kernel
theorem dX0_isBelowZero_26 : decode cX0_isBelowZero 26 = .ok (.goto (-24), 3) := by decide +kernel
theorem dX0_isBelowZero_29 : decode cX0_isBelowZero 29 = .ok (.aload_n 0, 1) := by decide +kernel
theorem dX0_isBelowZero_30 : decode cX0_isBelowZero 30 = .ok (.invokevirtual 68, 3) := by decide +kernel
theorem dX0_isBelowZero_33 : decode cX0_isBelowZero 33 = .ok (.ifCond .eq 43, 3) := by decide +kernel
theorem dX0_isBelowZero_36 : decode cX0_isBelowZero 36 = .ok (.aload_n 0, 1) := by decide +kernel
theorem dX0_isBelowZero_37 : decode cX0_isBelowZero 37 = .ok (.getfield 117, 3) := by decide +kernel
theorem dX0_isBelowZero_40 : decode cX0_isBelowZero 40 = .ok (.aload_n 0, 1) := by decide +kernel
theorem dX0_isBelowZero_41 : decode cX0_isBelowZero 41 = .ok (.getfield 71, 3) := by decide +kernel
theorem dX0_isBelowZero_44 : decode cX0_isBelowZero 44 = .ok (.iconst 2, 1) := by decide +kernel
theorem dX0_isBelowZero_45 : decode cX0_isBelowZero 45 = .ok (.isub, 1) := by decide +kernel
theorem dX0_isBelowZero_46 : decode cX0_isBelowZero 46 = .ok (.iaload, 1) := by decide +kernel
theorem dX0_isBelowZero_47 : decode cX0_isBelowZero 47 = .ok (.aload_n 0, 1) := by decide +kernel
theorem dX0_isBelowZero_48 : decode cX0_isBelowZero 48 = .ok (.getfield 51, 3) := by decide +kernel
theorem dX0_isBelowZero_51 : decode cX0_isBelowZero 51 = .ok (.if_icmp .ne 25, 3) := by decide +kernel
theorem dX0_isBelowZero_54 : decode cX0_isBelowZero 54 = .ok (.aload_n 0, 1) := by decide +kernel
theorem dX0_isBelowZero_55 : decode cX0_isBelowZero 55 = .ok (.getfield 117, 3) := by decide +kernel
theorem dX0_isBelowZero_58 : decode cX0_isBelowZero 58 = .ok (.aload_n 0, 1) := by decide +kernel
theorem dX0_isBelowZero_59 : decode cX0_isBelowZero 59 = .ok (.getfield 71, 3) := by decide +kernel
theorem dX0_isBelowZero_62 : decode cX0_isBelowZero 62 = .ok (.iconst 1, 1) := by decide +kernel
theorem dX0_isBelowZero_63 : decode cX0_isBelowZero 63 = .ok (.isub, 1) := by decide +kernel
theorem dX0_isBelowZero_64 : decode cX0_isBelowZero 64 = .ok (.iaload, 1) := by decide +kernel
theorem dX0_isBelowZero_65 : decode cX0_isBelowZero 65 = .ok (.aload_n 0, 1) := by decide +kernel
theorem dX0_isBelowZero_66 : decode cX0_isBelowZero 66 = .ok (.invokevirtual 132, 3) := by decide +kernel
theorem dX0_isBelowZero_69 : decode cX0_isBelowZero 69 = .ok (.if_icmp .ne 7, 3) := by decide +kernel
theorem dX0_isBelowZero_72 : decode cX0_isBelowZero 72 = .ok (.iconst 1, 1) := by decide +kernel
theorem dX0_isBelowZero_73 : decode cX0_isBelowZero 73 = .ok (.goto 4, 3) := by decide +kernel
theorem dX0_isBelowZero_76 : decode cX0_isBelowZero 76 = .ok (.iconst 0, 1) := by decide +kernel
theorem dX0_isBelowZero_77 : decode cX0_isBelowZero 77 = .ok (.ireturn, 1) := by decide +kernel
def m_E_isBelowZero_2b (v : Nat → Int32) (b : Nat → Int32) (rw : Nat → Int32) (pw : Nat → Int32) (rec : Int32 → Option ((Int32))) (x1 : Int32)  : Option ((Int32)) := (if (v 1) ≤ x1 then (m_E_isLetterSign v b rw pw).bind (fun q2 => (if q2 = 0 then (zbo 0 (some 0)) else zix ((v 1) - 2) 25 ((if (b ((v 1) - 2).toNatClampNeg) = (v 8) then zix ((v 1) - 1) 25 ((m_E_secondLetter v b rw pw).bind (fun q9 => (if (b ((v 1) - 1).toNatClampNeg) = q9 then (zbo 1 (some 1)) else (zbo 0 (some 0))))) else (zbo 0 (some 0)))))) else zix x1 25 ((if (b x1.toNatClampNeg) = 45 then (zbo 1 (some 1)) else rec (x1 + 1))))
def m_E_isBelowZero_2 (v : Nat → Int32) (b : Nat → Int32) (rw : Nat → Int32) (pw : Nat → Int32) : Nat → Int32 → Option ((Int32))
  | 0 => fun _ => none
  | n + 1 => fun x1 => m_E_isBelowZero_2b v b rw pw (m_E_isBelowZero_2 v b rw pw n) x1
def m_E_isBelowZero  (v : Nat → Int32) (b : Nat → Int32) (rw : Nat → Int32) (pw : Nat → Int32)  : Option ((Int32)) := m_E_isBelowZero_2 v b rw pw 64 0
section
variable {p : Program} {l : Launch} {e : Env} {s : State} {m : MethodId} {args : Array Value} {below : List Frame} {meth : Method} {c : Code} {D : va_G} {w0 : va_W} {aE bE rE pE : Nat} {c1 c2 c3 : ClassId} {v : Nat → Int32} {b : Nat → Int32} {rw : Nat → Int32} {pw : Nat → Int32}
set_option maxRecDepth 100000 in
set_option maxHeartbeats 4000000 in
theorem b_E_isBelowZero_2 (G : zG p s m args meth c cX0_isBelowZero RX0 2 (some .boolean)) (hK : va_K D vwCl (wE_t c1 c2 c3) s) (hX : zC (va_A w0 s.heap.size) s) {res : (Int32)} : ∀ n : Nat, ∀ (x1 : Int32), m_E_isBelowZero_2 v b rw pw n x1 = some res → zB p l e (zR 1 20) s m args below meth c D vwCl (va_A w0 s.heap.size) (MQ below (zQi D vwCl w0 (wE aE bE rE pE c1 c2 c3 v b rw pw) s.heap.size res) args s 0 0 (va_A w0 s.heap.size)) 2 (wE aE bE rE pE c1 c2 c3 v b rw pw) [(0, .ref aE), (1, .int x1)] 2 [] := by
  intro n
  induction n with
  | zero => intro x1 hm; cases hm
  | succ n ih =>
  have hrec := ih
  intro x1 hm H locs ls hP hD hS hl
  replace hm : m_E_isBelowZero_2b v b rw pw (m_E_isBelowZero_2 v b rw pw n) x1 = some res := hm
  generalize m_E_isBelowZero_2 v b rw pw n = rec at hm hrec
  unfold m_E_isBelowZero_2b at hm
  clear ih
  have G0 := G
  obtain ⟨hx, hb, hr, hml, hown, hw, hlk⟩ := G
  have hA : ∀ q, s.heap.size ≤ q → va_A w0 s.heap.size q := fun q h => Or.inr h
  refine lv_iload_n hx hb dX0_isBelowZero_2 rfl (lv_at hl 1 rfl) ?_
  refine lv_aload_n hx hb dX0_isBelowZero_3 rfl (lv_at hl 0 rfl) ?_
  refine va_get (D := D) (ci := 0) (v := .int (v 1)) (C := RX0) (T := TX0) (N := 16) hx hb hw zinX0 hown hK hP 0 rfl rfl 1 (by decide) (hw _ zw302) (fun x9 h9 => u_same (hw _ zw301) x9 h9) rfl dX0_isBelowZero_4 ?_
  refine lv_icmp_ge (tgt := 29) hx hb dX0_isBelowZero_7 rfl (fun cd1 => ?_) (fun cd1 => ?_)
  · replace hm := zt cd1 hm
    refine lv_aload_n hx hb dX0_isBelowZero_29 rfl (lv_at hl 0 rfl) ?_
    obtain ⟨q2, hq2, hm⟩ := zbind hm
    refine zbWi (va_runV (As := []) (rest := []) ⟨hx, hb, hml, hown, hw⟩ (k_E_isLetterSign l D aE bE rE pE c1 c2 c3 _ v b rw pw  q2 hq2) (zcV (C := RX0) 0 hw (zgood zw303) rfl rfl rfl zw259 zw305 zw304 zw306 hdX0_isLetterSign ⟨Nat.le_of_ble_eq_true rfl, Nat.le_of_ble_eq_true rfl⟩) (zpreV (zpre zC_ok hX hS (zfree hD hS hA) hP hK hD) (va_recv hK hP rfl (q0 := 0) rfl)) rfl rfl hl.1 rfl (lv_room (Nat.le_of_ble_eq_true rfl)) dX0_isBelowZero_30 ⟨Nat.zero_le _, Nat.zero_le _⟩) hS (zfree hD hS hA) (fun H locs hP hD hS => ?_)
    refine lv_if_eq (tgt := 76) hx hb dX0_isBelowZero_33 rfl (fun cd3 => ?_) (fun cd3 => ?_)
    · replace hm := zt cd3 hm
      refine lv_iconst (v := 0) hx hb dX0_isBelowZero_76 (by decide) ?_
      obtain ⟨hz4, -, hm⟩ := zbo_s hm
      cases hm
      exact zretz hx hb hr hlk hz4 hP hD hS dX0_isBelowZero_77
    · replace hm := zf cd3 hm
      refine lv_aload_n hx hb dX0_isBelowZero_36 rfl (lv_at hl 0 rfl) ?_
      refine va_get (D := D) (ci := 0) (v := .ref bE) (C := RX0) (T := TX0) (N := 16) hx hb hw zinX0 hown hK hP 0 rfl rfl 0 (by decide) (hw _ zw308) (fun x9 h9 => u_same (hw _ zw307) x9 h9) rfl dX0_isBelowZero_37 ?_
      refine lv_aload_n hx hb dX0_isBelowZero_40 rfl (lv_at hl 0 rfl) ?_
      refine va_get (D := D) (ci := 0) (v := .int (v 1)) (C := RX0) (T := TX0) (N := 16) hx hb hw zinX0 hown hK hP 0 rfl rfl 1 (by decide) (hw _ zw302) (fun x9 h9 => u_same (hw _ zw301) x9 h9) rfl dX0_isBelowZero_41 ?_
      refine lv_iconst (v := 2) hx hb dX0_isBelowZero_44 (by decide) ?_
      refine lv_isub hx hb dX0_isBelowZero_45 ?_
      obtain ⟨hi5, hm⟩ := zix_s hm
      refine va_iald (i := ((v 1) - 2)) (f := b) (n := 25) hx hb hK hP 1 0 rfl rfl hi5 dX0_isBelowZero_46 ?_
      refine lv_aload_n hx hb dX0_isBelowZero_47 rfl (lv_at hl 0 rfl) ?_
      refine va_get (D := D) (ci := 0) (v := .int (v 8)) (C := RX0) (T := TX0) (N := 16) hx hb hw zinX0 hown hK hP 0 rfl rfl 8 (by decide) (hw _ zw257) (fun _ h9 => h9) rfl dX0_isBelowZero_48 ?_
      refine lv_icmp_ne (tgt := 76) hx hb dX0_isBelowZero_51 rfl (fun cd6 => ?_) (fun cd6 => ?_)
      · replace hm := zf cd6 hm
        refine lv_iconst (v := 0) hx hb dX0_isBelowZero_76 (by decide) ?_
        obtain ⟨hz7, -, hm⟩ := zbo_s hm
        cases hm
        exact zretz hx hb hr hlk hz7 hP hD hS dX0_isBelowZero_77
      · replace hm := zt cd6 hm
        refine lv_aload_n hx hb dX0_isBelowZero_54 rfl (lv_at hl 0 rfl) ?_
        refine va_get (D := D) (ci := 0) (v := .ref bE) (C := RX0) (T := TX0) (N := 16) hx hb hw zinX0 hown hK hP 0 rfl rfl 0 (by decide) (hw _ zw308) (fun x9 h9 => u_same (hw _ zw307) x9 h9) rfl dX0_isBelowZero_55 ?_
        refine lv_aload_n hx hb dX0_isBelowZero_58 rfl (lv_at hl 0 rfl) ?_
        refine va_get (D := D) (ci := 0) (v := .int (v 1)) (C := RX0) (T := TX0) (N := 16) hx hb hw zinX0 hown hK hP 0 rfl rfl 1 (by decide) (hw _ zw302) (fun x9 h9 => u_same (hw _ zw301) x9 h9) rfl dX0_isBelowZero_59 ?_
        refine lv_iconst (v := 1) hx hb dX0_isBelowZero_62 (by decide) ?_
        refine lv_isub hx hb dX0_isBelowZero_63 ?_
        obtain ⟨hi8, hm⟩ := zix_s hm
        refine va_iald (i := ((v 1) - 1)) (f := b) (n := 25) hx hb hK hP 1 0 rfl rfl hi8 dX0_isBelowZero_64 ?_
        refine lv_aload_n hx hb dX0_isBelowZero_65 rfl (lv_at hl 0 rfl) ?_
        obtain ⟨q9, hq9, hm⟩ := zbind hm
        refine zbWi (va_runV (As := []) (rest := [.int (b ((v 1) - 1).toNatClampNeg)]) ⟨hx, hb, hml, hown, hw⟩ (k_E_secondLetter l D aE bE rE pE c1 c2 c3 _ v b rw pw  q9 hq9) (zcV (C := RX0) 0 hw (zgood zw309) rfl rfl rfl zw259 zw311 zw310 zw312 hdX0_secondLetter ⟨Nat.le_of_ble_eq_true rfl, Nat.le_of_ble_eq_true rfl⟩) (zpreV (zpre zC_ok hX hS (zfree hD hS hA) hP hK hD) (va_recv hK hP rfl (q0 := 0) rfl)) rfl rfl hl.1 rfl (lv_room (Nat.le_of_ble_eq_true rfl)) dX0_isBelowZero_66 ⟨Nat.zero_le _, Nat.zero_le _⟩) hS (zfree hD hS hA) (fun H locs hP hD hS => ?_)
        refine lv_icmp_ne (tgt := 76) hx hb dX0_isBelowZero_69 rfl (fun cd10 => ?_) (fun cd10 => ?_)
        · replace hm := zf cd10 hm
          refine lv_iconst (v := 0) hx hb dX0_isBelowZero_76 (by decide) ?_
          obtain ⟨hz11, -, hm⟩ := zbo_s hm
          cases hm
          exact zretz hx hb hr hlk hz11 hP hD hS dX0_isBelowZero_77
        · replace hm := zt cd10 hm
          refine lv_iconst (v := 1) hx hb dX0_isBelowZero_72 (by decide) ?_
          refine lv_goto (tgt := 77) hx hb dX0_isBelowZero_73 rfl ?_
          obtain ⟨hz12, -, hm⟩ := zbo_s hm
          cases hm
          exact zretz hx hb hr hlk hz12 hP hD hS dX0_isBelowZero_77
  · replace hm := zf cd1 hm
    refine lv_aload_n hx hb dX0_isBelowZero_10 rfl (lv_at hl 0 rfl) ?_
    refine va_get (D := D) (ci := 0) (v := .ref bE) (C := RX0) (T := TX0) (N := 16) hx hb hw zinX0 hown hK hP 0 rfl rfl 0 (by decide) (hw _ zw308) (fun x9 h9 => u_same (hw _ zw307) x9 h9) rfl dX0_isBelowZero_11 ?_
    refine lv_iload_n hx hb dX0_isBelowZero_14 rfl (lv_at hl 1 rfl) ?_
    obtain ⟨hi13, hm⟩ := zix_s hm
    refine va_iald (i := x1) (f := b) (n := 25) hx hb hK hP 1 0 rfl rfl hi13 dX0_isBelowZero_15 ?_
    refine lv_bipush (v := 45) hx hb dX0_isBelowZero_16 (by decide) ?_
    refine lv_icmp_ne (tgt := 23) hx hb dX0_isBelowZero_18 rfl (fun cd14 => ?_) (fun cd14 => ?_)
    · replace hm := zf cd14 hm
      refine lv_iinc (k := 1) (v := (x1 + 1)) (lv' := [(1, .int (x1 + 1)), (0, .ref aE)]) hx hb dX0_isBelowZero_23 hl rfl rfl (by decide) rfl (fun ls hl => ?_)
      refine lv_goto (tgt := 2) hx hb dX0_isBelowZero_26 rfl ?_
      exact hrec _ hm H _ _ hP hD hS (lv_sub hl [1, 0] rfl)
    · replace hm := zt cd14 hm
      refine lv_iconst (v := 1) hx hb dX0_isBelowZero_21 (by decide) ?_
      obtain ⟨hz15, -, hm⟩ := zbo_s hm
      cases hm
      exact zretz hx hb hr hlk hz15 hP hD hS dX0_isBelowZero_22
end
set_option maxRecDepth 100000 in
set_option maxHeartbeats 4000000 in
theorem k_E_isBelowZero (l : Launch) (D : va_G) (aE bE rE pE : Nat) (c1 c2 c3 : ClassId) (sz : Nat)  (v : Nat → Int32) (b : Nat → Int32) (rw : Nat → Int32) (pw : Nat → Int32) (res : (Int32)) (hm : m_E_isBelowZero  v b rw pw  = some res) : Met l yX0_isBelowZero (Cond.code yX0_isBelowZero cX0_isBelowZero 2 (some .boolean) :: zBIG) (zR 1 20) (va_Pc [.ref aE] (zP zC D vwCl (wE_t c1 c2 c3) (wE aE bE rE pE c1 c2 c3 v b rw pw) sz)) (zQi D vwCl (wE aE bE rE pE c1 c2 c3 v b rw pw) (wE aE bE rE pE c1 c2 c3 v b rw pw) sz res) 0 0 (va_A (wE aE bE rE pE c1 c2 c3 v b rw pw) sz) := by
  refine zEnter RX0 [.ref aE] (by decide) rfl (Nat.le_of_ble_eq_true rfl) (fun p e s m below meth c ls G hK hX hP hD hsz hl => ?_)
  subst hsz
  unfold m_E_isBelowZero at hm
  have hl : lv_has ls 2 [(0, .ref aE)] := hl
  have hS : va_S (va_A (wE aE bE rE pE c1 c2 c3 v b rw pw) s.heap.size) s.heap s.heap [] := va_S.rf
  have hA : ∀ q, s.heap.size ≤ q → va_A (wE aE bE rE pE c1 c2 c3 v b rw pw) s.heap.size q := fun q h => Or.inr h
  have G0 := G
  obtain ⟨hx, hb, hr, hml, hown, hw, hlk⟩ := G
  refine lv_iconst (v := 0) hx hb dX0_isBelowZero_0 (by decide) ?_
  refine lv_istore_n (lv' := [(1, .int 0), (0, .ref aE)]) hx hb dX0_isBelowZero_1 rfl hl (by decide) rfl (fun ls hl => ?_)
  exact b_E_isBelowZero_2 G0 hK hX 64 _ hm _ _ _ hP hD hS (lv_sub hl [1, 0] rfl)

theorem dX0_number_0 : decode cX0_number 0 = .ok (.lconst 0, 1) := by decide +kernel
theorem dX0_number_1 : decode cX0_number 1 = .ok (.lstore_n 1, 1) := by decide +kernel
theorem dX0_number_2 : decode cX0_number 2 = .ok (.aload_n 0, 1) := by decide +kernel
theorem dX0_number_3 : decode cX0_number 3 = .ok (.getfield 80, 3) := by decide +kernel
theorem dX0_number_6 : decode cX0_number 6 = .ok (.istore_n 3, 1) := by decide +kernel
theorem dX0_number_7 : decode cX0_number 7 = .ok (.iload_n 3, 1) := by decide +kernel
theorem dX0_number_8 : decode cX0_number 8 = .ok (.aload_n 0, 1) := by decide +kernel
theorem dX0_number_9 : decode cX0_number 9 = .ok (.getfield 83, 3) := by decide +kernel
theorem dX0_number_12 : decode cX0_number 12 = .ok (.if_icmp .ge 57, 3) := by decide +kernel
theorem dX0_number_15 : decode cX0_number 15 = .ok (.aload_n 0, 1) := by decide +kernel
theorem dX0_number_16 : decode cX0_number 16 = .ok (.getfield 15, 3) := by decide +kernel
theorem dX0_number_19 : decode cX0_number 19 = .ok (.iload_n 3, 1) := by decide +kernel
theorem dX0_number_20 : decode cX0_number 20 = .ok (.iaload, 1) := by decide +kernel
theorem dX0_number_21 : decode cX0_number 21 = .ok (.bipush 99, 2) := by decide +kernel
theorem dX0_number_23 : decode cX0_number 23 = .ok (.if_icmp .eq 40, 3) := by decide +kernel
theorem dX0_number_26 : decode cX0_number 26 = .ok (.aload_n 0, 1) := by decide +kernel
theorem dX0_number_27 : decode cX0_number 27 = .ok (.getfield 117, 3) := by decide +kernel
theorem dX0_number_30 : decode cX0_number 30 = .ok (.aload_n 0, 1) := by decide +kernel
theorem dX0_number_31 : decode cX0_number 31 = .ok (.iload_n 3, 1) := by decide +kernel
theorem dX0_number_32 : decode cX0_number 32 = .ok (.invokevirtual 120, 3) := by decide +kernel
theorem dX0_number_35 : decode cX0_number 35 = .ok (.iaload, 1) := by decide +kernel
theorem dX0_number_36 : decode cX0_number 36 = .ok (.istore 4, 2) := by decide +kernel
theorem dX0_number_38 : decode cX0_number 38 = .ok (.lload_n 1, 1) := by decide +kernel
theorem dX0_number_39 : decode cX0_number 39 = .ok (.ldc2_w 124, 3) := by decide +kernel
theorem dX0_number_42 : decode cX0_number 42 = .ok (.lmul, 1) := by decide +kernel
theorem dX0_number_43 : decode cX0_number 43 = .ok (.iload 4, 2) := by decide +kernel
theorem dX0_number_45 : decode cX0_number 45 = .ok (.invokestatic 126, 3) := by decide +kernel
theorem dX0_number_48 : decode cX0_number 48 = .ok (.ifCond .eq 11, 3) := by decide +kernel
theorem dX0_number_51 : decode cX0_number 51 = .ok (.iload 4, 2) := by decide +kernel
theorem dX0_number_53 : decode cX0_number 53 = .ok (.bipush 48, 2) := by decide +kernel
theorem dX0_number_55 : decode cX0_number 55 = .ok (.isub, 1) := by decide +kernel
theorem dX0_number_56 : decode cX0_number 56 = .ok (.goto 4, 3) := by decide +kernel
theorem dX0_number_59 : decode cX0_number 59 = .ok (.iconst 0, 1) := by decide +kernel
theorem dX0_number_60 : decode cX0_number 60 = .ok (.i2l, 1) := by decide +kernel
theorem dX0_number_61 : decode cX0_number 61 = .ok (.ladd, 1) := by decide +kernel
theorem dX0_number_62 : decode cX0_number 62 = .ok (.lstore_n 1, 1) := by decide +kernel
theorem dX0_number_63 : decode cX0_number 63 = .ok (.iinc 3 1, 3) := by decide +kernel
theorem dX0_number_66 : decode cX0_number 66 = .ok (.goto (-59), 3) := by decide +kernel
theorem dX0_number_69 : decode cX0_number 69 = .ok (.aload_n 0, 1) := by decide +kernel
theorem dX0_number_70 : decode cX0_number 70 = .ok (.invokevirtual 129, 3) := by decide +kernel
theorem dX0_number_73 : decode cX0_number 73 = .ok (.ifCond .eq 8, 3) := by decide +kernel
theorem dX0_number_76 : decode cX0_number 76 = .ok (.lload_n 1, 1) := by decide +kernel
theorem dX0_number_77 : decode cX0_number 77 = .ok (.lneg, 1) := by decide +kernel
theorem dX0_number_78 : decode cX0_number 78 = .ok (.goto 4, 3) := by decide +kernel
theorem dX0_number_81 : decode cX0_number 81 = .ok (.lload_n 1, 1) := by decide +kernel
theorem dX0_number_82 : decode cX0_number 82 = .ok (.lreturn, 1) := by decide +kernel
def m_E_number_63 (v : Nat → Int32) (b : Nat → Int32) (rw : Nat → Int32) (pw : Nat → Int32) (rec : Int64 → Int32 → Option ((Int64))) (x1 : Int64) (x3 : Int32)  : Option ((Int64)) := rec x1 (x3 + 1)
def m_E_number_60 (v : Nat → Int32) (b : Nat → Int32) (rw : Nat → Int32) (pw : Nat → Int32) (rec : Int64 → Int32 → Option ((Int64))) (x3 : Int32) (t0 : Int32) (t1 : Int64)  : Option ((Int64)) := m_E_number_63 v b rw pw rec (t1 + ((t0).toInt64)) x3
def m_E_number_7b (v : Nat → Int32) (b : Nat → Int32) (rw : Nat → Int32) (pw : Nat → Int32) (rec : Int64 → Int32 → Option ((Int64))) (x1 : Int64) (x3 : Int32)  : Option ((Int64)) := (if (v 10) ≤ x3 then (m_E_isBelowZero v b rw pw).bind (fun q2 => (if q2 = 0 then (some x1) else (some (0 - x1)))) else zix x3 24 ((if (pw x3.toNatClampNeg) = 99 then m_E_number_63 v b rw pw rec x1 x3 else (m_E_byteOf x3 v b rw pw).bind (fun q6 => zix q6 25 ((m_P_isDigit (b q6.toNatClampNeg)).bind (fun q8 => (if q8 = 0 then m_E_number_60 v b rw pw rec x3 0 (x1 * 10) else m_E_number_60 v b rw pw rec x3 ((b q6.toNatClampNeg) - 48) (x1 * 10))))))))
def m_E_number_7 (v : Nat → Int32) (b : Nat → Int32) (rw : Nat → Int32) (pw : Nat → Int32) : Nat → Int64 → Int32 → Option ((Int64))
  | 0 => fun _ _ => none
  | n + 1 => fun x1 x3 => m_E_number_7b v b rw pw (m_E_number_7 v b rw pw n) x1 x3
def m_E_number  (v : Nat → Int32) (b : Nat → Int32) (rw : Nat → Int32) (pw : Nat → Int32)  : Option ((Int64)) := m_E_number_7 v b rw pw 64 0 (v 9)
section
variable {p : Program} {l : Launch} {e : Env} {s : State} {m : MethodId} {args : Array Value} {below : List Frame} {meth : Method} {c : Code} {D : va_G} {w0 : va_W} {aE bE rE pE : Nat} {c1 c2 c3 : ClassId} {v : Nat → Int32} {b : Nat → Int32} {rw : Nat → Int32} {pw : Nat → Int32}
set_option maxRecDepth 100000 in
set_option maxHeartbeats 4000000 in
theorem b_E_number_63 (G : zG p s m args meth c cX0_number RX0 5 (some .long)) (hK : va_K D vwCl (wE_t c1 c2 c3) s) (hX : zC (va_A w0 s.heap.size) s) {res : (Int64)} (rec : Int64 → Int32 → Option ((Int64))) (hrec : ∀ (x1 : Int64) (x3 : Int32), rec x1 x3 = some res → zB p l e (zR 2 41) s m args below meth c D vwCl (va_A w0 s.heap.size) (MQ below (zQl D vwCl w0 (wE aE bE rE pE c1 c2 c3 v b rw pw) s.heap.size res) args s 0 0 (va_A w0 s.heap.size)) 5 (wE aE bE rE pE c1 c2 c3 v b rw pw) [(0, .ref aE), (1, .long x1), (3, .int x3)] 7 []) : ∀ (x1 : Int64) (x3 : Int32), m_E_number_63 v b rw pw rec x1 x3 = some res → zB p l e (zR 2 41) s m args below meth c D vwCl (va_A w0 s.heap.size) (MQ below (zQl D vwCl w0 (wE aE bE rE pE c1 c2 c3 v b rw pw) s.heap.size res) args s 0 0 (va_A w0 s.heap.size)) 5 (wE aE bE rE pE c1 c2 c3 v b rw pw) [(0, .ref aE), (1, .long x1), (3, .int x3)] 63 [] := by
  intro x1 x3 hm H locs ls hP hD hS hl
  unfold m_E_number_63 at hm
  have G0 := G
  obtain ⟨hx, hb, hr, hml, hown, hw, hlk⟩ := G
  have hA : ∀ q, s.heap.size ≤ q → va_A w0 s.heap.size q := fun q h => Or.inr h
  refine lv_iinc (k := 2) (v := (x3 + 1)) (lv' := [(3, .int (x3 + 1)), (0, .ref aE), (1, .long x1)]) hx hb dX0_number_63 hl rfl rfl (by decide) rfl (fun ls hl => ?_)
  refine lv_goto (tgt := 7) hx hb dX0_number_66 rfl ?_
  exact hrec _ _ hm H _ _ hP hD hS (lv_sub hl [1, 2, 0] rfl)
set_option maxRecDepth 100000 in
set_option maxHeartbeats 4000000 in
theorem b_E_number_60 (G : zG p s m args meth c cX0_number RX0 5 (some .long)) (hK : va_K D vwCl (wE_t c1 c2 c3) s) (hX : zC (va_A w0 s.heap.size) s) {res : (Int64)} (rec : Int64 → Int32 → Option ((Int64))) (hrec : ∀ (x1 : Int64) (x3 : Int32), rec x1 x3 = some res → zB p l e (zR 2 41) s m args below meth c D vwCl (va_A w0 s.heap.size) (MQ below (zQl D vwCl w0 (wE aE bE rE pE c1 c2 c3 v b rw pw) s.heap.size res) args s 0 0 (va_A w0 s.heap.size)) 5 (wE aE bE rE pE c1 c2 c3 v b rw pw) [(0, .ref aE), (1, .long x1), (3, .int x3)] 7 []) : ∀ (x3 : Int32) (t0 : Int32) (t1 : Int64), m_E_number_60 v b rw pw rec x3 t0 t1 = some res → zB p l e (zR 2 41) s m args below meth c D vwCl (va_A w0 s.heap.size) (MQ below (zQl D vwCl w0 (wE aE bE rE pE c1 c2 c3 v b rw pw) s.heap.size res) args s 0 0 (va_A w0 s.heap.size)) 5 (wE aE bE rE pE c1 c2 c3 v b rw pw) [(0, .ref aE), (3, .int x3)] 60 [.int t0, .long t1] := by
  intro x3 t0 t1 hm H locs ls hP hD hS hl
  unfold m_E_number_60 at hm
  have G0 := G
  obtain ⟨hx, hb, hr, hml, hown, hw, hlk⟩ := G
  have hA : ∀ q, s.heap.size ≤ q → va_A w0 s.heap.size q := fun q h => Or.inr h
  refine lv_i2l (v := ((t0).toInt64)) hx hb dX0_number_60 rfl ?_
  refine lv_ladd hx hb dX0_number_61 ?_
  refine lv_lstore_n (lv' := [(1, .long (t1 + ((t0).toInt64))), (0, .ref aE), (3, .int x3)]) hx hb dX0_number_62 rfl hl (by decide) rfl (fun ls hl => ?_)
  exact b_E_number_63 G0 hK hX rec hrec _ _ hm H _ _ hP hD hS (lv_sub hl [1, 0, 2] rfl)
set_option maxRecDepth 100000 in
set_option maxHeartbeats 4000000 in
theorem b_E_number_7 (G : zG p s m args meth c cX0_number RX0 5 (some .long)) (hK : va_K D vwCl (wE_t c1 c2 c3) s) (hX : zC (va_A w0 s.heap.size) s) {res : (Int64)} : ∀ n : Nat, ∀ (x1 : Int64) (x3 : Int32), m_E_number_7 v b rw pw n x1 x3 = some res → zB p l e (zR 2 41) s m args below meth c D vwCl (va_A w0 s.heap.size) (MQ below (zQl D vwCl w0 (wE aE bE rE pE c1 c2 c3 v b rw pw) s.heap.size res) args s 0 0 (va_A w0 s.heap.size)) 5 (wE aE bE rE pE c1 c2 c3 v b rw pw) [(0, .ref aE), (1, .long x1), (3, .int x3)] 7 [] := by
  intro n
  induction n with
  | zero => intro x1 x3 hm; cases hm
  | succ n ih =>
  have hrec := ih
  intro x1 x3 hm H locs ls hP hD hS hl
  replace hm : m_E_number_7b v b rw pw (m_E_number_7 v b rw pw n) x1 x3 = some res := hm
  generalize m_E_number_7 v b rw pw n = rec at hm hrec
  unfold m_E_number_7b at hm
  clear ih
  have G0 := G
  obtain ⟨hx, hb, hr, hml, hown, hw, hlk⟩ := G
  have hA : ∀ q, s.heap.size ≤ q → va_A w0 s.heap.size q := fun q h => Or.inr h
  refine lv_iload_n hx hb dX0_number_7 rfl (lv_at hl 2 rfl) ?_
  refine lv_aload_n hx hb dX0_number_8 rfl (lv_at hl 0 rfl) ?_
  refine va_get (D := D) (ci := 0) (v := .int (v 10)) (C := RX0) (T := TX0) (N := 16) hx hb hw zinX0 hown hK hP 0 rfl rfl 10 (by decide) (hw _ zw255) (fun _ h9 => h9) rfl dX0_number_9 ?_
  refine lv_icmp_ge (tgt := 69) hx hb dX0_number_12 rfl (fun cd1 => ?_) (fun cd1 => ?_)
  · replace hm := zt cd1 hm
    refine lv_aload_n hx hb dX0_number_69 rfl (lv_at hl 0 rfl) ?_
    obtain ⟨q2, hq2, hm⟩ := zbind hm
    refine zbWi (va_runV (As := []) (rest := []) ⟨hx, hb, hml, hown, hw⟩ (k_E_isBelowZero l D aE bE rE pE c1 c2 c3 _ v b rw pw  q2 hq2) (zcV (C := RX0) 0 hw (zgood zw313) rfl rfl rfl zw259 zw315 zw314 zw316 hdX0_isBelowZero ⟨Nat.le_of_ble_eq_true rfl, Nat.le_of_ble_eq_true rfl⟩) (zpreV (zpre zC_ok hX hS (zfree hD hS hA) hP hK hD) (va_recv hK hP rfl (q0 := 0) rfl)) rfl rfl hl.1 rfl (lv_room (Nat.le_of_ble_eq_true rfl)) dX0_number_70 ⟨Nat.zero_le _, Nat.zero_le _⟩) hS (zfree hD hS hA) (fun H locs hP hD hS => ?_)
    refine lv_if_eq (tgt := 81) hx hb dX0_number_73 rfl (fun cd3 => ?_) (fun cd3 => ?_)
    · replace hm := zt cd3 hm
      refine lv_lload_n hx hb dX0_number_81 rfl (lv_at hl 1 rfl) ?_
      cases hm
      exact zretl hx hb hr hlk hP hD hS dX0_number_82
    · replace hm := zf cd3 hm
      refine lv_lload_n hx hb dX0_number_76 rfl (lv_at hl 1 rfl) ?_
      refine lv_lneg hx hb dX0_number_77 ?_
      refine lv_goto (tgt := 82) hx hb dX0_number_78 rfl ?_
      cases hm
      exact zretl hx hb hr hlk hP hD hS dX0_number_82
  · replace hm := zf cd1 hm
    refine lv_aload_n hx hb dX0_number_15 rfl (lv_at hl 0 rfl) ?_
    refine va_get (D := D) (ci := 0) (v := .ref pE) (C := RX0) (T := TX0) (N := 16) hx hb hw zinX0 hown hK hP 0 rfl rfl 6 (by decide) (hw _ zw296) (fun _ h9 => h9) rfl dX0_number_16 ?_
    refine lv_iload_n hx hb dX0_number_19 rfl (lv_at hl 2 rfl) ?_
    obtain ⟨hi4, hm⟩ := zix_s hm
    refine va_iald (i := x3) (f := pw) (n := 24) hx hb hK hP 3 2 rfl rfl hi4 dX0_number_20 ?_
    refine lv_bipush (v := 99) hx hb dX0_number_21 (by decide) ?_
    refine lv_icmp_eq (tgt := 63) hx hb dX0_number_23 rfl (fun cd5 => ?_) (fun cd5 => ?_)
    · replace hm := zt cd5 hm
      exact b_E_number_63 G0 hK hX rec hrec _ _ hm H _ _ hP hD hS hl
    · replace hm := zf cd5 hm
      refine lv_aload_n hx hb dX0_number_26 rfl (lv_at hl 0 rfl) ?_
      refine va_get (D := D) (ci := 0) (v := .ref bE) (C := RX0) (T := TX0) (N := 16) hx hb hw zinX0 hown hK hP 0 rfl rfl 0 (by decide) (hw _ zw308) (fun x9 h9 => u_same (hw _ zw307) x9 h9) rfl dX0_number_27 ?_
      refine lv_aload_n hx hb dX0_number_30 rfl (lv_at hl 0 rfl) ?_
      refine lv_iload_n hx hb dX0_number_31 rfl (lv_at hl 2 rfl) ?_
      obtain ⟨q6, hq6, hm⟩ := zbind hm
      refine zbWi (va_runV (As := [.int x3]) (rest := [.ref bE]) ⟨hx, hb, hml, hown, hw⟩ (k_E_byteOf l D aE bE rE pE c1 c2 c3 _ x3 v b rw pw  q6 hq6) (zcV (C := RX0) 1 hw (zgood zw317) rfl rfl rfl zw259 zw319 zw318 zw320 hdX0_byteOf ⟨Nat.le_of_ble_eq_true rfl, Nat.le_of_ble_eq_true rfl⟩) (zpreV (zpre zC_ok hX hS (zfree hD hS hA) hP hK hD) (va_recv hK hP rfl (q0 := 0) rfl)) rfl rfl hl.1 rfl (lv_room (Nat.le_of_ble_eq_true rfl)) dX0_number_32 ⟨Nat.zero_le _, Nat.zero_le _⟩) hS (zfree hD hS hA) (fun H locs hP hD hS => ?_)
      obtain ⟨hi7, hm⟩ := zix_s hm
      refine va_iald (i := q6) (f := b) (n := 25) hx hb hK hP 1 0 rfl rfl hi7 dX0_number_35 ?_
      refine lv_istore (lv' := [(4, .int (b q6.toNatClampNeg)), (0, .ref aE), (1, .long x1), (3, .int x3)]) hx hb dX0_number_36 hl (by decide) rfl (fun ls hl => ?_)
      refine lv_lload_n hx hb dX0_number_38 rfl (lv_at hl 2 rfl) ?_
      refine lv_ldc2 (v := 10) hx hb hown (hw _ zw321) dX0_number_39 ?_
      refine lv_lmul hx hb dX0_number_42 ?_
      refine lv_iload hx hb dX0_number_43 (lv_at hl 0 rfl) ?_
      obtain ⟨q8, hq8, hm⟩ := zbind hm
      refine zb0i (va_runSN (As := [.int (b q6.toNatClampNeg)]) (rest := [.long (x1 * 10)]) ⟨hx, hb, hml, hown, hw⟩ (k_P_isDigit l D  _ (b q6.toNatClampNeg)  q8 hq8) ⟨va_cnB 1 hw (zgood zw175) rfl rfl rfl (hX.1 _ zn7) (hw _ zw176) hdX5_isDigit ⟨Nat.le_of_ble_eq_true rfl, Nat.le_of_ble_eq_true rfl⟩, hw _ zw177, trivial⟩ (zpre zN_ok trivial hS (zfree0 hS hA) zP0 (hK.sub (tys' := []) [] rfl) zD0) rfl rfl hl.1 rfl (lv_room (Nat.le_of_ble_eq_true rfl)) dX0_number_45 ⟨Nat.zero_le _, Nat.zero_le _⟩) hP hD hS (zfree0 hS hA) (fun H locs hP hD hS => ?_)
      refine lv_if_eq (tgt := 59) hx hb dX0_number_48 rfl (fun cd9 => ?_) (fun cd9 => ?_)
      · replace hm := zt cd9 hm
        refine lv_iconst (v := 0) hx hb dX0_number_59 (by decide) ?_
        exact b_E_number_60 G0 hK hX rec hrec _ _ _ hm H _ _ hP hD hS (lv_sub hl [1, 3] rfl)
      · replace hm := zf cd9 hm
        refine lv_iload hx hb dX0_number_51 (lv_at hl 0 rfl) ?_
        refine lv_bipush (v := 48) hx hb dX0_number_53 (by decide) ?_
        refine lv_isub hx hb dX0_number_55 ?_
        refine lv_goto (tgt := 60) hx hb dX0_number_56 rfl ?_
        exact b_E_number_60 G0 hK hX rec hrec _ _ _ hm H _ _ hP hD hS (lv_sub hl [1, 3] rfl)
end
set_option maxRecDepth 100000 in
set_option maxHeartbeats 4000000 in
theorem k_E_number (l : Launch) (D : va_G) (aE bE rE pE : Nat) (c1 c2 c3 : ClassId) (sz : Nat)  (v : Nat → Int32) (b : Nat → Int32) (rw : Nat → Int32) (pw : Nat → Int32) (res : (Int64)) (hm : m_E_number  v b rw pw  = some res) : Met l yX0_number (Cond.code yX0_number cX0_number 5 (some .long) :: zBIG) (zR 2 41) (va_Pc [.ref aE] (zP zC D vwCl (wE_t c1 c2 c3) (wE aE bE rE pE c1 c2 c3 v b rw pw) sz)) (zQl D vwCl (wE aE bE rE pE c1 c2 c3 v b rw pw) (wE aE bE rE pE c1 c2 c3 v b rw pw) sz res) 0 0 (va_A (wE aE bE rE pE c1 c2 c3 v b rw pw) sz) := by
  refine zEnter RX0 [.ref aE] (by decide) rfl (Nat.le_of_ble_eq_true rfl) (fun p e s m below meth c ls G hK hX hP hD hsz hl => ?_)
  subst hsz
  unfold m_E_number at hm
  have hl : lv_has ls 5 [(0, .ref aE)] := hl
  have hS : va_S (va_A (wE aE bE rE pE c1 c2 c3 v b rw pw) s.heap.size) s.heap s.heap [] := va_S.rf
  have hA : ∀ q, s.heap.size ≤ q → va_A (wE aE bE rE pE c1 c2 c3 v b rw pw) s.heap.size q := fun q h => Or.inr h
  have G0 := G
  obtain ⟨hx, hb, hr, hml, hown, hw, hlk⟩ := G
  refine lv_lconst (v := 0) hx hb dX0_number_0 (by decide) ?_
  refine lv_lstore_n (lv' := [(1, .long 0), (0, .ref aE)]) hx hb dX0_number_1 rfl hl (by decide) rfl (fun ls hl => ?_)
  refine lv_aload_n hx hb dX0_number_2 rfl (lv_at hl 1 rfl) ?_
  refine va_get (D := D) (ci := 0) (v := .int (v 9)) (C := RX0) (T := TX0) (N := 16) hx hb hw zinX0 hown hK hP 0 rfl rfl 9 (by decide) (hw _ zw254) (fun _ h9 => h9) rfl dX0_number_3 ?_
  refine lv_istore_n (lv' := [(3, .int (v 9)), (1, .long 0), (0, .ref aE)]) hx hb dX0_number_6 rfl hl (by decide) rfl (fun ls hl => ?_)
  exact b_E_number_7 G0 hK hX 64 _ _ hm _ _ _ hP hD hS (lv_sub hl [2, 1, 0] rfl)

theorem dX0_suppressed_0 : decode cX0_suppressed 0 = .ok (.aload_n 0, 1) := by decide +kernel
theorem dX0_suppressed_1 : decode cX0_suppressed 1 = .ok (.getfield 54, 3) := by decide +kernel
theorem dX0_suppressed_4 : decode cX0_suppressed 4 = .ok (.bipush 42, 2) := by decide +kernel
theorem dX0_suppressed_6 : decode cX0_suppressed 6 = .ok (.if_icmp .ne 8, 3) := by decide +kernel
theorem dX0_suppressed_9 : decode cX0_suppressed 9 = .ok (.bipush 42, 2) := by decide +kernel
theorem dX0_suppressed_11 : decode cX0_suppressed 11 = .ok (.goto 5, 3) := by decide +kernel
theorem dX0_suppressed_14 : decode cX0_suppressed 14 = .ok (.bipush 32, 2) := by decide +kernel
theorem dX0_suppressed_16 : decode cX0_suppressed 16 = .ok (.ireturn, 1) := by decide +kernel
def m_E_suppressed  (v : Nat → Int32) (b : Nat → Int32) (rw : Nat → Int32) (pw : Nat → Int32)  : Option ((Int32)) := (if (v 11) = 42 then (some 42) else (some 32))
section
variable {p : Program} {l : Launch} {e : Env} {s : State} {m : MethodId} {args : Array Value} {below : List Frame} {meth : Method} {c : Code} {D : va_G} {w0 : va_W} {aE bE rE pE : Nat} {c1 c2 c3 : ClassId} {v : Nat → Int32} {b : Nat → Int32} {rw : Nat → Int32} {pw : Nat → Int32}
end
set_option maxRecDepth 100000 in
set_option maxHeartbeats 4000000 in
theorem k_E_suppressed (l : Launch) (D : va_G) (aE bE rE pE : Nat) (c1 c2 c3 : ClassId) (sz : Nat)  (v : Nat → Int32) (b : Nat → Int32) (rw : Nat → Int32) (pw : Nat → Int32) (res : (Int32)) (hm : m_E_suppressed  v b rw pw  = some res) : Met l yX0_suppressed (Cond.code yX0_suppressed cX0_suppressed 1 (some .int) :: zBIG) (zR 0 0) (va_Pc [.ref aE] (zP zC D vwCl (wE_t c1 c2 c3) (wE aE bE rE pE c1 c2 c3 v b rw pw) sz)) (zQi D vwCl (wE aE bE rE pE c1 c2 c3 v b rw pw) (wE aE bE rE pE c1 c2 c3 v b rw pw) sz res) 0 0 (va_A (wE aE bE rE pE c1 c2 c3 v b rw pw) sz) := by
  refine zEnter RX0 [.ref aE] (by decide) rfl (Nat.le_of_ble_eq_true rfl) (fun p e s m below meth c ls G hK hX hP hD hsz hl => ?_)
  subst hsz
  unfold m_E_suppressed at hm
  have hl : lv_has ls 1 [(0, .ref aE)] := hl
  have hS : va_S (va_A (wE aE bE rE pE c1 c2 c3 v b rw pw) s.heap.size) s.heap s.heap [] := va_S.rf
  have hA : ∀ q, s.heap.size ≤ q → va_A (wE aE bE rE pE c1 c2 c3 v b rw pw) s.heap.size q := fun q h => Or.inr h
  have G0 := G
  obtain ⟨hx, hb, hr, hml, hown, hw, hlk⟩ := G
  refine lv_aload_n hx hb dX0_suppressed_0 rfl (lv_at hl 0 rfl) ?_
  refine va_get (D := D) (ci := 0) (v := .int (v 11)) (C := RX0) (T := TX0) (N := 16) hx hb hw zinX0 hown hK hP 0 rfl rfl 11 (by decide) (hw _ zw272) (fun _ h9 => h9) rfl dX0_suppressed_1 ?_
  refine lv_bipush (v := 42) hx hb dX0_suppressed_4 (by decide) ?_
  refine lv_icmp_ne (tgt := 14) hx hb dX0_suppressed_6 rfl (fun cd1 => ?_) (fun cd1 => ?_)
  · replace hm := zf cd1 hm
    refine lv_bipush (v := 32) hx hb dX0_suppressed_14 (by decide) ?_
    cases hm
    exact zreti hx hb hr hlk hP hD hS dX0_suppressed_16
  · replace hm := zt cd1 hm
    refine lv_bipush (v := 42) hx hb dX0_suppressed_9 (by decide) ?_
    refine lv_goto (tgt := 16) hx hb dX0_suppressed_11 rfl ?_
    cases hm
    exact zreti hx hb hr hlk hP hD hS dX0_suppressed_16

theorem dX0_suppressAll_0 : decode cX0_suppressAll 0 = .ok (.iconst 0, 1) := by decide +kernel
theorem dX0_suppressAll_1 : decode cX0_suppressAll 1 = .ok (.istore_n 1, 1) := by decide +kernel
theorem dX0_suppressAll_2 : decode cX0_suppressAll 2 = .ok (.iload_n 1, 1) := by decide +kernel
theorem dX0_suppressAll_3 : decode cX0_suppressAll 3 = .ok (.aload_n 0, 1) := by decide +kernel
theorem dX0_suppressAll_4 : decode cX0_suppressAll 4 = .ok (.getfield 71, 3) := by decide +kernel
theorem dX0_suppressAll_7 : decode cX0_suppressAll 7 = .ok (.if_icmp .ge 19, 3) := by decide +kernel
theorem dX0_suppressAll_10 : decode cX0_suppressAll 10 = .ok (.aload_n 0, 1) := by decide +kernel
theorem dX0_suppressAll_11 : decode cX0_suppressAll 11 = .ok (.getfield 117, 3) := by decide +kernel
theorem dX0_suppressAll_14 : decode cX0_suppressAll 14 = .ok (.iload_n 1, 1) := by decide +kernel
theorem dX0_suppressAll_15 : decode cX0_suppressAll 15 = .ok (.aload_n 0, 1) := by decide +kernel
theorem dX0_suppressAll_16 : decode cX0_suppressAll 16 = .ok (.invokevirtual 170, 3) := by decide +kernel
theorem dX0_suppressAll_19 : decode cX0_suppressAll 19 = .ok (.iastore, 1) := by decide +kernel
theorem dX0_suppressAll_20 : decode cX0_suppressAll 20 = .ok (.iinc 1 1, 3) := by decide +kernel
theorem dX0_suppressAll_23 : decode cX0_suppressAll 23 = .ok (.goto (-21), 3) := by decide +kernel
theorem dX0_suppressAll_26 : decode cX0_suppressAll 26 = .ok (.aload_n 0, 1) := by decide +kernel
theorem dX0_suppressAll_27 : decode cX0_suppressAll 27 = .ok (.getfield 54, 3) := by decide +kernel
theorem dX0_suppressAll_30 : decode cX0_suppressAll 30 = .ok (.bipush 42, 2) := by decide +kernel
theorem dX0_suppressAll_32 : decode cX0_suppressAll 32 = .ok (.if_icmp .ne 39, 3) := by decide +kernel
theorem dX0_suppressAll_35 : decode cX0_suppressAll 35 = .ok (.aload_n 0, 1) := by decide +kernel
theorem dX0_suppressAll_36 : decode cX0_suppressAll 36 = .ok (.getfield 102, 3) := by decide +kernel
theorem dX0_suppressAll_39 : decode cX0_suppressAll 39 = .ok (.aload_n 0, 1) := by decide +kernel
theorem dX0_suppressAll_40 : decode cX0_suppressAll 40 = .ok (.getfield 83, 3) := by decide +kernel
theorem dX0_suppressAll_43 : decode cX0_suppressAll 43 = .ok (.if_icmp .ge 28, 3) := by decide +kernel
theorem dX0_suppressAll_46 : decode cX0_suppressAll 46 = .ok (.aload_n 0, 1) := by decide +kernel
theorem dX0_suppressAll_47 : decode cX0_suppressAll 47 = .ok (.getfield 9, 3) := by decide +kernel
theorem dX0_suppressAll_50 : decode cX0_suppressAll 50 = .ok (.aload_n 0, 1) := by decide +kernel
theorem dX0_suppressAll_51 : decode cX0_suppressAll 51 = .ok (.getfield 102, 3) := by decide +kernel
theorem dX0_suppressAll_54 : decode cX0_suppressAll 54 = .ok (.iaload, 1) := by decide +kernel
theorem dX0_suppressAll_55 : decode cX0_suppressAll 55 = .ok (.bipush 46, 2) := by decide +kernel
theorem dX0_suppressAll_57 : decode cX0_suppressAll 57 = .ok (.if_icmp .ne 14, 3) := by decide +kernel
theorem dX0_suppressAll_60 : decode cX0_suppressAll 60 = .ok (.aload_n 0, 1) := by decide +kernel
theorem dX0_suppressAll_61 : decode cX0_suppressAll 61 = .ok (.getfield 117, 3) := by decide +kernel
theorem dX0_suppressAll_64 : decode cX0_suppressAll 64 = .ok (.aload_n 0, 1) := by decide +kernel
theorem dX0_suppressAll_65 : decode cX0_suppressAll 65 = .ok (.getfield 102, 3) := by decide +kernel
theorem dX0_suppressAll_68 : decode cX0_suppressAll 68 = .ok (.bipush 46, 2) := by decide +kernel
theorem dX0_suppressAll_70 : decode cX0_suppressAll 70 = .ok (.iastore, 1) := by decide +kernel
theorem dX0_suppressAll_71 : decode cX0_suppressAll 71 = .ok (.return_, 1) := by decide +kernel
def m_E_suppressAll_2b (v : Nat → Int32) (rw : Nat → Int32) (pw : Nat → Int32) (rec : Int32 → (Nat → Int32) → Option ((Nat → Int32))) (x1 : Int32) (b : Nat → Int32) : Option ((Nat → Int32)) := (if (v 1) ≤ x1 then (if (v 11) = 42 then (if (v 10) ≤ (v 15) then (some b) else zix (v 15) 24 ((if (rw (v 15).toNatClampNeg) = 46 then zix (v 15) 25 ((some (upd b (v 15).toNatClampNeg 46))) else (some b)))) else (some b)) else (m_E_suppressed v b rw pw).bind (fun q7 => zix x1 25 (rec (x1 + 1) (upd b x1.toNatClampNeg q7))))
def m_E_suppressAll_2 (v : Nat → Int32) (rw : Nat → Int32) (pw : Nat → Int32) : Nat → Int32 → (Nat → Int32) → Option ((Nat → Int32))
  | 0 => fun _ _ => none
  | n + 1 => fun x1 b => m_E_suppressAll_2b v rw pw (m_E_suppressAll_2 v rw pw n) x1 b
def m_E_suppressAll  (v : Nat → Int32) (b : Nat → Int32) (rw : Nat → Int32) (pw : Nat → Int32)  : Option ((Nat → Int32)) := m_E_suppressAll_2 v rw pw 64 0 b
section
variable {p : Program} {l : Launch} {e : Env} {s : State} {m : MethodId} {args : Array Value} {below : List Frame} {meth : Method} {c : Code} {D : va_G} {w0 : va_W} {aE bE rE pE : Nat} {c1 c2 c3 : ClassId} {v : Nat → Int32} {rw : Nat → Int32} {pw : Nat → Int32}
set_option maxRecDepth 100000 in
set_option maxHeartbeats 4000000 in
theorem b_E_suppressAll_2 (G : zG p s m args meth c cX0_suppressAll RX0 2 none) (hK : va_K D vwCl (wE_t c1 c2 c3) s) (hX : zC (va_A w0 s.heap.size) s) {res : (Nat → Int32)} : ∀ n : Nat, ∀ (x1 : Int32) (b : Nat → Int32), m_E_suppressAll_2 v rw pw n x1 b = some res → zB p l e (zR 1 20) s m args below meth c D vwCl (va_A w0 s.heap.size) (MQ below (zQv D vwCl w0 (wE aE bE rE pE c1 c2 c3 v res rw pw) s.heap.size) args s 0 0 (va_A w0 s.heap.size)) 2 (wE aE bE rE pE c1 c2 c3 v b rw pw) [(0, .ref aE), (1, .int x1)] 2 [] := by
  intro n
  induction n with
  | zero => intro x1 b hm; cases hm
  | succ n ih =>
  have hrec := ih
  intro x1 b hm H locs ls hP hD hS hl
  replace hm : m_E_suppressAll_2b v rw pw (m_E_suppressAll_2 v rw pw n) x1 b = some res := hm
  generalize m_E_suppressAll_2 v rw pw n = rec at hm hrec
  unfold m_E_suppressAll_2b at hm
  clear ih
  have G0 := G
  obtain ⟨hx, hb, hr, hml, hown, hw, hlk⟩ := G
  have hA : ∀ q, s.heap.size ≤ q → va_A w0 s.heap.size q := fun q h => Or.inr h
  refine lv_iload_n hx hb dX0_suppressAll_2 rfl (lv_at hl 1 rfl) ?_
  refine lv_aload_n hx hb dX0_suppressAll_3 rfl (lv_at hl 0 rfl) ?_
  refine va_get (D := D) (ci := 0) (v := .int (v 1)) (C := RX0) (T := TX0) (N := 16) hx hb hw zinX0 hown hK hP 0 rfl rfl 1 (by decide) (hw _ zw302) (fun x9 h9 => u_same (hw _ zw301) x9 h9) rfl dX0_suppressAll_4 ?_
  refine lv_icmp_ge (tgt := 26) hx hb dX0_suppressAll_7 rfl (fun cd1 => ?_) (fun cd1 => ?_)
  · replace hm := zt cd1 hm
    refine lv_aload_n hx hb dX0_suppressAll_26 rfl (lv_at hl 0 rfl) ?_
    refine va_get (D := D) (ci := 0) (v := .int (v 11)) (C := RX0) (T := TX0) (N := 16) hx hb hw zinX0 hown hK hP 0 rfl rfl 11 (by decide) (hw _ zw272) (fun _ h9 => h9) rfl dX0_suppressAll_27 ?_
    refine lv_bipush (v := 42) hx hb dX0_suppressAll_30 (by decide) ?_
    refine lv_icmp_ne (tgt := 71) hx hb dX0_suppressAll_32 rfl (fun cd2 => ?_) (fun cd2 => ?_)
    · replace hm := zf cd2 hm
      cases hm
      exact zretv hx hb hr hlk hP hD hS dX0_suppressAll_71
    · replace hm := zt cd2 hm
      refine lv_aload_n hx hb dX0_suppressAll_35 rfl (lv_at hl 0 rfl) ?_
      refine va_get (D := D) (ci := 0) (v := .int (v 15)) (C := RX0) (T := TX0) (N := 16) hx hb hw zinX0 hown hK hP 0 rfl rfl 15 (by decide) (hw _ zw278) (fun _ h9 => h9) rfl dX0_suppressAll_36 ?_
      refine lv_aload_n hx hb dX0_suppressAll_39 rfl (lv_at hl 0 rfl) ?_
      refine va_get (D := D) (ci := 0) (v := .int (v 10)) (C := RX0) (T := TX0) (N := 16) hx hb hw zinX0 hown hK hP 0 rfl rfl 10 (by decide) (hw _ zw255) (fun _ h9 => h9) rfl dX0_suppressAll_40 ?_
      refine lv_icmp_ge (tgt := 71) hx hb dX0_suppressAll_43 rfl (fun cd3 => ?_) (fun cd3 => ?_)
      · replace hm := zt cd3 hm
        cases hm
        exact zretv hx hb hr hlk hP hD hS dX0_suppressAll_71
      · replace hm := zf cd3 hm
        refine lv_aload_n hx hb dX0_suppressAll_46 rfl (lv_at hl 0 rfl) ?_
        refine va_get (D := D) (ci := 0) (v := .ref rE) (C := RX0) (T := TX0) (N := 16) hx hb hw zinX0 hown hK hP 0 rfl rfl 5 (by decide) (hw _ zw256) (fun _ h9 => h9) rfl dX0_suppressAll_47 ?_
        refine lv_aload_n hx hb dX0_suppressAll_50 rfl (lv_at hl 0 rfl) ?_
        refine va_get (D := D) (ci := 0) (v := .int (v 15)) (C := RX0) (T := TX0) (N := 16) hx hb hw zinX0 hown hK hP 0 rfl rfl 15 (by decide) (hw _ zw278) (fun _ h9 => h9) rfl dX0_suppressAll_51 ?_
        obtain ⟨hi4, hm⟩ := zix_s hm
        refine va_iald (i := (v 15)) (f := rw) (n := 24) hx hb hK hP 2 1 rfl rfl hi4 dX0_suppressAll_54 ?_
        refine lv_bipush (v := 46) hx hb dX0_suppressAll_55 (by decide) ?_
        refine lv_icmp_ne (tgt := 71) hx hb dX0_suppressAll_57 rfl (fun cd5 => ?_) (fun cd5 => ?_)
        · replace hm := zf cd5 hm
          cases hm
          exact zretv hx hb hr hlk hP hD hS dX0_suppressAll_71
        · replace hm := zt cd5 hm
          refine lv_aload_n hx hb dX0_suppressAll_60 rfl (lv_at hl 0 rfl) ?_
          refine va_get (D := D) (ci := 0) (v := .ref bE) (C := RX0) (T := TX0) (N := 16) hx hb hw zinX0 hown hK hP 0 rfl rfl 0 (by decide) (hw _ zw308) (fun x9 h9 => u_same (hw _ zw307) x9 h9) rfl dX0_suppressAll_61 ?_
          refine lv_aload_n hx hb dX0_suppressAll_64 rfl (lv_at hl 0 rfl) ?_
          refine va_get (D := D) (ci := 0) (v := .int (v 15)) (C := RX0) (T := TX0) (N := 16) hx hb hw zinX0 hown hK hP 0 rfl rfl 15 (by decide) (hw _ zw278) (fun _ h9 => h9) rfl dX0_suppressAll_65 ?_
          refine lv_bipush (v := 46) hx hb dX0_suppressAll_68 (by decide) ?_
          obtain ⟨hi6, hm⟩ := zix_s hm
          refine va_iast (i := (v 15)) (x := 46) (f := b) (n := 25) hx hb hK hP hD hS 1 0 rfl rfl hi6 dX0_suppressAll_70 (fun H locs hP hD hS => ?_)
          have hP : va_P D vwCl (wE aE bE rE pE c1 c2 c3 v (upd b (v 15).toNatClampNeg 46) rw pw) H := hP
          have hD : va_D _ (wE aE bE rE pE c1 c2 c3 v (upd b (v 15).toNatClampNeg 46) rw pw) := hD
          cases hm
          exact zretv hx hb hr hlk hP hD hS dX0_suppressAll_71
  · replace hm := zf cd1 hm
    refine lv_aload_n hx hb dX0_suppressAll_10 rfl (lv_at hl 0 rfl) ?_
    refine va_get (D := D) (ci := 0) (v := .ref bE) (C := RX0) (T := TX0) (N := 16) hx hb hw zinX0 hown hK hP 0 rfl rfl 0 (by decide) (hw _ zw308) (fun x9 h9 => u_same (hw _ zw307) x9 h9) rfl dX0_suppressAll_11 ?_
    refine lv_iload_n hx hb dX0_suppressAll_14 rfl (lv_at hl 1 rfl) ?_
    refine lv_aload_n hx hb dX0_suppressAll_15 rfl (lv_at hl 0 rfl) ?_
    obtain ⟨q7, hq7, hm⟩ := zbind hm
    refine zbWi (va_runV (As := []) (rest := [.int x1, .ref bE]) ⟨hx, hb, hml, hown, hw⟩ (k_E_suppressed l D aE bE rE pE c1 c2 c3 _ v b rw pw  q7 hq7) (zcV (C := RX0) 0 hw (zgood zw322) rfl rfl rfl zw259 zw324 zw323 zw325 hdX0_suppressed ⟨Nat.le_of_ble_eq_true rfl, Nat.le_of_ble_eq_true rfl⟩) (zpreV (zpre zC_ok hX hS (zfree hD hS hA) hP hK hD) (va_recv hK hP rfl (q0 := 0) rfl)) rfl rfl hl.1 rfl (lv_room (Nat.le_of_ble_eq_true rfl)) dX0_suppressAll_16 ⟨Nat.zero_le _, Nat.zero_le _⟩) hS (zfree hD hS hA) (fun H locs hP hD hS => ?_)
    obtain ⟨hi8, hm⟩ := zix_s hm
    refine va_iast (i := x1) (x := q7) (f := b) (n := 25) hx hb hK hP hD hS 1 0 rfl rfl hi8 dX0_suppressAll_19 (fun H locs hP hD hS => ?_)
    have hP : va_P D vwCl (wE aE bE rE pE c1 c2 c3 v (upd b x1.toNatClampNeg q7) rw pw) H := hP
    have hD : va_D _ (wE aE bE rE pE c1 c2 c3 v (upd b x1.toNatClampNeg q7) rw pw) := hD
    refine lv_iinc (k := 1) (v := (x1 + 1)) (lv' := [(1, .int (x1 + 1)), (0, .ref aE)]) hx hb dX0_suppressAll_20 hl rfl rfl (by decide) rfl (fun ls hl => ?_)
    refine lv_goto (tgt := 2) hx hb dX0_suppressAll_23 rfl ?_
    exact hrec _ _ hm H _ _ hP hD hS (lv_sub hl [1, 0] rfl)
end
set_option maxRecDepth 100000 in
set_option maxHeartbeats 4000000 in
theorem k_E_suppressAll (l : Launch) (D : va_G) (aE bE rE pE : Nat) (c1 c2 c3 : ClassId) (sz : Nat)  (v : Nat → Int32) (b : Nat → Int32) (rw : Nat → Int32) (pw : Nat → Int32) (res : (Nat → Int32)) (hm : m_E_suppressAll  v b rw pw  = some res) : Met l yX0_suppressAll (Cond.code yX0_suppressAll cX0_suppressAll 2 none :: zBIG) (zR 1 20) (va_Pc [.ref aE] (zP zC D vwCl (wE_t c1 c2 c3) (wE aE bE rE pE c1 c2 c3 v b rw pw) sz)) (zQv D vwCl (wE aE bE rE pE c1 c2 c3 v b rw pw) (wE aE bE rE pE c1 c2 c3 v res rw pw) sz) 0 0 (va_A (wE aE bE rE pE c1 c2 c3 v b rw pw) sz) := by
  refine zEnter RX0 [.ref aE] (by decide) rfl (Nat.le_of_ble_eq_true rfl) (fun p e s m below meth c ls G hK hX hP hD hsz hl => ?_)
  subst hsz
  unfold m_E_suppressAll at hm
  have hl : lv_has ls 2 [(0, .ref aE)] := hl
  have hS : va_S (va_A (wE aE bE rE pE c1 c2 c3 v b rw pw) s.heap.size) s.heap s.heap [] := va_S.rf
  have hA : ∀ q, s.heap.size ≤ q → va_A (wE aE bE rE pE c1 c2 c3 v b rw pw) s.heap.size q := fun q h => Or.inr h
  have G0 := G
  obtain ⟨hx, hb, hr, hml, hown, hw, hlk⟩ := G
  refine lv_iconst (v := 0) hx hb dX0_suppressAll_0 (by decide) ?_
  refine lv_istore_n (lv' := [(1, .int 0), (0, .ref aE)]) hx hb dX0_suppressAll_1 rfl hl (by decide) rfl (fun ls hl => ?_)
  exact b_E_suppressAll_2 G0 hK hX 64 _ _ hm _ _ _ hP hD hS (lv_sub hl [1, 0] rfl)

theorem dX0_suppressZone_0 : decode cX0_suppressZone 0 = .ok (.aload_n 0, 1) := by decide +kernel
theorem dX0_suppressZone_1 : decode cX0_suppressZone 1 = .ok (.getfield 96, 3) := by decide +kernel
theorem dX0_suppressZone_4 : decode cX0_suppressZone 4 = .ok (.istore_n 3, 1) := by decide +kernel
theorem dX0_suppressZone_5 : decode cX0_suppressZone 5 = .ok (.iload_n 3, 1) := by decide +kernel
theorem dX0_suppressZone_6 : decode cX0_suppressZone 6 = .ok (.iload_n 1, 1) := by decide +kernel
theorem dX0_suppressZone_7 : decode cX0_suppressZone 7 = .ok (.if_icmp .ge 19, 3) := by decide +kernel
theorem dX0_suppressZone_10 : decode cX0_suppressZone 10 = .ok (.aload_n 0, 1) := by decide +kernel
theorem dX0_suppressZone_11 : decode cX0_suppressZone 11 = .ok (.getfield 117, 3) := by decide +kernel
theorem dX0_suppressZone_14 : decode cX0_suppressZone 14 = .ok (.iload_n 3, 1) := by decide +kernel
theorem dX0_suppressZone_15 : decode cX0_suppressZone 15 = .ok (.aload_n 0, 1) := by decide +kernel
theorem dX0_suppressZone_16 : decode cX0_suppressZone 16 = .ok (.invokevirtual 170, 3) := by decide +kernel
theorem dX0_suppressZone_19 : decode cX0_suppressZone 19 = .ok (.iastore, 1) := by decide +kernel
theorem dX0_suppressZone_20 : decode cX0_suppressZone 20 = .ok (.iinc 3 1, 3) := by decide +kernel
theorem dX0_suppressZone_23 : decode cX0_suppressZone 23 = .ok (.goto (-18), 3) := by decide +kernel
theorem dX0_suppressZone_26 : decode cX0_suppressZone 26 = .ok (.aload_n 0, 1) := by decide +kernel
theorem dX0_suppressZone_27 : decode cX0_suppressZone 27 = .ok (.invokevirtual 111, 3) := by decide +kernel
theorem dX0_suppressZone_30 : decode cX0_suppressZone 30 = .ok (.ifCond .eq 27, 3) := by decide +kernel
theorem dX0_suppressZone_33 : decode cX0_suppressZone 33 = .ok (.iload_n 1, 1) := by decide +kernel
theorem dX0_suppressZone_34 : decode cX0_suppressZone 34 = .ok (.aload_n 0, 1) := by decide +kernel
theorem dX0_suppressZone_35 : decode cX0_suppressZone 35 = .ok (.getfield 96, 3) := by decide +kernel
theorem dX0_suppressZone_38 : decode cX0_suppressZone 38 = .ok (.if_icmp .le 19, 3) := by decide +kernel
theorem dX0_suppressZone_41 : decode cX0_suppressZone 41 = .ok (.aload_n 0, 1) := by decide +kernel
theorem dX0_suppressZone_42 : decode cX0_suppressZone 42 = .ok (.getfield 117, 3) := by decide +kernel
theorem dX0_suppressZone_45 : decode cX0_suppressZone 45 = .ok (.iload_n 1, 1) := by decide +kernel
theorem dX0_suppressZone_46 : decode cX0_suppressZone 46 = .ok (.iconst 1, 1) := by decide +kernel
theorem dX0_suppressZone_47 : decode cX0_suppressZone 47 = .ok (.isub, 1) := by decide +kernel
theorem dX0_suppressZone_48 : decode cX0_suppressZone 48 = .ok (.aload_n 0, 1) := by decide +kernel
theorem dX0_suppressZone_49 : decode cX0_suppressZone 49 = .ok (.getfield 54, 3) := by decide +kernel
theorem dX0_suppressZone_52 : decode cX0_suppressZone 52 = .ok (.iload_n 2, 1) := by decide +kernel
theorem dX0_suppressZone_53 : decode cX0_suppressZone 53 = .ok (.invokestatic 142, 3) := by decide +kernel
theorem dX0_suppressZone_56 : decode cX0_suppressZone 56 = .ok (.iastore, 1) := by decide +kernel
theorem dX0_suppressZone_57 : decode cX0_suppressZone 57 = .ok (.return_, 1) := by decide +kernel
def m_E_suppressZone_5b (v : Nat → Int32) (rw : Nat → Int32) (pw : Nat → Int32) (rec : Int32 → Int32 → Int32 → (Nat → Int32) → Option ((Nat → Int32))) (x1 : Int32) (x2 : Int32) (x3 : Int32) (b : Nat → Int32) : Option ((Nat → Int32)) := (if x1 ≤ x3 then (m_E_isFloating v b rw pw).bind (fun q2 => (if q2 = 0 then (some b) else (if x1 ≤ (v 13) then (some b) else (m_E_fixedCharacter (v 11) x2).bind (fun q5 => zix (x1 - 1) 25 ((some (upd b (x1 - 1).toNatClampNeg q5))))))) else (m_E_suppressed v b rw pw).bind (fun q7 => zix x3 25 (rec x1 x2 (x3 + 1) (upd b x3.toNatClampNeg q7))))
def m_E_suppressZone_5 (v : Nat → Int32) (rw : Nat → Int32) (pw : Nat → Int32) : Nat → Int32 → Int32 → Int32 → (Nat → Int32) → Option ((Nat → Int32))
  | 0 => fun _ _ _ _ => none
  | n + 1 => fun x1 x2 x3 b => m_E_suppressZone_5b v rw pw (m_E_suppressZone_5 v rw pw n) x1 x2 x3 b
def m_E_suppressZone (a0 : Int32) (a1 : Int32) (v : Nat → Int32) (b : Nat → Int32) (rw : Nat → Int32) (pw : Nat → Int32)  : Option ((Nat → Int32)) := m_E_suppressZone_5 v rw pw 64 a0 a1 (v 13) b
section
variable {p : Program} {l : Launch} {e : Env} {s : State} {m : MethodId} {args : Array Value} {below : List Frame} {meth : Method} {c : Code} {D : va_G} {w0 : va_W} {aE bE rE pE : Nat} {c1 c2 c3 : ClassId} {v : Nat → Int32} {rw : Nat → Int32} {pw : Nat → Int32}
set_option maxRecDepth 100000 in
set_option maxHeartbeats 4000000 in
theorem b_E_suppressZone_5 (G : zG p s m args meth c cX0_suppressZone RX0 4 none) (hK : va_K D vwCl (wE_t c1 c2 c3) s) (hX : zC (va_A w0 s.heap.size) s) {res : (Nat → Int32)} : ∀ n : Nat, ∀ (x1 : Int32) (x2 : Int32) (x3 : Int32) (b : Nat → Int32), m_E_suppressZone_5 v rw pw n x1 x2 x3 b = some res → zB p l e (zR 2 40) s m args below meth c D vwCl (va_A w0 s.heap.size) (MQ below (zQv D vwCl w0 (wE aE bE rE pE c1 c2 c3 v res rw pw) s.heap.size) args s 0 0 (va_A w0 s.heap.size)) 4 (wE aE bE rE pE c1 c2 c3 v b rw pw) [(0, .ref aE), (1, .int x1), (2, .int x2), (3, .int x3)] 5 [] := by
  intro n
  induction n with
  | zero => intro x1 x2 x3 b hm; cases hm
  | succ n ih =>
  have hrec := ih
  intro x1 x2 x3 b hm H locs ls hP hD hS hl
  replace hm : m_E_suppressZone_5b v rw pw (m_E_suppressZone_5 v rw pw n) x1 x2 x3 b = some res := hm
  generalize m_E_suppressZone_5 v rw pw n = rec at hm hrec
  unfold m_E_suppressZone_5b at hm
  clear ih
  have G0 := G
  obtain ⟨hx, hb, hr, hml, hown, hw, hlk⟩ := G
  have hA : ∀ q, s.heap.size ≤ q → va_A w0 s.heap.size q := fun q h => Or.inr h
  refine lv_iload_n hx hb dX0_suppressZone_5 rfl (lv_at hl 3 rfl) ?_
  refine lv_iload_n hx hb dX0_suppressZone_6 rfl (lv_at hl 1 rfl) ?_
  refine lv_icmp_ge (tgt := 26) hx hb dX0_suppressZone_7 rfl (fun cd1 => ?_) (fun cd1 => ?_)
  · replace hm := zt cd1 hm
    refine lv_aload_n hx hb dX0_suppressZone_26 rfl (lv_at hl 0 rfl) ?_
    obtain ⟨q2, hq2, hm⟩ := zbind hm
    refine zbWi (va_runV (As := []) (rest := []) ⟨hx, hb, hml, hown, hw⟩ (k_E_isFloating l D aE bE rE pE c1 c2 c3 _ v b rw pw  q2 hq2) (zcV (C := RX0) 0 hw (zgood zw284) rfl rfl rfl zw259 zw286 zw285 zw287 hdX0_isFloating ⟨Nat.le_of_ble_eq_true rfl, Nat.le_of_ble_eq_true rfl⟩) (zpreV (zpre zC_ok hX hS (zfree hD hS hA) hP hK hD) (va_recv hK hP rfl (q0 := 0) rfl)) rfl rfl hl.1 rfl (lv_room (Nat.le_of_ble_eq_true rfl)) dX0_suppressZone_27 ⟨Nat.zero_le _, Nat.zero_le _⟩) hS (zfree hD hS hA) (fun H locs hP hD hS => ?_)
    refine lv_if_eq (tgt := 57) hx hb dX0_suppressZone_30 rfl (fun cd3 => ?_) (fun cd3 => ?_)
    · replace hm := zt cd3 hm
      cases hm
      exact zretv hx hb hr hlk hP hD hS dX0_suppressZone_57
    · replace hm := zf cd3 hm
      refine lv_iload_n hx hb dX0_suppressZone_33 rfl (lv_at hl 1 rfl) ?_
      refine lv_aload_n hx hb dX0_suppressZone_34 rfl (lv_at hl 0 rfl) ?_
      refine va_get (D := D) (ci := 0) (v := .int (v 13)) (C := RX0) (T := TX0) (N := 16) hx hb hw zinX0 hown hK hP 0 rfl rfl 13 (by decide) (hw _ zw273) (fun _ h9 => h9) rfl dX0_suppressZone_35 ?_
      refine lv_icmp_le (tgt := 57) hx hb dX0_suppressZone_38 rfl (fun cd4 => ?_) (fun cd4 => ?_)
      · replace hm := zt cd4 hm
        cases hm
        exact zretv hx hb hr hlk hP hD hS dX0_suppressZone_57
      · replace hm := zf cd4 hm
        refine lv_aload_n hx hb dX0_suppressZone_41 rfl (lv_at hl 0 rfl) ?_
        refine va_get (D := D) (ci := 0) (v := .ref bE) (C := RX0) (T := TX0) (N := 16) hx hb hw zinX0 hown hK hP 0 rfl rfl 0 (by decide) (hw _ zw308) (fun x9 h9 => u_same (hw _ zw307) x9 h9) rfl dX0_suppressZone_42 ?_
        refine lv_iload_n hx hb dX0_suppressZone_45 rfl (lv_at hl 1 rfl) ?_
        refine lv_iconst (v := 1) hx hb dX0_suppressZone_46 (by decide) ?_
        refine lv_isub hx hb dX0_suppressZone_47 ?_
        refine lv_aload_n hx hb dX0_suppressZone_48 rfl (lv_at hl 0 rfl) ?_
        refine va_get (D := D) (ci := 0) (v := .int (v 11)) (C := RX0) (T := TX0) (N := 16) hx hb hw zinX0 hown hK hP 0 rfl rfl 11 (by decide) (hw _ zw272) (fun _ h9 => h9) rfl dX0_suppressZone_49 ?_
        refine lv_iload_n hx hb dX0_suppressZone_52 rfl (lv_at hl 2 rfl) ?_
        obtain ⟨q5, hq5, hm⟩ := zbind hm
        refine zb0i (va_runS (As := [.int (v 11), .int x2]) (rest := [.int (x1 - 1), .ref bE]) ⟨hx, hb, hml, hown, hw⟩ (k_E_fixedCharacter l D  _ (v 11) x2  q5 hq5) ⟨zcB 2 hw (zgood zw326) rfl rfl rfl zw259 zw328 hdX0_fixedCharacter ⟨Nat.le_of_ble_eq_true rfl, Nat.le_of_ble_eq_true rfl⟩, hw _ zw327⟩ (zpre zN_ok trivial hS (zfree0 hS hA) zP0 (hK.sub (tys' := []) [] rfl) zD0) rfl rfl hl.1 rfl (lv_room (Nat.le_of_ble_eq_true rfl)) dX0_suppressZone_53 ⟨Nat.zero_le _, Nat.zero_le _⟩) hP hD hS (zfree0 hS hA) (fun H locs hP hD hS => ?_)
        obtain ⟨hi6, hm⟩ := zix_s hm
        refine va_iast (i := (x1 - 1)) (x := q5) (f := b) (n := 25) hx hb hK hP hD hS 1 0 rfl rfl hi6 dX0_suppressZone_56 (fun H locs hP hD hS => ?_)
        have hP : va_P D vwCl (wE aE bE rE pE c1 c2 c3 v (upd b (x1 - 1).toNatClampNeg q5) rw pw) H := hP
        have hD : va_D _ (wE aE bE rE pE c1 c2 c3 v (upd b (x1 - 1).toNatClampNeg q5) rw pw) := hD
        cases hm
        exact zretv hx hb hr hlk hP hD hS dX0_suppressZone_57
  · replace hm := zf cd1 hm
    refine lv_aload_n hx hb dX0_suppressZone_10 rfl (lv_at hl 0 rfl) ?_
    refine va_get (D := D) (ci := 0) (v := .ref bE) (C := RX0) (T := TX0) (N := 16) hx hb hw zinX0 hown hK hP 0 rfl rfl 0 (by decide) (hw _ zw308) (fun x9 h9 => u_same (hw _ zw307) x9 h9) rfl dX0_suppressZone_11 ?_
    refine lv_iload_n hx hb dX0_suppressZone_14 rfl (lv_at hl 3 rfl) ?_
    refine lv_aload_n hx hb dX0_suppressZone_15 rfl (lv_at hl 0 rfl) ?_
    obtain ⟨q7, hq7, hm⟩ := zbind hm
    refine zbWi (va_runV (As := []) (rest := [.int x3, .ref bE]) ⟨hx, hb, hml, hown, hw⟩ (k_E_suppressed l D aE bE rE pE c1 c2 c3 _ v b rw pw  q7 hq7) (zcV (C := RX0) 0 hw (zgood zw322) rfl rfl rfl zw259 zw324 zw323 zw325 hdX0_suppressed ⟨Nat.le_of_ble_eq_true rfl, Nat.le_of_ble_eq_true rfl⟩) (zpreV (zpre zC_ok hX hS (zfree hD hS hA) hP hK hD) (va_recv hK hP rfl (q0 := 0) rfl)) rfl rfl hl.1 rfl (lv_room (Nat.le_of_ble_eq_true rfl)) dX0_suppressZone_16 ⟨Nat.zero_le _, Nat.zero_le _⟩) hS (zfree hD hS hA) (fun H locs hP hD hS => ?_)
    obtain ⟨hi8, hm⟩ := zix_s hm
    refine va_iast (i := x3) (x := q7) (f := b) (n := 25) hx hb hK hP hD hS 1 0 rfl rfl hi8 dX0_suppressZone_19 (fun H locs hP hD hS => ?_)
    have hP : va_P D vwCl (wE aE bE rE pE c1 c2 c3 v (upd b x3.toNatClampNeg q7) rw pw) H := hP
    have hD : va_D _ (wE aE bE rE pE c1 c2 c3 v (upd b x3.toNatClampNeg q7) rw pw) := hD
    refine lv_iinc (k := 3) (v := (x3 + 1)) (lv' := [(3, .int (x3 + 1)), (0, .ref aE), (1, .int x1), (2, .int x2)]) hx hb dX0_suppressZone_20 hl rfl rfl (by decide) rfl (fun ls hl => ?_)
    refine lv_goto (tgt := 5) hx hb dX0_suppressZone_23 rfl ?_
    exact hrec _ _ _ _ hm H _ _ hP hD hS (lv_sub hl [1, 2, 3, 0] rfl)
end
set_option maxRecDepth 100000 in
set_option maxHeartbeats 4000000 in
theorem k_E_suppressZone (l : Launch) (D : va_G) (aE bE rE pE : Nat) (c1 c2 c3 : ClassId) (sz : Nat) (a0 : Int32) (a1 : Int32) (v : Nat → Int32) (b : Nat → Int32) (rw : Nat → Int32) (pw : Nat → Int32) (res : (Nat → Int32)) (hm : m_E_suppressZone a0 a1 v b rw pw  = some res) : Met l yX0_suppressZone (Cond.code yX0_suppressZone cX0_suppressZone 4 none :: zBIG) (zR 2 40) (va_Pc [.ref aE, .int a0, .int a1] (zP zC D vwCl (wE_t c1 c2 c3) (wE aE bE rE pE c1 c2 c3 v b rw pw) sz)) (zQv D vwCl (wE aE bE rE pE c1 c2 c3 v b rw pw) (wE aE bE rE pE c1 c2 c3 v res rw pw) sz) 0 0 (va_A (wE aE bE rE pE c1 c2 c3 v b rw pw) sz) := by
  refine zEnter RX0 [.ref aE, .int a0, .int a1] (by decide) rfl (Nat.le_of_ble_eq_true rfl) (fun p e s m below meth c ls G hK hX hP hD hsz hl => ?_)
  subst hsz
  unfold m_E_suppressZone at hm
  have hl : lv_has ls 4 [(0, .ref aE), (1, .int a0), (2, .int a1)] := hl
  have hS : va_S (va_A (wE aE bE rE pE c1 c2 c3 v b rw pw) s.heap.size) s.heap s.heap [] := va_S.rf
  have hA : ∀ q, s.heap.size ≤ q → va_A (wE aE bE rE pE c1 c2 c3 v b rw pw) s.heap.size q := fun q h => Or.inr h
  have G0 := G
  obtain ⟨hx, hb, hr, hml, hown, hw, hlk⟩ := G
  refine lv_aload_n hx hb dX0_suppressZone_0 rfl (lv_at hl 0 rfl) ?_
  refine va_get (D := D) (ci := 0) (v := .int (v 13)) (C := RX0) (T := TX0) (N := 16) hx hb hw zinX0 hown hK hP 0 rfl rfl 13 (by decide) (hw _ zw273) (fun _ h9 => h9) rfl dX0_suppressZone_1 ?_
  refine lv_istore_n (lv' := [(3, .int (v 13)), (0, .ref aE), (1, .int a0), (2, .int a1)]) hx hb dX0_suppressZone_4 rfl hl (by decide) rfl (fun ls hl => ?_)
  exact b_E_suppressZone_5 G0 hK hX 64 _ _ _ _ hm _ _ _ hP hD hS (lv_sub hl [1, 2, 3, 0] rfl)

theorem dX0_writeTrailing_0 : decode cX0_writeTrailing 0 = .ok (.aload_n 0, 1) := by decide +kernel
theorem dX0_writeTrailing_1 : decode cX0_writeTrailing 1 = .ok (.invokevirtual 68, 3) := by decide +kernel
theorem dX0_writeTrailing_4 : decode cX0_writeTrailing 4 = .ok (.ifCond .eq 54, 3) := by decide +kernel
theorem dX0_writeTrailing_7 : decode cX0_writeTrailing 7 = .ok (.aload_n 0, 1) := by decide +kernel
theorem dX0_writeTrailing_8 : decode cX0_writeTrailing 8 = .ok (.getfield 117, 3) := by decide +kernel
theorem dX0_writeTrailing_11 : decode cX0_writeTrailing 11 = .ok (.aload_n 0, 1) := by decide +kernel
theorem dX0_writeTrailing_12 : decode cX0_writeTrailing 12 = .ok (.getfield 71, 3) := by decide +kernel
theorem dX0_writeTrailing_15 : decode cX0_writeTrailing 15 = .ok (.iconst 2, 1) := by decide +kernel
theorem dX0_writeTrailing_16 : decode cX0_writeTrailing 16 = .ok (.isub, 1) := by decide +kernel
theorem dX0_writeTrailing_17 : decode cX0_writeTrailing 17 = .ok (.iload_n 1, 1) := by decide +kernel
theorem dX0_writeTrailing_18 : decode cX0_writeTrailing 18 = .ok (.ifCond .eq 10, 3) := by decide +kernel
theorem dX0_writeTrailing_21 : decode cX0_writeTrailing 21 = .ok (.aload_n 0, 1) := by decide +kernel
theorem dX0_writeTrailing_22 : decode cX0_writeTrailing 22 = .ok (.getfield 51, 3) := by decide +kernel
theorem dX0_writeTrailing_25 : decode cX0_writeTrailing 25 = .ok (.goto 5, 3) := by decide +kernel
theorem dX0_writeTrailing_28 : decode cX0_writeTrailing 28 = .ok (.bipush 32, 2) := by decide +kernel
theorem dX0_writeTrailing_30 : decode cX0_writeTrailing 30 = .ok (.iastore, 1) := by decide +kernel
theorem dX0_writeTrailing_31 : decode cX0_writeTrailing 31 = .ok (.aload_n 0, 1) := by decide +kernel
theorem dX0_writeTrailing_32 : decode cX0_writeTrailing 32 = .ok (.getfield 117, 3) := by decide +kernel
theorem dX0_writeTrailing_35 : decode cX0_writeTrailing 35 = .ok (.aload_n 0, 1) := by decide +kernel
theorem dX0_writeTrailing_36 : decode cX0_writeTrailing 36 = .ok (.getfield 71, 3) := by decide +kernel
theorem dX0_writeTrailing_39 : decode cX0_writeTrailing 39 = .ok (.iconst 1, 1) := by decide +kernel
theorem dX0_writeTrailing_40 : decode cX0_writeTrailing 40 = .ok (.isub, 1) := by decide +kernel
theorem dX0_writeTrailing_41 : decode cX0_writeTrailing 41 = .ok (.iload_n 1, 1) := by decide +kernel
theorem dX0_writeTrailing_42 : decode cX0_writeTrailing 42 = .ok (.ifCond .eq 10, 3) := by decide +kernel
theorem dX0_writeTrailing_45 : decode cX0_writeTrailing 45 = .ok (.aload_n 0, 1) := by decide +kernel
theorem dX0_writeTrailing_46 : decode cX0_writeTrailing 46 = .ok (.invokevirtual 132, 3) := by decide +kernel
theorem dX0_writeTrailing_49 : decode cX0_writeTrailing 49 = .ok (.goto 5, 3) := by decide +kernel
theorem dX0_writeTrailing_52 : decode cX0_writeTrailing 52 = .ok (.bipush 32, 2) := by decide +kernel
theorem dX0_writeTrailing_54 : decode cX0_writeTrailing 54 = .ok (.iastore, 1) := by decide +kernel
theorem dX0_writeTrailing_55 : decode cX0_writeTrailing 55 = .ok (.goto 30, 3) := by decide +kernel
theorem dX0_writeTrailing_58 : decode cX0_writeTrailing 58 = .ok (.aload_n 0, 1) := by decide +kernel
theorem dX0_writeTrailing_59 : decode cX0_writeTrailing 59 = .ok (.getfield 51, 3) := by decide +kernel
theorem dX0_writeTrailing_62 : decode cX0_writeTrailing 62 = .ok (.iconst (-1), 1) := by decide +kernel
theorem dX0_writeTrailing_63 : decode cX0_writeTrailing 63 = .ok (.if_icmp .eq 22, 3) := by decide +kernel
theorem dX0_writeTrailing_66 : decode cX0_writeTrailing 66 = .ok (.aload_n 0, 1) := by decide +kernel
theorem dX0_writeTrailing_67 : decode cX0_writeTrailing 67 = .ok (.getfield 117, 3) := by decide +kernel
theorem dX0_writeTrailing_70 : decode cX0_writeTrailing 70 = .ok (.aload_n 0, 1) := by decide +kernel
theorem dX0_writeTrailing_71 : decode cX0_writeTrailing 71 = .ok (.getfield 71, 3) := by decide +kernel
theorem dX0_writeTrailing_74 : decode cX0_writeTrailing 74 = .ok (.iconst 1, 1) := by decide +kernel
theorem dX0_writeTrailing_75 : decode cX0_writeTrailing 75 = .ok (.isub, 1) := by decide +kernel
theorem dX0_writeTrailing_76 : decode cX0_writeTrailing 76 = .ok (.aload_n 0, 1) := by decide +kernel
theorem dX0_writeTrailing_77 : decode cX0_writeTrailing 77 = .ok (.getfield 51, 3) := by decide +kernel
theorem dX0_writeTrailing_80 : decode cX0_writeTrailing 80 = .ok (.iload_n 1, 1) := by decide +kernel
theorem dX0_writeTrailing_81 : decode cX0_writeTrailing 81 = .ok (.invokestatic 142, 3) := by decide +kernel
theorem dX0_writeTrailing_84 : decode cX0_writeTrailing 84 = .ok (.iastore, 1) := by decide +kernel
theorem dX0_writeTrailing_85 : decode cX0_writeTrailing 85 = .ok (.return_, 1) := by decide +kernel
def m_E_writeTrailing_54 (v : Nat → Int32) (rw : Nat → Int32) (pw : Nat → Int32) (t0 : Int32) (t1 : Int32) (b : Nat → Int32) : Option ((Nat → Int32)) := zix t1 25 ((some (upd b t1.toNatClampNeg t0)))
def m_E_writeTrailing_30 (v : Nat → Int32) (rw : Nat → Int32) (pw : Nat → Int32) (x1 : Int32) (t0 : Int32) (t1 : Int32) (b : Nat → Int32) : Option ((Nat → Int32)) := zix t1 25 ((if x1 = 0 then m_E_writeTrailing_54 v rw pw 32 ((v 1) - 1) (upd b t1.toNatClampNeg t0) else (m_E_secondLetter v (upd b t1.toNatClampNeg t0) rw pw).bind (fun q10 => m_E_writeTrailing_54 v rw pw q10 ((v 1) - 1) (upd b t1.toNatClampNeg t0))))
def m_E_writeTrailing (a0 : Int32) (v : Nat → Int32) (b : Nat → Int32) (rw : Nat → Int32) (pw : Nat → Int32)  : Option ((Nat → Int32)) := (m_E_isLetterSign v b rw pw).bind (fun q1 => (if q1 = 0 then (if (v 8) = (-1) then (some b) else (m_E_fixedCharacter (v 8) a0).bind (fun q4 => zix ((v 1) - 1) 25 ((some (upd b ((v 1) - 1).toNatClampNeg q4))))) else (if a0 = 0 then m_E_writeTrailing_30 v rw pw a0 32 ((v 1) - 2) b else m_E_writeTrailing_30 v rw pw a0 (v 8) ((v 1) - 2) b)))
section
variable {p : Program} {l : Launch} {e : Env} {s : State} {m : MethodId} {args : Array Value} {below : List Frame} {meth : Method} {c : Code} {D : va_G} {w0 : va_W} {aE bE rE pE : Nat} {c1 c2 c3 : ClassId} {v : Nat → Int32} {rw : Nat → Int32} {pw : Nat → Int32}
set_option maxRecDepth 100000 in
set_option maxHeartbeats 4000000 in
theorem b_E_writeTrailing_54 (G : zG p s m args meth c cX0_writeTrailing RX0 2 none) (hK : va_K D vwCl (wE_t c1 c2 c3) s) (hX : zC (va_A w0 s.heap.size) s) {res : (Nat → Int32)} : ∀ (t0 : Int32) (t1 : Int32) (b : Nat → Int32), m_E_writeTrailing_54 v rw pw t0 t1 b = some res → zB p l e (zR 1 21) s m args below meth c D vwCl (va_A w0 s.heap.size) (MQ below (zQv D vwCl w0 (wE aE bE rE pE c1 c2 c3 v res rw pw) s.heap.size) args s 0 0 (va_A w0 s.heap.size)) 2 (wE aE bE rE pE c1 c2 c3 v b rw pw) [] 54 [.int t0, .int t1, .ref bE] := by
  intro t0 t1 b hm H locs ls hP hD hS hl
  unfold m_E_writeTrailing_54 at hm
  have G0 := G
  obtain ⟨hx, hb, hr, hml, hown, hw, hlk⟩ := G
  have hA : ∀ q, s.heap.size ≤ q → va_A w0 s.heap.size q := fun q h => Or.inr h
  obtain ⟨hi9, hm⟩ := zix_s hm
  refine va_iast (i := t1) (x := t0) (f := b) (n := 25) hx hb hK hP hD hS 1 0 rfl rfl hi9 dX0_writeTrailing_54 (fun H locs hP hD hS => ?_)
  have hP : va_P D vwCl (wE aE bE rE pE c1 c2 c3 v (upd b t1.toNatClampNeg t0) rw pw) H := hP
  have hD : va_D _ (wE aE bE rE pE c1 c2 c3 v (upd b t1.toNatClampNeg t0) rw pw) := hD
  refine lv_goto (tgt := 85) hx hb dX0_writeTrailing_55 rfl ?_
  cases hm
  exact zretv hx hb hr hlk hP hD hS dX0_writeTrailing_85
set_option maxRecDepth 100000 in
set_option maxHeartbeats 4000000 in
theorem b_E_writeTrailing_30 (G : zG p s m args meth c cX0_writeTrailing RX0 2 none) (hK : va_K D vwCl (wE_t c1 c2 c3) s) (hX : zC (va_A w0 s.heap.size) s) {res : (Nat → Int32)} : ∀ (x1 : Int32) (t0 : Int32) (t1 : Int32) (b : Nat → Int32), m_E_writeTrailing_30 v rw pw x1 t0 t1 b = some res → zB p l e (zR 1 21) s m args below meth c D vwCl (va_A w0 s.heap.size) (MQ below (zQv D vwCl w0 (wE aE bE rE pE c1 c2 c3 v res rw pw) s.heap.size) args s 0 0 (va_A w0 s.heap.size)) 2 (wE aE bE rE pE c1 c2 c3 v b rw pw) [(0, .ref aE), (1, .int x1)] 30 [.int t0, .int t1, .ref bE] := by
  intro x1 t0 t1 b hm H locs ls hP hD hS hl
  unfold m_E_writeTrailing_30 at hm
  have G0 := G
  obtain ⟨hx, hb, hr, hml, hown, hw, hlk⟩ := G
  have hA : ∀ q, s.heap.size ≤ q → va_A w0 s.heap.size q := fun q h => Or.inr h
  obtain ⟨hi7, hm⟩ := zix_s hm
  refine va_iast (i := t1) (x := t0) (f := b) (n := 25) hx hb hK hP hD hS 1 0 rfl rfl hi7 dX0_writeTrailing_30 (fun H locs hP hD hS => ?_)
  have hP : va_P D vwCl (wE aE bE rE pE c1 c2 c3 v (upd b t1.toNatClampNeg t0) rw pw) H := hP
  have hD : va_D _ (wE aE bE rE pE c1 c2 c3 v (upd b t1.toNatClampNeg t0) rw pw) := hD
  refine lv_aload_n hx hb dX0_writeTrailing_31 rfl (lv_at hl 0 rfl) ?_
  refine va_get (D := D) (ci := 0) (v := .ref bE) (C := RX0) (T := TX0) (N := 16) hx hb hw zinX0 hown hK hP 0 rfl rfl 0 (by decide) (hw _ zw308) (fun x9 h9 => u_same (hw _ zw307) x9 h9) rfl dX0_writeTrailing_32 ?_
  refine lv_aload_n hx hb dX0_writeTrailing_35 rfl (lv_at hl 0 rfl) ?_
  refine va_get (D := D) (ci := 0) (v := .int (v 1)) (C := RX0) (T := TX0) (N := 16) hx hb hw zinX0 hown hK hP 0 rfl rfl 1 (by decide) (hw _ zw302) (fun x9 h9 => u_same (hw _ zw301) x9 h9) rfl dX0_writeTrailing_36 ?_
  refine lv_iconst (v := 1) hx hb dX0_writeTrailing_39 (by decide) ?_
  refine lv_isub hx hb dX0_writeTrailing_40 ?_
  refine lv_iload_n hx hb dX0_writeTrailing_41 rfl (lv_at hl 1 rfl) ?_
  refine lv_if_eq (tgt := 52) hx hb dX0_writeTrailing_42 rfl (fun cd8 => ?_) (fun cd8 => ?_)
  · replace hm := zt cd8 hm
    refine lv_bipush (v := 32) hx hb dX0_writeTrailing_52 (by decide) ?_
    exact b_E_writeTrailing_54 G0 hK hX _ _ _ hm H _ _ hP hD hS (lv_sub hl [] rfl)
  · replace hm := zf cd8 hm
    refine lv_aload_n hx hb dX0_writeTrailing_45 rfl (lv_at hl 0 rfl) ?_
    obtain ⟨q10, hq10, hm⟩ := zbind hm
    refine zbWi (va_runV (As := []) (rest := [.int ((v 1) - 1), .ref bE]) ⟨hx, hb, hml, hown, hw⟩ (k_E_secondLetter l D aE bE rE pE c1 c2 c3 _ v (upd b t1.toNatClampNeg t0) rw pw  q10 hq10) (zcV (C := RX0) 0 hw (zgood zw309) rfl rfl rfl zw259 zw311 zw310 zw312 hdX0_secondLetter ⟨Nat.le_of_ble_eq_true rfl, Nat.le_of_ble_eq_true rfl⟩) (zpreV (zpre zC_ok hX hS (zfree hD hS hA) hP hK hD) (va_recv hK hP rfl (q0 := 0) rfl)) rfl rfl hl.1 rfl (lv_room (Nat.le_of_ble_eq_true rfl)) dX0_writeTrailing_46 ⟨Nat.zero_le _, Nat.zero_le _⟩) hS (zfree hD hS hA) (fun H locs hP hD hS => ?_)
    refine lv_goto (tgt := 54) hx hb dX0_writeTrailing_49 rfl ?_
    exact b_E_writeTrailing_54 G0 hK hX _ _ _ hm H _ _ hP hD hS (lv_sub hl [] rfl)
end
set_option maxRecDepth 100000 in
set_option maxHeartbeats 4000000 in
theorem k_E_writeTrailing (l : Launch) (D : va_G) (aE bE rE pE : Nat) (c1 c2 c3 : ClassId) (sz : Nat) (a0 : Int32) (v : Nat → Int32) (b : Nat → Int32) (rw : Nat → Int32) (pw : Nat → Int32) (res : (Nat → Int32)) (hm : m_E_writeTrailing a0 v b rw pw  = some res) : Met l yX0_writeTrailing (Cond.code yX0_writeTrailing cX0_writeTrailing 2 none :: zBIG) (zR 1 21) (va_Pc [.ref aE, .int a0] (zP zC D vwCl (wE_t c1 c2 c3) (wE aE bE rE pE c1 c2 c3 v b rw pw) sz)) (zQv D vwCl (wE aE bE rE pE c1 c2 c3 v b rw pw) (wE aE bE rE pE c1 c2 c3 v res rw pw) sz) 0 0 (va_A (wE aE bE rE pE c1 c2 c3 v b rw pw) sz) := by
  refine zEnter RX0 [.ref aE, .int a0] (by decide) rfl (Nat.le_of_ble_eq_true rfl) (fun p e s m below meth c ls G hK hX hP hD hsz hl => ?_)
  subst hsz
  unfold m_E_writeTrailing at hm
  have hl : lv_has ls 2 [(0, .ref aE), (1, .int a0)] := hl
  have hS : va_S (va_A (wE aE bE rE pE c1 c2 c3 v b rw pw) s.heap.size) s.heap s.heap [] := va_S.rf
  have hA : ∀ q, s.heap.size ≤ q → va_A (wE aE bE rE pE c1 c2 c3 v b rw pw) s.heap.size q := fun q h => Or.inr h
  have G0 := G
  obtain ⟨hx, hb, hr, hml, hown, hw, hlk⟩ := G
  refine lv_aload_n hx hb dX0_writeTrailing_0 rfl (lv_at hl 0 rfl) ?_
  obtain ⟨q1, hq1, hm⟩ := zbind hm
  refine zbWi (va_runV (As := []) (rest := []) ⟨hx, hb, hml, hown, hw⟩ (k_E_isLetterSign l D aE bE rE pE c1 c2 c3 _ v b rw pw  q1 hq1) (zcV (C := RX0) 0 hw (zgood zw303) rfl rfl rfl zw259 zw305 zw304 zw306 hdX0_isLetterSign ⟨Nat.le_of_ble_eq_true rfl, Nat.le_of_ble_eq_true rfl⟩) (zpreV (zpre zC_ok hX hS (zfree hD hS hA) hP hK hD) (va_recv hK hP rfl (q0 := 0) rfl)) rfl rfl hl.1 rfl (lv_room (Nat.le_of_ble_eq_true rfl)) dX0_writeTrailing_1 ⟨Nat.zero_le _, Nat.zero_le _⟩) hS (zfree hD hS hA) (fun H locs hP hD hS => ?_)
  refine lv_if_eq (tgt := 58) hx hb dX0_writeTrailing_4 rfl (fun cd2 => ?_) (fun cd2 => ?_)
  · replace hm := zt cd2 hm
    refine lv_aload_n hx hb dX0_writeTrailing_58 rfl (lv_at hl 0 rfl) ?_
    refine va_get (D := D) (ci := 0) (v := .int (v 8)) (C := RX0) (T := TX0) (N := 16) hx hb hw zinX0 hown hK hP 0 rfl rfl 8 (by decide) (hw _ zw257) (fun _ h9 => h9) rfl dX0_writeTrailing_59 ?_
    refine lv_iconst (v := (-1)) hx hb dX0_writeTrailing_62 (by decide) ?_
    refine lv_icmp_eq (tgt := 85) hx hb dX0_writeTrailing_63 rfl (fun cd3 => ?_) (fun cd3 => ?_)
    · replace hm := zt cd3 hm
      cases hm
      exact zretv hx hb hr hlk hP hD hS dX0_writeTrailing_85
    · replace hm := zf cd3 hm
      refine lv_aload_n hx hb dX0_writeTrailing_66 rfl (lv_at hl 0 rfl) ?_
      refine va_get (D := D) (ci := 0) (v := .ref bE) (C := RX0) (T := TX0) (N := 16) hx hb hw zinX0 hown hK hP 0 rfl rfl 0 (by decide) (hw _ zw308) (fun x9 h9 => u_same (hw _ zw307) x9 h9) rfl dX0_writeTrailing_67 ?_
      refine lv_aload_n hx hb dX0_writeTrailing_70 rfl (lv_at hl 0 rfl) ?_
      refine va_get (D := D) (ci := 0) (v := .int (v 1)) (C := RX0) (T := TX0) (N := 16) hx hb hw zinX0 hown hK hP 0 rfl rfl 1 (by decide) (hw _ zw302) (fun x9 h9 => u_same (hw _ zw301) x9 h9) rfl dX0_writeTrailing_71 ?_
      refine lv_iconst (v := 1) hx hb dX0_writeTrailing_74 (by decide) ?_
      refine lv_isub hx hb dX0_writeTrailing_75 ?_
      refine lv_aload_n hx hb dX0_writeTrailing_76 rfl (lv_at hl 0 rfl) ?_
      refine va_get (D := D) (ci := 0) (v := .int (v 8)) (C := RX0) (T := TX0) (N := 16) hx hb hw zinX0 hown hK hP 0 rfl rfl 8 (by decide) (hw _ zw257) (fun _ h9 => h9) rfl dX0_writeTrailing_77 ?_
      refine lv_iload_n hx hb dX0_writeTrailing_80 rfl (lv_at hl 1 rfl) ?_
      obtain ⟨q4, hq4, hm⟩ := zbind hm
      refine zb0i (va_runS (As := [.int (v 8), .int a0]) (rest := [.int ((v 1) - 1), .ref bE]) ⟨hx, hb, hml, hown, hw⟩ (k_E_fixedCharacter l D  _ (v 8) a0  q4 hq4) ⟨zcB 2 hw (zgood zw326) rfl rfl rfl zw259 zw328 hdX0_fixedCharacter ⟨Nat.le_of_ble_eq_true rfl, Nat.le_of_ble_eq_true rfl⟩, hw _ zw327⟩ (zpre zN_ok trivial hS (zfree0 hS hA) zP0 (hK.sub (tys' := []) [] rfl) zD0) rfl rfl hl.1 rfl (lv_room (Nat.le_of_ble_eq_true rfl)) dX0_writeTrailing_81 ⟨Nat.zero_le _, Nat.zero_le _⟩) hP hD hS (zfree0 hS hA) (fun H locs hP hD hS => ?_)
      obtain ⟨hi5, hm⟩ := zix_s hm
      refine va_iast (i := ((v 1) - 1)) (x := q4) (f := b) (n := 25) hx hb hK hP hD hS 1 0 rfl rfl hi5 dX0_writeTrailing_84 (fun H locs hP hD hS => ?_)
      have hP : va_P D vwCl (wE aE bE rE pE c1 c2 c3 v (upd b ((v 1) - 1).toNatClampNeg q4) rw pw) H := hP
      have hD : va_D _ (wE aE bE rE pE c1 c2 c3 v (upd b ((v 1) - 1).toNatClampNeg q4) rw pw) := hD
      cases hm
      exact zretv hx hb hr hlk hP hD hS dX0_writeTrailing_85
  · replace hm := zf cd2 hm
    refine lv_aload_n hx hb dX0_writeTrailing_7 rfl (lv_at hl 0 rfl) ?_
    refine va_get (D := D) (ci := 0) (v := .ref bE) (C := RX0) (T := TX0) (N := 16) hx hb hw zinX0 hown hK hP 0 rfl rfl 0 (by decide) (hw _ zw308) (fun x9 h9 => u_same (hw _ zw307) x9 h9) rfl dX0_writeTrailing_8 ?_
    refine lv_aload_n hx hb dX0_writeTrailing_11 rfl (lv_at hl 0 rfl) ?_
    refine va_get (D := D) (ci := 0) (v := .int (v 1)) (C := RX0) (T := TX0) (N := 16) hx hb hw zinX0 hown hK hP 0 rfl rfl 1 (by decide) (hw _ zw302) (fun x9 h9 => u_same (hw _ zw301) x9 h9) rfl dX0_writeTrailing_12 ?_
    refine lv_iconst (v := 2) hx hb dX0_writeTrailing_15 (by decide) ?_
    refine lv_isub hx hb dX0_writeTrailing_16 ?_
    refine lv_iload_n hx hb dX0_writeTrailing_17 rfl (lv_at hl 1 rfl) ?_
    refine lv_if_eq (tgt := 28) hx hb dX0_writeTrailing_18 rfl (fun cd6 => ?_) (fun cd6 => ?_)
    · replace hm := zt cd6 hm
      refine lv_bipush (v := 32) hx hb dX0_writeTrailing_28 (by decide) ?_
      exact b_E_writeTrailing_30 G0 hK hX _ _ _ _ hm _ _ _ hP hD hS hl
    · replace hm := zf cd6 hm
      refine lv_aload_n hx hb dX0_writeTrailing_21 rfl (lv_at hl 0 rfl) ?_
      refine va_get (D := D) (ci := 0) (v := .int (v 8)) (C := RX0) (T := TX0) (N := 16) hx hb hw zinX0 hown hK hP 0 rfl rfl 8 (by decide) (hw _ zw257) (fun _ h9 => h9) rfl dX0_writeTrailing_22 ?_
      refine lv_goto (tgt := 30) hx hb dX0_writeTrailing_25 rfl ?_
      exact b_E_writeTrailing_30 G0 hK hX _ _ _ _ hm _ _ _ hP hD hS hl

