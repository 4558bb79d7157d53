theorem dX6_thrown_0 : decode cX6_thrown 0 = .ok (.aload_n 0, 1) := by decide +kernel
theorem dX6_thrown_1 : decode cX6_thrown 1 = .ok (.getfield 65, 3) := by decide +kernel
theorem dX6_thrown_4 : decode cX6_thrown 4 = .ok (.ireturn, 1) := by decide +kernel
def m_M_thrown  (v : Nat → Int32) (u : Nat → Nat → Int32)  : Option ((Int32)) := (some (v 0))
section
variable {p : Program} {l : Launch} {e : Env} {s : State} {m : MethodId} {args : Array Value} {below : List Frame} {meth : Method} {c : Code} {D : va_G} {w0 : va_W} {ad : Nat → Nat} {ca : Nat → ClassId} {v : Nat → Int32} {u : Nat → Nat → Int32}
end
set_option maxRecDepth 100000 in
set_option maxHeartbeats 4000000 in
theorem k_M_thrown (l : Launch) (D : va_G) (ad : Nat → Nat) (ca : Nat → ClassId) (sz : Nat)  (v : Nat → Int32) (u : Nat → Nat → Int32) (res : (Int32)) (hm : m_M_thrown  v u  = some res) : Met l yX6_thrown (Cond.code yX6_thrown cX6_thrown 1 (some .int) :: zBIG) (zR 0 0) (va_Pc [.ref (ad 0)] (zP zN D vwCl (wM_t ca) (wM ad ca v u) sz)) (zQi D vwCl (wM ad ca v u) (wM ad ca v u) sz res) 0 0 (va_A (wM ad ca v u) sz) := by
  refine zEnter RX6 [.ref (ad 0)] (by decide) rfl (Nat.le_of_ble_eq_true rfl) (fun p e s m below meth c ls G hK hX hP hD hsz hl => ?_)
  subst hsz
  unfold m_M_thrown at hm
  have hl : lv_has ls 1 [(0, .ref (ad 0))] := hl
  have hS : va_S (va_A (wM ad ca v u) s.heap.size) s.heap s.heap [] := va_S.rf
  have hA : ∀ q, s.heap.size ≤ q → va_A (wM ad ca v u) s.heap.size q := fun q h => Or.inr h
  have G0 := G
  obtain ⟨hx, hb, hr, hml, hown, hw, hlk⟩ := G
  refine lv_aload_n hx hb dX6_thrown_0 rfl (lv_at hl 0 rfl) ?_
  refine va_get (D := D) (ci := 5) (v := .int (v 0)) (C := RX6) (T := TX6) (N := 24) hx hb hw zinX6 hown hK hP 0 rfl rfl 0 (by decide) (hw _ zw0) (fun _ h9 => h9) rfl dX6_thrown_1 ?_
  cases hm
  exact zreti hx hb hr hlk hP hD hS dX6_thrown_4

theorem dX6_fails_0 : decode cX6_fails 0 = .ok (.aload_n 0, 1) := by decide +kernel
theorem dX6_fails_1 : decode cX6_fails 1 = .ok (.iload_n 1, 1) := by decide +kernel
theorem dX6_fails_2 : decode cX6_fails 2 = .ok (.ifCond .eq 7, 3) := by decide +kernel
theorem dX6_fails_5 : decode cX6_fails 5 = .ok (.iconst 1, 1) := by decide +kernel
theorem dX6_fails_6 : decode cX6_fails 6 = .ok (.goto 20, 3) := by decide +kernel
theorem dX6_fails_9 : decode cX6_fails 9 = .ok (.iload_n 2, 1) := by decide +kernel
theorem dX6_fails_10 : decode cX6_fails 10 = .ok (.ifCond .eq 7, 3) := by decide +kernel
theorem dX6_fails_13 : decode cX6_fails 13 = .ok (.iconst 2, 1) := by decide +kernel
theorem dX6_fails_14 : decode cX6_fails 14 = .ok (.goto 12, 3) := by decide +kernel
theorem dX6_fails_17 : decode cX6_fails 17 = .ok (.iload_n 3, 1) := by decide +kernel
theorem dX6_fails_18 : decode cX6_fails 18 = .ok (.ifCond .eq 7, 3) := by decide +kernel
theorem dX6_fails_21 : decode cX6_fails 21 = .ok (.iconst 3, 1) := by decide +kernel
theorem dX6_fails_22 : decode cX6_fails 22 = .ok (.goto 4, 3) := by decide +kernel
theorem dX6_fails_25 : decode cX6_fails 25 = .ok (.iconst 0, 1) := by decide +kernel
theorem dX6_fails_26 : decode cX6_fails 26 = .ok (.putfield 65, 3) := by decide +kernel
theorem dX6_fails_29 : decode cX6_fails 29 = .ok (.aload_n 0, 1) := by decide +kernel
theorem dX6_fails_30 : decode cX6_fails 30 = .ok (.getfield 65, 3) := by decide +kernel
theorem dX6_fails_33 : decode cX6_fails 33 = .ok (.ifCond .le 7, 3) := by decide +kernel
theorem dX6_fails_36 : decode cX6_fails 36 = .ok (.iconst 1, 1) := by decide +kernel
theorem dX6_fails_37 : decode cX6_fails 37 = .ok (.goto 4, 3) := by decide +kernel
theorem dX6_fails_40 : decode cX6_fails 40 = .ok (.iconst 0, 1) := by decide +kernel
theorem dX6_fails_41 : decode cX6_fails 41 = .ok (.ireturn, 1) := by decide +kernel
def m_M_fails_26 (u : Nat → Nat → Int32) (t0 : Int32) (v : Nat → Int32) : Option ((Int32) × (Nat → Int32)) := (if ((upd v 0 t0) 0) ≤ 0 then (zbo 0 (some (0, (upd v 0 t0)))) else (zbo 1 (some (1, (upd v 0 t0)))))
def m_M_fails (a0 : Int32) (a1 : Int32) (a2 : Int32) (v : Nat → Int32) (u : Nat → Nat → Int32)  : Option ((Int32) × (Nat → Int32)) := (if a0 = 0 then (if a1 = 0 then (if a2 = 0 then m_M_fails_26 u 0 v else m_M_fails_26 u 3 v) else m_M_fails_26 u 2 v) else m_M_fails_26 u 1 v)
section
variable {p : Program} {l : Launch} {e : Env} {s : State} {m : MethodId} {args : Array Value} {below : List Frame} {meth : Method} {c : Code} {D : va_G} {w0 : va_W} {ad : Nat → Nat} {ca : Nat → ClassId} {u : Nat → Nat → Int32}
set_option maxRecDepth 100000 in
set_option maxHeartbeats 4000000 in
theorem b_M_fails_26 (G : zG p s m args meth c cX6_fails RX6 4 (some .boolean)) (hK : va_K D vwCl (wM_t ca) s) (hX : zN (va_A w0 s.heap.size) s) {res : (Int32) × (Nat → Int32)} : ∀ (t0 : Int32) (v : Nat → Int32), m_M_fails_26 u t0 v = some res → zB p l e (zR 0 0) s m args below meth c D vwCl (va_A w0 s.heap.size) (MQ below (zQi D vwCl w0 (wM ad ca res.2 u) s.heap.size res.1) args s 0 0 (va_A w0 s.heap.size)) 4 (wM ad ca v u) [(0, .ref (ad 0))] 26 [.int t0, .ref (ad 0)] := by
  intro t0 v hm H locs ls hP hD hS hl
  unfold m_M_fails_26 at hm
  have G0 := G
  obtain ⟨hx, hb, hr, hml, hown, hw, hlk⟩ := G
  have hA : ∀ q, s.heap.size ≤ q → va_A w0 s.heap.size q := fun q h => Or.inr h
  refine va_put (D := D) (ci := 5) (v := .int t0) (ty := .int) (C := RX6) (T := TX6) (N := 24) hx hb hw zinX6 tyX6 tyX6_ok nmX6 hown hK hP hD hS 0 rfl rfl 0 (by decide) (hw _ zw0) (fun _ h9 => h9) rfl (by decide +kernel) rfl rfl (Nat.le_of_ble_eq_true rfl) dX6_fails_26 (fun H locs hP hD hS => ?_)
  have hP : va_P D vwCl (wM ad ca (upd v 0 t0) u) H := hP
  have hD : va_D _ (wM ad ca (upd v 0 t0) u) := hD
  refine lv_aload_n hx hb dX6_fails_29 rfl (lv_at hl 0 rfl) ?_
  refine va_get (D := D) (ci := 5) (v := .int ((upd v 0 t0) 0)) (C := RX6) (T := TX6) (N := 24) hx hb hw zinX6 hown hK hP 0 rfl rfl 0 (by decide) (hw _ zw0) (fun _ h9 => h9) rfl dX6_fails_30 ?_
  refine lv_if_le (tgt := 40) hx hb dX6_fails_33 rfl (fun cd4 => ?_) (fun cd4 => ?_)
  · replace hm := zt cd4 hm
    refine lv_iconst (v := 0) hx hb dX6_fails_40 (by decide) ?_
    obtain ⟨hz5, -, hm⟩ := zbo_s hm
    cases hm
    exact zretz hx hb hr hlk hz5 hP hD hS dX6_fails_41
  · replace hm := zf cd4 hm
    refine lv_iconst (v := 1) hx hb dX6_fails_36 (by decide) ?_
    refine lv_goto (tgt := 41) hx hb dX6_fails_37 rfl ?_
    obtain ⟨hz6, -, hm⟩ := zbo_s hm
    cases hm
    exact zretz hx hb hr hlk hz6 hP hD hS dX6_fails_41
end
set_option maxRecDepth 100000 in
set_option maxHeartbeats 4000000 in
theorem k_M_fails (l : Launch) (D : va_G) (ad : Nat → Nat) (ca : Nat → ClassId) (sz : Nat) (a0 : Int32) (a1 : Int32) (a2 : Int32) (v : Nat → Int32) (u : Nat → Nat → Int32) (res : (Int32) × (Nat → Int32)) (hm : m_M_fails a0 a1 a2 v u  = some res) : Met l yX6_fails (Cond.code yX6_fails cX6_fails 4 (some .boolean) :: zBIG) (zR 0 0) (va_Pc [.ref (ad 0), .int a0, .int a1, .int a2] (zP zN D vwCl (wM_t ca) (wM ad ca v u) sz)) (zQi D vwCl (wM ad ca v u) (wM ad ca res.2 u) sz res.1) 0 0 (va_A (wM ad ca v u) sz) := by
  refine zEnter RX6 [.ref (ad 0), .int a0, .int a1, .int a2] (by decide) rfl (Nat.le_of_ble_eq_true rfl) (fun p e s m below meth c ls G hK hX hP hD hsz hl => ?_)
  subst hsz
  unfold m_M_fails at hm
  have hl : lv_has ls 4 [(0, .ref (ad 0)), (1, .int a0), (2, .int a1), (3, .int a2)] := hl
  have hS : va_S (va_A (wM ad ca v u) s.heap.size) s.heap s.heap [] := va_S.rf
  have hA : ∀ q, s.heap.size ≤ q → va_A (wM ad ca v u) s.heap.size q := fun q h => Or.inr h
  have G0 := G
  obtain ⟨hx, hb, hr, hml, hown, hw, hlk⟩ := G
  refine lv_aload_n hx hb dX6_fails_0 rfl (lv_at hl 0 rfl) ?_
  refine lv_iload_n hx hb dX6_fails_1 rfl (lv_at hl 1 rfl) ?_
  refine lv_if_eq (tgt := 9) hx hb dX6_fails_2 rfl (fun cd1 => ?_) (fun cd1 => ?_)
  · replace hm := zt cd1 hm
    refine lv_iload_n hx hb dX6_fails_9 rfl (lv_at hl 2 rfl) ?_
    refine lv_if_eq (tgt := 17) hx hb dX6_fails_10 rfl (fun cd2 => ?_) (fun cd2 => ?_)
    · replace hm := zt cd2 hm
      refine lv_iload_n hx hb dX6_fails_17 rfl (lv_at hl 3 rfl) ?_
      refine lv_if_eq (tgt := 25) hx hb dX6_fails_18 rfl (fun cd3 => ?_) (fun cd3 => ?_)
      · replace hm := zt cd3 hm
        refine lv_iconst (v := 0) hx hb dX6_fails_25 (by decide) ?_
        exact b_M_fails_26 G0 hK hX _ _ hm _ _ _ hP hD hS (lv_sub hl [0] rfl)
      · replace hm := zf cd3 hm
        refine lv_iconst (v := 3) hx hb dX6_fails_21 (by decide) ?_
        refine lv_goto (tgt := 26) hx hb dX6_fails_22 rfl ?_
        exact b_M_fails_26 G0 hK hX _ _ hm _ _ _ hP hD hS (lv_sub hl [0] rfl)
    · replace hm := zf cd2 hm
      refine lv_iconst (v := 2) hx hb dX6_fails_13 (by decide) ?_
      refine lv_goto (tgt := 26) hx hb dX6_fails_14 rfl ?_
      exact b_M_fails_26 G0 hK hX _ _ hm _ _ _ hP hD hS (lv_sub hl [0] rfl)
  · replace hm := zf cd1 hm
    refine lv_iconst (v := 1) hx hb dX6_fails_5 (by decide) ?_
    refine lv_goto (tgt := 26) hx hb dX6_fails_6 rfl ?_
    exact b_M_fails_26 G0 hK hX _ _ hm _ _ _ hP hD hS (lv_sub hl [0] rfl)

theorem dX6_isField_0 : decode cX6_isField 0 = .ok (.iload_n 1, 1) := by decide +kernel
theorem dX6_isField_1 : decode cX6_isField 1 = .ok (.ifCond .lt 15, 3) := by decide +kernel
theorem dX6_isField_4 : decode cX6_isField 4 = .ok (.iload_n 1, 1) := by decide +kernel
theorem dX6_isField_5 : decode cX6_isField 5 = .ok (.aload_n 0, 1) := by decide +kernel
theorem dX6_isField_6 : decode cX6_isField 6 = .ok (.getfield 69, 3) := by decide +kernel
theorem dX6_isField_9 : decode cX6_isField 9 = .ok (.if_icmp .ge 7, 3) := by decide +kernel
theorem dX6_isField_12 : decode cX6_isField 12 = .ok (.iconst 1, 1) := by decide +kernel
theorem dX6_isField_13 : decode cX6_isField 13 = .ok (.goto 4, 3) := by decide +kernel
theorem dX6_isField_16 : decode cX6_isField 16 = .ok (.iconst 0, 1) := by decide +kernel
theorem dX6_isField_17 : decode cX6_isField 17 = .ok (.ireturn, 1) := by decide +kernel
def m_M_isField (a0 : Int32) (v : Nat → Int32) (u : Nat → Nat → Int32)  : Option ((Int32)) := (if a0 < 0 then (zbo 0 (some 0)) else (if (v 3) ≤ a0 then (zbo 0 (some 0)) else (zbo 1 (some 1))))
section
variable {p : Program} {l : Launch} {e : Env} {s : State} {m : MethodId} {args : Array Value} {below : List Frame} {meth : Method} {c : Code} {D : va_G} {w0 : va_W} {ad : Nat → Nat} {ca : Nat → ClassId} {v : Nat → Int32} {u : Nat → Nat → Int32}
end
set_option maxRecDepth 100000 in
set_option maxHeartbeats 4000000 in
theorem k_M_isField (l : Launch) (D : va_G) (ad : Nat → Nat) (ca : Nat → ClassId) (sz : Nat) (a0 : Int32) (v : Nat → Int32) (u : Nat → Nat → Int32) (res : (Int32)) (hm : m_M_isField a0 v u  = some res) : Met l yX6_isField (Cond.code yX6_isField cX6_isField 2 (some .boolean) :: zBIG) (zR 0 0) (va_Pc [.ref (ad 0), .int a0] (zP zN D vwCl (wM_t ca) (wM ad ca v u) sz)) (zQi D vwCl (wM ad ca v u) (wM ad ca v u) sz res) 0 0 (va_A (wM ad ca v u) sz) := by
  refine zEnter RX6 [.ref (ad 0), .int a0] (by decide) rfl (Nat.le_of_ble_eq_true rfl) (fun p e s m below meth c ls G hK hX hP hD hsz hl => ?_)
  subst hsz
  unfold m_M_isField at hm
  have hl : lv_has ls 2 [(0, .ref (ad 0)), (1, .int a0)] := hl
  have hS : va_S (va_A (wM ad ca v u) s.heap.size) s.heap s.heap [] := va_S.rf
  have hA : ∀ q, s.heap.size ≤ q → va_A (wM ad ca v u) s.heap.size q := fun q h => Or.inr h
  have G0 := G
  obtain ⟨hx, hb, hr, hml, hown, hw, hlk⟩ := G
  refine lv_iload_n hx hb dX6_isField_0 rfl (lv_at hl 1 rfl) ?_
  refine lv_if_lt (tgt := 16) hx hb dX6_isField_1 rfl (fun cd1 => ?_) (fun cd1 => ?_)
  · replace hm := zt cd1 hm
    refine lv_iconst (v := 0) hx hb dX6_isField_16 (by decide) ?_
    obtain ⟨hz2, -, hm⟩ := zbo_s hm
    cases hm
    exact zretz hx hb hr hlk hz2 hP hD hS dX6_isField_17
  · replace hm := zf cd1 hm
    refine lv_iload_n hx hb dX6_isField_4 rfl (lv_at hl 1 rfl) ?_
    refine lv_aload_n hx hb dX6_isField_5 rfl (lv_at hl 0 rfl) ?_
    refine va_get (D := D) (ci := 5) (v := .int (v 3)) (C := RX6) (T := TX6) (N := 24) hx hb hw zinX6 hown hK hP 0 rfl rfl 3 (by decide) (hw _ zw1) (fun _ h9 => h9) rfl dX6_isField_6 ?_
    refine lv_icmp_ge (tgt := 16) hx hb dX6_isField_9 rfl (fun cd3 => ?_) (fun cd3 => ?_)
    · replace hm := zt cd3 hm
      refine lv_iconst (v := 0) hx hb dX6_isField_16 (by decide) ?_
      obtain ⟨hz4, -, hm⟩ := zbo_s hm
      cases hm
      exact zretz hx hb hr hlk hz4 hP hD hS dX6_isField_17
    · replace hm := zf cd3 hm
      refine lv_iconst (v := 1) hx hb dX6_isField_12 (by decide) ?_
      refine lv_goto (tgt := 17) hx hb dX6_isField_13 rfl ?_
      obtain ⟨hz5, -, hm⟩ := zbo_s hm
      cases hm
      exact zretz hx hb hr hlk hz5 hP hD hS dX6_isField_17

theorem dX6_type_0 : decode cX6_type 0 = .ok (.aload_n 0, 1) := by decide +kernel
theorem dX6_type_1 : decode cX6_type 1 = .ok (.iconst 0, 1) := by decide +kernel
theorem dX6_type_2 : decode cX6_type 2 = .ok (.putfield 65, 3) := by decide +kernel
theorem dX6_type_5 : decode cX6_type 5 = .ok (.aload_n 0, 1) := by decide +kernel
theorem dX6_type_6 : decode cX6_type 6 = .ok (.getfield 72, 3) := by decide +kernel
theorem dX6_type_9 : decode cX6_type 9 = .ok (.bipush 24, 2) := by decide +kernel
theorem dX6_type_11 : decode cX6_type 11 = .ok (.if_icmp .ne 5, 3) := by decide +kernel
theorem dX6_type_14 : decode cX6_type 14 = .ok (.iconst 0, 1) := by decide +kernel
theorem dX6_type_15 : decode cX6_type 15 = .ok (.ireturn, 1) := by decide +kernel
theorem dX6_type_16 : decode cX6_type 16 = .ok (.aload_n 0, 1) := by decide +kernel
theorem dX6_type_17 : decode cX6_type 17 = .ok (.getfield 7, 3) := by decide +kernel
theorem dX6_type_20 : decode cX6_type 20 = .ok (.aload_n 0, 1) := by decide +kernel
theorem dX6_type_21 : decode cX6_type 21 = .ok (.getfield 72, 3) := by decide +kernel
theorem dX6_type_24 : decode cX6_type 24 = .ok (.iload_n 1, 1) := by decide +kernel
theorem dX6_type_25 : decode cX6_type 25 = .ok (.iastore, 1) := by decide +kernel
theorem dX6_type_26 : decode cX6_type 26 = .ok (.aload_n 0, 1) := by decide +kernel
theorem dX6_type_27 : decode cX6_type 27 = .ok (.dup, 1) := by decide +kernel
theorem dX6_type_28 : decode cX6_type 28 = .ok (.getfield 72, 3) := by decide +kernel
theorem dX6_type_31 : decode cX6_type 31 = .ok (.iconst 1, 1) := by decide +kernel
theorem dX6_type_32 : decode cX6_type 32 = .ok (.iadd, 1) := by decide +kernel
theorem dX6_type_33 : decode cX6_type 33 = .ok (.putfield 72, 3) := by decide +kernel
theorem dX6_type_36 : decode cX6_type 36 = .ok (.iconst 1, 1) := by decide +kernel
theorem dX6_type_37 : decode cX6_type 37 = .ok (.ireturn, 1) := by decide +kernel
def m_M_type (a0 : Int32) (v : Nat → Int32) (u : Nat → Nat → Int32)  : Option ((Int32) × (Nat → Int32) × (Nat → Nat → Int32)) := (if ((upd v 0 0) 1) = 24 then (zbo 0 (some (0, (upd v 0 0), u))) else zix ((upd v 0 0) 1) 24 ((zbo 1 (some (1, (upd (upd v 0 0) 1 (((upd v 0 0) 1) + 1)), (zau u 1 ((upd v 0 0) 1) a0))))))
section
variable {p : Program} {l : Launch} {e : Env} {s : State} {m : MethodId} {args : Array Value} {below : List Frame} {meth : Method} {c : Code} {D : va_G} {w0 : va_W} {ad : Nat → Nat} {ca : Nat → ClassId}
end
set_option maxRecDepth 100000 in
set_option maxHeartbeats 4000000 in
theorem k_M_type (l : Launch) (D : va_G) (ad : Nat → Nat) (ca : Nat → ClassId) (sz : Nat) (a0 : Int32) (v : Nat → Int32) (u : Nat → Nat → Int32) (res : (Int32) × (Nat → Int32) × (Nat → Nat → Int32)) (hm : m_M_type a0 v u  = some res) : Met l yX6_type (Cond.code yX6_type cX6_type 2 (some .boolean) :: zBIG) (zR 0 0) (va_Pc [.ref (ad 0), .int a0] (zP zN D vwCl (wM_t ca) (wM ad ca v u) sz)) (zQi D vwCl (wM ad ca v u) (wM ad ca res.2.1 res.2.2) sz res.1) 0 0 (va_A (wM ad ca v u) sz) := by
  refine zEnter RX6 [.ref (ad 0), .int a0] (by decide) rfl (Nat.le_of_ble_eq_true rfl) (fun p e s m below meth c ls G hK hX hP hD hsz hl => ?_)
  subst hsz
  unfold m_M_type at hm
  have hl : lv_has ls 2 [(0, .ref (ad 0)), (1, .int a0)] := hl
  have hS : va_S (va_A (wM ad ca v u) s.heap.size) s.heap s.heap [] := va_S.rf
  have hA : ∀ q, s.heap.size ≤ q → va_A (wM ad ca v u) s.heap.size q := fun q h => Or.inr h
  have G0 := G
  obtain ⟨hx, hb, hr, hml, hown, hw, hlk⟩ := G
  refine lv_aload_n hx hb dX6_type_0 rfl (lv_at hl 0 rfl) ?_
  refine lv_iconst (v := 0) hx hb dX6_type_1 (by decide) ?_
  refine va_put (D := D) (ci := 5) (v := .int 0) (ty := .int) (C := RX6) (T := TX6) (N := 24) hx hb hw zinX6 tyX6 tyX6_ok nmX6 hown hK hP hD hS 0 rfl rfl 0 (by decide) (hw _ zw0) (fun _ h9 => h9) rfl (by decide +kernel) rfl rfl (Nat.le_of_ble_eq_true rfl) dX6_type_2 (fun H locs hP hD hS => ?_)
  have hP : va_P D vwCl (wM ad ca (upd v 0 0) u) H := hP
  have hD : va_D _ (wM ad ca (upd v 0 0) u) := hD
  refine lv_aload_n hx hb dX6_type_5 rfl (lv_at hl 0 rfl) ?_
  refine va_get (D := D) (ci := 5) (v := .int ((upd v 0 0) 1)) (C := RX6) (T := TX6) (N := 24) hx hb hw zinX6 hown hK hP 0 rfl rfl 1 (by decide) (hw _ zw2) (fun _ h9 => h9) rfl dX6_type_6 ?_
  refine lv_bipush (v := 24) hx hb dX6_type_9 (by decide) ?_
  refine lv_icmp_ne (tgt := 16) hx hb dX6_type_11 rfl (fun cd1 => ?_) (fun cd1 => ?_)
  · replace hm := zf cd1 hm
    refine lv_aload_n hx hb dX6_type_16 rfl (lv_at hl 0 rfl) ?_
    refine va_get (D := D) (ci := 5) (v := .ref (ad 1)) (C := RX6) (T := TX6) (N := 24) hx hb hw zinX6 hown hK hP 0 rfl rfl 2 (by decide) (hw _ zw3) (fun _ h9 => h9) rfl dX6_type_17 ?_
    refine lv_aload_n hx hb dX6_type_20 rfl (lv_at hl 0 rfl) ?_
    refine va_get (D := D) (ci := 5) (v := .int ((upd v 0 0) 1)) (C := RX6) (T := TX6) (N := 24) hx hb hw zinX6 hown hK hP 0 rfl rfl 1 (by decide) (hw _ zw2) (fun _ h9 => h9) rfl dX6_type_21 ?_
    refine lv_iload_n hx hb dX6_type_24 rfl (lv_at hl 1 rfl) ?_
    obtain ⟨hi2, hm⟩ := zix_s hm
    refine va_iast (i := ((upd v 0 0) 1)) (x := a0) (f := (u 1)) (n := 24) hx hb hK hP hD hS 1 0 rfl rfl hi2 dX6_type_25 (fun H locs hP hD hS => ?_)
    have hP : va_P D vwCl (wM ad ca (upd v 0 0) (zau u 1 ((upd v 0 0) 1) a0)) H := hP
    have hD : va_D _ (wM ad ca (upd v 0 0) (zau u 1 ((upd v 0 0) 1) a0)) := hD
    refine lv_aload_n hx hb dX6_type_26 rfl (lv_at hl 0 rfl) ?_
    refine lv_dup hx hb dX6_type_27 rfl ?_
    refine va_get (D := D) (ci := 5) (v := .int ((upd v 0 0) 1)) (C := RX6) (T := TX6) (N := 24) hx hb hw zinX6 hown hK hP 0 rfl rfl 1 (by decide) (hw _ zw2) (fun _ h9 => h9) rfl dX6_type_28 ?_
    refine lv_iconst (v := 1) hx hb dX6_type_31 (by decide) ?_
    refine lv_iadd hx hb dX6_type_32 ?_
    refine va_put (D := D) (ci := 5) (v := .int (((upd v 0 0) 1) + 1)) (ty := .int) (C := RX6) (T := TX6) (N := 24) hx hb hw zinX6 tyX6 tyX6_ok nmX6 hown hK hP hD hS 0 rfl rfl 1 (by decide) (hw _ zw2) (fun _ h9 => h9) rfl (by decide +kernel) rfl rfl (Nat.le_of_ble_eq_true rfl) dX6_type_33 (fun H locs hP hD hS => ?_)
    have hP : va_P D vwCl (wM ad ca (upd (upd v 0 0) 1 (((upd v 0 0) 1) + 1)) (zau u 1 ((upd v 0 0) 1) a0)) H := hP
    have hD : va_D _ (wM ad ca (upd (upd v 0 0) 1 (((upd v 0 0) 1) + 1)) (zau u 1 ((upd v 0 0) 1) a0)) := hD
    refine lv_iconst (v := 1) hx hb dX6_type_36 (by decide) ?_
    obtain ⟨hz3, -, hm⟩ := zbo_s hm
    cases hm
    exact zretz hx hb hr hlk hz3 hP hD hS dX6_type_37
  · replace hm := zt cd1 hm
    refine lv_iconst (v := 0) hx hb dX6_type_14 (by decide) ?_
    obtain ⟨hz4, -, hm⟩ := zbo_s hm
    cases hm
    exact zretz hx hb hr hlk hz4 hP hD hS dX6_type_15

theorem dX6_isDigit_0 : decode cX6_isDigit 0 = .ok (.iload_n 0, 1) := by decide +kernel
theorem dX6_isDigit_1 : decode cX6_isDigit 1 = .ok (.bipush 48, 2) := by decide +kernel
theorem dX6_isDigit_3 : decode cX6_isDigit 3 = .ok (.if_icmp .lt 13, 3) := by decide +kernel
theorem dX6_isDigit_6 : decode cX6_isDigit 6 = .ok (.iload_n 0, 1) := by decide +kernel
theorem dX6_isDigit_7 : decode cX6_isDigit 7 = .ok (.bipush 57, 2) := by decide +kernel
theorem dX6_isDigit_9 : decode cX6_isDigit 9 = .ok (.if_icmp .gt 7, 3) := by decide +kernel
theorem dX6_isDigit_12 : decode cX6_isDigit 12 = .ok (.iconst 1, 1) := by decide +kernel
theorem dX6_isDigit_13 : decode cX6_isDigit 13 = .ok (.goto 4, 3) := by decide +kernel
theorem dX6_isDigit_16 : decode cX6_isDigit 16 = .ok (.iconst 0, 1) := by decide +kernel
theorem dX6_isDigit_17 : decode cX6_isDigit 17 = .ok (.ireturn, 1) := by decide +kernel
def m_M_isDigit (a0 : Int32)   : Option ((Int32)) := (if a0 < 48 then (zbo 0 (some 0)) else (if 57 < a0 then (zbo 0 (some 0)) else (zbo 1 (some 1))))
section
variable {p : Program} {l : Launch} {e : Env} {s : State} {m : MethodId} {args : Array Value} {below : List Frame} {meth : Method} {c : Code} {D : va_G} {w0 : va_W}
end
set_option maxRecDepth 100000 in
set_option maxHeartbeats 4000000 in
theorem k_M_isDigit (l : Launch) (D : va_G)  (sz : Nat) (a0 : Int32)  (res : (Int32)) (hm : m_M_isDigit a0   = some res) : Met l yX6_isDigit (Cond.code yX6_isDigit cX6_isDigit 1 (some .boolean) :: zBIG) (zR 0 0) (va_Pc [.int a0] (zP zN D vwCl [] [] sz)) (zQi D vwCl [] [] sz res) 0 0 (va_A [] sz) := by
  refine zEnter RX6 [.int a0] (by decide) rfl (Nat.le_of_ble_eq_true rfl) (fun p e s m below meth c ls G hK hX hP hD hsz hl => ?_)
  subst hsz
  unfold m_M_isDigit at hm
  have hl : lv_has ls 1 [(0, .int a0)] := hl
  have hS : va_S (va_A [] s.heap.size) s.heap s.heap [] := va_S.rf
  have hA : ∀ q, s.heap.size ≤ q → va_A [] s.heap.size q := fun q h => Or.inr h
  have G0 := G
  obtain ⟨hx, hb, hr, hml, hown, hw, hlk⟩ := G
  refine lv_iload_n hx hb dX6_isDigit_0 rfl (lv_at hl 0 rfl) ?_
  refine lv_bipush (v := 48) hx hb dX6_isDigit_1 (by decide) ?_
  refine lv_icmp_lt (tgt := 16) hx hb dX6_isDigit_3 rfl (fun cd1 => ?_) (fun cd1 => ?_)
  · replace hm := zt cd1 hm
    refine lv_iconst (v := 0) hx hb dX6_isDigit_16 (by decide) ?_
    obtain ⟨hz2, -, hm⟩ := zbo_s hm
    cases hm
    exact zretz hx hb hr hlk hz2 hP hD hS dX6_isDigit_17
  · replace hm := zf cd1 hm
    refine lv_iload_n hx hb dX6_isDigit_6 rfl (lv_at hl 0 rfl) ?_
    refine lv_bipush (v := 57) hx hb dX6_isDigit_7 (by decide) ?_
    refine lv_icmp_gt (tgt := 16) hx hb dX6_isDigit_9 rfl (fun cd3 => ?_) (fun cd3 => ?_)
    · replace hm := zt cd3 hm
      refine lv_iconst (v := 0) hx hb dX6_isDigit_16 (by decide) ?_
      obtain ⟨hz4, -, hm⟩ := zbo_s hm
      cases hm
      exact zretz hx hb hr hlk hz4 hP hD hS dX6_isDigit_17
    · replace hm := zf cd3 hm
      refine lv_iconst (v := 1) hx hb dX6_isDigit_12 (by decide) ?_
      refine lv_goto (tgt := 17) hx hb dX6_isDigit_13 rfl ?_
      obtain ⟨hz5, -, hm⟩ := zbo_s hm
      cases hm
      exact zretz hx hb hr hlk hz5 hP hD hS dX6_isDigit_17

theorem dX6_isSymbol_0 : decode cX6_isSymbol 0 = .ok (.iload_n 0, 1) := by decide +kernel
theorem dX6_isSymbol_1 : decode cX6_isSymbol 1 = .ok (.tableswitch 237 36 90 #[235, 237, 237, 237, 237, 237, 235, 235, 235, 235, 235, 235, 235, 237, 237, 237, 237, 237, 237, 237, 237, 235, 237, 237, 237, 237, 237, 237, 237, 235, 235, 237, 237, 237, 237, 237, 237, 237, 237, 237, 237, 237, 237, 237, 235, 237, 237, 235, 237, 237, 235, 237, 235, 237, 235], 235) := by decide +kernel
theorem dX6_isSymbol_236 : decode cX6_isSymbol 236 = .ok (.iconst 1, 1) := by decide +kernel
theorem dX6_isSymbol_237 : decode cX6_isSymbol 237 = .ok (.ireturn, 1) := by decide +kernel
theorem dX6_isSymbol_238 : decode cX6_isSymbol 238 = .ok (.iconst 0, 1) := by decide +kernel
theorem dX6_isSymbol_239 : decode cX6_isSymbol 239 = .ok (.ireturn, 1) := by decide +kernel
def m_M_isSymbol (a0 : Int32)   : Option ((Int32)) := (if a0 = 36 then (zbo 1 (some 1)) else (if a0 = 42 then (zbo 1 (some 1)) else (if a0 = 43 then (zbo 1 (some 1)) else (if a0 = 44 then (zbo 1 (some 1)) else (if a0 = 45 then (zbo 1 (some 1)) else (if a0 = 46 then (zbo 1 (some 1)) else (if a0 = 47 then (zbo 1 (some 1)) else (if a0 = 48 then (zbo 1 (some 1)) else (if a0 = 57 then (zbo 1 (some 1)) else (if a0 = 65 then (zbo 1 (some 1)) else (if a0 = 66 then (zbo 1 (some 1)) else (if a0 = 80 then (zbo 1 (some 1)) else (if a0 = 83 then (zbo 1 (some 1)) else (if a0 = 86 then (zbo 1 (some 1)) else (if a0 = 88 then (zbo 1 (some 1)) else (if a0 = 90 then (zbo 1 (some 1)) else (zbo 0 (some 0))))))))))))))))))
section
variable {p : Program} {l : Launch} {e : Env} {s : State} {m : MethodId} {args : Array Value} {below : List Frame} {meth : Method} {c : Code} {D : va_G} {w0 : va_W}
end
set_option maxRecDepth 100000 in
set_option maxHeartbeats 4000000 in
theorem k_M_isSymbol (l : Launch) (D : va_G)  (sz : Nat) (a0 : Int32)  (res : (Int32)) (hm : m_M_isSymbol a0   = some res) : Met l yX6_isSymbol (Cond.code yX6_isSymbol cX6_isSymbol 1 (some .boolean) :: zBIG) (zR 0 0) (va_Pc [.int a0] (zP zN D vwCl [] [] sz)) (zQi D vwCl [] [] sz res) 0 0 (va_A [] sz) := by
  refine zEnter RX6 [.int a0] (by decide) rfl (Nat.le_of_ble_eq_true rfl) (fun p e s m below meth c ls G hK hX hP hD hsz hl => ?_)
  subst hsz
  unfold m_M_isSymbol at hm
  have hl : lv_has ls 1 [(0, .int a0)] := hl
  have hS : va_S (va_A [] s.heap.size) s.heap s.heap [] := va_S.rf
  have hA : ∀ q, s.heap.size ≤ q → va_A [] s.heap.size q := fun q h => Or.inr h
  have G0 := G
  obtain ⟨hx, hb, hr, hml, hown, hw, hlk⟩ := G
  refine lv_iload_n hx hb dX6_isSymbol_0 rfl (lv_at hl 0 rfl) ?_
  by_cases cd1 : a0 = 36
  · replace hm := zt cd1 hm
    refine lv_tableIn (off := 235) (tgt := 236) hx hb dX6_isSymbol_1 (by rw [cd1]; decide) (by rw [cd1]; decide) (by rw [cd1]; decide) rfl ?_
    refine lv_iconst (v := 1) hx hb dX6_isSymbol_236 (by decide) ?_
    obtain ⟨hz17, -, hm⟩ := zbo_s hm
    cases hm
    exact zretz hx hb hr hlk hz17 hP hD hS dX6_isSymbol_237
  · replace hm := zf cd1 hm
    by_cases cd2 : a0 = 42
    · replace hm := zt cd2 hm
      refine lv_tableIn (off := 235) (tgt := 236) hx hb dX6_isSymbol_1 (by rw [cd2]; decide) (by rw [cd2]; decide) (by rw [cd2]; decide) rfl ?_
      refine lv_iconst (v := 1) hx hb dX6_isSymbol_236 (by decide) ?_
      obtain ⟨hz18, -, hm⟩ := zbo_s hm
      cases hm
      exact zretz hx hb hr hlk hz18 hP hD hS dX6_isSymbol_237
    · replace hm := zf cd2 hm
      by_cases cd3 : a0 = 43
      · replace hm := zt cd3 hm
        refine lv_tableIn (off := 235) (tgt := 236) hx hb dX6_isSymbol_1 (by rw [cd3]; decide) (by rw [cd3]; decide) (by rw [cd3]; decide) rfl ?_
        refine lv_iconst (v := 1) hx hb dX6_isSymbol_236 (by decide) ?_
        obtain ⟨hz19, -, hm⟩ := zbo_s hm
        cases hm
        exact zretz hx hb hr hlk hz19 hP hD hS dX6_isSymbol_237
      · replace hm := zf cd3 hm
        by_cases cd4 : a0 = 44
        · replace hm := zt cd4 hm
          refine lv_tableIn (off := 235) (tgt := 236) hx hb dX6_isSymbol_1 (by rw [cd4]; decide) (by rw [cd4]; decide) (by rw [cd4]; decide) rfl ?_
          refine lv_iconst (v := 1) hx hb dX6_isSymbol_236 (by decide) ?_
          obtain ⟨hz20, -, hm⟩ := zbo_s hm
          cases hm
          exact zretz hx hb hr hlk hz20 hP hD hS dX6_isSymbol_237
        · replace hm := zf cd4 hm
          by_cases cd5 : a0 = 45
          · replace hm := zt cd5 hm
            refine lv_tableIn (off := 235) (tgt := 236) hx hb dX6_isSymbol_1 (by rw [cd5]; decide) (by rw [cd5]; decide) (by rw [cd5]; decide) rfl ?_
            refine lv_iconst (v := 1) hx hb dX6_isSymbol_236 (by decide) ?_
            obtain ⟨hz21, -, hm⟩ := zbo_s hm
            cases hm
            exact zretz hx hb hr hlk hz21 hP hD hS dX6_isSymbol_237
          · replace hm := zf cd5 hm
            by_cases cd6 : a0 = 46
            · replace hm := zt cd6 hm
              refine lv_tableIn (off := 235) (tgt := 236) hx hb dX6_isSymbol_1 (by rw [cd6]; decide) (by rw [cd6]; decide) (by rw [cd6]; decide) rfl ?_
              refine lv_iconst (v := 1) hx hb dX6_isSymbol_236 (by decide) ?_
              obtain ⟨hz22, -, hm⟩ := zbo_s hm
              cases hm
              exact zretz hx hb hr hlk hz22 hP hD hS dX6_isSymbol_237
            · replace hm := zf cd6 hm
              by_cases cd7 : a0 = 47
              · replace hm := zt cd7 hm
                refine lv_tableIn (off := 235) (tgt := 236) hx hb dX6_isSymbol_1 (by rw [cd7]; decide) (by rw [cd7]; decide) (by rw [cd7]; decide) rfl ?_
                refine lv_iconst (v := 1) hx hb dX6_isSymbol_236 (by decide) ?_
                obtain ⟨hz23, -, hm⟩ := zbo_s hm
                cases hm
                exact zretz hx hb hr hlk hz23 hP hD hS dX6_isSymbol_237
              · replace hm := zf cd7 hm
                by_cases cd8 : a0 = 48
                · replace hm := zt cd8 hm
                  refine lv_tableIn (off := 235) (tgt := 236) hx hb dX6_isSymbol_1 (by rw [cd8]; decide) (by rw [cd8]; decide) (by rw [cd8]; decide) rfl ?_
                  refine lv_iconst (v := 1) hx hb dX6_isSymbol_236 (by decide) ?_
                  obtain ⟨hz24, -, hm⟩ := zbo_s hm
                  cases hm
                  exact zretz hx hb hr hlk hz24 hP hD hS dX6_isSymbol_237
                · replace hm := zf cd8 hm
                  by_cases cd9 : a0 = 57
                  · replace hm := zt cd9 hm
                    refine lv_tableIn (off := 235) (tgt := 236) hx hb dX6_isSymbol_1 (by rw [cd9]; decide) (by rw [cd9]; decide) (by rw [cd9]; decide) rfl ?_
                    refine lv_iconst (v := 1) hx hb dX6_isSymbol_236 (by decide) ?_
                    obtain ⟨hz25, -, hm⟩ := zbo_s hm
                    cases hm
                    exact zretz hx hb hr hlk hz25 hP hD hS dX6_isSymbol_237
                  · replace hm := zf cd9 hm
                    by_cases cd10 : a0 = 65
                    · replace hm := zt cd10 hm
                      refine lv_tableIn (off := 235) (tgt := 236) hx hb dX6_isSymbol_1 (by rw [cd10]; decide) (by rw [cd10]; decide) (by rw [cd10]; decide) rfl ?_
                      refine lv_iconst (v := 1) hx hb dX6_isSymbol_236 (by decide) ?_
                      obtain ⟨hz26, -, hm⟩ := zbo_s hm
                      cases hm
                      exact zretz hx hb hr hlk hz26 hP hD hS dX6_isSymbol_237
                    · replace hm := zf cd10 hm
                      by_cases cd11 : a0 = 66
                      · replace hm := zt cd11 hm
                        refine lv_tableIn (off := 235) (tgt := 236) hx hb dX6_isSymbol_1 (by rw [cd11]; decide) (by rw [cd11]; decide) (by rw [cd11]; decide) rfl ?_
                        refine lv_iconst (v := 1) hx hb dX6_isSymbol_236 (by decide) ?_
                        obtain ⟨hz27, -, hm⟩ := zbo_s hm
                        cases hm
                        exact zretz hx hb hr hlk hz27 hP hD hS dX6_isSymbol_237
                      · replace hm := zf cd11 hm
                        by_cases cd12 : a0 = 80
                        · replace hm := zt cd12 hm
                          refine lv_tableIn (off := 235) (tgt := 236) hx hb dX6_isSymbol_1 (by rw [cd12]; decide) (by rw [cd12]; decide) (by rw [cd12]; decide) rfl ?_
                          refine lv_iconst (v := 1) hx hb dX6_isSymbol_236 (by decide) ?_
                          obtain ⟨hz28, -, hm⟩ := zbo_s hm
                          cases hm
                          exact zretz hx hb hr hlk hz28 hP hD hS dX6_isSymbol_237
                        · replace hm := zf cd12 hm
                          by_cases cd13 : a0 = 83
                          · replace hm := zt cd13 hm
                            refine lv_tableIn (off := 235) (tgt := 236) hx hb dX6_isSymbol_1 (by rw [cd13]; decide) (by rw [cd13]; decide) (by rw [cd13]; decide) rfl ?_
                            refine lv_iconst (v := 1) hx hb dX6_isSymbol_236 (by decide) ?_
                            obtain ⟨hz29, -, hm⟩ := zbo_s hm
                            cases hm
                            exact zretz hx hb hr hlk hz29 hP hD hS dX6_isSymbol_237
                          · replace hm := zf cd13 hm
                            by_cases cd14 : a0 = 86
                            · replace hm := zt cd14 hm
                              refine lv_tableIn (off := 235) (tgt := 236) hx hb dX6_isSymbol_1 (by rw [cd14]; decide) (by rw [cd14]; decide) (by rw [cd14]; decide) rfl ?_
                              refine lv_iconst (v := 1) hx hb dX6_isSymbol_236 (by decide) ?_
                              obtain ⟨hz30, -, hm⟩ := zbo_s hm
                              cases hm
                              exact zretz hx hb hr hlk hz30 hP hD hS dX6_isSymbol_237
                            · replace hm := zf cd14 hm
                              by_cases cd15 : a0 = 88
                              · replace hm := zt cd15 hm
                                refine lv_tableIn (off := 235) (tgt := 236) hx hb dX6_isSymbol_1 (by rw [cd15]; decide) (by rw [cd15]; decide) (by rw [cd15]; decide) rfl ?_
                                refine lv_iconst (v := 1) hx hb dX6_isSymbol_236 (by decide) ?_
                                obtain ⟨hz31, -, hm⟩ := zbo_s hm
                                cases hm
                                exact zretz hx hb hr hlk hz31 hP hD hS dX6_isSymbol_237
                              · replace hm := zf cd15 hm
                                by_cases cd16 : a0 = 90
                                · replace hm := zt cd16 hm
                                  refine lv_tableIn (off := 235) (tgt := 236) hx hb dX6_isSymbol_1 (by rw [cd16]; decide) (by rw [cd16]; decide) (by rw [cd16]; decide) rfl ?_
                                  refine lv_iconst (v := 1) hx hb dX6_isSymbol_236 (by decide) ?_
                                  obtain ⟨hz32, -, hm⟩ := zbo_s hm
                                  cases hm
                                  exact zretz hx hb hr hlk hz32 hP hD hS dX6_isSymbol_237
                                · replace hm := zf cd16 hm
                                  have ecd1 := lv_neT cd1 (a := 36) (by decide)
                                  have ecd2 := lv_neT cd2 (a := 42) (by decide)
                                  have ecd3 := lv_neT cd3 (a := 43) (by decide)
                                  have ecd4 := lv_neT cd4 (a := 44) (by decide)
                                  have ecd5 := lv_neT cd5 (a := 45) (by decide)
                                  have ecd6 := lv_neT cd6 (a := 46) (by decide)
                                  have ecd7 := lv_neT cd7 (a := 47) (by decide)
                                  have ecd8 := lv_neT cd8 (a := 48) (by decide)
                                  have ecd9 := lv_neT cd9 (a := 57) (by decide)
                                  have ecd10 := lv_neT cd10 (a := 65) (by decide)
                                  have ecd11 := lv_neT cd11 (a := 66) (by decide)
                                  have ecd12 := lv_neT cd12 (a := 80) (by decide)
                                  have ecd13 := lv_neT cd13 (a := 83) (by decide)
                                  have ecd14 := lv_neT cd14 (a := 86) (by decide)
                                  have ecd15 := lv_neT cd15 (a := 88) (by decide)
                                  have ecd16 := lv_neT cd16 (a := 90) (by decide)
                                  by_cases cin : a0.toInt < 36 ∨ 90 < a0.toInt
                                  · refine lv_tableOut (tgt := 238) hx hb dX6_isSymbol_1 cin rfl ?_
                                    refine lv_iconst (v := 0) hx hb dX6_isSymbol_238 (by decide) ?_
                                    obtain ⟨hz33, -, hm⟩ := zbo_s hm
                                    cases hm
                                    exact zretz hx hb hr hlk hz33 hP hD hS dX6_isSymbol_239
                                  · refine lv_tableIn (off := 237) (tgt := 238) hx hb dX6_isSymbol_1 (by omega) (by omega) (zsw (offs := #[235, 237, 237, 237, 237, 237, 235, 235, 235, 235, 235, 235, 235, 237, 237, 237, 237, 237, 237, 237, 237, 235, 237, 237, 237, 237, 237, 237, 237, 235, 235, 237, 237, 237, 237, 237, 237, 237, 237, 237, 237, 237, 237, 237, 235, 237, 237, 235, 237, 237, 235, 237, 235, 237, 235]) (ks := [0, 6, 7, 8, 9, 10, 11, 12, 21, 29, 30, 44, 47, 50, 52, 54]) (N := 55) (by decide +kernel) (n := (a0.toInt - 36).toNat) (by omega) (List.forall_mem_cons.mpr ⟨by omega, List.forall_mem_cons.mpr ⟨by omega, List.forall_mem_cons.mpr ⟨by omega, List.forall_mem_cons.mpr ⟨by omega, List.forall_mem_cons.mpr ⟨by omega, List.forall_mem_cons.mpr ⟨by omega, List.forall_mem_cons.mpr ⟨by omega, List.forall_mem_cons.mpr ⟨by omega, List.forall_mem_cons.mpr ⟨by omega, List.forall_mem_cons.mpr ⟨by omega, List.forall_mem_cons.mpr ⟨by omega, List.forall_mem_cons.mpr ⟨by omega, List.forall_mem_cons.mpr ⟨by omega, List.forall_mem_cons.mpr ⟨by omega, List.forall_mem_cons.mpr ⟨by omega, List.forall_mem_cons.mpr ⟨by omega, fun _ h => absurd h List.not_mem_nil⟩⟩⟩⟩⟩⟩⟩⟩⟩⟩⟩⟩⟩⟩⟩⟩)) rfl ?_
                                    refine lv_iconst (v := 0) hx hb dX6_isSymbol_238 (by decide) ?_
                                    obtain ⟨hz34, -, hm⟩ := zbo_s hm
                                    cases hm
                                    exact zretz hx hb hr hlk hz34 hP hD hS dX6_isSymbol_239

theorem dX6_at_0 : decode cX6_at 0 = .ok (.iload_n 1, 1) := by decide +kernel
theorem dX6_at_1 : decode cX6_at 1 = .ok (.aload_n 0, 1) := by decide +kernel
theorem dX6_at_2 : decode cX6_at 2 = .ok (.getfield 72, 3) := by decide +kernel
theorem dX6_at_5 : decode cX6_at 5 = .ok (.if_icmp .ge 12, 3) := by decide +kernel
theorem dX6_at_8 : decode cX6_at 8 = .ok (.aload_n 0, 1) := by decide +kernel
theorem dX6_at_9 : decode cX6_at 9 = .ok (.getfield 7, 3) := by decide +kernel
theorem dX6_at_12 : decode cX6_at 12 = .ok (.iload_n 1, 1) := by decide +kernel
theorem dX6_at_13 : decode cX6_at 13 = .ok (.iaload, 1) := by decide +kernel
theorem dX6_at_14 : decode cX6_at 14 = .ok (.goto 4, 3) := by decide +kernel
theorem dX6_at_17 : decode cX6_at 17 = .ok (.iconst (-1), 1) := by decide +kernel
theorem dX6_at_18 : decode cX6_at 18 = .ok (.ireturn, 1) := by decide +kernel
def m_M_at (a0 : Int32) (v : Nat → Int32) (u : Nat → Nat → Int32)  : Option ((Int32)) := (if (v 1) ≤ a0 then (some (-1)) else zix a0 24 ((some ((u 1) a0.toNatClampNeg))))
section
variable {p : Program} {l : Launch} {e : Env} {s : State} {m : MethodId} {args : Array Value} {below : List Frame} {meth : Method} {c : Code} {D : va_G} {w0 : va_W} {ad : Nat → Nat} {ca : Nat → ClassId} {v : Nat → Int32} {u : Nat → Nat → Int32}
end
set_option maxRecDepth 100000 in
set_option maxHeartbeats 4000000 in
theorem k_M_at (l : Launch) (D : va_G) (ad : Nat → Nat) (ca : Nat → ClassId) (sz : Nat) (a0 : Int32) (v : Nat → Int32) (u : Nat → Nat → Int32) (res : (Int32)) (hm : m_M_at a0 v u  = some res) : Met l yX6_at (Cond.code yX6_at cX6_at 2 (some .int) :: zBIG) (zR 0 0) (va_Pc [.ref (ad 0), .int a0] (zP zN D vwCl (wM_t ca) (wM ad ca v u) sz)) (zQi D vwCl (wM ad ca v u) (wM ad ca v u) sz res) 0 0 (va_A (wM ad ca v u) sz) := by
  refine zEnter RX6 [.ref (ad 0), .int a0] (by decide) rfl (Nat.le_of_ble_eq_true rfl) (fun p e s m below meth c ls G hK hX hP hD hsz hl => ?_)
  subst hsz
  unfold m_M_at at hm
  have hl : lv_has ls 2 [(0, .ref (ad 0)), (1, .int a0)] := hl
  have hS : va_S (va_A (wM ad ca v u) s.heap.size) s.heap s.heap [] := va_S.rf
  have hA : ∀ q, s.heap.size ≤ q → va_A (wM ad ca v u) s.heap.size q := fun q h => Or.inr h
  have G0 := G
  obtain ⟨hx, hb, hr, hml, hown, hw, hlk⟩ := G
  refine lv_iload_n hx hb dX6_at_0 rfl (lv_at hl 1 rfl) ?_
  refine lv_aload_n hx hb dX6_at_1 rfl (lv_at hl 0 rfl) ?_
  refine va_get (D := D) (ci := 5) (v := .int (v 1)) (C := RX6) (T := TX6) (N := 24) hx hb hw zinX6 hown hK hP 0 rfl rfl 1 (by decide) (hw _ zw2) (fun _ h9 => h9) rfl dX6_at_2 ?_
  refine lv_icmp_ge (tgt := 17) hx hb dX6_at_5 rfl (fun cd1 => ?_) (fun cd1 => ?_)
  · replace hm := zt cd1 hm
    refine lv_iconst (v := (-1)) hx hb dX6_at_17 (by decide) ?_
    cases hm
    exact zreti hx hb hr hlk hP hD hS dX6_at_18
  · replace hm := zf cd1 hm
    refine lv_aload_n hx hb dX6_at_8 rfl (lv_at hl 0 rfl) ?_
    refine va_get (D := D) (ci := 5) (v := .ref (ad 1)) (C := RX6) (T := TX6) (N := 24) hx hb hw zinX6 hown hK hP 0 rfl rfl 2 (by decide) (hw _ zw3) (fun _ h9 => h9) rfl dX6_at_9 ?_
    refine lv_iload_n hx hb dX6_at_12 rfl (lv_at hl 1 rfl) ?_
    obtain ⟨hi2, hm⟩ := zix_s hm
    refine va_iald (i := a0) (f := (u 1)) (n := 24) hx hb hK hP 1 0 rfl rfl hi2 dX6_at_13 ?_
    refine lv_goto (tgt := 18) hx hb dX6_at_14 rfl ?_
    cases hm
    exact zreti hx hb hr hlk hP hD hS dX6_at_18

theorem dX6_sym_0 : decode cX6_sym 0 = .ok (.aload_n 0, 1) := by decide +kernel
theorem dX6_sym_1 : decode cX6_sym 1 = .ok (.getfield 16, 3) := by decide +kernel
theorem dX6_sym_4 : decode cX6_sym 4 = .ok (.bipush 24, 2) := by decide +kernel
theorem dX6_sym_6 : decode cX6_sym 6 = .ok (.iload_n 1, 1) := by decide +kernel
theorem dX6_sym_7 : decode cX6_sym 7 = .ok (.imul, 1) := by decide +kernel
theorem dX6_sym_8 : decode cX6_sym 8 = .ok (.iload_n 2, 1) := by decide +kernel
theorem dX6_sym_9 : decode cX6_sym 9 = .ok (.iadd, 1) := by decide +kernel
theorem dX6_sym_10 : decode cX6_sym 10 = .ok (.iaload, 1) := by decide +kernel
theorem dX6_sym_11 : decode cX6_sym 11 = .ok (.ireturn, 1) := by decide +kernel
def m_M_sym (a0 : Int32) (a1 : Int32) (v : Nat → Int32) (u : Nat → Nat → Int32)  : Option ((Int32)) := zix ((24 * a0) + a1) 216 ((some ((u 3) ((24 * a0) + a1).toNatClampNeg)))
section
variable {p : Program} {l : Launch} {e : Env} {s : State} {m : MethodId} {args : Array Value} {below : List Frame} {meth : Method} {c : Code} {D : va_G} {w0 : va_W} {ad : Nat → Nat} {ca : Nat → ClassId} {v : Nat → Int32} {u : Nat → Nat → Int32}
end
set_option maxRecDepth 100000 in
set_option maxHeartbeats 4000000 in
theorem k_M_sym (l : Launch) (D : va_G) (ad : Nat → Nat) (ca : Nat → ClassId) (sz : Nat) (a0 : Int32) (a1 : Int32) (v : Nat → Int32) (u : Nat → Nat → Int32) (res : (Int32)) (hm : m_M_sym a0 a1 v u  = some res) : Met l yX6_sym (Cond.code yX6_sym cX6_sym 3 (some .int) :: zBIG) (zR 0 0) (va_Pc [.ref (ad 0), .int a0, .int a1] (zP zN D vwCl (wM_t ca) (wM ad ca v u) sz)) (zQi D vwCl (wM ad ca v u) (wM ad ca v u) sz res) 0 0 (va_A (wM ad ca v u) sz) := by
  refine zEnter RX6 [.ref (ad 0), .int a0, .int a1] (by decide) rfl (Nat.le_of_ble_eq_true rfl) (fun p e s m below meth c ls G hK hX hP hD hsz hl => ?_)
  subst hsz
  unfold m_M_sym at hm
  have hl : lv_has ls 3 [(0, .ref (ad 0)), (1, .int a0), (2, .int a1)] := hl
  have hS : va_S (va_A (wM ad ca v u) s.heap.size) s.heap s.heap [] := va_S.rf
  have hA : ∀ q, s.heap.size ≤ q → va_A (wM ad ca v u) s.heap.size q := fun q h => Or.inr h
  have G0 := G
  obtain ⟨hx, hb, hr, hml, hown, hw, hlk⟩ := G
  refine lv_aload_n hx hb dX6_sym_0 rfl (lv_at hl 0 rfl) ?_
  refine va_get (D := D) (ci := 5) (v := .ref (ad 3)) (C := RX6) (T := TX6) (N := 24) hx hb hw zinX6 hown hK hP 0 rfl rfl 5 (by decide) (hw _ zw4) (fun _ h9 => h9) rfl dX6_sym_1 ?_
  refine lv_bipush (v := 24) hx hb dX6_sym_4 (by decide) ?_
  refine lv_iload_n hx hb dX6_sym_6 rfl (lv_at hl 1 rfl) ?_
  refine lv_imul hx hb dX6_sym_7 ?_
  refine lv_iload_n hx hb dX6_sym_8 rfl (lv_at hl 2 rfl) ?_
  refine lv_iadd hx hb dX6_sym_9 ?_
  obtain ⟨hi1, hm⟩ := zix_s hm
  refine va_iald (i := ((24 * a0) + a1)) (f := (u 3)) (n := 216) hx hb hK hP 3 2 rfl rfl hi1 dX6_sym_10 ?_
  cases hm
  exact zreti hx hb hr hlk hP hD hS dX6_sym_11

theorem dX6_put_0 : decode cX6_put 0 = .ok (.aload_n 0, 1) := by decide +kernel
theorem dX6_put_1 : decode cX6_put 1 = .ok (.getfield 13, 3) := by decide +kernel
theorem dX6_put_4 : decode cX6_put 4 = .ok (.bipush 8, 2) := by decide +kernel
theorem dX6_put_6 : decode cX6_put 6 = .ok (.iaload, 1) := by decide +kernel
theorem dX6_put_7 : decode cX6_put 7 = .ok (.iload_n 2, 1) := by decide +kernel
theorem dX6_put_8 : decode cX6_put 8 = .ok (.iadd, 1) := by decide +kernel
theorem dX6_put_9 : decode cX6_put 9 = .ok (.bipush 24, 2) := by decide +kernel
theorem dX6_put_11 : decode cX6_put 11 = .ok (.if_icmp .le 5, 3) := by decide +kernel
theorem dX6_put_14 : decode cX6_put 14 = .ok (.iconst 0, 1) := by decide +kernel
theorem dX6_put_15 : decode cX6_put 15 = .ok (.ireturn, 1) := by decide +kernel
theorem dX6_put_16 : decode cX6_put 16 = .ok (.iconst 0, 1) := by decide +kernel
theorem dX6_put_17 : decode cX6_put 17 = .ok (.istore_n 3, 1) := by decide +kernel
theorem dX6_put_18 : decode cX6_put 18 = .ok (.iload_n 3, 1) := by decide +kernel
theorem dX6_put_19 : decode cX6_put 19 = .ok (.iload_n 2, 1) := by decide +kernel
theorem dX6_put_20 : decode cX6_put 20 = .ok (.if_icmp .ge 28, 3) := by decide +kernel
theorem dX6_put_23 : decode cX6_put 23 = .ok (.aload_n 0, 1) := by decide +kernel
theorem dX6_put_24 : decode cX6_put 24 = .ok (.getfield 16, 3) := by decide +kernel
theorem dX6_put_27 : decode cX6_put 27 = .ok (.sipush 192, 3) := by decide +kernel
theorem dX6_put_30 : decode cX6_put 30 = .ok (.aload_n 0, 1) := by decide +kernel
theorem dX6_put_31 : decode cX6_put 31 = .ok (.getfield 13, 3) := by decide +kernel
theorem dX6_put_34 : decode cX6_put 34 = .ok (.bipush 8, 2) := by decide +kernel
theorem dX6_put_36 : decode cX6_put 36 = .ok (.iaload, 1) := by decide +kernel
theorem dX6_put_37 : decode cX6_put 37 = .ok (.iadd, 1) := by decide +kernel
theorem dX6_put_38 : decode cX6_put 38 = .ok (.iload_n 3, 1) := by decide +kernel
theorem dX6_put_39 : decode cX6_put 39 = .ok (.iadd, 1) := by decide +kernel
theorem dX6_put_40 : decode cX6_put 40 = .ok (.iload_n 1, 1) := by decide +kernel
theorem dX6_put_41 : decode cX6_put 41 = .ok (.iastore, 1) := by decide +kernel
theorem dX6_put_42 : decode cX6_put 42 = .ok (.iinc 3 1, 3) := by decide +kernel
theorem dX6_put_45 : decode cX6_put 45 = .ok (.goto (-27), 3) := by decide +kernel
theorem dX6_put_48 : decode cX6_put 48 = .ok (.aload_n 0, 1) := by decide +kernel
theorem dX6_put_49 : decode cX6_put 49 = .ok (.getfield 13, 3) := by decide +kernel
theorem dX6_put_52 : decode cX6_put 52 = .ok (.bipush 8, 2) := by decide +kernel
theorem dX6_put_54 : decode cX6_put 54 = .ok (.dup2, 1) := by decide +kernel
theorem dX6_put_55 : decode cX6_put 55 = .ok (.iaload, 1) := by decide +kernel
theorem dX6_put_56 : decode cX6_put 56 = .ok (.iload_n 2, 1) := by decide +kernel
theorem dX6_put_57 : decode cX6_put 57 = .ok (.iadd, 1) := by decide +kernel
theorem dX6_put_58 : decode cX6_put 58 = .ok (.iastore, 1) := by decide +kernel
theorem dX6_put_59 : decode cX6_put 59 = .ok (.iconst 1, 1) := by decide +kernel
theorem dX6_put_60 : decode cX6_put 60 = .ok (.ireturn, 1) := by decide +kernel
def m_M_put2_18b (v : Nat → Int32) (rec : Int32 → Int32 → Int32 → (Nat → Nat → Int32) → Option ((Int32) × (Nat → Nat → Int32))) (x1 : Int32) (x2 : Int32) (x3 : Int32) (u : Nat → Nat → Int32) : Option ((Int32) × (Nat → Nat → Int32)) := (if x2 ≤ x3 then zix 8 9 (zix 8 9 ((zbo 1 (some (1, (zau u 2 8 (((u 2) (8 : Int32).toNatClampNeg) + x2))))))) else zix 8 9 (zix ((192 + ((u 2) (8 : Int32).toNatClampNeg)) + x3) 216 (rec x1 x2 (x3 + 1) (zau u 3 ((192 + ((u 2) (8 : Int32).toNatClampNeg)) + x3) x1))))
def m_M_put2_18 (v : Nat → Int32) : Nat → Int32 → Int32 → Int32 → (Nat → Nat → Int32) → Option ((Int32) × (Nat → Nat → Int32))
  | 0 => fun _ _ _ _ => none
  | n + 1 => fun x1 x2 x3 u => m_M_put2_18b v (m_M_put2_18 v n) x1 x2 x3 u
def m_M_put2 (a0 : Int32) (a1 : Int32) (v : Nat → Int32) (u : Nat → Nat → Int32)  : Option ((Int32) × (Nat → Nat → Int32)) := zix 8 9 ((if (((u 2) (8 : Int32).toNatClampNeg) + a1) ≤ 24 then m_M_put2_18 v 64 a0 a1 0 u else (zbo 0 (some (0, u)))))
section
variable {p : Program} {l : Launch} {e : Env} {s : State} {m : MethodId} {args : Array Value} {below : List Frame} {meth : Method} {c : Code} {D : va_G} {w0 : va_W} {ad : Nat → Nat} {ca : Nat → ClassId} {v : Nat → Int32}
set_option maxRecDepth 100000 in
set_option maxHeartbeats 4000000 in
theorem b_M_put2_18 (G : zG p s m args meth c cX6_put RX6 4 (some .boolean)) (hK : va_K D vwCl (wM_t ca) s) (hX : zN (va_A w0 s.heap.size) s) {res : (Int32) × (Nat → Nat → Int32)} : ∀ n : Nat, ∀ (x1 : Int32) (x2 : Int32) (x3 : Int32) (u : Nat → Nat → Int32), m_M_put2_18 v n x1 x2 x3 u = some res → zB p l e (zR 0 0) s m args below meth c D vwCl (va_A w0 s.heap.size) (MQ below (zQi D vwCl w0 (wM ad ca v res.2) s.heap.size res.1) args s 0 0 (va_A w0 s.heap.size)) 4 (wM ad ca v u) [(0, .ref (ad 0)), (1, .int x1), (2, .int x2), (3, .int x3)] 18 [] := by
  intro n
  induction n with
  | zero => intro x1 x2 x3 u hm; cases hm
  | succ n ih =>
  have hrec := ih
  intro x1 x2 x3 u hm H locs ls hP hD hS hl
  replace hm : m_M_put2_18b v (m_M_put2_18 v n) x1 x2 x3 u = some res := hm
  generalize m_M_put2_18 v n = rec at hm hrec
  unfold m_M_put2_18b at hm
  clear ih
  have G0 := G
  obtain ⟨hx, hb, hr, hml, hown, hw, hlk⟩ := G
  have hA : ∀ q, s.heap.size ≤ q → va_A w0 s.heap.size q := fun q h => Or.inr h
  refine lv_iload_n hx hb dX6_put_18 rfl (lv_at hl 3 rfl) ?_
  refine lv_iload_n hx hb dX6_put_19 rfl (lv_at hl 2 rfl) ?_
  refine lv_icmp_ge (tgt := 48) hx hb dX6_put_20 rfl (fun cd3 => ?_) (fun cd3 => ?_)
  · replace hm := zt cd3 hm
    refine lv_aload_n hx hb dX6_put_48 rfl (lv_at hl 0 rfl) ?_
    refine va_get (D := D) (ci := 5) (v := .ref (ad 2)) (C := RX6) (T := TX6) (N := 24) hx hb hw zinX6 hown hK hP 0 rfl rfl 4 (by decide) (hw _ zw5) (fun _ h9 => h9) rfl dX6_put_49 ?_
    refine lv_bipush (v := 8) hx hb dX6_put_52 (by decide) ?_
    refine lv_dup2_11 hx hb dX6_put_54 rfl rfl ?_
    obtain ⟨hi4, hm⟩ := zix_s hm
    refine va_iald (i := 8) (f := (u 2)) (n := 9) hx hb hK hP 2 1 rfl rfl hi4 dX6_put_55 ?_
    refine lv_iload_n hx hb dX6_put_56 rfl (lv_at hl 2 rfl) ?_
    refine lv_iadd hx hb dX6_put_57 ?_
    obtain ⟨hi5, hm⟩ := zix_s hm
    refine va_iast (i := 8) (x := (((u 2) (8 : Int32).toNatClampNeg) + x2)) (f := (u 2)) (n := 9) hx hb hK hP hD hS 2 1 rfl rfl hi5 dX6_put_58 (fun H locs hP hD hS => ?_)
    have hP : va_P D vwCl (wM ad ca v (zau u 2 8 (((u 2) (8 : Int32).toNatClampNeg) + x2))) H := hP
    have hD : va_D _ (wM ad ca v (zau u 2 8 (((u 2) (8 : Int32).toNatClampNeg) + x2))) := hD
    refine lv_iconst (v := 1) hx hb dX6_put_59 (by decide) ?_
    obtain ⟨hz6, -, hm⟩ := zbo_s hm
    cases hm
    exact zretz hx hb hr hlk hz6 hP hD hS dX6_put_60
  · replace hm := zf cd3 hm
    refine lv_aload_n hx hb dX6_put_23 rfl (lv_at hl 0 rfl) ?_
    refine va_get (D := D) (ci := 5) (v := .ref (ad 3)) (C := RX6) (T := TX6) (N := 24) hx hb hw zinX6 hown hK hP 0 rfl rfl 5 (by decide) (hw _ zw4) (fun _ h9 => h9) rfl dX6_put_24 ?_
    refine lv_sipush (v := 192) hx hb dX6_put_27 (by decide) ?_
    refine lv_aload_n hx hb dX6_put_30 rfl (lv_at hl 0 rfl) ?_
    refine va_get (D := D) (ci := 5) (v := .ref (ad 2)) (C := RX6) (T := TX6) (N := 24) hx hb hw zinX6 hown hK hP 0 rfl rfl 4 (by decide) (hw _ zw5) (fun _ h9 => h9) rfl dX6_put_31 ?_
    refine lv_bipush (v := 8) hx hb dX6_put_34 (by decide) ?_
    obtain ⟨hi7, hm⟩ := zix_s hm
    refine va_iald (i := 8) (f := (u 2)) (n := 9) hx hb hK hP 2 1 rfl rfl hi7 dX6_put_36 ?_
    refine lv_iadd hx hb dX6_put_37 ?_
    refine lv_iload_n hx hb dX6_put_38 rfl (lv_at hl 3 rfl) ?_
    refine lv_iadd hx hb dX6_put_39 ?_
    refine lv_iload_n hx hb dX6_put_40 rfl (lv_at hl 1 rfl) ?_
    obtain ⟨hi8, hm⟩ := zix_s hm
    refine va_iast (i := ((192 + ((u 2) (8 : Int32).toNatClampNeg)) + x3)) (x := x1) (f := (u 3)) (n := 216) hx hb hK hP hD hS 3 2 rfl rfl hi8 dX6_put_41 (fun H locs hP hD hS => ?_)
    have hP : va_P D vwCl (wM ad ca v (zau u 3 ((192 + ((u 2) (8 : Int32).toNatClampNeg)) + x3) x1)) H := hP
    have hD : va_D _ (wM ad ca v (zau u 3 ((192 + ((u 2) (8 : Int32).toNatClampNeg)) + x3) x1)) := hD
    refine lv_iinc (k := 3) (v := (x3 + 1)) (lv' := [(3, .int (x3 + 1)), (0, .ref (ad 0)), (1, .int x1), (2, .int x2)]) hx hb dX6_put_42 hl rfl rfl (by decide) rfl (fun ls hl => ?_)
    refine lv_goto (tgt := 18) hx hb dX6_put_45 rfl ?_
    exact hrec _ _ _ _ hm H _ _ hP hD hS (lv_sub hl [1, 2, 3, 0] rfl)
end
set_option maxRecDepth 100000 in
set_option maxHeartbeats 4000000 in
theorem k_M_put2 (l : Launch) (D : va_G) (ad : Nat → Nat) (ca : Nat → ClassId) (sz : Nat) (a0 : Int32) (a1 : Int32) (v : Nat → Int32) (u : Nat → Nat → Int32) (res : (Int32) × (Nat → Nat → Int32)) (hm : m_M_put2 a0 a1 v u  = some res) : Met l yX6_put (Cond.code yX6_put cX6_put 4 (some .boolean) :: zBIG) (zR 0 0) (va_Pc [.ref (ad 0), .int a0, .int a1] (zP zN D vwCl (wM_t ca) (wM ad ca v u) sz)) (zQi D vwCl (wM ad ca v u) (wM ad ca v res.2) sz res.1) 0 0 (va_A (wM ad ca v u) sz) := by
  refine zEnter RX6 [.ref (ad 0), .int a0, .int a1] (by decide) rfl (Nat.le_of_ble_eq_true rfl) (fun p e s m below meth c ls G hK hX hP hD hsz hl => ?_)
  subst hsz
  unfold m_M_put2 at hm
  have hl : lv_has ls 4 [(0, .ref (ad 0)), (1, .int a0), (2, .int a1)] := hl
  have hS : va_S (va_A (wM ad ca v u) s.heap.size) s.heap s.heap [] := va_S.rf
  have hA : ∀ q, s.heap.size ≤ q → va_A (wM ad ca v u) s.heap.size q := fun q h => Or.inr h
  have G0 := G
  obtain ⟨hx, hb, hr, hml, hown, hw, hlk⟩ := G
  refine lv_aload_n hx hb dX6_put_0 rfl (lv_at hl 0 rfl) ?_
  refine va_get (D := D) (ci := 5) (v := .ref (ad 2)) (C := RX6) (T := TX6) (N := 24) hx hb hw zinX6 hown hK hP 0 rfl rfl 4 (by decide) (hw _ zw5) (fun _ h9 => h9) rfl dX6_put_1 ?_
  refine lv_bipush (v := 8) hx hb dX6_put_4 (by decide) ?_
  obtain ⟨hi1, hm⟩ := zix_s hm
  refine va_iald (i := 8) (f := (u 2)) (n := 9) hx hb hK hP 2 1 rfl rfl hi1 dX6_put_6 ?_
  refine lv_iload_n hx hb dX6_put_7 rfl (lv_at hl 2 rfl) ?_
  refine lv_iadd hx hb dX6_put_8 ?_
  refine lv_bipush (v := 24) hx hb dX6_put_9 (by decide) ?_
  refine lv_icmp_le (tgt := 16) hx hb dX6_put_11 rfl (fun cd2 => ?_) (fun cd2 => ?_)
  · replace hm := zt cd2 hm
    refine lv_iconst (v := 0) hx hb dX6_put_16 (by decide) ?_
    refine lv_istore_n (lv' := [(3, .int 0), (0, .ref (ad 0)), (1, .int a0), (2, .int a1)]) hx hb dX6_put_17 rfl hl (by decide) rfl (fun ls hl => ?_)
    exact b_M_put2_18 G0 hK hX 64 _ _ _ _ hm _ _ _ hP hD hS (lv_sub hl [1, 2, 3, 0] rfl)
  · replace hm := zf cd2 hm
    refine lv_iconst (v := 0) hx hb dX6_put_14 (by decide) ?_
    obtain ⟨hz9, -, hm⟩ := zbo_s hm
    cases hm
    exact zretz hx hb hr hlk hz9 hP hD hS dX6_put_15

theorem dX6_parentheses_0 : decode cX6_parentheses 0 = .ok (.aload_n 0, 1) := by decide +kernel
theorem dX6_parentheses_1 : decode cX6_parentheses 1 = .ok (.iload_n 1, 1) := by decide +kernel
theorem dX6_parentheses_2 : decode cX6_parentheses 2 = .ok (.invokevirtual 75, 3) := by decide +kernel
theorem dX6_parentheses_5 : decode cX6_parentheses 5 = .ok (.bipush 40, 2) := by decide +kernel
theorem dX6_parentheses_7 : decode cX6_parentheses 7 = .ok (.if_icmp .eq 5, 3) := by decide +kernel
theorem dX6_parentheses_10 : decode cX6_parentheses 10 = .ok (.iconst 0, 1) := by decide +kernel
theorem dX6_parentheses_11 : decode cX6_parentheses 11 = .ok (.ireturn, 1) := by decide +kernel
theorem dX6_parentheses_12 : decode cX6_parentheses 12 = .ok (.aload_n 0, 1) := by decide +kernel
theorem dX6_parentheses_13 : decode cX6_parentheses 13 = .ok (.iload_n 1, 1) := by decide +kernel
theorem dX6_parentheses_14 : decode cX6_parentheses 14 = .ok (.iconst 1, 1) := by decide +kernel
theorem dX6_parentheses_15 : decode cX6_parentheses 15 = .ok (.iadd, 1) := by decide +kernel
theorem dX6_parentheses_16 : decode cX6_parentheses 16 = .ok (.invokevirtual 75, 3) := by decide +kernel
theorem dX6_parentheses_19 : decode cX6_parentheses 19 = .ok (.invokestatic 79, 3) := by decide +kernel
theorem dX6_parentheses_22 : decode cX6_parentheses 22 = .ok (.ifCond .ne 5, 3) := by decide +kernel
theorem dX6_parentheses_25 : decode cX6_parentheses 25 = .ok (.iconst (-1), 1) := by decide +kernel
theorem dX6_parentheses_26 : decode cX6_parentheses 26 = .ok (.ireturn, 1) := by decide +kernel
theorem dX6_parentheses_27 : decode cX6_parentheses 27 = .ok (.aload_n 0, 1) := by decide +kernel
theorem dX6_parentheses_28 : decode cX6_parentheses 28 = .ok (.iload_n 1, 1) := by decide +kernel
theorem dX6_parentheses_29 : decode cX6_parentheses 29 = .ok (.iconst 2, 1) := by decide +kernel
theorem dX6_parentheses_30 : decode cX6_parentheses 30 = .ok (.iadd, 1) := by decide +kernel
theorem dX6_parentheses_31 : decode cX6_parentheses 31 = .ok (.invokevirtual 75, 3) := by decide +kernel
theorem dX6_parentheses_34 : decode cX6_parentheses 34 = .ok (.invokestatic 79, 3) := by decide +kernel
theorem dX6_parentheses_37 : decode cX6_parentheses 37 = .ok (.ifCond .eq 7, 3) := by decide +kernel
theorem dX6_parentheses_40 : decode cX6_parentheses 40 = .ok (.iconst 4, 1) := by decide +kernel
theorem dX6_parentheses_41 : decode cX6_parentheses 41 = .ok (.goto 4, 3) := by decide +kernel
theorem dX6_parentheses_44 : decode cX6_parentheses 44 = .ok (.iconst 3, 1) := by decide +kernel
theorem dX6_parentheses_45 : decode cX6_parentheses 45 = .ok (.istore_n 2, 1) := by decide +kernel
theorem dX6_parentheses_46 : decode cX6_parentheses 46 = .ok (.aload_n 0, 1) := by decide +kernel
theorem dX6_parentheses_47 : decode cX6_parentheses 47 = .ok (.iload_n 1, 1) := by decide +kernel
theorem dX6_parentheses_48 : decode cX6_parentheses 48 = .ok (.iconst 1, 1) := by decide +kernel
theorem dX6_parentheses_49 : decode cX6_parentheses 49 = .ok (.iadd, 1) := by decide +kernel
theorem dX6_parentheses_50 : decode cX6_parentheses 50 = .ok (.invokevirtual 75, 3) := by decide +kernel
theorem dX6_parentheses_53 : decode cX6_parentheses 53 = .ok (.bipush 48, 2) := by decide +kernel
theorem dX6_parentheses_55 : decode cX6_parentheses 55 = .ok (.if_icmp .ne 24, 3) := by decide +kernel
theorem dX6_parentheses_58 : decode cX6_parentheses 58 = .ok (.iload_n 2, 1) := by decide +kernel
theorem dX6_parentheses_59 : decode cX6_parentheses 59 = .ok (.iconst 3, 1) := by decide +kernel
theorem dX6_parentheses_60 : decode cX6_parentheses 60 = .ok (.if_icmp .eq 15, 3) := by decide +kernel
theorem dX6_parentheses_63 : decode cX6_parentheses 63 = .ok (.aload_n 0, 1) := by decide +kernel
theorem dX6_parentheses_64 : decode cX6_parentheses 64 = .ok (.iload_n 1, 1) := by decide +kernel
theorem dX6_parentheses_65 : decode cX6_parentheses 65 = .ok (.iconst 2, 1) := by decide +kernel
theorem dX6_parentheses_66 : decode cX6_parentheses 66 = .ok (.iadd, 1) := by decide +kernel
theorem dX6_parentheses_67 : decode cX6_parentheses 67 = .ok (.invokevirtual 75, 3) := by decide +kernel
theorem dX6_parentheses_70 : decode cX6_parentheses 70 = .ok (.bipush 48, 2) := by decide +kernel
theorem dX6_parentheses_72 : decode cX6_parentheses 72 = .ok (.if_icmp .ne 7, 3) := by decide +kernel
theorem dX6_parentheses_75 : decode cX6_parentheses 75 = .ok (.iconst 1, 1) := by decide +kernel
theorem dX6_parentheses_76 : decode cX6_parentheses 76 = .ok (.goto 4, 3) := by decide +kernel
theorem dX6_parentheses_79 : decode cX6_parentheses 79 = .ok (.iconst 0, 1) := by decide +kernel
theorem dX6_parentheses_80 : decode cX6_parentheses 80 = .ok (.istore_n 3, 1) := by decide +kernel
theorem dX6_parentheses_81 : decode cX6_parentheses 81 = .ok (.aload_n 0, 1) := by decide +kernel
theorem dX6_parentheses_82 : decode cX6_parentheses 82 = .ok (.iload_n 1, 1) := by decide +kernel
theorem dX6_parentheses_83 : decode cX6_parentheses 83 = .ok (.iload_n 2, 1) := by decide +kernel
theorem dX6_parentheses_84 : decode cX6_parentheses 84 = .ok (.iadd, 1) := by decide +kernel
theorem dX6_parentheses_85 : decode cX6_parentheses 85 = .ok (.iconst 1, 1) := by decide +kernel
theorem dX6_parentheses_86 : decode cX6_parentheses 86 = .ok (.isub, 1) := by decide +kernel
theorem dX6_parentheses_87 : decode cX6_parentheses 87 = .ok (.invokevirtual 75, 3) := by decide +kernel
theorem dX6_parentheses_90 : decode cX6_parentheses 90 = .ok (.bipush 41, 2) := by decide +kernel
theorem dX6_parentheses_92 : decode cX6_parentheses 92 = .ok (.if_icmp .ne 11, 3) := by decide +kernel
theorem dX6_parentheses_95 : decode cX6_parentheses 95 = .ok (.iload_n 3, 1) := by decide +kernel
theorem dX6_parentheses_96 : decode cX6_parentheses 96 = .ok (.ifCond .ne 7, 3) := by decide +kernel
theorem dX6_parentheses_99 : decode cX6_parentheses 99 = .ok (.iload_n 2, 1) := by decide +kernel
theorem dX6_parentheses_100 : decode cX6_parentheses 100 = .ok (.goto 4, 3) := by decide +kernel
theorem dX6_parentheses_103 : decode cX6_parentheses 103 = .ok (.iconst (-1), 1) := by decide +kernel
theorem dX6_parentheses_104 : decode cX6_parentheses 104 = .ok (.ireturn, 1) := by decide +kernel
def m_M_parentheses_80 (v : Nat → Int32) (u : Nat → Nat → Int32) (x1 : Int32) (x2 : Int32) (t0 : Int32)  : Option ((Int32)) := (m_M_at ((x1 + x2) - 1) v u).bind (fun q11 => (if q11 = 41 then (if t0 = 0 then (some x2) else (some (-1))) else (some (-1))))
def m_M_parentheses_79 (v : Nat → Int32) (u : Nat → Nat → Int32) (x1 : Int32) (x2 : Int32)  : Option ((Int32)) := m_M_parentheses_80 v u x1 x2 0
def m_M_parentheses_75 (v : Nat → Int32) (u : Nat → Nat → Int32) (x1 : Int32) (x2 : Int32)  : Option ((Int32)) := m_M_parentheses_80 v u x1 x2 1
def m_M_parentheses_45 (v : Nat → Int32) (u : Nat → Nat → Int32) (x1 : Int32) (t0 : Int32)  : Option ((Int32)) := (m_M_at (x1 + 1) v u).bind (fun q9 => (if q9 = 48 then (if t0 = 3 then m_M_parentheses_75 v u x1 t0 else (m_M_at (x1 + 2) v u).bind (fun q15 => (if q15 = 48 then m_M_parentheses_75 v u x1 t0 else m_M_parentheses_79 v u x1 t0))) else m_M_parentheses_79 v u x1 t0))
def m_M_parentheses (a0 : Int32) (v : Nat → Int32) (u : Nat → Nat → Int32)  : Option ((Int32)) := (m_M_at a0 v u).bind (fun q1 => (if q1 = 40 then (m_M_at (a0 + 1) v u).bind (fun q3 => (m_M_isDigit q3).bind (fun q4 => (if q4 = 0 then (some (-1)) else (m_M_at (a0 + 2) v u).bind (fun q6 => (m_M_isDigit q6).bind (fun q7 => (if q7 = 0 then m_M_parentheses_45 v u a0 3 else m_M_parentheses_45 v u a0 4)))))) else (some 0)))
section
variable {p : Program} {l : Launch} {e : Env} {s : State} {m : MethodId} {args : Array Value} {below : List Frame} {meth : Method} {c : Code} {D : va_G} {w0 : va_W} {ad : Nat → Nat} {ca : Nat → ClassId} {v : Nat → Int32} {u : Nat → Nat → Int32}
set_option maxRecDepth 100000 in
set_option maxHeartbeats 4000000 in
theorem b_M_parentheses_80 (G : zG p s m args meth c cX6_parentheses RX6 4 (some .int)) (hK : va_K D vwCl (wM_t ca) s) (hX : zN (va_A w0 s.heap.size) s) {res : (Int32)} : ∀ (x1 : Int32) (x2 : Int32) (t0 : Int32), m_M_parentheses_80 v u x1 x2 t0 = some res → zB p l e (zR 1 21) s m args below meth c D vwCl (va_A w0 s.heap.size) (MQ below (zQi D vwCl w0 (wM ad ca v u) s.heap.size res) args s 0 0 (va_A w0 s.heap.size)) 4 (wM ad ca v u) [(0, .ref (ad 0)), (1, .int x1), (2, .int x2)] 80 [.int t0] := by
  intro x1 x2 t0 hm H locs ls hP hD hS hl
  unfold m_M_parentheses_80 at hm
  have G0 := G
  obtain ⟨hx, hb, hr, hml, hown, hw, hlk⟩ := G
  have hA : ∀ q, s.heap.size ≤ q → va_A w0 s.heap.size q := fun q h => Or.inr h
  refine lv_istore_n (lv' := [(3, .int t0), (0, .ref (ad 0)), (1, .int x1), (2, .int x2)]) hx hb dX6_parentheses_80 rfl hl (by decide) rfl (fun ls hl => ?_)
  refine lv_aload_n hx hb dX6_parentheses_81 rfl (lv_at hl 1 rfl) ?_
  refine lv_iload_n hx hb dX6_parentheses_82 rfl (lv_at hl 2 rfl) ?_
  refine lv_iload_n hx hb dX6_parentheses_83 rfl (lv_at hl 3 rfl) ?_
  refine lv_iadd hx hb dX6_parentheses_84 ?_
  refine lv_iconst (v := 1) hx hb dX6_parentheses_85 (by decide) ?_
  refine lv_isub hx hb dX6_parentheses_86 ?_
  obtain ⟨q11, hq11, hm⟩ := zbind hm
  refine zbWi (va_runV (As := [.int ((x1 + x2) - 1)]) (rest := []) ⟨hx, hb, hml, hown, hw⟩ (k_M_at l D ad ca _ ((x1 + x2) - 1) v u  q11 hq11) (zcV (C := RX6) 1 hw (zgood zw6) rfl rfl rfl zw7 zw9 zw8 zw10 hdX6_at ⟨Nat.le_of_ble_eq_true rfl, Nat.le_of_ble_eq_true rfl⟩) (zpreV (zpre zN_ok trivial hS (zfree hD hS hA) hP hK hD) (va_recv hK hP rfl (q0 := 0) rfl)) rfl rfl hl.1 rfl (lv_room (Nat.le_of_ble_eq_true rfl)) dX6_parentheses_87 ⟨Nat.zero_le _, Nat.zero_le _⟩) hS (zfree hD hS hA) (fun H locs hP hD hS => ?_)
  refine lv_bipush (v := 41) hx hb dX6_parentheses_90 (by decide) ?_
  refine lv_icmp_ne (tgt := 103) hx hb dX6_parentheses_92 rfl (fun cd12 => ?_) (fun cd12 => ?_)
  · replace hm := zf cd12 hm
    refine lv_iconst (v := (-1)) hx hb dX6_parentheses_103 (by decide) ?_
    cases hm
    exact zreti hx hb hr hlk hP hD hS dX6_parentheses_104
  · replace hm := zt cd12 hm
    refine lv_iload_n hx hb dX6_parentheses_95 rfl (lv_at hl 0 rfl) ?_
    refine lv_if_ne (tgt := 103) hx hb dX6_parentheses_96 rfl (fun cd13 => ?_) (fun cd13 => ?_)
    · replace hm := zf cd13 hm
      refine lv_iconst (v := (-1)) hx hb dX6_parentheses_103 (by decide) ?_
      cases hm
      exact zreti hx hb hr hlk hP hD hS dX6_parentheses_104
    · replace hm := zt cd13 hm
      refine lv_iload_n hx hb dX6_parentheses_99 rfl (lv_at hl 3 rfl) ?_
      refine lv_goto (tgt := 104) hx hb dX6_parentheses_100 rfl ?_
      cases hm
      exact zreti hx hb hr hlk hP hD hS dX6_parentheses_104
set_option maxRecDepth 100000 in
set_option maxHeartbeats 4000000 in
theorem b_M_parentheses_79 (G : zG p s m args meth c cX6_parentheses RX6 4 (some .int)) (hK : va_K D vwCl (wM_t ca) s) (hX : zN (va_A w0 s.heap.size) s) {res : (Int32)} : ∀ (x1 : Int32) (x2 : Int32), m_M_parentheses_79 v u x1 x2 = some res → zB p l e (zR 1 21) s m args below meth c D vwCl (va_A w0 s.heap.size) (MQ below (zQi D vwCl w0 (wM ad ca v u) s.heap.size res) args s 0 0 (va_A w0 s.heap.size)) 4 (wM ad ca v u) [(0, .ref (ad 0)), (1, .int x1), (2, .int x2)] 79 [] := by
  intro x1 x2 hm H locs ls hP hD hS hl
  unfold m_M_parentheses_79 at hm
  have G0 := G
  obtain ⟨hx, hb, hr, hml, hown, hw, hlk⟩ := G
  have hA : ∀ q, s.heap.size ≤ q → va_A w0 s.heap.size q := fun q h => Or.inr h
  refine lv_iconst (v := 0) hx hb dX6_parentheses_79 (by decide) ?_
  exact b_M_parentheses_80 G0 hK hX _ _ _ hm H _ _ hP hD hS hl
set_option maxRecDepth 100000 in
set_option maxHeartbeats 4000000 in
theorem b_M_parentheses_75 (G : zG p s m args meth c cX6_parentheses RX6 4 (some .int)) (hK : va_K D vwCl (wM_t ca) s) (hX : zN (va_A w0 s.heap.size) s) {res : (Int32)} : ∀ (x1 : Int32) (x2 : Int32), m_M_parentheses_75 v u x1 x2 = some res → zB p l e (zR 1 21) s m args below meth c D vwCl (va_A w0 s.heap.size) (MQ below (zQi D vwCl w0 (wM ad ca v u) s.heap.size res) args s 0 0 (va_A w0 s.heap.size)) 4 (wM ad ca v u) [(0, .ref (ad 0)), (1, .int x1), (2, .int x2)] 75 [] := by
  intro x1 x2 hm H locs ls hP hD hS hl
  unfold m_M_parentheses_75 at hm
  have G0 := G
  obtain ⟨hx, hb, hr, hml, hown, hw, hlk⟩ := G
  have hA : ∀ q, s.heap.size ≤ q → va_A w0 s.heap.size q := fun q h => Or.inr h
  refine lv_iconst (v := 1) hx hb dX6_parentheses_75 (by decide) ?_
  refine lv_goto (tgt := 80) hx hb dX6_parentheses_76 rfl ?_
  exact b_M_parentheses_80 G0 hK hX _ _ _ hm H _ _ hP hD hS hl
set_option maxRecDepth 100000 in
set_option maxHeartbeats 4000000 in
theorem b_M_parentheses_45 (G : zG p s m args meth c cX6_parentheses RX6 4 (some .int)) (hK : va_K D vwCl (wM_t ca) s) (hX : zN (va_A w0 s.heap.size) s) {res : (Int32)} : ∀ (x1 : Int32) (t0 : Int32), m_M_parentheses_45 v u x1 t0 = some res → zB p l e (zR 1 21) s m args below meth c D vwCl (va_A w0 s.heap.size) (MQ below (zQi D vwCl w0 (wM ad ca v u) s.heap.size res) args s 0 0 (va_A w0 s.heap.size)) 4 (wM ad ca v u) [(0, .ref (ad 0)), (1, .int x1)] 45 [.int t0] := by
  intro x1 t0 hm H locs ls hP hD hS hl
  unfold m_M_parentheses_45 at hm
  have G0 := G
  obtain ⟨hx, hb, hr, hml, hown, hw, hlk⟩ := G
  have hA : ∀ q, s.heap.size ≤ q → va_A w0 s.heap.size q := fun q h => Or.inr h
  refine lv_istore_n (lv' := [(2, .int t0), (0, .ref (ad 0)), (1, .int x1)]) hx hb dX6_parentheses_45 rfl hl (by decide) rfl (fun ls hl => ?_)
  refine lv_aload_n hx hb dX6_parentheses_46 rfl (lv_at hl 1 rfl) ?_
  refine lv_iload_n hx hb dX6_parentheses_47 rfl (lv_at hl 2 rfl) ?_
  refine lv_iconst (v := 1) hx hb dX6_parentheses_48 (by decide) ?_
  refine lv_iadd hx hb dX6_parentheses_49 ?_
  obtain ⟨q9, hq9, hm⟩ := zbind hm
  refine zbWi (va_runV (As := [.int (x1 + 1)]) (rest := []) ⟨hx, hb, hml, hown, hw⟩ (k_M_at l D ad ca _ (x1 + 1) v u  q9 hq9) (zcV (C := RX6) 1 hw (zgood zw6) rfl rfl rfl zw7 zw9 zw8 zw10 hdX6_at ⟨Nat.le_of_ble_eq_true rfl, Nat.le_of_ble_eq_true rfl⟩) (zpreV (zpre zN_ok trivial hS (zfree hD hS hA) hP hK hD) (va_recv hK hP rfl (q0 := 0) rfl)) rfl rfl hl.1 rfl (lv_room (Nat.le_of_ble_eq_true rfl)) dX6_parentheses_50 ⟨Nat.zero_le _, Nat.zero_le _⟩) hS (zfree hD hS hA) (fun H locs hP hD hS => ?_)
  refine lv_bipush (v := 48) hx hb dX6_parentheses_53 (by decide) ?_
  refine lv_icmp_ne (tgt := 79) hx hb dX6_parentheses_55 rfl (fun cd10 => ?_) (fun cd10 => ?_)
  · replace hm := zf cd10 hm
    exact b_M_parentheses_79 G0 hK hX _ _ hm H _ _ hP hD hS (lv_sub hl [1, 2, 0] rfl)
  · replace hm := zt cd10 hm
    refine lv_iload_n hx hb dX6_parentheses_58 rfl (lv_at hl 0 rfl) ?_
    refine lv_iconst (v := 3) hx hb dX6_parentheses_59 (by decide) ?_
    refine lv_icmp_eq (tgt := 75) hx hb dX6_parentheses_60 rfl (fun cd14 => ?_) (fun cd14 => ?_)
    · replace hm := zt cd14 hm
      exact b_M_parentheses_75 G0 hK hX _ _ hm H _ _ hP hD hS (lv_sub hl [1, 2, 0] rfl)
    · replace hm := zf cd14 hm
      refine lv_aload_n hx hb dX6_parentheses_63 rfl (lv_at hl 1 rfl) ?_
      refine lv_iload_n hx hb dX6_parentheses_64 rfl (lv_at hl 2 rfl) ?_
      refine lv_iconst (v := 2) hx hb dX6_parentheses_65 (by decide) ?_
      refine lv_iadd hx hb dX6_parentheses_66 ?_
      obtain ⟨q15, hq15, hm⟩ := zbind hm
      refine zbWi (va_runV (As := [.int (x1 + 2)]) (rest := []) ⟨hx, hb, hml, hown, hw⟩ (k_M_at l D ad ca _ (x1 + 2) v u  q15 hq15) (zcV (C := RX6) 1 hw (zgood zw6) rfl rfl rfl zw7 zw9 zw8 zw10 hdX6_at ⟨Nat.le_of_ble_eq_true rfl, Nat.le_of_ble_eq_true rfl⟩) (zpreV (zpre zN_ok trivial hS (zfree hD hS hA) hP hK hD) (va_recv hK hP rfl (q0 := 0) rfl)) rfl rfl hl.1 rfl (lv_room (Nat.le_of_ble_eq_true rfl)) dX6_parentheses_67 ⟨Nat.zero_le _, Nat.zero_le _⟩) hS (zfree hD hS hA) (fun H locs hP hD hS => ?_)
      refine lv_bipush (v := 48) hx hb dX6_parentheses_70 (by decide) ?_
      refine lv_icmp_ne (tgt := 79) hx hb dX6_parentheses_72 rfl (fun cd16 => ?_) (fun cd16 => ?_)
      · replace hm := zf cd16 hm
        exact b_M_parentheses_79 G0 hK hX _ _ hm H _ _ hP hD hS (lv_sub hl [1, 2, 0] rfl)
      · replace hm := zt cd16 hm
        exact b_M_parentheses_75 G0 hK hX _ _ hm H _ _ hP hD hS (lv_sub hl [1, 2, 0] rfl)
end
set_option maxRecDepth 100000 in
set_option maxHeartbeats 4000000 in
theorem k_M_parentheses (l : Launch) (D : va_G) (ad : Nat → Nat) (ca : Nat → ClassId) (sz : Nat) (a0 : Int32) (v : Nat → Int32) (u : Nat → Nat → Int32) (res : (Int32)) (hm : m_M_parentheses a0 v u  = some res) : Met l yX6_parentheses (Cond.code yX6_parentheses cX6_parentheses 4 (some .int) :: zBIG) (zR 1 21) (va_Pc [.ref (ad 0), .int a0] (zP zN D vwCl (wM_t ca) (wM ad ca v u) sz)) (zQi D vwCl (wM ad ca v u) (wM ad ca v u) sz res) 0 0 (va_A (wM ad ca v u) sz) := by
  refine zEnter RX6 [.ref (ad 0), .int a0] (by decide) rfl (Nat.le_of_ble_eq_true rfl) (fun p e s m below meth c ls G hK hX hP hD hsz hl => ?_)
  subst hsz
  unfold m_M_parentheses at hm
  have hl : lv_has ls 4 [(0, .ref (ad 0)), (1, .int a0)] := hl
  have hS : va_S (va_A (wM ad ca v u) s.heap.size) s.heap s.heap [] := va_S.rf
  have hA : ∀ q, s.heap.size ≤ q → va_A (wM ad ca v u) s.heap.size q := fun q h => Or.inr h
  have G0 := G
  obtain ⟨hx, hb, hr, hml, hown, hw, hlk⟩ := G
  refine lv_aload_n hx hb dX6_parentheses_0 rfl (lv_at hl 0 rfl) ?_
  refine lv_iload_n hx hb dX6_parentheses_1 rfl (lv_at hl 1 rfl) ?_
  obtain ⟨q1, hq1, hm⟩ := zbind hm
  refine zbWi (va_runV (As := [.int a0]) (rest := []) ⟨hx, hb, hml, hown, hw⟩ (k_M_at l D ad ca _ a0 v u  q1 hq1) (zcV (C := RX6) 1 hw (zgood zw6) rfl rfl rfl zw7 zw9 zw8 zw10 hdX6_at ⟨Nat.le_of_ble_eq_true rfl, Nat.le_of_ble_eq_true rfl⟩) (zpreV (zpre zN_ok trivial hS (zfree hD hS hA) hP hK hD) (va_recv hK hP rfl (q0 := 0) rfl)) rfl rfl hl.1 rfl (lv_room (Nat.le_of_ble_eq_true rfl)) dX6_parentheses_2 ⟨Nat.zero_le _, Nat.zero_le _⟩) hS (zfree hD hS hA) (fun H locs hP hD hS => ?_)
  refine lv_bipush (v := 40) hx hb dX6_parentheses_5 (by decide) ?_
  refine lv_icmp_eq (tgt := 12) hx hb dX6_parentheses_7 rfl (fun cd2 => ?_) (fun cd2 => ?_)
  · replace hm := zt cd2 hm
    refine lv_aload_n hx hb dX6_parentheses_12 rfl (lv_at hl 0 rfl) ?_
    refine lv_iload_n hx hb dX6_parentheses_13 rfl (lv_at hl 1 rfl) ?_
    refine lv_iconst (v := 1) hx hb dX6_parentheses_14 (by decide) ?_
    refine lv_iadd hx hb dX6_parentheses_15 ?_
    obtain ⟨q3, hq3, hm⟩ := zbind hm
    refine zbWi (va_runV (As := [.int (a0 + 1)]) (rest := []) ⟨hx, hb, hml, hown, hw⟩ (k_M_at l D ad ca _ (a0 + 1) v u  q3 hq3) (zcV (C := RX6) 1 hw (zgood zw6) rfl rfl rfl zw7 zw9 zw8 zw10 hdX6_at ⟨Nat.le_of_ble_eq_true rfl, Nat.le_of_ble_eq_true rfl⟩) (zpreV (zpre zN_ok trivial hS (zfree hD hS hA) hP hK hD) (va_recv hK hP rfl (q0 := 0) rfl)) rfl rfl hl.1 rfl (lv_room (Nat.le_of_ble_eq_true rfl)) dX6_parentheses_16 ⟨Nat.zero_le _, Nat.zero_le _⟩) hS (zfree hD hS hA) (fun H locs hP hD hS => ?_)
    obtain ⟨q4, hq4, hm⟩ := zbind hm
    refine zb0i (va_runS (As := [.int q3]) (rest := []) ⟨hx, hb, hml, hown, hw⟩ (k_M_isDigit l D  _ q3  q4 hq4) ⟨zcB 1 hw (zgood zw11) rfl rfl rfl zw7 zw13 hdX6_isDigit ⟨Nat.le_of_ble_eq_true rfl, Nat.le_of_ble_eq_true rfl⟩, hw _ zw12⟩ (zpre zN_ok trivial hS (zfree0 hS hA) zP0 (hK.sub (tys' := []) [] rfl) zD0) rfl rfl hl.1 rfl (lv_room (Nat.le_of_ble_eq_true rfl)) dX6_parentheses_19 ⟨Nat.zero_le _, Nat.zero_le _⟩) hP hD hS (zfree0 hS hA) (fun H locs hP hD hS => ?_)
    refine lv_if_ne (tgt := 27) hx hb dX6_parentheses_22 rfl (fun cd5 => ?_) (fun cd5 => ?_)
    · replace hm := zf cd5 hm
      refine lv_aload_n hx hb dX6_parentheses_27 rfl (lv_at hl 0 rfl) ?_
      refine lv_iload_n hx hb dX6_parentheses_28 rfl (lv_at hl 1 rfl) ?_
      refine lv_iconst (v := 2) hx hb dX6_parentheses_29 (by decide) ?_
      refine lv_iadd hx hb dX6_parentheses_30 ?_
      obtain ⟨q6, hq6, hm⟩ := zbind hm
      refine zbWi (va_runV (As := [.int (a0 + 2)]) (rest := []) ⟨hx, hb, hml, hown, hw⟩ (k_M_at l D ad ca _ (a0 + 2) v u  q6 hq6) (zcV (C := RX6) 1 hw (zgood zw6) rfl rfl rfl zw7 zw9 zw8 zw10 hdX6_at ⟨Nat.le_of_ble_eq_true rfl, Nat.le_of_ble_eq_true rfl⟩) (zpreV (zpre zN_ok trivial hS (zfree hD hS hA) hP hK hD) (va_recv hK hP rfl (q0 := 0) rfl)) rfl rfl hl.1 rfl (lv_room (Nat.le_of_ble_eq_true rfl)) dX6_parentheses_31 ⟨Nat.zero_le _, Nat.zero_le _⟩) hS (zfree hD hS hA) (fun H locs hP hD hS => ?_)
      obtain ⟨q7, hq7, hm⟩ := zbind hm
      refine zb0i (va_runS (As := [.int q6]) (rest := []) ⟨hx, hb, hml, hown, hw⟩ (k_M_isDigit l D  _ q6  q7 hq7) ⟨zcB 1 hw (zgood zw11) rfl rfl rfl zw7 zw13 hdX6_isDigit ⟨Nat.le_of_ble_eq_true rfl, Nat.le_of_ble_eq_true rfl⟩, hw _ zw12⟩ (zpre zN_ok trivial hS (zfree0 hS hA) zP0 (hK.sub (tys' := []) [] rfl) zD0) rfl rfl hl.1 rfl (lv_room (Nat.le_of_ble_eq_true rfl)) dX6_parentheses_34 ⟨Nat.zero_le _, Nat.zero_le _⟩) hP hD hS (zfree0 hS hA) (fun H locs hP hD hS => ?_)
      refine lv_if_eq (tgt := 44) hx hb dX6_parentheses_37 rfl (fun cd8 => ?_) (fun cd8 => ?_)
      · replace hm := zt cd8 hm
        refine lv_iconst (v := 3) hx hb dX6_parentheses_44 (by decide) ?_
        exact b_M_parentheses_45 G0 hK hX _ _ hm _ _ _ hP hD hS hl
      · replace hm := zf cd8 hm
        refine lv_iconst (v := 4) hx hb dX6_parentheses_40 (by decide) ?_
        refine lv_goto (tgt := 45) hx hb dX6_parentheses_41 rfl ?_
        exact b_M_parentheses_45 G0 hK hX _ _ hm _ _ _ hP hD hS hl
    · replace hm := zt cd5 hm
      refine lv_iconst (v := (-1)) hx hb dX6_parentheses_25 (by decide) ?_
      cases hm
      exact zreti hx hb hr hlk hP hD hS dX6_parentheses_26
  · replace hm := zf cd2 hm
    refine lv_iconst (v := 0) hx hb dX6_parentheses_10 (by decide) ?_
    cases hm
    exact zreti hx hb hr hlk hP hD hS dX6_parentheses_11

theorem dX6_countOf_0 : decode cX6_countOf 0 = .ok (.iconst 0, 1) := by decide +kernel
theorem dX6_countOf_1 : decode cX6_countOf 1 = .ok (.istore 4, 2) := by decide +kernel
theorem dX6_countOf_3 : decode cX6_countOf 3 = .ok (.iload_n 2, 1) := by decide +kernel
theorem dX6_countOf_4 : decode cX6_countOf 4 = .ok (.istore 5, 2) := by decide +kernel
theorem dX6_countOf_6 : decode cX6_countOf 6 = .ok (.iload 5, 2) := by decide +kernel
theorem dX6_countOf_8 : decode cX6_countOf 8 = .ok (.iload_n 3, 1) := by decide +kernel
theorem dX6_countOf_9 : decode cX6_countOf 9 = .ok (.if_icmp .ge 31, 3) := by decide +kernel
theorem dX6_countOf_12 : decode cX6_countOf 12 = .ok (.iload 4, 2) := by decide +kernel
theorem dX6_countOf_14 : decode cX6_countOf 14 = .ok (.aload_n 0, 1) := by decide +kernel
theorem dX6_countOf_15 : decode cX6_countOf 15 = .ok (.bipush 8, 2) := by decide +kernel
theorem dX6_countOf_17 : decode cX6_countOf 17 = .ok (.iload 5, 2) := by decide +kernel
theorem dX6_countOf_19 : decode cX6_countOf 19 = .ok (.invokevirtual 93, 3) := by decide +kernel
theorem dX6_countOf_22 : decode cX6_countOf 22 = .ok (.iload_n 1, 1) := by decide +kernel
theorem dX6_countOf_23 : decode cX6_countOf 23 = .ok (.if_icmp .ne 7, 3) := by decide +kernel
theorem dX6_countOf_26 : decode cX6_countOf 26 = .ok (.iconst 1, 1) := by decide +kernel
theorem dX6_countOf_27 : decode cX6_countOf 27 = .ok (.goto 4, 3) := by decide +kernel
theorem dX6_countOf_30 : decode cX6_countOf 30 = .ok (.iconst 0, 1) := by decide +kernel
theorem dX6_countOf_31 : decode cX6_countOf 31 = .ok (.iadd, 1) := by decide +kernel
theorem dX6_countOf_32 : decode cX6_countOf 32 = .ok (.istore 4, 2) := by decide +kernel
theorem dX6_countOf_34 : decode cX6_countOf 34 = .ok (.iinc 5 1, 3) := by decide +kernel
theorem dX6_countOf_37 : decode cX6_countOf 37 = .ok (.goto (-31), 3) := by decide +kernel
theorem dX6_countOf_40 : decode cX6_countOf 40 = .ok (.iload 4, 2) := by decide +kernel
theorem dX6_countOf_42 : decode cX6_countOf 42 = .ok (.ireturn, 1) := by decide +kernel
def m_M_countOf_31 (v : Nat → Int32) (u : Nat → Nat → Int32) (rec : Int32 → Int32 → Int32 → Int32 → Option ((Int32))) (x1 : Int32) (x3 : Int32) (x5 : Int32) (t0 : Int32) (t1 : Int32)  : Option ((Int32)) := rec x1 x3 (t1 + t0) (x5 + 1)
def m_M_countOf_6b (v : Nat → Int32) (u : Nat → Nat → Int32) (rec : Int32 → Int32 → Int32 → Int32 → Option ((Int32))) (x1 : Int32) (x3 : Int32) (x4 : Int32) (x5 : Int32)  : Option ((Int32)) := (if x3 ≤ x5 then (some x4) else (m_M_sym 8 x5 v u).bind (fun q2 => (if q2 = x1 then m_M_countOf_31 v u rec x1 x3 x5 1 x4 else m_M_countOf_31 v u rec x1 x3 x5 0 x4)))
def m_M_countOf_6 (v : Nat → Int32) (u : Nat → Nat → Int32) : Nat → Int32 → Int32 → Int32 → Int32 → Option ((Int32))
  | 0 => fun _ _ _ _ => none
  | n + 1 => fun x1 x3 x4 x5 => m_M_countOf_6b v u (m_M_countOf_6 v u n) x1 x3 x4 x5
def m_M_countOf (a0 : Int32) (a1 : Int32) (a2 : Int32) (v : Nat → Int32) (u : Nat → Nat → Int32)  : Option ((Int32)) := m_M_countOf_6 v u 64 a0 a2 0 a1
section
variable {p : Program} {l : Launch} {e : Env} {s : State} {m : MethodId} {args : Array Value} {below : List Frame} {meth : Method} {c : Code} {D : va_G} {w0 : va_W} {ad : Nat → Nat} {ca : Nat → ClassId} {v : Nat → Int32} {u : Nat → Nat → Int32}
set_option maxRecDepth 100000 in
set_option maxHeartbeats 4000000 in
theorem b_M_countOf_31 (G : zG p s m args meth c cX6_countOf RX6 6 (some .int)) (hK : va_K D vwCl (wM_t ca) s) (hX : zN (va_A w0 s.heap.size) s) {res : (Int32)} (rec : Int32 → Int32 → Int32 → Int32 → Option ((Int32))) (hrec : ∀ (x1 : Int32) (x3 : Int32) (x4 : Int32) (x5 : Int32), rec x1 x3 x4 x5 = some res → zB p l e (zR 1 22) s m args below meth c D vwCl (va_A w0 s.heap.size) (MQ below (zQi D vwCl w0 (wM ad ca v u) s.heap.size res) args s 0 0 (va_A w0 s.heap.size)) 6 (wM ad ca v u) [(0, .ref (ad 0)), (1, .int x1), (3, .int x3), (4, .int x4), (5, .int x5)] 6 []) : ∀ (x1 : Int32) (x3 : Int32) (x5 : Int32) (t0 : Int32) (t1 : Int32), m_M_countOf_31 v u rec x1 x3 x5 t0 t1 = some res → zB p l e (zR 1 22) s m args below meth c D vwCl (va_A w0 s.heap.size) (MQ below (zQi D vwCl w0 (wM ad ca v u) s.heap.size res) args s 0 0 (va_A w0 s.heap.size)) 6 (wM ad ca v u) [(0, .ref (ad 0)), (1, .int x1), (3, .int x3), (5, .int x5)] 31 [.int t0, .int t1] := by
  intro x1 x3 x5 t0 t1 hm H locs ls hP hD hS hl
  unfold m_M_countOf_31 at hm
  have G0 := G
  obtain ⟨hx, hb, hr, hml, hown, hw, hlk⟩ := G
  have hA : ∀ q, s.heap.size ≤ q → va_A w0 s.heap.size q := fun q h => Or.inr h
  refine lv_iadd hx hb dX6_countOf_31 ?_
  refine lv_istore (lv' := [(4, .int (t1 + t0)), (0, .ref (ad 0)), (1, .int x1), (3, .int x3), (5, .int x5)]) hx hb dX6_countOf_32 hl (by decide) rfl (fun ls hl => ?_)
  refine lv_iinc (k := 4) (v := (x5 + 1)) (lv' := [(5, .int (x5 + 1)), (4, .int (t1 + t0)), (0, .ref (ad 0)), (1, .int x1), (3, .int x3)]) hx hb dX6_countOf_34 hl rfl rfl (by decide) rfl (fun ls hl => ?_)
  refine lv_goto (tgt := 6) hx hb dX6_countOf_37 rfl ?_
  exact hrec _ _ _ _ hm H _ _ hP hD hS (lv_sub hl [2, 3, 4, 1, 0] rfl)
set_option maxRecDepth 100000 in
set_option maxHeartbeats 4000000 in
theorem b_M_countOf_6 (G : zG p s m args meth c cX6_countOf RX6 6 (some .int)) (hK : va_K D vwCl (wM_t ca) s) (hX : zN (va_A w0 s.heap.size) s) {res : (Int32)} : ∀ n : Nat, ∀ (x1 : Int32) (x3 : Int32) (x4 : Int32) (x5 : Int32), m_M_countOf_6 v u n x1 x3 x4 x5 = some res → zB p l e (zR 1 22) s m args below meth c D vwCl (va_A w0 s.heap.size) (MQ below (zQi D vwCl w0 (wM ad ca v u) s.heap.size res) args s 0 0 (va_A w0 s.heap.size)) 6 (wM ad ca v u) [(0, .ref (ad 0)), (1, .int x1), (3, .int x3), (4, .int x4), (5, .int x5)] 6 [] := by
  intro n
  induction n with
  | zero => intro x1 x3 x4 x5 hm; cases hm
  | succ n ih =>
  have hrec := ih
  intro x1 x3 x4 x5 hm H locs ls hP hD hS hl
  replace hm : m_M_countOf_6b v u (m_M_countOf_6 v u n) x1 x3 x4 x5 = some res := hm
  generalize m_M_countOf_6 v u n = rec at hm hrec
  unfold m_M_countOf_6b at hm
  clear ih
  have G0 := G
  obtain ⟨hx, hb, hr, hml, hown, hw, hlk⟩ := G
  have hA : ∀ q, s.heap.size ≤ q → va_A w0 s.heap.size q := fun q h => Or.inr h
  refine lv_iload hx hb dX6_countOf_6 (lv_at hl 4 rfl) ?_
  refine lv_iload_n hx hb dX6_countOf_8 rfl (lv_at hl 2 rfl) ?_
  refine lv_icmp_ge (tgt := 40) hx hb dX6_countOf_9 rfl (fun cd1 => ?_) (fun cd1 => ?_)
  · replace hm := zt cd1 hm
    refine lv_iload hx hb dX6_countOf_40 (lv_at hl 3 rfl) ?_
    cases hm
    exact zreti hx hb hr hlk hP hD hS dX6_countOf_42
  · replace hm := zf cd1 hm
    refine lv_iload hx hb dX6_countOf_12 (lv_at hl 3 rfl) ?_
    refine lv_aload_n hx hb dX6_countOf_14 rfl (lv_at hl 0 rfl) ?_
    refine lv_bipush (v := 8) hx hb dX6_countOf_15 (by decide) ?_
    refine lv_iload hx hb dX6_countOf_17 (lv_at hl 4 rfl) ?_
    obtain ⟨q2, hq2, hm⟩ := zbind hm
    refine zbWi (va_runV (As := [.int 8, .int x5]) (rest := [.int x4]) ⟨hx, hb, hml, hown, hw⟩ (k_M_sym l D ad ca _ 8 x5 v u  q2 hq2) (zcV (C := RX6) 2 hw (zgood zw14) rfl rfl rfl zw7 zw16 zw15 zw17 hdX6_sym ⟨Nat.le_of_ble_eq_true rfl, Nat.le_of_ble_eq_true rfl⟩) (zpreV (zpre zN_ok trivial hS (zfree hD hS hA) hP hK hD) (va_recv hK hP rfl (q0 := 0) rfl)) rfl rfl hl.1 rfl (lv_room (Nat.le_of_ble_eq_true rfl)) dX6_countOf_19 ⟨Nat.zero_le _, Nat.zero_le _⟩) hS (zfree hD hS hA) (fun H locs hP hD hS => ?_)
    refine lv_iload_n hx hb dX6_countOf_22 rfl (lv_at hl 1 rfl) ?_
    refine lv_icmp_ne (tgt := 30) hx hb dX6_countOf_23 rfl (fun cd3 => ?_) (fun cd3 => ?_)
    · replace hm := zf cd3 hm
      refine lv_iconst (v := 0) hx hb dX6_countOf_30 (by decide) ?_
      exact b_M_countOf_31 G0 hK hX rec hrec _ _ _ _ _ hm H _ _ hP hD hS (lv_sub hl [0, 1, 2, 4] rfl)
    · replace hm := zt cd3 hm
      refine lv_iconst (v := 1) hx hb dX6_countOf_26 (by decide) ?_
      refine lv_goto (tgt := 31) hx hb dX6_countOf_27 rfl ?_
      exact b_M_countOf_31 G0 hK hX rec hrec _ _ _ _ _ hm H _ _ hP hD hS (lv_sub hl [0, 1, 2, 4] rfl)
end
set_option maxRecDepth 100000 in
set_option maxHeartbeats 4000000 in
theorem k_M_countOf (l : Launch) (D : va_G) (ad : Nat → Nat) (ca : Nat → ClassId) (sz : Nat) (a0 : Int32) (a1 : Int32) (a2 : Int32) (v : Nat → Int32) (u : Nat → Nat → Int32) (res : (Int32)) (hm : m_M_countOf a0 a1 a2 v u  = some res) : Met l yX6_countOf (Cond.code yX6_countOf cX6_countOf 6 (some .int) :: zBIG) (zR 1 22) (va_Pc [.ref (ad 0), .int a0, .int a1, .int a2] (zP zN D vwCl (wM_t ca) (wM ad ca v u) sz)) (zQi D vwCl (wM ad ca v u) (wM ad ca v u) sz res) 0 0 (va_A (wM ad ca v u) sz) := by
  refine zEnter RX6 [.ref (ad 0), .int a0, .int a1, .int a2] (by decide) rfl (Nat.le_of_ble_eq_true rfl) (fun p e s m below meth c ls G hK hX hP hD hsz hl => ?_)
  subst hsz
  unfold m_M_countOf at hm
  have hl : lv_has ls 6 [(0, .ref (ad 0)), (1, .int a0), (2, .int a1), (3, .int a2)] := hl
  have hS : va_S (va_A (wM ad ca v u) s.heap.size) s.heap s.heap [] := va_S.rf
  have hA : ∀ q, s.heap.size ≤ q → va_A (wM ad ca v u) s.heap.size q := fun q h => Or.inr h
  have G0 := G
  obtain ⟨hx, hb, hr, hml, hown, hw, hlk⟩ := G
  refine lv_iconst (v := 0) hx hb dX6_countOf_0 (by decide) ?_
  refine lv_istore (lv' := [(4, .int 0), (0, .ref (ad 0)), (1, .int a0), (2, .int a1), (3, .int a2)]) hx hb dX6_countOf_1 hl (by decide) rfl (fun ls hl => ?_)
  refine lv_iload_n hx hb dX6_countOf_3 rfl (lv_at hl 3 rfl) ?_
  refine lv_istore (lv' := [(5, .int a1), (4, .int 0), (0, .ref (ad 0)), (1, .int a0), (2, .int a1), (3, .int a2)]) hx hb dX6_countOf_4 hl (by decide) rfl (fun ls hl => ?_)
  exact b_M_countOf_6 G0 hK hX 64 _ _ _ _ hm _ _ _ hP hD hS (lv_sub hl [2, 3, 5, 1, 0] rfl)

theorem dX6_firstOf_0 : decode cX6_firstOf 0 = .ok (.iconst (-1), 1) := by decide +kernel
theorem dX6_firstOf_1 : decode cX6_firstOf 1 = .ok (.istore 4, 2) := by decide +kernel
theorem dX6_firstOf_3 : decode cX6_firstOf 3 = .ok (.iload_n 3, 1) := by decide +kernel
theorem dX6_firstOf_4 : decode cX6_firstOf 4 = .ok (.iconst 1, 1) := by decide +kernel
theorem dX6_firstOf_5 : decode cX6_firstOf 5 = .ok (.isub, 1) := by decide +kernel
theorem dX6_firstOf_6 : decode cX6_firstOf 6 = .ok (.istore 5, 2) := by decide +kernel
theorem dX6_firstOf_8 : decode cX6_firstOf 8 = .ok (.iload 5, 2) := by decide +kernel
theorem dX6_firstOf_10 : decode cX6_firstOf 10 = .ok (.iload_n 2, 1) := by decide +kernel
theorem dX6_firstOf_11 : decode cX6_firstOf 11 = .ok (.if_icmp .lt 30, 3) := by decide +kernel
theorem dX6_firstOf_14 : decode cX6_firstOf 14 = .ok (.aload_n 0, 1) := by decide +kernel
theorem dX6_firstOf_15 : decode cX6_firstOf 15 = .ok (.bipush 8, 2) := by decide +kernel
theorem dX6_firstOf_17 : decode cX6_firstOf 17 = .ok (.iload 5, 2) := by decide +kernel
theorem dX6_firstOf_19 : decode cX6_firstOf 19 = .ok (.invokevirtual 93, 3) := by decide +kernel
theorem dX6_firstOf_22 : decode cX6_firstOf 22 = .ok (.iload_n 1, 1) := by decide +kernel
theorem dX6_firstOf_23 : decode cX6_firstOf 23 = .ok (.if_icmp .ne 8, 3) := by decide +kernel
theorem dX6_firstOf_26 : decode cX6_firstOf 26 = .ok (.iload 5, 2) := by decide +kernel
theorem dX6_firstOf_28 : decode cX6_firstOf 28 = .ok (.goto 5, 3) := by decide +kernel
theorem dX6_firstOf_31 : decode cX6_firstOf 31 = .ok (.iload 4, 2) := by decide +kernel
theorem dX6_firstOf_33 : decode cX6_firstOf 33 = .ok (.istore 4, 2) := by decide +kernel
theorem dX6_firstOf_35 : decode cX6_firstOf 35 = .ok (.iinc 5 (-1), 3) := by decide +kernel
theorem dX6_firstOf_38 : decode cX6_firstOf 38 = .ok (.goto (-30), 3) := by decide +kernel
theorem dX6_firstOf_41 : decode cX6_firstOf 41 = .ok (.iload 4, 2) := by decide +kernel
theorem dX6_firstOf_43 : decode cX6_firstOf 43 = .ok (.ireturn, 1) := by decide +kernel
def m_M_firstOf_33 (v : Nat → Int32) (u : Nat → Nat → Int32) (rec : Int32 → Int32 → Int32 → Int32 → Option ((Int32))) (x1 : Int32) (x2 : Int32) (x5 : Int32) (t0 : Int32)  : Option ((Int32)) := rec x1 x2 t0 (x5 + (-1))
def m_M_firstOf_8b (v : Nat → Int32) (u : Nat → Nat → Int32) (rec : Int32 → Int32 → Int32 → Int32 → Option ((Int32))) (x1 : Int32) (x2 : Int32) (x4 : Int32) (x5 : Int32)  : Option ((Int32)) := (if x5 < x2 then (some x4) else (m_M_sym 8 x5 v u).bind (fun q2 => (if q2 = x1 then m_M_firstOf_33 v u rec x1 x2 x5 x5 else m_M_firstOf_33 v u rec x1 x2 x5 x4)))
def m_M_firstOf_8 (v : Nat → Int32) (u : Nat → Nat → Int32) : Nat → Int32 → Int32 → Int32 → Int32 → Option ((Int32))
  | 0 => fun _ _ _ _ => none
  | n + 1 => fun x1 x2 x4 x5 => m_M_firstOf_8b v u (m_M_firstOf_8 v u n) x1 x2 x4 x5
def m_M_firstOf (a0 : Int32) (a1 : Int32) (a2 : Int32) (v : Nat → Int32) (u : Nat → Nat → Int32)  : Option ((Int32)) := m_M_firstOf_8 v u 64 a0 a1 (-1) (a2 - 1)
section
variable {p : Program} {l : Launch} {e : Env} {s : State} {m : MethodId} {args : Array Value} {below : List Frame} {meth : Method} {c : Code} {D : va_G} {w0 : va_W} {ad : Nat → Nat} {ca : Nat → ClassId} {v : Nat → Int32} {u : Nat → Nat → Int32}
set_option maxRecDepth 100000 in
set_option maxHeartbeats 4000000 in
theorem b_M_firstOf_33 (G : zG p s m args meth c cX6_firstOf RX6 6 (some .int)) (hK : va_K D vwCl (wM_t ca) s) (hX : zN (va_A w0 s.heap.size) s) {res : (Int32)} (rec : Int32 → Int32 → Int32 → Int32 → Option ((Int32))) (hrec : ∀ (x1 : Int32) (x2 : Int32) (x4 : Int32) (x5 : Int32), rec x1 x2 x4 x5 = some res → zB p l e (zR 1 22) s m args below meth c D vwCl (va_A w0 s.heap.size) (MQ below (zQi D vwCl w0 (wM ad ca v u) s.heap.size res) args s 0 0 (va_A w0 s.heap.size)) 6 (wM ad ca v u) [(0, .ref (ad 0)), (1, .int x1), (2, .int x2), (4, .int x4), (5, .int x5)] 8 []) : ∀ (x1 : Int32) (x2 : Int32) (x5 : Int32) (t0 : Int32), m_M_firstOf_33 v u rec x1 x2 x5 t0 = some res → zB p l e (zR 1 22) s m args below meth c D vwCl (va_A w0 s.heap.size) (MQ below (zQi D vwCl w0 (wM ad ca v u) s.heap.size res) args s 0 0 (va_A w0 s.heap.size)) 6 (wM ad ca v u) [(0, .ref (ad 0)), (1, .int x1), (2, .int x2), (5, .int x5)] 33 [.int t0] := by
  intro x1 x2 x5 t0 hm H locs ls hP hD hS hl
  unfold m_M_firstOf_33 at hm
  have G0 := G
  obtain ⟨hx, hb, hr, hml, hown, hw, hlk⟩ := G
  have hA : ∀ q, s.heap.size ≤ q → va_A w0 s.heap.size q := fun q h => Or.inr h
  refine lv_istore (lv' := [(4, .int t0), (0, .ref (ad 0)), (1, .int x1), (2, .int x2), (5, .int x5)]) hx hb dX6_firstOf_33 hl (by decide) rfl (fun ls hl => ?_)
  refine lv_iinc (k := 4) (v := (x5 + (-1))) (lv' := [(5, .int (x5 + (-1))), (4, .int t0), (0, .ref (ad 0)), (1, .int x1), (2, .int x2)]) hx hb dX6_firstOf_35 hl rfl rfl (by decide) rfl (fun ls hl => ?_)
  refine lv_goto (tgt := 8) hx hb dX6_firstOf_38 rfl ?_
  exact hrec _ _ _ _ hm H _ _ hP hD hS (lv_sub hl [2, 3, 4, 1, 0] rfl)
set_option maxRecDepth 100000 in
set_option maxHeartbeats 4000000 in
theorem b_M_firstOf_8 (G : zG p s m args meth c cX6_firstOf RX6 6 (some .int)) (hK : va_K D vwCl (wM_t ca) s) (hX : zN (va_A w0 s.heap.size) s) {res : (Int32)} : ∀ n : Nat, ∀ (x1 : Int32) (x2 : Int32) (x4 : Int32) (x5 : Int32), m_M_firstOf_8 v u n x1 x2 x4 x5 = some res → zB p l e (zR 1 22) s m args below meth c D vwCl (va_A w0 s.heap.size) (MQ below (zQi D vwCl w0 (wM ad ca v u) s.heap.size res) args s 0 0 (va_A w0 s.heap.size)) 6 (wM ad ca v u) [(0, .ref (ad 0)), (1, .int x1), (2, .int x2), (4, .int x4), (5, .int x5)] 8 [] := by
  intro n
  induction n with
  | zero => intro x1 x2 x4 x5 hm; cases hm
  | succ n ih =>
  have hrec := ih
  intro x1 x2 x4 x5 hm H locs ls hP hD hS hl
  replace hm : m_M_firstOf_8b v u (m_M_firstOf_8 v u n) x1 x2 x4 x5 = some res := hm
  generalize m_M_firstOf_8 v u n = rec at hm hrec
  unfold m_M_firstOf_8b at hm
  clear ih
  have G0 := G
  obtain ⟨hx, hb, hr, hml, hown, hw, hlk⟩ := G
  have hA : ∀ q, s.heap.size ≤ q → va_A w0 s.heap.size q := fun q h => Or.inr h
  refine lv_iload hx hb dX6_firstOf_8 (lv_at hl 4 rfl) ?_
  refine lv_iload_n hx hb dX6_firstOf_10 rfl (lv_at hl 2 rfl) ?_
  refine lv_icmp_lt (tgt := 41) hx hb dX6_firstOf_11 rfl (fun cd1 => ?_) (fun cd1 => ?_)
  · replace hm := zt cd1 hm
    refine lv_iload hx hb dX6_firstOf_41 (lv_at hl 3 rfl) ?_
    cases hm
    exact zreti hx hb hr hlk hP hD hS dX6_firstOf_43
  · replace hm := zf cd1 hm
    refine lv_aload_n hx hb dX6_firstOf_14 rfl (lv_at hl 0 rfl) ?_
    refine lv_bipush (v := 8) hx hb dX6_firstOf_15 (by decide) ?_
    refine lv_iload hx hb dX6_firstOf_17 (lv_at hl 4 rfl) ?_
    obtain ⟨q2, hq2, hm⟩ := zbind hm
    refine zbWi (va_runV (As := [.int 8, .int x5]) (rest := []) ⟨hx, hb, hml, hown, hw⟩ (k_M_sym l D ad ca _ 8 x5 v u  q2 hq2) (zcV (C := RX6) 2 hw (zgood zw14) rfl rfl rfl zw7 zw16 zw15 zw17 hdX6_sym ⟨Nat.le_of_ble_eq_true rfl, Nat.le_of_ble_eq_true rfl⟩) (zpreV (zpre zN_ok trivial hS (zfree hD hS hA) hP hK hD) (va_recv hK hP rfl (q0 := 0) rfl)) rfl rfl hl.1 rfl (lv_room (Nat.le_of_ble_eq_true rfl)) dX6_firstOf_19 ⟨Nat.zero_le _, Nat.zero_le _⟩) hS (zfree hD hS hA) (fun H locs hP hD hS => ?_)
    refine lv_iload_n hx hb dX6_firstOf_22 rfl (lv_at hl 1 rfl) ?_
    refine lv_icmp_ne (tgt := 31) hx hb dX6_firstOf_23 rfl (fun cd3 => ?_) (fun cd3 => ?_)
    · replace hm := zf cd3 hm
      refine lv_iload hx hb dX6_firstOf_31 (lv_at hl 3 rfl) ?_
      exact b_M_firstOf_33 G0 hK hX rec hrec _ _ _ _ hm H _ _ hP hD hS (lv_sub hl [0, 1, 2, 4] rfl)
    · replace hm := zt cd3 hm
      refine lv_iload hx hb dX6_firstOf_26 (lv_at hl 4 rfl) ?_
      refine lv_goto (tgt := 33) hx hb dX6_firstOf_28 rfl ?_
      exact b_M_firstOf_33 G0 hK hX rec hrec _ _ _ _ hm H _ _ hP hD hS (lv_sub hl [0, 1, 2, 4] rfl)
end
set_option maxRecDepth 100000 in
set_option maxHeartbeats 4000000 in
theorem k_M_firstOf (l : Launch) (D : va_G) (ad : Nat → Nat) (ca : Nat → ClassId) (sz : Nat) (a0 : Int32) (a1 : Int32) (a2 : Int32) (v : Nat → Int32) (u : Nat → Nat → Int32) (res : (Int32)) (hm : m_M_firstOf a0 a1 a2 v u  = some res) : Met l yX6_firstOf (Cond.code yX6_firstOf cX6_firstOf 6 (some .int) :: zBIG) (zR 1 22) (va_Pc [.ref (ad 0), .int a0, .int a1, .int a2] (zP zN D vwCl (wM_t ca) (wM ad ca v u) sz)) (zQi D vwCl (wM ad ca v u) (wM ad ca v u) sz res) 0 0 (va_A (wM ad ca v u) sz) := by
  refine zEnter RX6 [.ref (ad 0), .int a0, .int a1, .int a2] (by decide) rfl (Nat.le_of_ble_eq_true rfl) (fun p e s m below meth c ls G hK hX hP hD hsz hl => ?_)
  subst hsz
  unfold m_M_firstOf at hm
  have hl : lv_has ls 6 [(0, .ref (ad 0)), (1, .int a0), (2, .int a1), (3, .int a2)] := hl
  have hS : va_S (va_A (wM ad ca v u) s.heap.size) s.heap s.heap [] := va_S.rf
  have hA : ∀ q, s.heap.size ≤ q → va_A (wM ad ca v u) s.heap.size q := fun q h => Or.inr h
  have G0 := G
  obtain ⟨hx, hb, hr, hml, hown, hw, hlk⟩ := G
  refine lv_iconst (v := (-1)) hx hb dX6_firstOf_0 (by decide) ?_
  refine lv_istore (lv' := [(4, .int (-1)), (0, .ref (ad 0)), (1, .int a0), (2, .int a1), (3, .int a2)]) hx hb dX6_firstOf_1 hl (by decide) rfl (fun ls hl => ?_)
  refine lv_iload_n hx hb dX6_firstOf_3 rfl (lv_at hl 4 rfl) ?_
  refine lv_iconst (v := 1) hx hb dX6_firstOf_4 (by decide) ?_
  refine lv_isub hx hb dX6_firstOf_5 ?_
  refine lv_istore (lv' := [(5, .int (a2 - 1)), (4, .int (-1)), (0, .ref (ad 0)), (1, .int a0), (2, .int a1), (3, .int a2)]) hx hb dX6_firstOf_6 hl (by decide) rfl (fun ls hl => ?_)
  exact b_M_firstOf_8 G0 hK hX 64 _ _ _ _ hm _ _ _ hP hD hS (lv_sub hl [2, 3, 4, 1, 0] rfl)

theorem dX6_isSign_0 : decode cX6_isSign 0 = .ok (.iload_n 0, 1) := by decide +kernel
theorem dX6_isSign_1 : decode cX6_isSign 1 = .ok (.bipush 43, 2) := by decide +kernel
theorem dX6_isSign_3 : decode cX6_isSign 3 = .ok (.if_icmp .eq 9, 3) := by decide +kernel
theorem dX6_isSign_6 : decode cX6_isSign 6 = .ok (.iload_n 0, 1) := by decide +kernel
theorem dX6_isSign_7 : decode cX6_isSign 7 = .ok (.bipush 45, 2) := by decide +kernel
theorem dX6_isSign_9 : decode cX6_isSign 9 = .ok (.if_icmp .ne 7, 3) := by decide +kernel
theorem dX6_isSign_12 : decode cX6_isSign 12 = .ok (.iconst 1, 1) := by decide +kernel
theorem dX6_isSign_13 : decode cX6_isSign 13 = .ok (.goto 4, 3) := by decide +kernel
theorem dX6_isSign_16 : decode cX6_isSign 16 = .ok (.iconst 0, 1) := by decide +kernel
theorem dX6_isSign_17 : decode cX6_isSign 17 = .ok (.ireturn, 1) := by decide +kernel
def m_M_isSign_12    : Option ((Int32)) := (zbo 1 (some 1))
def m_M_isSign (a0 : Int32)   : Option ((Int32)) := (if a0 = 43 then m_M_isSign_12   else (if a0 = 45 then m_M_isSign_12   else (zbo 0 (some 0))))
section
variable {p : Program} {l : Launch} {e : Env} {s : State} {m : MethodId} {args : Array Value} {below : List Frame} {meth : Method} {c : Code} {D : va_G} {w0 : va_W}
set_option maxRecDepth 100000 in
set_option maxHeartbeats 4000000 in
theorem b_M_isSign_12 (G : zG p s m args meth c cX6_isSign RX6 1 (some .boolean)) (hK : va_K D vwCl [] s) (hX : zN (va_A w0 s.heap.size) s) {res : (Int32)} : m_M_isSign_12   = some res → zB p l e (zR 0 0) s m args below meth c D vwCl (va_A w0 s.heap.size) (MQ below (zQi D vwCl w0 [] s.heap.size res) args s 0 0 (va_A w0 s.heap.size)) 1 [] [] 12 [] := by
  intro  hm H locs ls hP hD hS hl
  unfold m_M_isSign_12 at hm
  have G0 := G
  obtain ⟨hx, hb, hr, hml, hown, hw, hlk⟩ := G
  have hA : ∀ q, s.heap.size ≤ q → va_A w0 s.heap.size q := fun q h => Or.inr h
  refine lv_iconst (v := 1) hx hb dX6_isSign_12 (by decide) ?_
  refine lv_goto (tgt := 17) hx hb dX6_isSign_13 rfl ?_
  obtain ⟨hz2, -, hm⟩ := zbo_s hm
  cases hm
  exact zretz hx hb hr hlk hz2 hP hD hS dX6_isSign_17
end
set_option maxRecDepth 100000 in
set_option maxHeartbeats 4000000 in
theorem k_M_isSign (l : Launch) (D : va_G)  (sz : Nat) (a0 : Int32)  (res : (Int32)) (hm : m_M_isSign a0   = some res) : Met l yX6_isSign (Cond.code yX6_isSign cX6_isSign 1 (some .boolean) :: zBIG) (zR 0 0) (va_Pc [.int a0] (zP zN D vwCl [] [] sz)) (zQi D vwCl [] [] sz res) 0 0 (va_A [] sz) := by
  refine zEnter RX6 [.int a0] (by decide) rfl (Nat.le_of_ble_eq_true rfl) (fun p e s m below meth c ls G hK hX hP hD hsz hl => ?_)
  subst hsz
  unfold m_M_isSign at hm
  have hl : lv_has ls 1 [(0, .int a0)] := hl
  have hS : va_S (va_A [] s.heap.size) s.heap s.heap [] := va_S.rf
  have hA : ∀ q, s.heap.size ≤ q → va_A [] s.heap.size q := fun q h => Or.inr h
  have G0 := G
  obtain ⟨hx, hb, hr, hml, hown, hw, hlk⟩ := G
  refine lv_iload_n hx hb dX6_isSign_0 rfl (lv_at hl 0 rfl) ?_
  refine lv_bipush (v := 43) hx hb dX6_isSign_1 (by decide) ?_
  refine lv_icmp_eq (tgt := 12) hx hb dX6_isSign_3 rfl (fun cd1 => ?_) (fun cd1 => ?_)
  · replace hm := zt cd1 hm
    exact b_M_isSign_12 G0 hK hX  hm _ _ _ hP hD hS (lv_sub hl [] rfl)
  · replace hm := zf cd1 hm
    refine lv_iload_n hx hb dX6_isSign_6 rfl (lv_at hl 0 rfl) ?_
    refine lv_bipush (v := 45) hx hb dX6_isSign_7 (by decide) ?_
    refine lv_icmp_ne (tgt := 16) hx hb dX6_isSign_9 rfl (fun cd3 => ?_) (fun cd3 => ?_)
    · replace hm := zf cd3 hm
      refine lv_iconst (v := 0) hx hb dX6_isSign_16 (by decide) ?_
      obtain ⟨hz4, -, hm⟩ := zbo_s hm
      cases hm
      exact zretz hx hb hr hlk hz4 hP hD hS dX6_isSign_17
    · replace hm := zt cd3 hm
      exact b_M_isSign_12 G0 hK hX  hm _ _ _ hP hD hS (lv_sub hl [] rfl)

theorem dX6_isInsertion_0 : decode cX6_isInsertion 0 = .ok (.iload_n 0, 1) := by decide +kernel
theorem dX6_isInsertion_1 : decode cX6_isInsertion 1 = .ok (.bipush 66, 2) := by decide +kernel
theorem dX6_isInsertion_3 : decode cX6_isInsertion 3 = .ok (.if_icmp .eq 21, 3) := by decide +kernel
theorem dX6_isInsertion_6 : decode cX6_isInsertion 6 = .ok (.iload_n 0, 1) := by decide +kernel
theorem dX6_isInsertion_7 : decode cX6_isInsertion 7 = .ok (.bipush 48, 2) := by decide +kernel
theorem dX6_isInsertion_9 : decode cX6_isInsertion 9 = .ok (.if_icmp .eq 15, 3) := by decide +kernel
theorem dX6_isInsertion_12 : decode cX6_isInsertion 12 = .ok (.iload_n 0, 1) := by decide +kernel
theorem dX6_isInsertion_13 : decode cX6_isInsertion 13 = .ok (.bipush 47, 2) := by decide +kernel
theorem dX6_isInsertion_15 : decode cX6_isInsertion 15 = .ok (.if_icmp .eq 9, 3) := by decide +kernel
theorem dX6_isInsertion_18 : decode cX6_isInsertion 18 = .ok (.iload_n 0, 1) := by decide +kernel
theorem dX6_isInsertion_19 : decode cX6_isInsertion 19 = .ok (.bipush 44, 2) := by decide +kernel
theorem dX6_isInsertion_21 : decode cX6_isInsertion 21 = .ok (.if_icmp .ne 7, 3) := by decide +kernel
theorem dX6_isInsertion_24 : decode cX6_isInsertion 24 = .ok (.iconst 1, 1) := by decide +kernel
theorem dX6_isInsertion_25 : decode cX6_isInsertion 25 = .ok (.goto 4, 3) := by decide +kernel
theorem dX6_isInsertion_28 : decode cX6_isInsertion 28 = .ok (.iconst 0, 1) := by decide +kernel
theorem dX6_isInsertion_29 : decode cX6_isInsertion 29 = .ok (.ireturn, 1) := by decide +kernel
def m_M_isInsertion_24    : Option ((Int32)) := (zbo 1 (some 1))
def m_M_isInsertion (a0 : Int32)   : Option ((Int32)) := (if a0 = 66 then m_M_isInsertion_24   else (if a0 = 48 then m_M_isInsertion_24   else (if a0 = 47 then m_M_isInsertion_24   else (if a0 = 44 then m_M_isInsertion_24   else (zbo 0 (some 0))))))
section
variable {p : Program} {l : Launch} {e : Env} {s : State} {m : MethodId} {args : Array Value} {below : List Frame} {meth : Method} {c : Code} {D : va_G} {w0 : va_W}
set_option maxRecDepth 100000 in
set_option maxHeartbeats 4000000 in
theorem b_M_isInsertion_24 (G : zG p s m args meth c cX6_isInsertion RX6 1 (some .boolean)) (hK : va_K D vwCl [] s) (hX : zN (va_A w0 s.heap.size) s) {res : (Int32)} : m_M_isInsertion_24   = some res → zB p l e (zR 0 0) s m args below meth c D vwCl (va_A w0 s.heap.size) (MQ below (zQi D vwCl w0 [] s.heap.size res) args s 0 0 (va_A w0 s.heap.size)) 1 [] [] 24 [] := by
  intro  hm H locs ls hP hD hS hl
  unfold m_M_isInsertion_24 at hm
  have G0 := G
  obtain ⟨hx, hb, hr, hml, hown, hw, hlk⟩ := G
  have hA : ∀ q, s.heap.size ≤ q → va_A w0 s.heap.size q := fun q h => Or.inr h
  refine lv_iconst (v := 1) hx hb dX6_isInsertion_24 (by decide) ?_
  refine lv_goto (tgt := 29) hx hb dX6_isInsertion_25 rfl ?_
  obtain ⟨hz2, -, hm⟩ := zbo_s hm
  cases hm
  exact zretz hx hb hr hlk hz2 hP hD hS dX6_isInsertion_29
end
set_option maxRecDepth 100000 in
set_option maxHeartbeats 4000000 in
theorem k_M_isInsertion (l : Launch) (D : va_G)  (sz : Nat) (a0 : Int32)  (res : (Int32)) (hm : m_M_isInsertion a0   = some res) : Met l yX6_isInsertion (Cond.code yX6_isInsertion cX6_isInsertion 1 (some .boolean) :: zBIG) (zR 0 0) (va_Pc [.int a0] (zP zN D vwCl [] [] sz)) (zQi D vwCl [] [] sz res) 0 0 (va_A [] sz) := by
  refine zEnter RX6 [.int a0] (by decide) rfl (Nat.le_of_ble_eq_true rfl) (fun p e s m below meth c ls G hK hX hP hD hsz hl => ?_)
  subst hsz
  unfold m_M_isInsertion at hm
  have hl : lv_has ls 1 [(0, .int a0)] := hl
  have hS : va_S (va_A [] s.heap.size) s.heap s.heap [] := va_S.rf
  have hA : ∀ q, s.heap.size ≤ q → va_A [] s.heap.size q := fun q h => Or.inr h
  have G0 := G
  obtain ⟨hx, hb, hr, hml, hown, hw, hlk⟩ := G
  refine lv_iload_n hx hb dX6_isInsertion_0 rfl (lv_at hl 0 rfl) ?_
  refine lv_bipush (v := 66) hx hb dX6_isInsertion_1 (by decide) ?_
  refine lv_icmp_eq (tgt := 24) hx hb dX6_isInsertion_3 rfl (fun cd1 => ?_) (fun cd1 => ?_)
  · replace hm := zt cd1 hm
    exact b_M_isInsertion_24 G0 hK hX  hm _ _ _ hP hD hS (lv_sub hl [] rfl)
  · replace hm := zf cd1 hm
    refine lv_iload_n hx hb dX6_isInsertion_6 rfl (lv_at hl 0 rfl) ?_
    refine lv_bipush (v := 48) hx hb dX6_isInsertion_7 (by decide) ?_
    refine lv_icmp_eq (tgt := 24) hx hb dX6_isInsertion_9 rfl (fun cd3 => ?_) (fun cd3 => ?_)
    · replace hm := zt cd3 hm
      exact b_M_isInsertion_24 G0 hK hX  hm _ _ _ hP hD hS (lv_sub hl [] rfl)
    · replace hm := zf cd3 hm
      refine lv_iload_n hx hb dX6_isInsertion_12 rfl (lv_at hl 0 rfl) ?_
      refine lv_bipush (v := 47) hx hb dX6_isInsertion_13 (by decide) ?_
      refine lv_icmp_eq (tgt := 24) hx hb dX6_isInsertion_15 rfl (fun cd4 => ?_) (fun cd4 => ?_)
      · replace hm := zt cd4 hm
        exact b_M_isInsertion_24 G0 hK hX  hm _ _ _ hP hD hS (lv_sub hl [] rfl)
      · replace hm := zf cd4 hm
        refine lv_iload_n hx hb dX6_isInsertion_18 rfl (lv_at hl 0 rfl) ?_
        refine lv_bipush (v := 44) hx hb dX6_isInsertion_19 (by decide) ?_
        refine lv_icmp_ne (tgt := 28) hx hb dX6_isInsertion_21 rfl (fun cd5 => ?_) (fun cd5 => ?_)
        · replace hm := zf cd5 hm
          refine lv_iconst (v := 0) hx hb dX6_isInsertion_28 (by decide) ?_
          obtain ⟨hz6, -, hm⟩ := zbo_s hm
          cases hm
          exact zretz hx hb hr hlk hz6 hP hD hS dX6_isInsertion_29
        · replace hm := zt cd5 hm
          exact b_M_isInsertion_24 G0 hK hX  hm _ _ _ hP hD hS (lv_sub hl [] rfl)

theorem dX6_isFill_0 : decode cX6_isFill 0 = .ok (.iload_n 0, 1) := by decide +kernel
theorem dX6_isFill_1 : decode cX6_isFill 1 = .ok (.bipush 90, 2) := by decide +kernel
theorem dX6_isFill_3 : decode cX6_isFill 3 = .ok (.if_icmp .eq 27, 3) := by decide +kernel
theorem dX6_isFill_6 : decode cX6_isFill 6 = .ok (.iload_n 0, 1) := by decide +kernel
theorem dX6_isFill_7 : decode cX6_isFill 7 = .ok (.bipush 42, 2) := by decide +kernel
theorem dX6_isFill_9 : decode cX6_isFill 9 = .ok (.if_icmp .eq 21, 3) := by decide +kernel
theorem dX6_isFill_12 : decode cX6_isFill 12 = .ok (.iload_n 0, 1) := by decide +kernel
theorem dX6_isFill_13 : decode cX6_isFill 13 = .ok (.bipush 43, 2) := by decide +kernel
theorem dX6_isFill_15 : decode cX6_isFill 15 = .ok (.if_icmp .eq 15, 3) := by decide +kernel
theorem dX6_isFill_18 : decode cX6_isFill 18 = .ok (.iload_n 0, 1) := by decide +kernel
theorem dX6_isFill_19 : decode cX6_isFill 19 = .ok (.bipush 45, 2) := by decide +kernel
theorem dX6_isFill_21 : decode cX6_isFill 21 = .ok (.if_icmp .eq 9, 3) := by decide +kernel
theorem dX6_isFill_24 : decode cX6_isFill 24 = .ok (.iload_n 0, 1) := by decide +kernel
theorem dX6_isFill_25 : decode cX6_isFill 25 = .ok (.bipush 36, 2) := by decide +kernel
theorem dX6_isFill_27 : decode cX6_isFill 27 = .ok (.if_icmp .ne 7, 3) := by decide +kernel
theorem dX6_isFill_30 : decode cX6_isFill 30 = .ok (.iconst 1, 1) := by decide +kernel
theorem dX6_isFill_31 : decode cX6_isFill 31 = .ok (.goto 4, 3) := by decide +kernel
theorem dX6_isFill_34 : decode cX6_isFill 34 = .ok (.iconst 0, 1) := by decide +kernel
theorem dX6_isFill_35 : decode cX6_isFill 35 = .ok (.ireturn, 1) := by decide +kernel
def m_M_isFill_30    : Option ((Int32)) := (zbo 1 (some 1))
def m_M_isFill (a0 : Int32)   : Option ((Int32)) := (if a0 = 90 then m_M_isFill_30   else (if a0 = 42 then m_M_isFill_30   else (if a0 = 43 then m_M_isFill_30   else (if a0 = 45 then m_M_isFill_30   else (if a0 = 36 then m_M_isFill_30   else (zbo 0 (some 0)))))))
section
variable {p : Program} {l : Launch} {e : Env} {s : State} {m : MethodId} {args : Array Value} {below : List Frame} {meth : Method} {c : Code} {D : va_G} {w0 : va_W}
set_option maxRecDepth 100000 in
set_option maxHeartbeats 4000000 in
theorem b_M_isFill_30 (G : zG p s m args meth c cX6_isFill RX6 1 (some .boolean)) (hK : va_K D vwCl [] s) (hX : zN (va_A w0 s.heap.size) s) {res : (Int32)} : m_M_isFill_30   = some res → zB p l e (zR 0 0) s m args below meth c D vwCl (va_A w0 s.heap.size) (MQ below (zQi D vwCl w0 [] s.heap.size res) args s 0 0 (va_A w0 s.heap.size)) 1 [] [] 30 [] := by
  intro  hm H locs ls hP hD hS hl
  unfold m_M_isFill_30 at hm
  have G0 := G
  obtain ⟨hx, hb, hr, hml, hown, hw, hlk⟩ := G
  have hA : ∀ q, s.heap.size ≤ q → va_A w0 s.heap.size q := fun q h => Or.inr h
  refine lv_iconst (v := 1) hx hb dX6_isFill_30 (by decide) ?_
  refine lv_goto (tgt := 35) hx hb dX6_isFill_31 rfl ?_
  obtain ⟨hz2, -, hm⟩ := zbo_s hm
  cases hm
  exact zretz hx hb hr hlk hz2 hP hD hS dX6_isFill_35
end
set_option maxRecDepth 100000 in
set_option maxHeartbeats 4000000 in
theorem k_M_isFill (l : Launch) (D : va_G)  (sz : Nat) (a0 : Int32)  (res : (Int32)) (hm : m_M_isFill a0   = some res) : Met l yX6_isFill (Cond.code yX6_isFill cX6_isFill 1 (some .boolean) :: zBIG) (zR 0 0) (va_Pc [.int a0] (zP zN D vwCl [] [] sz)) (zQi D vwCl [] [] sz res) 0 0 (va_A [] sz) := by
  refine zEnter RX6 [.int a0] (by decide) rfl (Nat.le_of_ble_eq_true rfl) (fun p e s m below meth c ls G hK hX hP hD hsz hl => ?_)
  subst hsz
  unfold m_M_isFill at hm
  have hl : lv_has ls 1 [(0, .int a0)] := hl
  have hS : va_S (va_A [] s.heap.size) s.heap s.heap [] := va_S.rf
  have hA : ∀ q, s.heap.size ≤ q → va_A [] s.heap.size q := fun q h => Or.inr h
  have G0 := G
  obtain ⟨hx, hb, hr, hml, hown, hw, hlk⟩ := G
  refine lv_iload_n hx hb dX6_isFill_0 rfl (lv_at hl 0 rfl) ?_
  refine lv_bipush (v := 90) hx hb dX6_isFill_1 (by decide) ?_
  refine lv_icmp_eq (tgt := 30) hx hb dX6_isFill_3 rfl (fun cd1 => ?_) (fun cd1 => ?_)
  · replace hm := zt cd1 hm
    exact b_M_isFill_30 G0 hK hX  hm _ _ _ hP hD hS (lv_sub hl [] rfl)
  · replace hm := zf cd1 hm
    refine lv_iload_n hx hb dX6_isFill_6 rfl (lv_at hl 0 rfl) ?_
    refine lv_bipush (v := 42) hx hb dX6_isFill_7 (by decide) ?_
    refine lv_icmp_eq (tgt := 30) hx hb dX6_isFill_9 rfl (fun cd3 => ?_) (fun cd3 => ?_)
    · replace hm := zt cd3 hm
      exact b_M_isFill_30 G0 hK hX  hm _ _ _ hP hD hS (lv_sub hl [] rfl)
    · replace hm := zf cd3 hm
      refine lv_iload_n hx hb dX6_isFill_12 rfl (lv_at hl 0 rfl) ?_
      refine lv_bipush (v := 43) hx hb dX6_isFill_13 (by decide) ?_
      refine lv_icmp_eq (tgt := 30) hx hb dX6_isFill_15 rfl (fun cd4 => ?_) (fun cd4 => ?_)
      · replace hm := zt cd4 hm
        exact b_M_isFill_30 G0 hK hX  hm _ _ _ hP hD hS (lv_sub hl [] rfl)
      · replace hm := zf cd4 hm
        refine lv_iload_n hx hb dX6_isFill_18 rfl (lv_at hl 0 rfl) ?_
        refine lv_bipush (v := 45) hx hb dX6_isFill_19 (by decide) ?_
        refine lv_icmp_eq (tgt := 30) hx hb dX6_isFill_21 rfl (fun cd5 => ?_) (fun cd5 => ?_)
        · replace hm := zt cd5 hm
          exact b_M_isFill_30 G0 hK hX  hm _ _ _ hP hD hS (lv_sub hl [] rfl)
        · replace hm := zf cd5 hm
          refine lv_iload_n hx hb dX6_isFill_24 rfl (lv_at hl 0 rfl) ?_
          refine lv_bipush (v := 36) hx hb dX6_isFill_25 (by decide) ?_
          refine lv_icmp_ne (tgt := 34) hx hb dX6_isFill_27 rfl (fun cd6 => ?_) (fun cd6 => ?_)
          · replace hm := zf cd6 hm
            refine lv_iconst (v := 0) hx hb dX6_isFill_34 (by decide) ?_
            obtain ⟨hz7, -, hm⟩ := zbo_s hm
            cases hm
            exact zretz hx hb hr hlk hz7 hP hD hS dX6_isFill_35
          · replace hm := zt cd6 hm
            exact b_M_isFill_30 G0 hK hX  hm _ _ _ hP hD hS (lv_sub hl [] rfl)

theorem dX6_width_0 : decode cX6_width 0 = .ok (.iload_n 0, 1) := by decide +kernel
theorem dX6_width_1 : decode cX6_width 1 = .ok (.bipush 86, 2) := by decide +kernel
theorem dX6_width_3 : decode cX6_width 3 = .ok (.if_icmp .ne 7, 3) := by decide +kernel
theorem dX6_width_6 : decode cX6_width 6 = .ok (.iconst 0, 1) := by decide +kernel
theorem dX6_width_7 : decode cX6_width 7 = .ok (.goto 20, 3) := by decide +kernel
theorem dX6_width_10 : decode cX6_width 10 = .ok (.iload_n 0, 1) := by decide +kernel
theorem dX6_width_11 : decode cX6_width 11 = .ok (.bipush 67, 2) := by decide +kernel
theorem dX6_width_13 : decode cX6_width 13 = .ok (.if_icmp .eq 9, 3) := by decide +kernel
theorem dX6_width_16 : decode cX6_width 16 = .ok (.iload_n 0, 1) := by decide +kernel
theorem dX6_width_17 : decode cX6_width 17 = .ok (.bipush 68, 2) := by decide +kernel
theorem dX6_width_19 : decode cX6_width 19 = .ok (.if_icmp .ne 7, 3) := by decide +kernel
theorem dX6_width_22 : decode cX6_width 22 = .ok (.iconst 2, 1) := by decide +kernel
theorem dX6_width_23 : decode cX6_width 23 = .ok (.goto 4, 3) := by decide +kernel
theorem dX6_width_26 : decode cX6_width 26 = .ok (.iconst 1, 1) := by decide +kernel
theorem dX6_width_27 : decode cX6_width 27 = .ok (.ireturn, 1) := by decide +kernel
def m_M_width_22    : Option ((Int32)) := (some 2)
def m_M_width (a0 : Int32)   : Option ((Int32)) := (if a0 = 86 then (some 0) else (if a0 = 67 then m_M_width_22   else (if a0 = 68 then m_M_width_22   else (some 1))))
section
variable {p : Program} {l : Launch} {e : Env} {s : State} {m : MethodId} {args : Array Value} {below : List Frame} {meth : Method} {c : Code} {D : va_G} {w0 : va_W}
set_option maxRecDepth 100000 in
set_option maxHeartbeats 4000000 in
theorem b_M_width_22 (G : zG p s m args meth c cX6_width RX6 1 (some .int)) (hK : va_K D vwCl [] s) (hX : zN (va_A w0 s.heap.size) s) {res : (Int32)} : m_M_width_22   = some res → zB p l e (zR 0 0) s m args below meth c D vwCl (va_A w0 s.heap.size) (MQ below (zQi D vwCl w0 [] s.heap.size res) args s 0 0 (va_A w0 s.heap.size)) 1 [] [] 22 [] := by
  intro  hm H locs ls hP hD hS hl
  unfold m_M_width_22 at hm
  have G0 := G
  obtain ⟨hx, hb, hr, hml, hown, hw, hlk⟩ := G
  have hA : ∀ q, s.heap.size ≤ q → va_A w0 s.heap.size q := fun q h => Or.inr h
  refine lv_iconst (v := 2) hx hb dX6_width_22 (by decide) ?_
  refine lv_goto (tgt := 27) hx hb dX6_width_23 rfl ?_
  cases hm
  exact zreti hx hb hr hlk hP hD hS dX6_width_27
end
set_option maxRecDepth 100000 in
set_option maxHeartbeats 4000000 in
theorem k_M_width (l : Launch) (D : va_G)  (sz : Nat) (a0 : Int32)  (res : (Int32)) (hm : m_M_width a0   = some res) : Met l yX6_width (Cond.code yX6_width cX6_width 1 (some .int) :: zBIG) (zR 0 0) (va_Pc [.int a0] (zP zN D vwCl [] [] sz)) (zQi D vwCl [] [] sz res) 0 0 (va_A [] sz) := by
  refine zEnter RX6 [.int a0] (by decide) rfl (Nat.le_of_ble_eq_true rfl) (fun p e s m below meth c ls G hK hX hP hD hsz hl => ?_)
  subst hsz
  unfold m_M_width at hm
  have hl : lv_has ls 1 [(0, .int a0)] := hl
  have hS : va_S (va_A [] s.heap.size) s.heap s.heap [] := va_S.rf
  have hA : ∀ q, s.heap.size ≤ q → va_A [] s.heap.size q := fun q h => Or.inr h
  have G0 := G
  obtain ⟨hx, hb, hr, hml, hown, hw, hlk⟩ := G
  refine lv_iload_n hx hb dX6_width_0 rfl (lv_at hl 0 rfl) ?_
  refine lv_bipush (v := 86) hx hb dX6_width_1 (by decide) ?_
  refine lv_icmp_ne (tgt := 10) hx hb dX6_width_3 rfl (fun cd1 => ?_) (fun cd1 => ?_)
  · replace hm := zf cd1 hm
    refine lv_iload_n hx hb dX6_width_10 rfl (lv_at hl 0 rfl) ?_
    refine lv_bipush (v := 67) hx hb dX6_width_11 (by decide) ?_
    refine lv_icmp_eq (tgt := 22) hx hb dX6_width_13 rfl (fun cd2 => ?_) (fun cd2 => ?_)
    · replace hm := zt cd2 hm
      exact b_M_width_22 G0 hK hX  hm _ _ _ hP hD hS (lv_sub hl [] rfl)
    · replace hm := zf cd2 hm
      refine lv_iload_n hx hb dX6_width_16 rfl (lv_at hl 0 rfl) ?_
      refine lv_bipush (v := 68) hx hb dX6_width_17 (by decide) ?_
      refine lv_icmp_ne (tgt := 26) hx hb dX6_width_19 rfl (fun cd3 => ?_) (fun cd3 => ?_)
      · replace hm := zf cd3 hm
        refine lv_iconst (v := 1) hx hb dX6_width_26 (by decide) ?_
        cases hm
        exact zreti hx hb hr hlk hP hD hS dX6_width_27
      · replace hm := zt cd3 hm
        exact b_M_width_22 G0 hK hX  hm _ _ _ hP hD hS (lv_sub hl [] rfl)
  · replace hm := zt cd1 hm
    refine lv_iconst (v := 0) hx hb dX6_width_6 (by decide) ?_
    refine lv_goto (tgt := 27) hx hb dX6_width_7 rfl ?_
    cases hm
    exact zreti hx hb hr hlk hP hD hS dX6_width_27

theorem dX6_nothing_0 : decode cX6_nothing 0 = .ok (.iconst 0, 1) := by decide +kernel
theorem dX6_nothing_1 : decode cX6_nothing 1 = .ok (.istore_n 1, 1) := by decide +kernel
theorem dX6_nothing_2 : decode cX6_nothing 2 = .ok (.iload_n 1, 1) := by decide +kernel
theorem dX6_nothing_3 : decode cX6_nothing 3 = .ok (.bipush 48, 2) := by decide +kernel
theorem dX6_nothing_5 : decode cX6_nothing 5 = .ok (.if_icmp .ge 16, 3) := by decide +kernel
theorem dX6_nothing_8 : decode cX6_nothing 8 = .ok (.aload_n 0, 1) := by decide +kernel
theorem dX6_nothing_9 : decode cX6_nothing 9 = .ok (.getfield 59, 3) := by decide +kernel
theorem dX6_nothing_12 : decode cX6_nothing 12 = .ok (.iload_n 1, 1) := by decide +kernel
theorem dX6_nothing_13 : decode cX6_nothing 13 = .ok (.iconst 0, 1) := by decide +kernel
theorem dX6_nothing_14 : decode cX6_nothing 14 = .ok (.iastore, 1) := by decide +kernel
theorem dX6_nothing_15 : decode cX6_nothing 15 = .ok (.iinc 1 1, 3) := by decide +kernel
theorem dX6_nothing_18 : decode cX6_nothing 18 = .ok (.goto (-16), 3) := by decide +kernel
theorem dX6_nothing_21 : decode cX6_nothing 21 = .ok (.aload_n 0, 1) := by decide +kernel
theorem dX6_nothing_22 : decode cX6_nothing 22 = .ok (.iconst 0, 1) := by decide +kernel
theorem dX6_nothing_23 : decode cX6_nothing 23 = .ok (.putfield 161, 3) := by decide +kernel
theorem dX6_nothing_26 : decode cX6_nothing 26 = .ok (.aload_n 0, 1) := by decide +kernel
theorem dX6_nothing_27 : decode cX6_nothing 27 = .ok (.iconst 0, 1) := by decide +kernel
theorem dX6_nothing_28 : decode cX6_nothing 28 = .ok (.putfield 164, 3) := by decide +kernel
theorem dX6_nothing_31 : decode cX6_nothing 31 = .ok (.return_, 1) := by decide +kernel
def m_M_nothing_2b  (rec : Int32 → (Nat → Int32) → (Nat → Nat → Int32) → Option ((Nat → Int32) × (Nat → Nat → Int32))) (x1 : Int32) (v : Nat → Int32) (u : Nat → Nat → Int32) : Option ((Nat → Int32) × (Nat → Nat → Int32)) := (if 48 ≤ x1 then zbo 0 ((some ((upd (upd v 20 0) 21 0), u))) else zix x1 48 (rec (x1 + 1) v (zau u 17 x1 0)))
def m_M_nothing_2  : Nat → Int32 → (Nat → Int32) → (Nat → Nat → Int32) → Option ((Nat → Int32) × (Nat → Nat → Int32))
  | 0 => fun _ _ _ => none
  | n + 1 => fun x1 v u => m_M_nothing_2b  (m_M_nothing_2  n) x1 v u
def m_M_nothing  (v : Nat → Int32) (u : Nat → Nat → Int32)  : Option ((Nat → Int32) × (Nat → Nat → Int32)) := m_M_nothing_2  64 0 v u
section
variable {p : Program} {l : Launch} {e : Env} {s : State} {m : MethodId} {args : Array Value} {below : List Frame} {meth : Method} {c : Code} {D : va_G} {w0 : va_W} {ad : Nat → Nat} {ca : Nat → ClassId}
set_option maxRecDepth 100000 in
set_option maxHeartbeats 4000000 in
theorem b_M_nothing_2 (G : zG p s m args meth c cX6_nothing RX6 2 none) (hK : va_K D vwCl (wM_t ca) s) (hX : zN (va_A w0 s.heap.size) s) {res : (Nat → Int32) × (Nat → Nat → Int32)} : ∀ n : Nat, ∀ (x1 : Int32) (v : Nat → Int32) (u : Nat → Nat → Int32), m_M_nothing_2  n x1 v u = some res → zB p l e (zR 0 0) s m args below meth c D vwCl (va_A w0 s.heap.size) (MQ below (zQv D vwCl w0 (wM ad ca res.1 res.2) s.heap.size) args s 0 0 (va_A w0 s.heap.size)) 2 (wM ad ca v u) [(0, .ref (ad 0)), (1, .int x1)] 2 [] := by
  intro n
  induction n with
  | zero => intro x1 v u hm; cases hm
  | succ n ih =>
  have hrec := ih
  intro x1 v u hm H locs ls hP hD hS hl
  replace hm : m_M_nothing_2b  (m_M_nothing_2  n) x1 v u = some res := hm
  generalize m_M_nothing_2  n = rec at hm hrec
  unfold m_M_nothing_2b at hm
  clear ih
  have G0 := G
  obtain ⟨hx, hb, hr, hml, hown, hw, hlk⟩ := G
  have hA : ∀ q, s.heap.size ≤ q → va_A w0 s.heap.size q := fun q h => Or.inr h
  refine lv_iload_n hx hb dX6_nothing_2 rfl (lv_at hl 1 rfl) ?_
  refine lv_bipush (v := 48) hx hb dX6_nothing_3 (by decide) ?_
  refine lv_icmp_ge (tgt := 21) hx hb dX6_nothing_5 rfl (fun cd1 => ?_) (fun cd1 => ?_)
  · replace hm := zt cd1 hm
    refine lv_aload_n hx hb dX6_nothing_21 rfl (lv_at hl 0 rfl) ?_
    refine lv_iconst (v := 0) hx hb dX6_nothing_22 (by decide) ?_
    refine va_put (D := D) (ci := 5) (v := .int 0) (ty := .int) (C := RX6) (T := TX6) (N := 24) hx hb hw zinX6 tyX6 tyX6_ok nmX6 hown hK hP hD hS 0 rfl rfl 20 (by decide) (hw _ zw18) (fun _ h9 => h9) rfl (by decide +kernel) rfl rfl (Nat.le_of_ble_eq_true rfl) dX6_nothing_23 (fun H locs hP hD hS => ?_)
    have hP : va_P D vwCl (wM ad ca (upd v 20 0) u) H := hP
    have hD : va_D _ (wM ad ca (upd v 20 0) u) := hD
    refine lv_aload_n hx hb dX6_nothing_26 rfl (lv_at hl 0 rfl) ?_
    refine lv_iconst (v := 0) hx hb dX6_nothing_27 (by decide) ?_
    obtain ⟨hz2, hz3, hm⟩ := zbo_s hm
    refine va_put (D := D) (ci := 5) (v := .int 0) (ty := .boolean) (C := RX6) (T := TX6) (N := 24) hx hb hw zinX6 tyX6 tyX6_ok nmX6 hown hK hP hD hS 0 rfl rfl 21 (by decide) (hw _ zw19) (fun _ h9 => h9) rfl (by decide +kernel) hz2 hz3 (Nat.le_of_ble_eq_true rfl) dX6_nothing_28 (fun H locs hP hD hS => ?_)
    have hP : va_P D vwCl (wM ad ca (upd (upd v 20 0) 21 0) u) H := hP
    have hD : va_D _ (wM ad ca (upd (upd v 20 0) 21 0) u) := hD
    cases hm
    exact zretv hx hb hr hlk hP hD hS dX6_nothing_31
  · replace hm := zf cd1 hm
    refine lv_aload_n hx hb dX6_nothing_8 rfl (lv_at hl 0 rfl) ?_
    refine va_get (D := D) (ci := 5) (v := .ref (ad 17)) (C := RX6) (T := TX6) (N := 24) hx hb hw zinX6 hown hK hP 0 rfl rfl 19 (by decide) (hw _ zw20) (fun _ h9 => h9) rfl dX6_nothing_9 ?_
    refine lv_iload_n hx hb dX6_nothing_12 rfl (lv_at hl 1 rfl) ?_
    refine lv_iconst (v := 0) hx hb dX6_nothing_13 (by decide) ?_
    obtain ⟨hi4, hm⟩ := zix_s hm
    refine va_iast (i := x1) (x := 0) (f := (u 17)) (n := 48) hx hb hK hP hD hS 17 16 rfl rfl hi4 dX6_nothing_14 (fun H locs hP hD hS => ?_)
    have hP : va_P D vwCl (wM ad ca v (zau u 17 x1 0)) H := hP
    have hD : va_D _ (wM ad ca v (zau u 17 x1 0)) := hD
    refine lv_iinc (k := 1) (v := (x1 + 1)) (lv' := [(1, .int (x1 + 1)), (0, .ref (ad 0))]) hx hb dX6_nothing_15 hl rfl rfl (by decide) rfl (fun ls hl => ?_)
    refine lv_goto (tgt := 2) hx hb dX6_nothing_18 rfl ?_
    exact hrec _ _ _ hm H _ _ hP hD hS (lv_sub hl [1, 0] rfl)
end
set_option maxRecDepth 100000 in
set_option maxHeartbeats 4000000 in
theorem k_M_nothing (l : Launch) (D : va_G) (ad : Nat → Nat) (ca : Nat → ClassId) (sz : Nat)  (v : Nat → Int32) (u : Nat → Nat → Int32) (res : (Nat → Int32) × (Nat → Nat → Int32)) (hm : m_M_nothing  v u  = some res) : Met l yX6_nothing (Cond.code yX6_nothing cX6_nothing 2 none :: zBIG) (zR 0 0) (va_Pc [.ref (ad 0)] (zP zN D vwCl (wM_t ca) (wM ad ca v u) sz)) (zQv D vwCl (wM ad ca v u) (wM ad ca res.1 res.2) sz) 0 0 (va_A (wM ad ca v u) sz) := by
  refine zEnter RX6 [.ref (ad 0)] (by decide) rfl (Nat.le_of_ble_eq_true rfl) (fun p e s m below meth c ls G hK hX hP hD hsz hl => ?_)
  subst hsz
  unfold m_M_nothing at hm
  have hl : lv_has ls 2 [(0, .ref (ad 0))] := hl
  have hS : va_S (va_A (wM ad ca v u) s.heap.size) s.heap s.heap [] := va_S.rf
  have hA : ∀ q, s.heap.size ≤ q → va_A (wM ad ca v u) s.heap.size q := fun q h => Or.inr h
  have G0 := G
  obtain ⟨hx, hb, hr, hml, hown, hw, hlk⟩ := G
  refine lv_iconst (v := 0) hx hb dX6_nothing_0 (by decide) ?_
  refine lv_istore_n (lv' := [(1, .int 0), (0, .ref (ad 0))]) hx hb dX6_nothing_1 rfl hl (by decide) rfl (fun ls hl => ?_)
  exact b_M_nothing_2 G0 hK hX 64 _ _ _ hm _ _ _ hP hD hS (lv_sub hl [1, 0] rfl)

theorem dX6_digitAt_0 : decode cX6_digitAt 0 = .ok (.iload_n 1, 1) := by decide +kernel
theorem dX6_digitAt_1 : decode cX6_digitAt 1 = .ok (.aload_n 0, 1) := by decide +kernel
theorem dX6_digitAt_2 : decode cX6_digitAt 2 = .ok (.getfield 161, 3) := by decide +kernel
theorem dX6_digitAt_5 : decode cX6_digitAt 5 = .ok (.iadd, 1) := by decide +kernel
theorem dX6_digitAt_6 : decode cX6_digitAt 6 = .ok (.istore_n 2, 1) := by decide +kernel
theorem dX6_digitAt_7 : decode cX6_digitAt 7 = .ok (.iload_n 2, 1) := by decide +kernel
theorem dX6_digitAt_8 : decode cX6_digitAt 8 = .ok (.ifCond .lt 18, 3) := by decide +kernel
theorem dX6_digitAt_11 : decode cX6_digitAt 11 = .ok (.iload_n 2, 1) := by decide +kernel
theorem dX6_digitAt_12 : decode cX6_digitAt 12 = .ok (.bipush 48, 2) := by decide +kernel
theorem dX6_digitAt_14 : decode cX6_digitAt 14 = .ok (.if_icmp .ge 12, 3) := by decide +kernel
theorem dX6_digitAt_17 : decode cX6_digitAt 17 = .ok (.aload_n 0, 1) := by decide +kernel
theorem dX6_digitAt_18 : decode cX6_digitAt 18 = .ok (.getfield 59, 3) := by decide +kernel
theorem dX6_digitAt_21 : decode cX6_digitAt 21 = .ok (.iload_n 2, 1) := by decide +kernel
theorem dX6_digitAt_22 : decode cX6_digitAt 22 = .ok (.iaload, 1) := by decide +kernel
theorem dX6_digitAt_23 : decode cX6_digitAt 23 = .ok (.goto 4, 3) := by decide +kernel
theorem dX6_digitAt_26 : decode cX6_digitAt 26 = .ok (.iconst 0, 1) := by decide +kernel
theorem dX6_digitAt_27 : decode cX6_digitAt 27 = .ok (.ireturn, 1) := by decide +kernel
def m_M_digitAt (a0 : Int32) (v : Nat → Int32) (u : Nat → Nat → Int32)  : Option ((Int32)) := (if (a0 + (v 20)) < 0 then (some 0) else (if 48 ≤ (a0 + (v 20)) then (some 0) else zix (a0 + (v 20)) 48 ((some ((u 17) (a0 + (v 20)).toNatClampNeg)))))
section
variable {p : Program} {l : Launch} {e : Env} {s : State} {m : MethodId} {args : Array Value} {below : List Frame} {meth : Method} {c : Code} {D : va_G} {w0 : va_W} {ad : Nat → Nat} {ca : Nat → ClassId} {v : Nat → Int32} {u : Nat → Nat → Int32}
end
set_option maxRecDepth 100000 in
set_option maxHeartbeats 4000000 in
theorem k_M_digitAt (l : Launch) (D : va_G) (ad : Nat → Nat) (ca : Nat → ClassId) (sz : Nat) (a0 : Int32) (v : Nat → Int32) (u : Nat → Nat → Int32) (res : (Int32)) (hm : m_M_digitAt a0 v u  = some res) : Met l yX6_digitAt (Cond.code yX6_digitAt cX6_digitAt 3 (some .int) :: zBIG) (zR 0 0) (va_Pc [.ref (ad 0), .int a0] (zP zN D vwCl (wM_t ca) (wM ad ca v u) sz)) (zQi D vwCl (wM ad ca v u) (wM ad ca v u) sz res) 0 0 (va_A (wM ad ca v u) sz) := by
  refine zEnter RX6 [.ref (ad 0), .int a0] (by decide) rfl (Nat.le_of_ble_eq_true rfl) (fun p e s m below meth c ls G hK hX hP hD hsz hl => ?_)
  subst hsz
  unfold m_M_digitAt at hm
  have hl : lv_has ls 3 [(0, .ref (ad 0)), (1, .int a0)] := hl
  have hS : va_S (va_A (wM ad ca v u) s.heap.size) s.heap s.heap [] := va_S.rf
  have hA : ∀ q, s.heap.size ≤ q → va_A (wM ad ca v u) s.heap.size q := fun q h => Or.inr h
  have G0 := G
  obtain ⟨hx, hb, hr, hml, hown, hw, hlk⟩ := G
  refine lv_iload_n hx hb dX6_digitAt_0 rfl (lv_at hl 1 rfl) ?_
  refine lv_aload_n hx hb dX6_digitAt_1 rfl (lv_at hl 0 rfl) ?_
  refine va_get (D := D) (ci := 5) (v := .int (v 20)) (C := RX6) (T := TX6) (N := 24) hx hb hw zinX6 hown hK hP 0 rfl rfl 20 (by decide) (hw _ zw18) (fun _ h9 => h9) rfl dX6_digitAt_2 ?_
  refine lv_iadd hx hb dX6_digitAt_5 ?_
  refine lv_istore_n (lv' := [(2, .int (a0 + (v 20))), (0, .ref (ad 0)), (1, .int a0)]) hx hb dX6_digitAt_6 rfl hl (by decide) rfl (fun ls hl => ?_)
  refine lv_iload_n hx hb dX6_digitAt_7 rfl (lv_at hl 0 rfl) ?_
  refine lv_if_lt (tgt := 26) hx hb dX6_digitAt_8 rfl (fun cd1 => ?_) (fun cd1 => ?_)
  · replace hm := zt cd1 hm
    refine lv_iconst (v := 0) hx hb dX6_digitAt_26 (by decide) ?_
    cases hm
    exact zreti hx hb hr hlk hP hD hS dX6_digitAt_27
  · replace hm := zf cd1 hm
    refine lv_iload_n hx hb dX6_digitAt_11 rfl (lv_at hl 0 rfl) ?_
    refine lv_bipush (v := 48) hx hb dX6_digitAt_12 (by decide) ?_
    refine lv_icmp_ge (tgt := 26) hx hb dX6_digitAt_14 rfl (fun cd2 => ?_) (fun cd2 => ?_)
    · replace hm := zt cd2 hm
      refine lv_iconst (v := 0) hx hb dX6_digitAt_26 (by decide) ?_
      cases hm
      exact zreti hx hb hr hlk hP hD hS dX6_digitAt_27
    · replace hm := zf cd2 hm
      refine lv_aload_n hx hb dX6_digitAt_17 rfl (lv_at hl 1 rfl) ?_
      refine va_get (D := D) (ci := 5) (v := .ref (ad 17)) (C := RX6) (T := TX6) (N := 24) hx hb hw zinX6 hown hK hP 0 rfl rfl 19 (by decide) (hw _ zw20) (fun _ h9 => h9) rfl dX6_digitAt_18 ?_
      refine lv_iload_n hx hb dX6_digitAt_21 rfl (lv_at hl 0 rfl) ?_
      obtain ⟨hi3, hm⟩ := zix_s hm
      refine va_iald (i := (a0 + (v 20))) (f := (u 17)) (n := 48) hx hb hK hP 17 16 rfl rfl hi3 dX6_digitAt_22 ?_
      refine lv_goto (tgt := 27) hx hb dX6_digitAt_23 rfl ?_
      cases hm
      exact zreti hx hb hr hlk hP hD hS dX6_digitAt_27

theorem dX6_digitFor_0 : decode cX6_digitFor 0 = .ok (.aload_n 0, 1) := by decide +kernel
theorem dX6_digitFor_1 : decode cX6_digitFor 1 = .ok (.getfield 19, 3) := by decide +kernel
theorem dX6_digitFor_4 : decode cX6_digitFor 4 = .ok (.bipush 24, 2) := by decide +kernel
theorem dX6_digitFor_6 : decode cX6_digitFor 6 = .ok (.iload_n 1, 1) := by decide +kernel
theorem dX6_digitFor_7 : decode cX6_digitFor 7 = .ok (.imul, 1) := by decide +kernel
theorem dX6_digitFor_8 : decode cX6_digitFor 8 = .ok (.iload_n 2, 1) := by decide +kernel
theorem dX6_digitFor_9 : decode cX6_digitFor 9 = .ok (.iadd, 1) := by decide +kernel
theorem dX6_digitFor_10 : decode cX6_digitFor 10 = .ok (.iaload, 1) := by decide +kernel
theorem dX6_digitFor_11 : decode cX6_digitFor 11 = .ok (.istore_n 3, 1) := by decide +kernel
theorem dX6_digitFor_12 : decode cX6_digitFor 12 = .ok (.iload_n 3, 1) := by decide +kernel
theorem dX6_digitFor_13 : decode cX6_digitFor 13 = .ok (.ifCond .ne 7, 3) := by decide +kernel
theorem dX6_digitFor_16 : decode cX6_digitFor 16 = .ok (.iconst 0, 1) := by decide +kernel
theorem dX6_digitFor_17 : decode cX6_digitFor 17 = .ok (.goto 17, 3) := by decide +kernel
theorem dX6_digitFor_20 : decode cX6_digitFor 20 = .ok (.aload_n 0, 1) := by decide +kernel
theorem dX6_digitFor_21 : decode cX6_digitFor 21 = .ok (.iload_n 3, 1) := by decide +kernel
theorem dX6_digitFor_22 : decode cX6_digitFor 22 = .ok (.iconst 1, 1) := by decide +kernel
theorem dX6_digitFor_23 : decode cX6_digitFor 23 = .ok (.isub, 1) := by decide +kernel
theorem dX6_digitFor_24 : decode cX6_digitFor 24 = .ok (.aload_n 0, 1) := by decide +kernel
theorem dX6_digitFor_25 : decode cX6_digitFor 25 = .ok (.getfield 31, 3) := by decide +kernel
theorem dX6_digitFor_28 : decode cX6_digitFor 28 = .ok (.iload_n 1, 1) := by decide +kernel
theorem dX6_digitFor_29 : decode cX6_digitFor 29 = .ok (.iaload, 1) := by decide +kernel
theorem dX6_digitFor_30 : decode cX6_digitFor 30 = .ok (.isub, 1) := by decide +kernel
theorem dX6_digitFor_31 : decode cX6_digitFor 31 = .ok (.invokevirtual 168, 3) := by decide +kernel
theorem dX6_digitFor_34 : decode cX6_digitFor 34 = .ok (.ireturn, 1) := by decide +kernel
def m_M_digitFor (a0 : Int32) (a1 : Int32) (v : Nat → Int32) (u : Nat → Nat → Int32)  : Option ((Int32)) := zix ((24 * a0) + a1) 216 ((if ((u 4) ((24 * a0) + a1).toNatClampNeg) = 0 then (some 0) else zix a0 9 ((m_M_digitAt ((((u 4) ((24 * a0) + a1).toNatClampNeg) - 1) - ((u 8) a0.toNatClampNeg)) v u).bind (fun q4 => (some q4)))))
section
variable {p : Program} {l : Launch} {e : Env} {s : State} {m : MethodId} {args : Array Value} {below : List Frame} {meth : Method} {c : Code} {D : va_G} {w0 : va_W} {ad : Nat → Nat} {ca : Nat → ClassId} {v : Nat → Int32} {u : Nat → Nat → Int32}
end
set_option maxRecDepth 100000 in
set_option maxHeartbeats 4000000 in
theorem k_M_digitFor (l : Launch) (D : va_G) (ad : Nat → Nat) (ca : Nat → ClassId) (sz : Nat) (a0 : Int32) (a1 : Int32) (v : Nat → Int32) (u : Nat → Nat → Int32) (res : (Int32)) (hm : m_M_digitFor a0 a1 v u  = some res) : Met l yX6_digitFor (Cond.code yX6_digitFor cX6_digitFor 4 (some .int) :: zBIG) (zR 1 22) (va_Pc [.ref (ad 0), .int a0, .int a1] (zP zN D vwCl (wM_t ca) (wM ad ca v u) sz)) (zQi D vwCl (wM ad ca v u) (wM ad ca v u) sz res) 0 0 (va_A (wM ad ca v u) sz) := by
  refine zEnter RX6 [.ref (ad 0), .int a0, .int a1] (by decide) rfl (Nat.le_of_ble_eq_true rfl) (fun p e s m below meth c ls G hK hX hP hD hsz hl => ?_)
  subst hsz
  unfold m_M_digitFor at hm
  have hl : lv_has ls 4 [(0, .ref (ad 0)), (1, .int a0), (2, .int a1)] := hl
  have hS : va_S (va_A (wM ad ca v u) s.heap.size) s.heap s.heap [] := va_S.rf
  have hA : ∀ q, s.heap.size ≤ q → va_A (wM ad ca v u) s.heap.size q := fun q h => Or.inr h
  have G0 := G
  obtain ⟨hx, hb, hr, hml, hown, hw, hlk⟩ := G
  refine lv_aload_n hx hb dX6_digitFor_0 rfl (lv_at hl 0 rfl) ?_
  refine va_get (D := D) (ci := 5) (v := .ref (ad 4)) (C := RX6) (T := TX6) (N := 24) hx hb hw zinX6 hown hK hP 0 rfl rfl 6 (by decide) (hw _ zw21) (fun _ h9 => h9) rfl dX6_digitFor_1 ?_
  refine lv_bipush (v := 24) hx hb dX6_digitFor_4 (by decide) ?_
  refine lv_iload_n hx hb dX6_digitFor_6 rfl (lv_at hl 1 rfl) ?_
  refine lv_imul hx hb dX6_digitFor_7 ?_
  refine lv_iload_n hx hb dX6_digitFor_8 rfl (lv_at hl 2 rfl) ?_
  refine lv_iadd hx hb dX6_digitFor_9 ?_
  obtain ⟨hi1, hm⟩ := zix_s hm
  refine va_iald (i := ((24 * a0) + a1)) (f := (u 4)) (n := 216) hx hb hK hP 4 3 rfl rfl hi1 dX6_digitFor_10 ?_
  refine lv_istore_n (lv' := [(3, .int ((u 4) ((24 * a0) + a1).toNatClampNeg)), (0, .ref (ad 0)), (1, .int a0), (2, .int a1)]) hx hb dX6_digitFor_11 rfl hl (by decide) rfl (fun ls hl => ?_)
  refine lv_iload_n hx hb dX6_digitFor_12 rfl (lv_at hl 0 rfl) ?_
  refine lv_if_ne (tgt := 20) hx hb dX6_digitFor_13 rfl (fun cd2 => ?_) (fun cd2 => ?_)
  · replace hm := zf cd2 hm
    refine lv_aload_n hx hb dX6_digitFor_20 rfl (lv_at hl 1 rfl) ?_
    refine lv_iload_n hx hb dX6_digitFor_21 rfl (lv_at hl 0 rfl) ?_
    refine lv_iconst (v := 1) hx hb dX6_digitFor_22 (by decide) ?_
    refine lv_isub hx hb dX6_digitFor_23 ?_
    refine lv_aload_n hx hb dX6_digitFor_24 rfl (lv_at hl 1 rfl) ?_
    refine va_get (D := D) (ci := 5) (v := .ref (ad 8)) (C := RX6) (T := TX6) (N := 24) hx hb hw zinX6 hown hK hP 0 rfl rfl 10 (by decide) (hw _ zw22) (fun _ h9 => h9) rfl dX6_digitFor_25 ?_
    refine lv_iload_n hx hb dX6_digitFor_28 rfl (lv_at hl 2 rfl) ?_
    obtain ⟨hi3, hm⟩ := zix_s hm
    refine va_iald (i := a0) (f := (u 8)) (n := 9) hx hb hK hP 8 7 rfl rfl hi3 dX6_digitFor_29 ?_
    refine lv_isub hx hb dX6_digitFor_30 ?_
    obtain ⟨q4, hq4, hm⟩ := zbind hm
    refine zbWi (va_runV (As := [.int ((((u 4) ((24 * a0) + a1).toNatClampNeg) - 1) - ((u 8) a0.toNatClampNeg))]) (rest := []) ⟨hx, hb, hml, hown, hw⟩ (k_M_digitAt l D ad ca _ ((((u 4) ((24 * a0) + a1).toNatClampNeg) - 1) - ((u 8) a0.toNatClampNeg)) v u  q4 hq4) (zcV (C := RX6) 1 hw (zgood zw23) rfl rfl rfl zw7 zw25 zw24 zw26 hdX6_digitAt ⟨Nat.le_of_ble_eq_true rfl, Nat.le_of_ble_eq_true rfl⟩) (zpreV (zpre zN_ok trivial hS (zfree hD hS hA) hP hK hD) (va_recv hK hP rfl (q0 := 0) rfl)) rfl rfl hl.1 rfl (lv_room (Nat.le_of_ble_eq_true rfl)) dX6_digitFor_31 ⟨Nat.zero_le _, Nat.zero_le _⟩) hS (zfree hD hS hA) (fun H locs hP hD hS => ?_)
    cases hm
    exact zreti hx hb hr hlk hP hD hS dX6_digitFor_34
  · replace hm := zt cd2 hm
    refine lv_iconst (v := 0) hx hb dX6_digitFor_16 (by decide) ?_
    refine lv_goto (tgt := 34) hx hb dX6_digitFor_17 rfl ?_
    cases hm
    exact zreti hx hb hr hlk hP hD hS dX6_digitFor_34

theorem dX6_signFor_0 : decode cX6_signFor 0 = .ok (.iload_n 1, 1) := by decide +kernel
theorem dX6_signFor_1 : decode cX6_signFor 1 = .ok (.ifCond .eq 8, 3) := by decide +kernel
theorem dX6_signFor_4 : decode cX6_signFor 4 = .ok (.bipush 45, 2) := by decide +kernel
theorem dX6_signFor_6 : decode cX6_signFor 6 = .ok (.goto 16, 3) := by decide +kernel
theorem dX6_signFor_9 : decode cX6_signFor 9 = .ok (.iload_n 0, 1) := by decide +kernel
theorem dX6_signFor_10 : decode cX6_signFor 10 = .ok (.bipush 43, 2) := by decide +kernel
theorem dX6_signFor_12 : decode cX6_signFor 12 = .ok (.if_icmp .ne 8, 3) := by decide +kernel
theorem dX6_signFor_15 : decode cX6_signFor 15 = .ok (.bipush 43, 2) := by decide +kernel
theorem dX6_signFor_17 : decode cX6_signFor 17 = .ok (.goto 5, 3) := by decide +kernel
theorem dX6_signFor_20 : decode cX6_signFor 20 = .ok (.bipush 32, 2) := by decide +kernel
theorem dX6_signFor_22 : decode cX6_signFor 22 = .ok (.ireturn, 1) := by decide +kernel
def m_M_signFor (a0 : Int32) (a1 : Int32)   : Option ((Int32)) := (if a1 = 0 then (if a0 = 43 then (some 43) else (some 32)) else (some 45))
section
variable {p : Program} {l : Launch} {e : Env} {s : State} {m : MethodId} {args : Array Value} {below : List Frame} {meth : Method} {c : Code} {D : va_G} {w0 : va_W}
end
set_option maxRecDepth 100000 in
set_option maxHeartbeats 4000000 in
theorem k_M_signFor (l : Launch) (D : va_G)  (sz : Nat) (a0 : Int32) (a1 : Int32)  (res : (Int32)) (hm : m_M_signFor a0 a1   = some res) : Met l yX6_signFor (Cond.code yX6_signFor cX6_signFor 2 (some .int) :: zBIG) (zR 0 0) (va_Pc [.int a0, .int a1] (zP zN D vwCl [] [] sz)) (zQi D vwCl [] [] sz res) 0 0 (va_A [] sz) := by
  refine zEnter RX6 [.int a0, .int a1] (by decide) rfl (Nat.le_of_ble_eq_true rfl) (fun p e s m below meth c ls G hK hX hP hD hsz hl => ?_)
  subst hsz
  unfold m_M_signFor at hm
  have hl : lv_has ls 2 [(0, .int a0), (1, .int a1)] := hl
  have hS : va_S (va_A [] s.heap.size) s.heap s.heap [] := va_S.rf
  have hA : ∀ q, s.heap.size ≤ q → va_A [] s.heap.size q := fun q h => Or.inr h
  have G0 := G
  obtain ⟨hx, hb, hr, hml, hown, hw, hlk⟩ := G
  refine lv_iload_n hx hb dX6_signFor_0 rfl (lv_at hl 1 rfl) ?_
  refine lv_if_eq (tgt := 9) hx hb dX6_signFor_1 rfl (fun cd1 => ?_) (fun cd1 => ?_)
  · replace hm := zt cd1 hm
    refine lv_iload_n hx hb dX6_signFor_9 rfl (lv_at hl 0 rfl) ?_
    refine lv_bipush (v := 43) hx hb dX6_signFor_10 (by decide) ?_
    refine lv_icmp_ne (tgt := 20) hx hb dX6_signFor_12 rfl (fun cd2 => ?_) (fun cd2 => ?_)
    · replace hm := zf cd2 hm
      refine lv_bipush (v := 32) hx hb dX6_signFor_20 (by decide) ?_
      cases hm
      exact zreti hx hb hr hlk hP hD hS dX6_signFor_22
    · replace hm := zt cd2 hm
      refine lv_bipush (v := 43) hx hb dX6_signFor_15 (by decide) ?_
      refine lv_goto (tgt := 22) hx hb dX6_signFor_17 rfl ?_
      cases hm
      exact zreti hx hb hr hlk hP hD hS dX6_signFor_22
  · replace hm := zf cd1 hm
    refine lv_bipush (v := 45) hx hb dX6_signFor_4 (by decide) ?_
    refine lv_goto (tgt := 22) hx hb dX6_signFor_6 rfl ?_
    cases hm
    exact zreti hx hb hr hlk hP hD hS dX6_signFor_22

theorem dX6_clear_0 : decode cX6_clear 0 = .ok (.aload_n 0, 1) := by decide +kernel
theorem dX6_clear_1 : decode cX6_clear 1 = .ok (.iconst 0, 1) := by decide +kernel
theorem dX6_clear_2 : decode cX6_clear 2 = .ok (.putfield 65, 3) := by decide +kernel
theorem dX6_clear_5 : decode cX6_clear 5 = .ok (.aload_n 0, 1) := by decide +kernel
theorem dX6_clear_6 : decode cX6_clear 6 = .ok (.iconst 0, 1) := by decide +kernel
theorem dX6_clear_7 : decode cX6_clear 7 = .ok (.putfield 69, 3) := by decide +kernel
theorem dX6_clear_10 : decode cX6_clear 10 = .ok (.return_, 1) := by decide +kernel
def m_M_clear  (v : Nat → Int32) (u : Nat → Nat → Int32)  : Option ((Nat → Int32)) := (some (upd (upd v 0 0) 3 0))
section
variable {p : Program} {l : Launch} {e : Env} {s : State} {m : MethodId} {args : Array Value} {below : List Frame} {meth : Method} {c : Code} {D : va_G} {w0 : va_W} {ad : Nat → Nat} {ca : Nat → ClassId} {u : Nat → Nat → Int32}
end
set_option maxRecDepth 100000 in
set_option maxHeartbeats 4000000 in
theorem k_M_clear (l : Launch) (D : va_G) (ad : Nat → Nat) (ca : Nat → ClassId) (sz : Nat)  (v : Nat → Int32) (u : Nat → Nat → Int32) (res : (Nat → Int32)) (hm : m_M_clear  v u  = some res) : Met l yX6_clear (Cond.code yX6_clear cX6_clear 1 none :: zBIG) (zR 0 0) (va_Pc [.ref (ad 0)] (zP zN D vwCl (wM_t ca) (wM ad ca v u) sz)) (zQv D vwCl (wM ad ca v u) (wM ad ca res u) sz) 0 0 (va_A (wM ad ca v u) sz) := by
  refine zEnter RX6 [.ref (ad 0)] (by decide) rfl (Nat.le_of_ble_eq_true rfl) (fun p e s m below meth c ls G hK hX hP hD hsz hl => ?_)
  subst hsz
  unfold m_M_clear at hm
  have hl : lv_has ls 1 [(0, .ref (ad 0))] := hl
  have hS : va_S (va_A (wM ad ca v u) s.heap.size) s.heap s.heap [] := va_S.rf
  have hA : ∀ q, s.heap.size ≤ q → va_A (wM ad ca v u) s.heap.size q := fun q h => Or.inr h
  have G0 := G
  obtain ⟨hx, hb, hr, hml, hown, hw, hlk⟩ := G
  refine lv_aload_n hx hb dX6_clear_0 rfl (lv_at hl 0 rfl) ?_
  refine lv_iconst (v := 0) hx hb dX6_clear_1 (by decide) ?_
  refine va_put (D := D) (ci := 5) (v := .int 0) (ty := .int) (C := RX6) (T := TX6) (N := 24) hx hb hw zinX6 tyX6 tyX6_ok nmX6 hown hK hP hD hS 0 rfl rfl 0 (by decide) (hw _ zw0) (fun _ h9 => h9) rfl (by decide +kernel) rfl rfl (Nat.le_of_ble_eq_true rfl) dX6_clear_2 (fun H locs hP hD hS => ?_)
  have hP : va_P D vwCl (wM ad ca (upd v 0 0) u) H := hP
  have hD : va_D _ (wM ad ca (upd v 0 0) u) := hD
  refine lv_aload_n hx hb dX6_clear_5 rfl (lv_at hl 0 rfl) ?_
  refine lv_iconst (v := 0) hx hb dX6_clear_6 (by decide) ?_
  refine va_put (D := D) (ci := 5) (v := .int 0) (ty := .int) (C := RX6) (T := TX6) (N := 24) hx hb hw zinX6 tyX6 tyX6_ok nmX6 hown hK hP hD hS 0 rfl rfl 3 (by decide) (hw _ zw1) (fun _ h9 => h9) rfl (by decide +kernel) rfl rfl (Nat.le_of_ble_eq_true rfl) dX6_clear_7 (fun H locs hP hD hS => ?_)
  have hP : va_P D vwCl (wM ad ca (upd (upd v 0 0) 3 0) u) H := hP
  have hD : va_D _ (wM ad ca (upd (upd v 0 0) 3 0) u) := hD
  cases hm
  exact zretv hx hb hr hlk hP hD hS dX6_clear_10

theorem dX6_fields_0 : decode cX6_fields 0 = .ok (.aload_n 0, 1) := by decide +kernel
theorem dX6_fields_1 : decode cX6_fields 1 = .ok (.iconst 0, 1) := by decide +kernel
theorem dX6_fields_2 : decode cX6_fields 2 = .ok (.putfield 65, 3) := by decide +kernel
theorem dX6_fields_5 : decode cX6_fields 5 = .ok (.aload_n 0, 1) := by decide +kernel
theorem dX6_fields_6 : decode cX6_fields 6 = .ok (.getfield 69, 3) := by decide +kernel
theorem dX6_fields_9 : decode cX6_fields 9 = .ok (.ireturn, 1) := by decide +kernel
def m_M_fields  (v : Nat → Int32) (u : Nat → Nat → Int32)  : Option ((Int32) × (Nat → Int32)) := (some (((upd v 0 0) 3), (upd v 0 0)))
section
variable {p : Program} {l : Launch} {e : Env} {s : State} {m : MethodId} {args : Array Value} {below : List Frame} {meth : Method} {c : Code} {D : va_G} {w0 : va_W} {ad : Nat → Nat} {ca : Nat → ClassId} {u : Nat → Nat → Int32}
end
set_option maxRecDepth 100000 in
set_option maxHeartbeats 4000000 in
theorem k_M_fields (l : Launch) (D : va_G) (ad : Nat → Nat) (ca : Nat → ClassId) (sz : Nat)  (v : Nat → Int32) (u : Nat → Nat → Int32) (res : (Int32) × (Nat → Int32)) (hm : m_M_fields  v u  = some res) : Met l yX6_fields (Cond.code yX6_fields cX6_fields 1 (some .int) :: zBIG) (zR 0 0) (va_Pc [.ref (ad 0)] (zP zN D vwCl (wM_t ca) (wM ad ca v u) sz)) (zQi D vwCl (wM ad ca v u) (wM ad ca res.2 u) sz res.1) 0 0 (va_A (wM ad ca v u) sz) := by
  refine zEnter RX6 [.ref (ad 0)] (by decide) rfl (Nat.le_of_ble_eq_true rfl) (fun p e s m below meth c ls G hK hX hP hD hsz hl => ?_)
  subst hsz
  unfold m_M_fields at hm
  have hl : lv_has ls 1 [(0, .ref (ad 0))] := hl
  have hS : va_S (va_A (wM ad ca v u) s.heap.size) s.heap s.heap [] := va_S.rf
  have hA : ∀ q, s.heap.size ≤ q → va_A (wM ad ca v u) s.heap.size q := fun q h => Or.inr h
  have G0 := G
  obtain ⟨hx, hb, hr, hml, hown, hw, hlk⟩ := G
  refine lv_aload_n hx hb dX6_fields_0 rfl (lv_at hl 0 rfl) ?_
  refine lv_iconst (v := 0) hx hb dX6_fields_1 (by decide) ?_
  refine va_put (D := D) (ci := 5) (v := .int 0) (ty := .int) (C := RX6) (T := TX6) (N := 24) hx hb hw zinX6 tyX6 tyX6_ok nmX6 hown hK hP hD hS 0 rfl rfl 0 (by decide) (hw _ zw0) (fun _ h9 => h9) rfl (by decide +kernel) rfl rfl (Nat.le_of_ble_eq_true rfl) dX6_fields_2 (fun H locs hP hD hS => ?_)
  have hP : va_P D vwCl (wM ad ca (upd v 0 0) u) H := hP
  have hD : va_D _ (wM ad ca (upd v 0 0) u) := hD
  refine lv_aload_n hx hb dX6_fields_5 rfl (lv_at hl 0 rfl) ?_
  refine va_get (D := D) (ci := 5) (v := .int ((upd v 0 0) 3)) (C := RX6) (T := TX6) (N := 24) hx hb hw zinX6 hown hK hP 0 rfl rfl 3 (by decide) (hw _ zw1) (fun _ h9 => h9) rfl dX6_fields_6 ?_
  cases hm
  exact zreti hx hb hr hlk hP hD hS dX6_fields_9

