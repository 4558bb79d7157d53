theorem dX5_isDigit_0 : decode cX5_isDigit 0 = .ok (.iload_n 0, 1) := by decide +kernel
theorem dX5_isDigit_1 : decode cX5_isDigit 1 = .ok (.bipush 48, 2) := by decide +kernel
theorem dX5_isDigit_3 : decode cX5_isDigit 3 = .ok (.if_icmp .lt 13, 3) := by decide +kernel
theorem dX5_isDigit_6 : decode cX5_isDigit 6 = .ok (.iload_n 0, 1) := by decide +kernel
theorem dX5_isDigit_7 : decode cX5_isDigit 7 = .ok (.bipush 57, 2) := by decide +kernel
theorem dX5_isDigit_9 : decode cX5_isDigit 9 = .ok (.if_icmp .gt 7, 3) := by decide +kernel
theorem dX5_isDigit_12 : decode cX5_isDigit 12 = .ok (.iconst 1, 1) := by decide +kernel
theorem dX5_isDigit_13 : decode cX5_isDigit 13 = .ok (.goto 4, 3) := by decide +kernel
theorem dX5_isDigit_16 : decode cX5_isDigit 16 = .ok (.iconst 0, 1) := by decide +kernel
theorem dX5_isDigit_17 : decode cX5_isDigit 17 = .ok (.ireturn, 1) := by decide +kernel
def m_P_isDigit (a0 : Int32)   : Option ((Int32)) := (if a0 < 48 then (zbo 0 (some 0)) else (if 57 < a0 then (zbo 0 (some 0)) else (zbo 1 (some 1))))
section
variable {p : Program} {l : Launch} {e : Env} {s : State} {m : MethodId} {args : Array Value} {below : List Frame} {meth : Method} {c : Code} {D : va_G} {w0 : va_W}
end
set_option maxRecDepth 100000 in
set_option maxHeartbeats 4000000 in
theorem k_P_isDigit (l : Launch) (D : va_G)  (sz : Nat) (a0 : Int32)  (res : (Int32)) (hm : m_P_isDigit a0   = some res) : Met l yX5_isDigit (Cond.code yX5_isDigit cX5_isDigit 1 (some .boolean) :: zBIG) (zR 0 0) (va_Pc [.int a0] (zP zN D vwCl [] [] sz)) (zQi D vwCl [] [] sz res) 0 0 (va_A [] sz) := by
  refine zEnter RX5 [.int a0] (by decide) rfl (Nat.le_of_ble_eq_true rfl) (fun p e s m below meth c ls G hK hX hP hD hsz hl => ?_)
  subst hsz
  unfold m_P_isDigit at hm
  have hl : lv_has ls 1 [(0, .int a0)] := hl
  have hS : va_S (va_A [] s.heap.size) s.heap s.heap [] := va_S.rf
  have hA : ∀ q, s.heap.size ≤ q → va_A [] s.heap.size q := fun q h => Or.inr h
  have G0 := G
  obtain ⟨hx, hb, hr, hml, hown, hw, hlk⟩ := G
  refine lv_iload_n hx hb dX5_isDigit_0 rfl (lv_at hl 0 rfl) ?_
  refine lv_bipush (v := 48) hx hb dX5_isDigit_1 (by decide) ?_
  refine lv_icmp_lt (tgt := 16) hx hb dX5_isDigit_3 rfl (fun cd1 => ?_) (fun cd1 => ?_)
  · replace hm := zt cd1 hm
    refine lv_iconst (v := 0) hx hb dX5_isDigit_16 (by decide) ?_
    obtain ⟨hz2, -, hm⟩ := zbo_s hm
    cases hm
    exact zretz hx hb hr hlk hz2 hP hD hS dX5_isDigit_17
  · replace hm := zf cd1 hm
    refine lv_iload_n hx hb dX5_isDigit_6 rfl (lv_at hl 0 rfl) ?_
    refine lv_bipush (v := 57) hx hb dX5_isDigit_7 (by decide) ?_
    refine lv_icmp_gt (tgt := 16) hx hb dX5_isDigit_9 rfl (fun cd3 => ?_) (fun cd3 => ?_)
    · replace hm := zt cd3 hm
      refine lv_iconst (v := 0) hx hb dX5_isDigit_16 (by decide) ?_
      obtain ⟨hz4, -, hm⟩ := zbo_s hm
      cases hm
      exact zretz hx hb hr hlk hz4 hP hD hS dX5_isDigit_17
    · replace hm := zf cd3 hm
      refine lv_iconst (v := 1) hx hb dX5_isDigit_12 (by decide) ?_
      refine lv_goto (tgt := 17) hx hb dX5_isDigit_13 rfl ?_
      obtain ⟨hz5, -, hm⟩ := zbo_s hm
      cases hm
      exact zretz hx hb hr hlk hz5 hP hD hS dX5_isDigit_17

theorem dX5_digitAt_0 : decode cX5_digitAt 0 = .ok (.iload_n 3, 1) := by decide +kernel
theorem dX5_digitAt_1 : decode cX5_digitAt 1 = .ok (.iload_n 2, 1) := by decide +kernel
theorem dX5_digitAt_2 : decode cX5_digitAt 2 = .ok (.iadd, 1) := by decide +kernel
theorem dX5_digitAt_3 : decode cX5_digitAt 3 = .ok (.istore 4, 2) := by decide +kernel
theorem dX5_digitAt_5 : decode cX5_digitAt 5 = .ok (.iload 4, 2) := by decide +kernel
theorem dX5_digitAt_7 : decode cX5_digitAt 7 = .ok (.ifCond .lt 12, 3) := by decide +kernel
theorem dX5_digitAt_10 : decode cX5_digitAt 10 = .ok (.iload 4, 2) := by decide +kernel
theorem dX5_digitAt_12 : decode cX5_digitAt 12 = .ok (.getstatic 146, 3) := by decide +kernel
theorem dX5_digitAt_15 : decode cX5_digitAt 15 = .ok (.arraylength, 1) := by decide +kernel
theorem dX5_digitAt_16 : decode cX5_digitAt 16 = .ok (.if_icmp .lt 5, 3) := by decide +kernel
theorem dX5_digitAt_19 : decode cX5_digitAt 19 = .ok (.iconst 0, 1) := by decide +kernel
theorem dX5_digitAt_20 : decode cX5_digitAt 20 = .ok (.ireturn, 1) := by decide +kernel
theorem dX5_digitAt_21 : decode cX5_digitAt 21 = .ok (.lload_n 0, 1) := by decide +kernel
theorem dX5_digitAt_22 : decode cX5_digitAt 22 = .ok (.getstatic 146, 3) := by decide +kernel
theorem dX5_digitAt_25 : decode cX5_digitAt 25 = .ok (.iload 4, 2) := by decide +kernel
theorem dX5_digitAt_27 : decode cX5_digitAt 27 = .ok (.laload, 1) := by decide +kernel
theorem dX5_digitAt_28 : decode cX5_digitAt 28 = .ok (.ldiv, 1) := by decide +kernel
theorem dX5_digitAt_29 : decode cX5_digitAt 29 = .ok (.ldc2_w 150, 3) := by decide +kernel
theorem dX5_digitAt_32 : decode cX5_digitAt 32 = .ok (.lrem, 1) := by decide +kernel
theorem dX5_digitAt_33 : decode cX5_digitAt 33 = .ok (.l2i, 1) := by decide +kernel
theorem dX5_digitAt_34 : decode cX5_digitAt 34 = .ok (.invokestatic 152, 3) := by decide +kernel
theorem dX5_digitAt_37 : decode cX5_digitAt 37 = .ok (.ireturn, 1) := by decide +kernel
def m_P_digitAt (a0 : Int64) (a1 : Int32) (a2 : Int32)   : Option ((Int32)) := (if (a2 + a1) < 0 then (some 0) else (if (a2 + a1) < 19 then zix (a2 + a1) 19 ((some (if 0 ≤ ((((a0 / (zpl (a2 + a1).toNatClampNeg)) - (a0 / (zpl (a2 + a1).toNatClampNeg)) / 10 * 10)).toInt32) then ((((a0 / (zpl (a2 + a1).toNatClampNeg)) - (a0 / (zpl (a2 + a1).toNatClampNeg)) / 10 * 10)).toInt32) else 0 - ((((a0 / (zpl (a2 + a1).toNatClampNeg)) - (a0 / (zpl (a2 + a1).toNatClampNeg)) / 10 * 10)).toInt32)))) else (some 0)))
section
variable {p : Program} {l : Launch} {e : Env} {s : State} {m : MethodId} {args : Array Value} {below : List Frame} {meth : Method} {c : Code} {D : va_G} {w0 : va_W}
end
set_option maxRecDepth 100000 in
set_option maxHeartbeats 4000000 in
theorem k_P_digitAt (l : Launch) (D : va_G)  (sz : Nat) (a0 : Int64) (a1 : Int32) (a2 : Int32)  (res : (Int32)) (hm : m_P_digitAt a0 a1 a2   = some res) : Met l yX5_digitAt (Cond.code yX5_digitAt cX5_digitAt 5 (some .int) :: zBIG) (zR 1 21) (va_Pc [.long a0, .int a1, .int a2] (zP zC D vwCl [] [] sz)) (zQi D vwCl [] [] sz res) 0 0 (va_A [] sz) := by
  refine zEnter RX5 [.long a0, .int a1, .int a2] (by decide) rfl (Nat.le_of_ble_eq_true rfl) (fun p e s m below meth c ls G hK hX hP hD hsz hl => ?_)
  subst hsz
  unfold m_P_digitAt at hm
  have hl : lv_has ls 5 [(0, .long a0), (2, .int a1), (3, .int a2)] := hl
  have hS : va_S (va_A [] s.heap.size) s.heap s.heap [] := va_S.rf
  have hA : ∀ q, s.heap.size ≤ q → va_A [] s.heap.size q := fun q h => Or.inr h
  have G0 := G
  obtain ⟨hx, hb, hr, hml, hown, hw, hlk⟩ := G
  refine lv_iload_n hx hb dX5_digitAt_0 rfl (lv_at hl 2 rfl) ?_
  refine lv_iload_n hx hb dX5_digitAt_1 rfl (lv_at hl 1 rfl) ?_
  refine lv_iadd hx hb dX5_digitAt_2 ?_
  refine lv_istore (lv' := [(4, .int (a2 + a1)), (0, .long a0), (2, .int a1), (3, .int a2)]) hx hb dX5_digitAt_3 hl (by decide) rfl (fun ls hl => ?_)
  refine lv_iload hx hb dX5_digitAt_5 (lv_at hl 0 rfl) ?_
  refine lv_if_lt (tgt := 19) hx hb dX5_digitAt_7 rfl (fun cd1 => ?_) (fun cd1 => ?_)
  · replace hm := zt cd1 hm
    refine lv_iconst (v := 0) hx hb dX5_digitAt_19 (by decide) ?_
    cases hm
    exact zreti hx hb hr hlk hP hD hS dX5_digitAt_20
  · replace hm := zf cd1 hm
    refine lv_iload hx hb dX5_digitAt_10 (lv_at hl 0 rfl) ?_
    obtain ⟨tP, hZ, hT⟩ := hX.2
    refine va_gets hx hb hZ hS hown (hw _ zw167) (fun _ h9 => h9) dX5_digitAt_12 ?_
    refine va_tlen hx hb hT hS (v := 19) rfl dX5_digitAt_15 ?_
    refine lv_icmp_lt (tgt := 21) hx hb dX5_digitAt_16 rfl (fun cd2 => ?_) (fun cd2 => ?_)
    · replace hm := zt cd2 hm
      refine lv_lload_n hx hb dX5_digitAt_21 rfl (lv_at hl 1 rfl) ?_
      obtain ⟨tP, hZ, hT⟩ := hX.2
      refine va_gets hx hb hZ hS hown (hw _ zw167) (fun _ h9 => h9) dX5_digitAt_22 ?_
      refine lv_iload hx hb dX5_digitAt_25 (lv_at hl 0 rfl) ?_
      obtain ⟨hi3, hm⟩ := zix_s hm
      refine va_tl (i := (a2 + a1)) (v := .long (zpl (a2 + a1).toNatClampNeg)) hx hb hT hS hi3 rfl dX5_digitAt_27 ?_
      refine lv_ldiv hx hb dX5_digitAt_28 (zpl_ne _) ?_
      refine lv_ldc2 (v := 10) hx hb hown (hw _ zw168) dX5_digitAt_29 ?_
      refine lv_lrem hx hb dX5_digitAt_32 (by decide) ?_
      refine lv_l2i (v := ((((a0 / (zpl (a2 + a1).toNatClampNeg)) - (a0 / (zpl (a2 + a1).toNatClampNeg)) / 10 * 10)).toInt32)) hx hb dX5_digitAt_33 rfl ?_
      refine va_mabs hx hb (hml.trans hl.1.symm) hown (hw _ zw169) (hw _ zw170) (hw _ zw171) (hw _ zw172) (Nat.le_of_ble_eq_true rfl) (Nat.le_of_ble_eq_true rfl) (Nat.zero_le _) (Nat.zero_le _) dX5_digitAt_34 ?_
      cases hm
      exact zreti hx hb hr hlk hP hD hS dX5_digitAt_37
    · replace hm := zf cd2 hm
      refine lv_iconst (v := 0) hx hb dX5_digitAt_19 (by decide) ?_
      cases hm
      exact zreti hx hb hr hlk hP hD hS dX5_digitAt_20

theorem dX3_symbolAt_0 : decode cX3_symbolAt 0 = .ok (.iload_n 1, 1) := by decide +kernel
theorem dX3_symbolAt_1 : decode cX3_symbolAt 1 = .ok (.ifCond .lt 20, 3) := by decide +kernel
theorem dX3_symbolAt_4 : decode cX3_symbolAt 4 = .ok (.iload_n 1, 1) := by decide +kernel
theorem dX3_symbolAt_5 : decode cX3_symbolAt 5 = .ok (.aload_n 0, 1) := by decide +kernel
theorem dX3_symbolAt_6 : decode cX3_symbolAt 6 = .ok (.getfield 15, 3) := by decide +kernel
theorem dX3_symbolAt_9 : decode cX3_symbolAt 9 = .ok (.if_icmp .ge 12, 3) := by decide +kernel
theorem dX3_symbolAt_12 : decode cX3_symbolAt 12 = .ok (.aload_n 0, 1) := by decide +kernel
theorem dX3_symbolAt_13 : decode cX3_symbolAt 13 = .ok (.getfield 9, 3) := by decide +kernel
theorem dX3_symbolAt_16 : decode cX3_symbolAt 16 = .ok (.iload_n 1, 1) := by decide +kernel
theorem dX3_symbolAt_17 : decode cX3_symbolAt 17 = .ok (.iaload, 1) := by decide +kernel
theorem dX3_symbolAt_18 : decode cX3_symbolAt 18 = .ok (.goto 4, 3) := by decide +kernel
theorem dX3_symbolAt_21 : decode cX3_symbolAt 21 = .ok (.iconst (-1), 1) := by decide +kernel
theorem dX3_symbolAt_22 : decode cX3_symbolAt 22 = .ok (.ireturn, 1) := by decide +kernel
def m_S_symbolAt (a0 : Int32) (sv : Nat → Int32) (sr : Nat → Int32)  : Option ((Int32)) := (if a0 < 0 then (some (-1)) else (if (sv 1) ≤ a0 then (some (-1)) else zix a0 24 ((some (sr a0.toNatClampNeg)))))
section
variable {p : Program} {l : Launch} {e : Env} {s : State} {m : MethodId} {args : Array Value} {below : List Frame} {meth : Method} {c : Code} {D : va_G} {w0 : va_W} {aS rS : Nat} {cs : ClassId} {sv : Nat → Int32} {sr : Nat → Int32}
end
set_option maxRecDepth 100000 in
set_option maxHeartbeats 4000000 in
theorem k_S_symbolAt (l : Launch) (D : va_G) (aS rS : Nat) (cs : ClassId) (sz : Nat) (a0 : Int32) (sv : Nat → Int32) (sr : Nat → Int32) (res : (Int32)) (hm : m_S_symbolAt a0 sv sr  = some res) : Met l yX3_symbolAt (Cond.code yX3_symbolAt cX3_symbolAt 2 (some .int) :: zBIG) (zR 0 0) (va_Pc [.ref aS, .int a0] (zP zC D vwCl (wS_t cs) (wS aS rS cs sv sr) sz)) (zQi D vwCl (wS aS rS cs sv sr) (wS aS rS cs sv sr) sz res) 0 0 (va_A (wS aS rS cs sv sr) sz) := by
  refine zEnter RX3 [.ref aS, .int a0] (by decide) rfl (Nat.le_of_ble_eq_true rfl) (fun p e s m below meth c ls G hK hX hP hD hsz hl => ?_)
  subst hsz
  unfold m_S_symbolAt at hm
  have hl : lv_has ls 2 [(0, .ref aS), (1, .int a0)] := hl
  have hS : va_S (va_A (wS aS rS cs sv sr) s.heap.size) s.heap s.heap [] := va_S.rf
  have hA : ∀ q, s.heap.size ≤ q → va_A (wS aS rS cs sv sr) s.heap.size q := fun q h => Or.inr h
  have G0 := G
  obtain ⟨hx, hb, hr, hml, hown, hw, hlk⟩ := G
  refine lv_iload_n hx hb dX3_symbolAt_0 rfl (lv_at hl 1 rfl) ?_
  refine lv_if_lt (tgt := 21) hx hb dX3_symbolAt_1 rfl (fun cd1 => ?_) (fun cd1 => ?_)
  · replace hm := zt cd1 hm
    refine lv_iconst (v := (-1)) hx hb dX3_symbolAt_21 (by decide) ?_
    cases hm
    exact zreti hx hb hr hlk hP hD hS dX3_symbolAt_22
  · replace hm := zf cd1 hm
    refine lv_iload_n hx hb dX3_symbolAt_4 rfl (lv_at hl 1 rfl) ?_
    refine lv_aload_n hx hb dX3_symbolAt_5 rfl (lv_at hl 0 rfl) ?_
    refine va_get (D := D) (ci := 2) (v := .int (sv 1)) (C := RX3) (T := TX3) (N := 2) hx hb hw zinX3 hown hK hP 0 rfl rfl 1 (by decide) (hw _ zw173) (fun _ h9 => h9) rfl dX3_symbolAt_6 ?_
    refine lv_icmp_ge (tgt := 21) hx hb dX3_symbolAt_9 rfl (fun cd2 => ?_) (fun cd2 => ?_)
    · replace hm := zt cd2 hm
      refine lv_iconst (v := (-1)) hx hb dX3_symbolAt_21 (by decide) ?_
      cases hm
      exact zreti hx hb hr hlk hP hD hS dX3_symbolAt_22
    · replace hm := zf cd2 hm
      refine lv_aload_n hx hb dX3_symbolAt_12 rfl (lv_at hl 0 rfl) ?_
      refine va_get (D := D) (ci := 2) (v := .ref rS) (C := RX3) (T := TX3) (N := 2) hx hb hw zinX3 hown hK hP 0 rfl rfl 0 (by decide) (hw _ zw174) (fun _ h9 => h9) rfl dX3_symbolAt_13 ?_
      refine lv_iload_n hx hb dX3_symbolAt_16 rfl (lv_at hl 1 rfl) ?_
      obtain ⟨hi3, hm⟩ := zix_s hm
      refine va_iald (i := a0) (f := sr) (n := 24) hx hb hK hP 1 0 rfl rfl hi3 dX3_symbolAt_17 ?_
      refine lv_goto (tgt := 22) hx hb dX3_symbolAt_18 rfl ?_
      cases hm
      exact zreti hx hb hr hlk hP hD hS dX3_symbolAt_22

theorem dX3_runEnd_0 : decode cX3_runEnd 0 = .ok (.iload_n 2, 1) := by decide +kernel
theorem dX3_runEnd_1 : decode cX3_runEnd 1 = .ok (.istore_n 3, 1) := by decide +kernel
theorem dX3_runEnd_2 : decode cX3_runEnd 2 = .ok (.iload_n 3, 1) := by decide +kernel
theorem dX3_runEnd_3 : decode cX3_runEnd 3 = .ok (.aload_n 0, 1) := by decide +kernel
theorem dX3_runEnd_4 : decode cX3_runEnd 4 = .ok (.getfield 15, 3) := by decide +kernel
theorem dX3_runEnd_7 : decode cX3_runEnd 7 = .ok (.if_icmp .ge 19, 3) := by decide +kernel
theorem dX3_runEnd_10 : decode cX3_runEnd 10 = .ok (.aload_n 0, 1) := by decide +kernel
theorem dX3_runEnd_11 : decode cX3_runEnd 11 = .ok (.getfield 9, 3) := by decide +kernel
theorem dX3_runEnd_14 : decode cX3_runEnd 14 = .ok (.iload_n 3, 1) := by decide +kernel
theorem dX3_runEnd_15 : decode cX3_runEnd 15 = .ok (.iaload, 1) := by decide +kernel
theorem dX3_runEnd_16 : decode cX3_runEnd 16 = .ok (.iload_n 1, 1) := by decide +kernel
theorem dX3_runEnd_17 : decode cX3_runEnd 17 = .ok (.if_icmp .ne 9, 3) := by decide +kernel
theorem dX3_runEnd_20 : decode cX3_runEnd 20 = .ok (.iinc 3 1, 3) := by decide +kernel
theorem dX3_runEnd_23 : decode cX3_runEnd 23 = .ok (.goto (-21), 3) := by decide +kernel
theorem dX3_runEnd_26 : decode cX3_runEnd 26 = .ok (.iload_n 3, 1) := by decide +kernel
theorem dX3_runEnd_27 : decode cX3_runEnd 27 = .ok (.ireturn, 1) := by decide +kernel
def m_S_runEnd_2b (sv : Nat → Int32) (sr : Nat → Int32) (rec : Int32 → Int32 → Option ((Int32))) (x1 : Int32) (x3 : Int32)  : Option ((Int32)) := (if (sv 1) ≤ x3 then (some x3) else zix x3 24 ((if (sr x3.toNatClampNeg) = x1 then rec x1 (x3 + 1) else (some x3))))
def m_S_runEnd_2 (sv : Nat → Int32) (sr : Nat → Int32) : Nat → Int32 → Int32 → Option ((Int32))
  | 0 => fun _ _ => none
  | n + 1 => fun x1 x3 => m_S_runEnd_2b sv sr (m_S_runEnd_2 sv sr n) x1 x3
def m_S_runEnd (a0 : Int32) (a1 : Int32) (sv : Nat → Int32) (sr : Nat → Int32)  : Option ((Int32)) := m_S_runEnd_2 sv sr 64 a0 a1
section
variable {p : Program} {l : Launch} {e : Env} {s : State} {m : MethodId} {args : Array Value} {below : List Frame} {meth : Method} {c : Code} {D : va_G} {w0 : va_W} {aS rS : Nat} {cs : ClassId} {sv : Nat → Int32} {sr : Nat → Int32}
set_option maxRecDepth 100000 in
set_option maxHeartbeats 4000000 in
theorem b_S_runEnd_2 (G : zG p s m args meth c cX3_runEnd RX3 4 (some .int)) (hK : va_K D vwCl (wS_t cs) s) (hX : zC (va_A w0 s.heap.size) s) {res : (Int32)} : ∀ n : Nat, ∀ (x1 : Int32) (x3 : Int32), m_S_runEnd_2 sv sr n x1 x3 = some res → zB p l e (zR 0 0) s m args below meth c D vwCl (va_A w0 s.heap.size) (MQ below (zQi D vwCl w0 (wS aS rS cs sv sr) s.heap.size res) args s 0 0 (va_A w0 s.heap.size)) 4 (wS aS rS cs sv sr) [(0, .ref aS), (1, .int x1), (3, .int x3)] 2 [] := by
  intro n
  induction n with
  | zero => intro x1 x3 hm; cases hm
  | succ n ih =>
  have hrec := ih
  intro x1 x3 hm H locs ls hP hD hS hl
  replace hm : m_S_runEnd_2b sv sr (m_S_runEnd_2 sv sr n) x1 x3 = some res := hm
  generalize m_S_runEnd_2 sv sr n = rec at hm hrec
  unfold m_S_runEnd_2b at hm
  clear ih
  have G0 := G
  obtain ⟨hx, hb, hr, hml, hown, hw, hlk⟩ := G
  have hA : ∀ q, s.heap.size ≤ q → va_A w0 s.heap.size q := fun q h => Or.inr h
  refine lv_iload_n hx hb dX3_runEnd_2 rfl (lv_at hl 2 rfl) ?_
  refine lv_aload_n hx hb dX3_runEnd_3 rfl (lv_at hl 0 rfl) ?_
  refine va_get (D := D) (ci := 2) (v := .int (sv 1)) (C := RX3) (T := TX3) (N := 2) hx hb hw zinX3 hown hK hP 0 rfl rfl 1 (by decide) (hw _ zw173) (fun _ h9 => h9) rfl dX3_runEnd_4 ?_
  refine lv_icmp_ge (tgt := 26) hx hb dX3_runEnd_7 rfl (fun cd1 => ?_) (fun cd1 => ?_)
  · replace hm := zt cd1 hm
    refine lv_iload_n hx hb dX3_runEnd_26 rfl (lv_at hl 2 rfl) ?_
    cases hm
    exact zreti hx hb hr hlk hP hD hS dX3_runEnd_27
  · replace hm := zf cd1 hm
    refine lv_aload_n hx hb dX3_runEnd_10 rfl (lv_at hl 0 rfl) ?_
    refine va_get (D := D) (ci := 2) (v := .ref rS) (C := RX3) (T := TX3) (N := 2) hx hb hw zinX3 hown hK hP 0 rfl rfl 0 (by decide) (hw _ zw174) (fun _ h9 => h9) rfl dX3_runEnd_11 ?_
    refine lv_iload_n hx hb dX3_runEnd_14 rfl (lv_at hl 2 rfl) ?_
    obtain ⟨hi2, hm⟩ := zix_s hm
    refine va_iald (i := x3) (f := sr) (n := 24) hx hb hK hP 1 0 rfl rfl hi2 dX3_runEnd_15 ?_
    refine lv_iload_n hx hb dX3_runEnd_16 rfl (lv_at hl 1 rfl) ?_
    refine lv_icmp_ne (tgt := 26) hx hb dX3_runEnd_17 rfl (fun cd3 => ?_) (fun cd3 => ?_)
    · replace hm := zf cd3 hm
      refine lv_iload_n hx hb dX3_runEnd_26 rfl (lv_at hl 2 rfl) ?_
      cases hm
      exact zreti hx hb hr hlk hP hD hS dX3_runEnd_27
    · replace hm := zt cd3 hm
      refine lv_iinc (k := 2) (v := (x3 + 1)) (lv' := [(3, .int (x3 + 1)), (0, .ref aS), (1, .int x1)]) hx hb dX3_runEnd_20 hl rfl rfl (by decide) rfl (fun ls hl => ?_)
      refine lv_goto (tgt := 2) hx hb dX3_runEnd_23 rfl ?_
      exact hrec _ _ hm H _ _ hP hD hS (lv_sub hl [1, 2, 0] rfl)
end
set_option maxRecDepth 100000 in
set_option maxHeartbeats 4000000 in
theorem k_S_runEnd (l : Launch) (D : va_G) (aS rS : Nat) (cs : ClassId) (sz : Nat) (a0 : Int32) (a1 : Int32) (sv : Nat → Int32) (sr : Nat → Int32) (res : (Int32)) (hm : m_S_runEnd a0 a1 sv sr  = some res) : Met l yX3_runEnd (Cond.code yX3_runEnd cX3_runEnd 4 (some .int) :: zBIG) (zR 0 0) (va_Pc [.ref aS, .int a0, .int a1] (zP zC D vwCl (wS_t cs) (wS aS rS cs sv sr) sz)) (zQi D vwCl (wS aS rS cs sv sr) (wS aS rS cs sv sr) sz res) 0 0 (va_A (wS aS rS cs sv sr) sz) := by
  refine zEnter RX3 [.ref aS, .int a0, .int a1] (by decide) rfl (Nat.le_of_ble_eq_true rfl) (fun p e s m below meth c ls G hK hX hP hD hsz hl => ?_)
  subst hsz
  unfold m_S_runEnd at hm
  have hl : lv_has ls 4 [(0, .ref aS), (1, .int a0), (2, .int a1)] := hl
  have hS : va_S (va_A (wS aS rS cs sv sr) s.heap.size) s.heap s.heap [] := va_S.rf
  have hA : ∀ q, s.heap.size ≤ q → va_A (wS aS rS cs sv sr) s.heap.size q := fun q h => Or.inr h
  have G0 := G
  obtain ⟨hx, hb, hr, hml, hown, hw, hlk⟩ := G
  refine lv_iload_n hx hb dX3_runEnd_0 rfl (lv_at hl 2 rfl) ?_
  refine lv_istore_n (lv' := [(3, .int a1), (0, .ref aS), (1, .int a0), (2, .int a1)]) hx hb dX3_runEnd_1 rfl hl (by decide) rfl (fun ls hl => ?_)
  exact b_S_runEnd_2 G0 hK hX 64 _ _ hm _ _ _ hP hD hS (lv_sub hl [1, 2, 0] rfl)

theorem dX3_append_0 : decode cX3_append 0 = .ok (.iload_n 2, 1) := by decide +kernel
theorem dX3_append_1 : decode cX3_append 1 = .ok (.iconst 1, 1) := by decide +kernel
theorem dX3_append_2 : decode cX3_append 2 = .ok (.if_icmp .lt 14, 3) := by decide +kernel
theorem dX3_append_5 : decode cX3_append 5 = .ok (.iload_n 2, 1) := by decide +kernel
theorem dX3_append_6 : decode cX3_append 6 = .ok (.bipush 24, 2) := by decide +kernel
theorem dX3_append_8 : decode cX3_append 8 = .ok (.aload_n 0, 1) := by decide +kernel
theorem dX3_append_9 : decode cX3_append 9 = .ok (.getfield 15, 3) := by decide +kernel
theorem dX3_append_12 : decode cX3_append 12 = .ok (.isub, 1) := by decide +kernel
theorem dX3_append_13 : decode cX3_append 13 = .ok (.if_icmp .le 5, 3) := by decide +kernel
theorem dX3_append_16 : decode cX3_append 16 = .ok (.iconst 0, 1) := by decide +kernel
theorem dX3_append_17 : decode cX3_append 17 = .ok (.ireturn, 1) := by decide +kernel
theorem dX3_append_18 : decode cX3_append 18 = .ok (.iconst 0, 1) := by decide +kernel
theorem dX3_append_19 : decode cX3_append 19 = .ok (.istore_n 3, 1) := by decide +kernel
theorem dX3_append_20 : decode cX3_append 20 = .ok (.iload_n 3, 1) := by decide +kernel
theorem dX3_append_21 : decode cX3_append 21 = .ok (.iload_n 2, 1) := by decide +kernel
theorem dX3_append_22 : decode cX3_append 22 = .ok (.if_icmp .ge 29, 3) := by decide +kernel
theorem dX3_append_25 : decode cX3_append 25 = .ok (.aload_n 0, 1) := by decide +kernel
theorem dX3_append_26 : decode cX3_append 26 = .ok (.getfield 9, 3) := by decide +kernel
theorem dX3_append_29 : decode cX3_append 29 = .ok (.aload_n 0, 1) := by decide +kernel
theorem dX3_append_30 : decode cX3_append 30 = .ok (.getfield 15, 3) := by decide +kernel
theorem dX3_append_33 : decode cX3_append 33 = .ok (.iload_n 1, 1) := by decide +kernel
theorem dX3_append_34 : decode cX3_append 34 = .ok (.iastore, 1) := by decide +kernel
theorem dX3_append_35 : decode cX3_append 35 = .ok (.aload_n 0, 1) := by decide +kernel
theorem dX3_append_36 : decode cX3_append 36 = .ok (.dup, 1) := by decide +kernel
theorem dX3_append_37 : decode cX3_append 37 = .ok (.getfield 15, 3) := by decide +kernel
theorem dX3_append_40 : decode cX3_append 40 = .ok (.iconst 1, 1) := by decide +kernel
theorem dX3_append_41 : decode cX3_append 41 = .ok (.iadd, 1) := by decide +kernel
theorem dX3_append_42 : decode cX3_append 42 = .ok (.putfield 15, 3) := by decide +kernel
theorem dX3_append_45 : decode cX3_append 45 = .ok (.iinc 3 1, 3) := by decide +kernel
theorem dX3_append_48 : decode cX3_append 48 = .ok (.goto (-28), 3) := by decide +kernel
theorem dX3_append_51 : decode cX3_append 51 = .ok (.iconst 1, 1) := by decide +kernel
theorem dX3_append_52 : decode cX3_append 52 = .ok (.ireturn, 1) := by decide +kernel
def m_S_append_20b  (rec : Int32 → Int32 → Int32 → (Nat → Int32) → (Nat → Int32) → Option ((Int32) × (Nat → Int32) × (Nat → Int32))) (x1 : Int32) (x2 : Int32) (x3 : Int32) (sv : Nat → Int32) (sr : Nat → Int32) : Option ((Int32) × (Nat → Int32) × (Nat → Int32)) := (if x2 ≤ x3 then (zbo 1 (some (1, sv, sr))) else zix (sv 1) 24 (rec x1 x2 (x3 + 1) (upd sv 1 ((sv 1) + 1)) (upd sr (sv 1).toNatClampNeg x1)))
def m_S_append_20  : Nat → Int32 → Int32 → Int32 → (Nat → Int32) → (Nat → Int32) → Option ((Int32) × (Nat → Int32) × (Nat → Int32))
  | 0 => fun _ _ _ _ _ => none
  | n + 1 => fun x1 x2 x3 sv sr => m_S_append_20b  (m_S_append_20  n) x1 x2 x3 sv sr
def m_S_append (a0 : Int32) (a1 : Int32) (sv : Nat → Int32) (sr : Nat → Int32)  : Option ((Int32) × (Nat → Int32) × (Nat → Int32)) := (if a1 < 1 then (zbo 0 (some (0, sv, sr))) else (if a1 ≤ (24 - (sv 1)) then m_S_append_20  64 a0 a1 0 sv sr else (zbo 0 (some (0, sv, sr)))))
section
variable {p : Program} {l : Launch} {e : Env} {s : State} {m : MethodId} {args : Array Value} {below : List Frame} {meth : Method} {c : Code} {D : va_G} {w0 : va_W} {aS rS : Nat} {cs : ClassId}
set_option maxRecDepth 100000 in
set_option maxHeartbeats 4000000 in
theorem b_S_append_20 (G : zG p s m args meth c cX3_append RX3 4 (some .boolean)) (hK : va_K D vwCl (wS_t cs) s) (hX : zC (va_A w0 s.heap.size) s) {res : (Int32) × (Nat → Int32) × (Nat → Int32)} : ∀ n : Nat, ∀ (x1 : Int32) (x2 : Int32) (x3 : Int32) (sv : Nat → Int32) (sr : Nat → Int32), m_S_append_20  n x1 x2 x3 sv sr = some res → zB p l e (zR 0 0) s m args below meth c D vwCl (va_A w0 s.heap.size) (MQ below (zQi D vwCl w0 (wS aS rS cs res.2.1 res.2.2) s.heap.size res.1) args s 0 0 (va_A w0 s.heap.size)) 4 (wS aS rS cs sv sr) [(0, .ref aS), (1, .int x1), (2, .int x2), (3, .int x3)] 20 [] := by
  intro n
  induction n with
  | zero => intro x1 x2 x3 sv sr hm; cases hm
  | succ n ih =>
  have hrec := ih
  intro x1 x2 x3 sv sr hm H locs ls hP hD hS hl
  replace hm : m_S_append_20b  (m_S_append_20  n) x1 x2 x3 sv sr = some res := hm
  generalize m_S_append_20  n = rec at hm hrec
  unfold m_S_append_20b at hm
  clear ih
  have G0 := G
  obtain ⟨hx, hb, hr, hml, hown, hw, hlk⟩ := G
  have hA : ∀ q, s.heap.size ≤ q → va_A w0 s.heap.size q := fun q h => Or.inr h
  refine lv_iload_n hx hb dX3_append_20 rfl (lv_at hl 3 rfl) ?_
  refine lv_iload_n hx hb dX3_append_21 rfl (lv_at hl 2 rfl) ?_
  refine lv_icmp_ge (tgt := 51) hx hb dX3_append_22 rfl (fun cd4 => ?_) (fun cd4 => ?_)
  · replace hm := zt cd4 hm
    refine lv_iconst (v := 1) hx hb dX3_append_51 (by decide) ?_
    obtain ⟨hz5, -, hm⟩ := zbo_s hm
    cases hm
    exact zretz hx hb hr hlk hz5 hP hD hS dX3_append_52
  · replace hm := zf cd4 hm
    refine lv_aload_n hx hb dX3_append_25 rfl (lv_at hl 0 rfl) ?_
    refine va_get (D := D) (ci := 2) (v := .ref rS) (C := RX3) (T := TX3) (N := 2) hx hb hw zinX3 hown hK hP 0 rfl rfl 0 (by decide) (hw _ zw174) (fun _ h9 => h9) rfl dX3_append_26 ?_
    refine lv_aload_n hx hb dX3_append_29 rfl (lv_at hl 0 rfl) ?_
    refine va_get (D := D) (ci := 2) (v := .int (sv 1)) (C := RX3) (T := TX3) (N := 2) hx hb hw zinX3 hown hK hP 0 rfl rfl 1 (by decide) (hw _ zw173) (fun _ h9 => h9) rfl dX3_append_30 ?_
    refine lv_iload_n hx hb dX3_append_33 rfl (lv_at hl 1 rfl) ?_
    obtain ⟨hi6, hm⟩ := zix_s hm
    refine va_iast (i := (sv 1)) (x := x1) (f := sr) (n := 24) hx hb hK hP hD hS 1 0 rfl rfl hi6 dX3_append_34 (fun H locs hP hD hS => ?_)
    have hP : va_P D vwCl (wS aS rS cs sv (upd sr (sv 1).toNatClampNeg x1)) H := hP
    have hD : va_D _ (wS aS rS cs sv (upd sr (sv 1).toNatClampNeg x1)) := hD
    refine lv_aload_n hx hb dX3_append_35 rfl (lv_at hl 0 rfl) ?_
    refine lv_dup hx hb dX3_append_36 rfl ?_
    refine va_get (D := D) (ci := 2) (v := .int (sv 1)) (C := RX3) (T := TX3) (N := 2) hx hb hw zinX3 hown hK hP 0 rfl rfl 1 (by decide) (hw _ zw173) (fun _ h9 => h9) rfl dX3_append_37 ?_
    refine lv_iconst (v := 1) hx hb dX3_append_40 (by decide) ?_
    refine lv_iadd hx hb dX3_append_41 ?_
    refine va_put (D := D) (ci := 2) (v := .int ((sv 1) + 1)) (ty := .int) (C := RX3) (T := TX3) (N := 2) hx hb hw zinX3 tyX3 tyX3_ok nmX3 hown hK hP hD hS 0 rfl rfl 1 (by decide) (hw _ zw173) (fun _ h9 => h9) rfl (by decide +kernel) rfl rfl (Nat.le_of_ble_eq_true rfl) dX3_append_42 (fun H locs hP hD hS => ?_)
    have hP : va_P D vwCl (wS aS rS cs (upd sv 1 ((sv 1) + 1)) (upd sr (sv 1).toNatClampNeg x1)) H := hP
    have hD : va_D _ (wS aS rS cs (upd sv 1 ((sv 1) + 1)) (upd sr (sv 1).toNatClampNeg x1)) := hD
    refine lv_iinc (k := 3) (v := (x3 + 1)) (lv' := [(3, .int (x3 + 1)), (0, .ref aS), (1, .int x1), (2, .int x2)]) hx hb dX3_append_45 hl rfl rfl (by decide) rfl (fun ls hl => ?_)
    refine lv_goto (tgt := 20) hx hb dX3_append_48 rfl ?_
    exact hrec _ _ _ _ _ hm H _ _ hP hD hS (lv_sub hl [1, 2, 3, 0] rfl)
end
set_option maxRecDepth 100000 in
set_option maxHeartbeats 4000000 in
theorem k_S_append (l : Launch) (D : va_G) (aS rS : Nat) (cs : ClassId) (sz : Nat) (a0 : Int32) (a1 : Int32) (sv : Nat → Int32) (sr : Nat → Int32) (res : (Int32) × (Nat → Int32) × (Nat → Int32)) (hm : m_S_append a0 a1 sv sr  = some res) : Met l yX3_append (Cond.code yX3_append cX3_append 4 (some .boolean) :: zBIG) (zR 0 0) (va_Pc [.ref aS, .int a0, .int a1] (zP zC D vwCl (wS_t cs) (wS aS rS cs sv sr) sz)) (zQi D vwCl (wS aS rS cs sv sr) (wS aS rS cs res.2.1 res.2.2) sz res.1) 0 0 (va_A (wS aS rS cs sv sr) sz) := by
  refine zEnter RX3 [.ref aS, .int a0, .int a1] (by decide) rfl (Nat.le_of_ble_eq_true rfl) (fun p e s m below meth c ls G hK hX hP hD hsz hl => ?_)
  subst hsz
  unfold m_S_append at hm
  have hl : lv_has ls 4 [(0, .ref aS), (1, .int a0), (2, .int a1)] := hl
  have hS : va_S (va_A (wS aS rS cs sv sr) s.heap.size) s.heap s.heap [] := va_S.rf
  have hA : ∀ q, s.heap.size ≤ q → va_A (wS aS rS cs sv sr) s.heap.size q := fun q h => Or.inr h
  have G0 := G
  obtain ⟨hx, hb, hr, hml, hown, hw, hlk⟩ := G
  refine lv_iload_n hx hb dX3_append_0 rfl (lv_at hl 2 rfl) ?_
  refine lv_iconst (v := 1) hx hb dX3_append_1 (by decide) ?_
  refine lv_icmp_lt (tgt := 16) hx hb dX3_append_2 rfl (fun cd1 => ?_) (fun cd1 => ?_)
  · replace hm := zt cd1 hm
    refine lv_iconst (v := 0) hx hb dX3_append_16 (by decide) ?_
    obtain ⟨hz2, -, hm⟩ := zbo_s hm
    cases hm
    exact zretz hx hb hr hlk hz2 hP hD hS dX3_append_17
  · replace hm := zf cd1 hm
    refine lv_iload_n hx hb dX3_append_5 rfl (lv_at hl 2 rfl) ?_
    refine lv_bipush (v := 24) hx hb dX3_append_6 (by decide) ?_
    refine lv_aload_n hx hb dX3_append_8 rfl (lv_at hl 0 rfl) ?_
    refine va_get (D := D) (ci := 2) (v := .int (sv 1)) (C := RX3) (T := TX3) (N := 2) hx hb hw zinX3 hown hK hP 0 rfl rfl 1 (by decide) (hw _ zw173) (fun _ h9 => h9) rfl dX3_append_9 ?_
    refine lv_isub hx hb dX3_append_12 ?_
    refine lv_icmp_le (tgt := 18) hx hb dX3_append_13 rfl (fun cd3 => ?_) (fun cd3 => ?_)
    · replace hm := zt cd3 hm
      refine lv_iconst (v := 0) hx hb dX3_append_18 (by decide) ?_
      refine lv_istore_n (lv' := [(3, .int 0), (0, .ref aS), (1, .int a0), (2, .int a1)]) hx hb dX3_append_19 rfl hl (by decide) rfl (fun ls hl => ?_)
      exact b_S_append_20 G0 hK hX 64 _ _ _ _ _ hm _ _ _ hP hD hS (lv_sub hl [1, 2, 3, 0] rfl)
    · replace hm := zf cd3 hm
      refine lv_iconst (v := 0) hx hb dX3_append_16 (by decide) ?_
      obtain ⟨hz7, -, hm⟩ := zbo_s hm
      cases hm
      exact zretz hx hb hr hlk hz7 hP hD hS dX3_append_17

theorem dX3_closingPlace_0 : decode cX3_closingPlace 0 = .ok (.iload_n 2, 1) := by decide +kernel
theorem dX3_closingPlace_1 : decode cX3_closingPlace 1 = .ok (.iconst 1, 1) := by decide +kernel
theorem dX3_closingPlace_2 : decode cX3_closingPlace 2 = .ok (.iadd, 1) := by decide +kernel
theorem dX3_closingPlace_3 : decode cX3_closingPlace 3 = .ok (.iload_n 1, 1) := by decide +kernel
theorem dX3_closingPlace_4 : decode cX3_closingPlace 4 = .ok (.if_icmp .ge 17, 3) := by decide +kernel
theorem dX3_closingPlace_7 : decode cX3_closingPlace 7 = .ok (.aload_n 0, 1) := by decide +kernel
theorem dX3_closingPlace_8 : decode cX3_closingPlace 8 = .ok (.iload_n 2, 1) := by decide +kernel
theorem dX3_closingPlace_9 : decode cX3_closingPlace 9 = .ok (.iconst 1, 1) := by decide +kernel
theorem dX3_closingPlace_10 : decode cX3_closingPlace 10 = .ok (.iadd, 1) := by decide +kernel
theorem dX3_closingPlace_11 : decode cX3_closingPlace 11 = .ok (.iaload, 1) := by decide +kernel
theorem dX3_closingPlace_12 : decode cX3_closingPlace 12 = .ok (.bipush 41, 2) := by decide +kernel
theorem dX3_closingPlace_14 : decode cX3_closingPlace 14 = .ok (.if_icmp .ne 7, 3) := by decide +kernel
theorem dX3_closingPlace_17 : decode cX3_closingPlace 17 = .ok (.iload_n 2, 1) := by decide +kernel
theorem dX3_closingPlace_18 : decode cX3_closingPlace 18 = .ok (.iconst 1, 1) := by decide +kernel
theorem dX3_closingPlace_19 : decode cX3_closingPlace 19 = .ok (.iadd, 1) := by decide +kernel
theorem dX3_closingPlace_20 : decode cX3_closingPlace 20 = .ok (.ireturn, 1) := by decide +kernel
theorem dX3_closingPlace_21 : decode cX3_closingPlace 21 = .ok (.iload_n 2, 1) := by decide +kernel
theorem dX3_closingPlace_22 : decode cX3_closingPlace 22 = .ok (.iconst 2, 1) := by decide +kernel
theorem dX3_closingPlace_23 : decode cX3_closingPlace 23 = .ok (.iadd, 1) := by decide +kernel
theorem dX3_closingPlace_24 : decode cX3_closingPlace 24 = .ok (.iload_n 1, 1) := by decide +kernel
theorem dX3_closingPlace_25 : decode cX3_closingPlace 25 = .ok (.if_icmp .ge 19, 3) := by decide +kernel
theorem dX3_closingPlace_28 : decode cX3_closingPlace 28 = .ok (.aload_n 0, 1) := by decide +kernel
theorem dX3_closingPlace_29 : decode cX3_closingPlace 29 = .ok (.iload_n 2, 1) := by decide +kernel
theorem dX3_closingPlace_30 : decode cX3_closingPlace 30 = .ok (.iconst 2, 1) := by decide +kernel
theorem dX3_closingPlace_31 : decode cX3_closingPlace 31 = .ok (.iadd, 1) := by decide +kernel
theorem dX3_closingPlace_32 : decode cX3_closingPlace 32 = .ok (.iaload, 1) := by decide +kernel
theorem dX3_closingPlace_33 : decode cX3_closingPlace 33 = .ok (.bipush 41, 2) := by decide +kernel
theorem dX3_closingPlace_35 : decode cX3_closingPlace 35 = .ok (.if_icmp .ne 9, 3) := by decide +kernel
theorem dX3_closingPlace_38 : decode cX3_closingPlace 38 = .ok (.iload_n 2, 1) := by decide +kernel
theorem dX3_closingPlace_39 : decode cX3_closingPlace 39 = .ok (.iconst 2, 1) := by decide +kernel
theorem dX3_closingPlace_40 : decode cX3_closingPlace 40 = .ok (.iadd, 1) := by decide +kernel
theorem dX3_closingPlace_41 : decode cX3_closingPlace 41 = .ok (.goto 4, 3) := by decide +kernel
theorem dX3_closingPlace_44 : decode cX3_closingPlace 44 = .ok (.iconst (-1), 1) := by decide +kernel
theorem dX3_closingPlace_45 : decode cX3_closingPlace 45 = .ok (.ireturn, 1) := by decide +kernel
def m_S_closingPlace_21 (y : Nat → Int32) (x1 : Int32) (x2 : Int32)  : Option ((Int32)) := (if x1 ≤ (x2 + 2) then (some (-1)) else zix (x2 + 2) 24 ((if (y (x2 + 2).toNatClampNeg) = 41 then (some (x2 + 2)) else (some (-1)))))
def m_S_closingPlace (a1 : Int32) (a2 : Int32) (y : Nat → Int32)  : Option ((Int32)) := (if a1 ≤ (a2 + 1) then m_S_closingPlace_21 y a1 a2 else zix (a2 + 1) 24 ((if (y (a2 + 1).toNatClampNeg) = 41 then (some (a2 + 1)) else m_S_closingPlace_21 y a1 a2)))
section
variable {p : Program} {l : Launch} {e : Env} {s : State} {m : MethodId} {args : Array Value} {below : List Frame} {meth : Method} {c : Code} {D : va_G} {w0 : va_W} {aY : Nat} {cy : ClassId} {y : Nat → Int32}
set_option maxRecDepth 100000 in
set_option maxHeartbeats 4000000 in
theorem b_S_closingPlace_21 (G : zG p s m args meth c cX3_closingPlace RX3 3 (some .int)) (hK : va_K D vwCl (wY_t cy) s) (hX : zC (va_A w0 s.heap.size) s) {res : (Int32)} : ∀ (x1 : Int32) (x2 : Int32), m_S_closingPlace_21 y x1 x2 = some res → zB p l e (zR 0 0) s m args below meth c D vwCl (va_A w0 s.heap.size) (MQ below (zQi D vwCl w0 (wY aY cy y) s.heap.size res) args s 0 0 (va_A w0 s.heap.size)) 3 (wY aY cy y) [(0, .ref aY), (1, .int x1), (2, .int x2)] 21 [] := by
  intro x1 x2 hm H locs ls hP hD hS hl
  unfold m_S_closingPlace_21 at hm
  have G0 := G
  obtain ⟨hx, hb, hr, hml, hown, hw, hlk⟩ := G
  have hA : ∀ q, s.heap.size ≤ q → va_A w0 s.heap.size q := fun q h => Or.inr h
  refine lv_iload_n hx hb dX3_closingPlace_21 rfl (lv_at hl 2 rfl) ?_
  refine lv_iconst (v := 2) hx hb dX3_closingPlace_22 (by decide) ?_
  refine lv_iadd hx hb dX3_closingPlace_23 ?_
  refine lv_iload_n hx hb dX3_closingPlace_24 rfl (lv_at hl 1 rfl) ?_
  refine lv_icmp_ge (tgt := 44) hx hb dX3_closingPlace_25 rfl (fun cd2 => ?_) (fun cd2 => ?_)
  · replace hm := zt cd2 hm
    refine lv_iconst (v := (-1)) hx hb dX3_closingPlace_44 (by decide) ?_
    cases hm
    exact zreti hx hb hr hlk hP hD hS dX3_closingPlace_45
  · replace hm := zf cd2 hm
    refine lv_aload_n hx hb dX3_closingPlace_28 rfl (lv_at hl 0 rfl) ?_
    refine lv_iload_n hx hb dX3_closingPlace_29 rfl (lv_at hl 2 rfl) ?_
    refine lv_iconst (v := 2) hx hb dX3_closingPlace_30 (by decide) ?_
    refine lv_iadd hx hb dX3_closingPlace_31 ?_
    obtain ⟨hi3, hm⟩ := zix_s hm
    refine va_iald (i := (x2 + 2)) (f := y) (n := 24) hx hb hK hP 0 0 rfl rfl hi3 dX3_closingPlace_32 ?_
    refine lv_bipush (v := 41) hx hb dX3_closingPlace_33 (by decide) ?_
    refine lv_icmp_ne (tgt := 44) hx hb dX3_closingPlace_35 rfl (fun cd4 => ?_) (fun cd4 => ?_)
    · replace hm := zf cd4 hm
      refine lv_iconst (v := (-1)) hx hb dX3_closingPlace_44 (by decide) ?_
      cases hm
      exact zreti hx hb hr hlk hP hD hS dX3_closingPlace_45
    · replace hm := zt cd4 hm
      refine lv_iload_n hx hb dX3_closingPlace_38 rfl (lv_at hl 2 rfl) ?_
      refine lv_iconst (v := 2) hx hb dX3_closingPlace_39 (by decide) ?_
      refine lv_iadd hx hb dX3_closingPlace_40 ?_
      refine lv_goto (tgt := 45) hx hb dX3_closingPlace_41 rfl ?_
      cases hm
      exact zreti hx hb hr hlk hP hD hS dX3_closingPlace_45
end
set_option maxRecDepth 100000 in
set_option maxHeartbeats 4000000 in
theorem k_S_closingPlace (l : Launch) (D : va_G) (aY : Nat) (cy : ClassId) (sz : Nat) (a1 : Int32) (a2 : Int32) (y : Nat → Int32) (res : (Int32)) (hm : m_S_closingPlace a1 a2 y  = some res) : Met l yX3_closingPlace (Cond.code yX3_closingPlace cX3_closingPlace 3 (some .int) :: zBIG) (zR 0 0) (va_Pc [.ref aY, .int a1, .int a2] (zP zC D vwCl (wY_t cy) (wY aY cy y) sz)) (zQi D vwCl (wY aY cy y) (wY aY cy y) sz res) 0 0 (va_A (wY aY cy y) sz) := by
  refine zEnter RX3 [.ref aY, .int a1, .int a2] (by decide) rfl (Nat.le_of_ble_eq_true rfl) (fun p e s m below meth c ls G hK hX hP hD hsz hl => ?_)
  subst hsz
  unfold m_S_closingPlace at hm
  have hl : lv_has ls 3 [(0, .ref aY), (1, .int a1), (2, .int a2)] := hl
  have hS : va_S (va_A (wY aY cy y) s.heap.size) s.heap s.heap [] := va_S.rf
  have hA : ∀ q, s.heap.size ≤ q → va_A (wY aY cy y) s.heap.size q := fun q h => Or.inr h
  have G0 := G
  obtain ⟨hx, hb, hr, hml, hown, hw, hlk⟩ := G
  refine lv_iload_n hx hb dX3_closingPlace_0 rfl (lv_at hl 2 rfl) ?_
  refine lv_iconst (v := 1) hx hb dX3_closingPlace_1 (by decide) ?_
  refine lv_iadd hx hb dX3_closingPlace_2 ?_
  refine lv_iload_n hx hb dX3_closingPlace_3 rfl (lv_at hl 1 rfl) ?_
  refine lv_icmp_ge (tgt := 21) hx hb dX3_closingPlace_4 rfl (fun cd1 => ?_) (fun cd1 => ?_)
  · replace hm := zt cd1 hm
    exact b_S_closingPlace_21 G0 hK hX _ _ hm _ _ _ hP hD hS hl
  · replace hm := zf cd1 hm
    refine lv_aload_n hx hb dX3_closingPlace_7 rfl (lv_at hl 0 rfl) ?_
    refine lv_iload_n hx hb dX3_closingPlace_8 rfl (lv_at hl 2 rfl) ?_
    refine lv_iconst (v := 1) hx hb dX3_closingPlace_9 (by decide) ?_
    refine lv_iadd hx hb dX3_closingPlace_10 ?_
    obtain ⟨hi5, hm⟩ := zix_s hm
    refine va_iald (i := (a2 + 1)) (f := y) (n := 24) hx hb hK hP 0 0 rfl rfl hi5 dX3_closingPlace_11 ?_
    refine lv_bipush (v := 41) hx hb dX3_closingPlace_12 (by decide) ?_
    refine lv_icmp_ne (tgt := 21) hx hb dX3_closingPlace_14 rfl (fun cd6 => ?_) (fun cd6 => ?_)
    · replace hm := zf cd6 hm
      exact b_S_closingPlace_21 G0 hK hX _ _ hm _ _ _ hP hD hS hl
    · replace hm := zt cd6 hm
      refine lv_iload_n hx hb dX3_closingPlace_17 rfl (lv_at hl 2 rfl) ?_
      refine lv_iconst (v := 1) hx hb dX3_closingPlace_18 (by decide) ?_
      refine lv_iadd hx hb dX3_closingPlace_19 ?_
      cases hm
      exact zreti hx hb hr hlk hP hD hS dX3_closingPlace_20

theorem dX3_writtenNumber_0 : decode cX3_writtenNumber 0 = .ok (.iconst 0, 1) := by decide +kernel
theorem dX3_writtenNumber_1 : decode cX3_writtenNumber 1 = .ok (.istore_n 3, 1) := by decide +kernel
theorem dX3_writtenNumber_2 : decode cX3_writtenNumber 2 = .ok (.iload_n 1, 1) := by decide +kernel
theorem dX3_writtenNumber_3 : decode cX3_writtenNumber 3 = .ok (.istore 4, 2) := by decide +kernel
theorem dX3_writtenNumber_5 : decode cX3_writtenNumber 5 = .ok (.iload 4, 2) := by decide +kernel
theorem dX3_writtenNumber_7 : decode cX3_writtenNumber 7 = .ok (.iload_n 2, 1) := by decide +kernel
theorem dX3_writtenNumber_8 : decode cX3_writtenNumber 8 = .ok (.if_icmp .ge 34, 3) := by decide +kernel
theorem dX3_writtenNumber_11 : decode cX3_writtenNumber 11 = .ok (.aload_n 0, 1) := by decide +kernel
theorem dX3_writtenNumber_12 : decode cX3_writtenNumber 12 = .ok (.iload 4, 2) := by decide +kernel
theorem dX3_writtenNumber_14 : decode cX3_writtenNumber 14 = .ok (.iaload, 1) := by decide +kernel
theorem dX3_writtenNumber_15 : decode cX3_writtenNumber 15 = .ok (.invokestatic 33, 3) := by decide +kernel
theorem dX3_writtenNumber_18 : decode cX3_writtenNumber 18 = .ok (.ifCond .ne 5, 3) := by decide +kernel
theorem dX3_writtenNumber_21 : decode cX3_writtenNumber 21 = .ok (.iconst 0, 1) := by decide +kernel
theorem dX3_writtenNumber_22 : decode cX3_writtenNumber 22 = .ok (.ireturn, 1) := by decide +kernel
theorem dX3_writtenNumber_23 : decode cX3_writtenNumber 23 = .ok (.iload_n 3, 1) := by decide +kernel
theorem dX3_writtenNumber_24 : decode cX3_writtenNumber 24 = .ok (.bipush 10, 2) := by decide +kernel
theorem dX3_writtenNumber_26 : decode cX3_writtenNumber 26 = .ok (.imul, 1) := by decide +kernel
theorem dX3_writtenNumber_27 : decode cX3_writtenNumber 27 = .ok (.aload_n 0, 1) := by decide +kernel
theorem dX3_writtenNumber_28 : decode cX3_writtenNumber 28 = .ok (.iload 4, 2) := by decide +kernel
theorem dX3_writtenNumber_30 : decode cX3_writtenNumber 30 = .ok (.iaload, 1) := by decide +kernel
theorem dX3_writtenNumber_31 : decode cX3_writtenNumber 31 = .ok (.iadd, 1) := by decide +kernel
theorem dX3_writtenNumber_32 : decode cX3_writtenNumber 32 = .ok (.bipush 48, 2) := by decide +kernel
theorem dX3_writtenNumber_34 : decode cX3_writtenNumber 34 = .ok (.isub, 1) := by decide +kernel
theorem dX3_writtenNumber_35 : decode cX3_writtenNumber 35 = .ok (.istore_n 3, 1) := by decide +kernel
theorem dX3_writtenNumber_36 : decode cX3_writtenNumber 36 = .ok (.iinc 4 1, 3) := by decide +kernel
theorem dX3_writtenNumber_39 : decode cX3_writtenNumber 39 = .ok (.goto (-34), 3) := by decide +kernel
theorem dX3_writtenNumber_42 : decode cX3_writtenNumber 42 = .ok (.iload_n 3, 1) := by decide +kernel
theorem dX3_writtenNumber_43 : decode cX3_writtenNumber 43 = .ok (.ireturn, 1) := by decide +kernel
def m_S_writtenNumber_5b (y : Nat → Int32) (rec : Int32 → Int32 → Int32 → Option ((Int32))) (x2 : Int32) (x3 : Int32) (x4 : Int32)  : Option ((Int32)) := (if x2 ≤ x4 then (some x3) else zix x4 24 ((m_P_isDigit (y x4.toNatClampNeg)).bind (fun q3 => (if q3 = 0 then (some 0) else zix x4 24 (rec x2 (((x3 * 10) + (y x4.toNatClampNeg)) - 48) (x4 + 1))))))
def m_S_writtenNumber_5 (y : Nat → Int32) : Nat → Int32 → Int32 → Int32 → Option ((Int32))
  | 0 => fun _ _ _ => none
  | n + 1 => fun x2 x3 x4 => m_S_writtenNumber_5b y (m_S_writtenNumber_5 y n) x2 x3 x4
def m_S_writtenNumber (a1 : Int32) (a2 : Int32) (y : Nat → Int32)  : Option ((Int32)) := m_S_writtenNumber_5 y 64 a2 0 a1
section
variable {p : Program} {l : Launch} {e : Env} {s : State} {m : MethodId} {args : Array Value} {below : List Frame} {meth : Method} {c : Code} {D : va_G} {w0 : va_W} {aY : Nat} {cy : ClassId} {y : Nat → Int32}
set_option maxRecDepth 100000 in
set_option maxHeartbeats 4000000 in
theorem b_S_writtenNumber_5 (G : zG p s m args meth c cX3_writtenNumber RX3 5 (some .int)) (hK : va_K D vwCl (wY_t cy) s) (hX : zC (va_A w0 s.heap.size) s) {res : (Int32)} : ∀ n : Nat, ∀ (x2 : Int32) (x3 : Int32) (x4 : Int32), m_S_writtenNumber_5 y n x2 x3 x4 = some res → zB p l e (zR 1 20) s m args below meth c D vwCl (va_A w0 s.heap.size) (MQ below (zQi D vwCl w0 (wY aY cy y) s.heap.size res) args s 0 0 (va_A w0 s.heap.size)) 5 (wY aY cy y) [(0, .ref aY), (2, .int x2), (3, .int x3), (4, .int x4)] 5 [] := by
  intro n
  induction n with
  | zero => intro x2 x3 x4 hm; cases hm
  | succ n ih =>
  have hrec := ih
  intro x2 x3 x4 hm H locs ls hP hD hS hl
  replace hm : m_S_writtenNumber_5b y (m_S_writtenNumber_5 y n) x2 x3 x4 = some res := hm
  generalize m_S_writtenNumber_5 y n = rec at hm hrec
  unfold m_S_writtenNumber_5b at hm
  clear ih
  have G0 := G
  obtain ⟨hx, hb, hr, hml, hown, hw, hlk⟩ := G
  have hA : ∀ q, s.heap.size ≤ q → va_A w0 s.heap.size q := fun q h => Or.inr h
  refine lv_iload hx hb dX3_writtenNumber_5 (lv_at hl 3 rfl) ?_
  refine lv_iload_n hx hb dX3_writtenNumber_7 rfl (lv_at hl 1 rfl) ?_
  refine lv_icmp_ge (tgt := 42) hx hb dX3_writtenNumber_8 rfl (fun cd1 => ?_) (fun cd1 => ?_)
  · replace hm := zt cd1 hm
    refine lv_iload_n hx hb dX3_writtenNumber_42 rfl (lv_at hl 2 rfl) ?_
    cases hm
    exact zreti hx hb hr hlk hP hD hS dX3_writtenNumber_43
  · replace hm := zf cd1 hm
    refine lv_aload_n hx hb dX3_writtenNumber_11 rfl (lv_at hl 0 rfl) ?_
    refine lv_iload hx hb dX3_writtenNumber_12 (lv_at hl 3 rfl) ?_
    obtain ⟨hi2, hm⟩ := zix_s hm
    refine va_iald (i := x4) (f := y) (n := 24) hx hb hK hP 0 0 rfl rfl hi2 dX3_writtenNumber_14 ?_
    obtain ⟨q3, hq3, hm⟩ := zbind hm
    refine zb0i (va_runSN (As := [.int (y x4.toNatClampNeg)]) (rest := []) ⟨hx, hb, hml, hown, hw⟩ (k_P_isDigit l D  _ (y x4.toNatClampNeg)  q3 hq3) ⟨va_cnB 1 hw (zgood zw175) rfl rfl rfl (hX.1 _ zn0) (hw _ zw176) hdX5_isDigit ⟨Nat.le_of_ble_eq_true rfl, Nat.le_of_ble_eq_true rfl⟩, hw _ zw177, trivial⟩ (zpre zN_ok trivial hS (zfree0 hS hA) zP0 (hK.sub (tys' := []) [] rfl) zD0) rfl rfl hl.1 rfl (lv_room (Nat.le_of_ble_eq_true rfl)) dX3_writtenNumber_15 ⟨Nat.zero_le _, Nat.zero_le _⟩) hP hD hS (zfree0 hS hA) (fun H locs hP hD hS => ?_)
    refine lv_if_ne (tgt := 23) hx hb dX3_writtenNumber_18 rfl (fun cd4 => ?_) (fun cd4 => ?_)
    · replace hm := zf cd4 hm
      refine lv_iload_n hx hb dX3_writtenNumber_23 rfl (lv_at hl 2 rfl) ?_
      refine lv_bipush (v := 10) hx hb dX3_writtenNumber_24 (by decide) ?_
      refine lv_imul hx hb dX3_writtenNumber_26 ?_
      refine lv_aload_n hx hb dX3_writtenNumber_27 rfl (lv_at hl 0 rfl) ?_
      refine lv_iload hx hb dX3_writtenNumber_28 (lv_at hl 3 rfl) ?_
      obtain ⟨hi5, hm⟩ := zix_s hm
      refine va_iald (i := x4) (f := y) (n := 24) hx hb hK hP 0 0 rfl rfl hi5 dX3_writtenNumber_30 ?_
      refine lv_iadd hx hb dX3_writtenNumber_31 ?_
      refine lv_bipush (v := 48) hx hb dX3_writtenNumber_32 (by decide) ?_
      refine lv_isub hx hb dX3_writtenNumber_34 ?_
      refine lv_istore_n (lv' := [(3, .int (((x3 * 10) + (y x4.toNatClampNeg)) - 48)), (0, .ref aY), (2, .int x2), (4, .int x4)]) hx hb dX3_writtenNumber_35 rfl hl (by decide) rfl (fun ls hl => ?_)
      refine lv_iinc (k := 3) (v := (x4 + 1)) (lv' := [(4, .int (x4 + 1)), (3, .int (((x3 * 10) + (y x4.toNatClampNeg)) - 48)), (0, .ref aY), (2, .int x2)]) hx hb dX3_writtenNumber_36 hl rfl rfl (by decide) rfl (fun ls hl => ?_)
      refine lv_goto (tgt := 5) hx hb dX3_writtenNumber_39 rfl ?_
      exact hrec _ _ _ hm H _ _ hP hD hS (lv_sub hl [2, 3, 1, 0] rfl)
    · replace hm := zt cd4 hm
      refine lv_iconst (v := 0) hx hb dX3_writtenNumber_21 (by decide) ?_
      cases hm
      exact zreti hx hb hr hlk hP hD hS dX3_writtenNumber_22
end
set_option maxRecDepth 100000 in
set_option maxHeartbeats 4000000 in
theorem k_S_writtenNumber (l : Launch) (D : va_G) (aY : Nat) (cy : ClassId) (sz : Nat) (a1 : Int32) (a2 : Int32) (y : Nat → Int32) (res : (Int32)) (hm : m_S_writtenNumber a1 a2 y  = some res) : Met l yX3_writtenNumber (Cond.code yX3_writtenNumber cX3_writtenNumber 5 (some .int) :: zBIG) (zR 1 20) (va_Pc [.ref aY, .int a1, .int a2] (zP zC D vwCl (wY_t cy) (wY aY cy y) sz)) (zQi D vwCl (wY aY cy y) (wY aY cy y) sz res) 0 0 (va_A (wY aY cy y) sz) := by
  refine zEnter RX3 [.ref aY, .int a1, .int a2] (by decide) rfl (Nat.le_of_ble_eq_true rfl) (fun p e s m below meth c ls G hK hX hP hD hsz hl => ?_)
  subst hsz
  unfold m_S_writtenNumber at hm
  have hl : lv_has ls 5 [(0, .ref aY), (1, .int a1), (2, .int a2)] := hl
  have hS : va_S (va_A (wY aY cy y) s.heap.size) s.heap s.heap [] := va_S.rf
  have hA : ∀ q, s.heap.size ≤ q → va_A (wY aY cy y) s.heap.size q := fun q h => Or.inr h
  have G0 := G
  obtain ⟨hx, hb, hr, hml, hown, hw, hlk⟩ := G
  refine lv_iconst (v := 0) hx hb dX3_writtenNumber_0 (by decide) ?_
  refine lv_istore_n (lv' := [(3, .int 0), (0, .ref aY), (1, .int a1), (2, .int a2)]) hx hb dX3_writtenNumber_1 rfl hl (by decide) rfl (fun ls hl => ?_)
  refine lv_iload_n hx hb dX3_writtenNumber_2 rfl (lv_at hl 2 rfl) ?_
  refine lv_istore (lv' := [(4, .int a1), (3, .int 0), (0, .ref aY), (1, .int a1), (2, .int a2)]) hx hb dX3_writtenNumber_3 hl (by decide) rfl (fun ls hl => ?_)
  exact b_S_writtenNumber_5 G0 hK hX 64 _ _ _ hm _ _ _ hP hD hS (lv_sub hl [2, 4, 1, 0] rfl)

theorem dX3_expandOne_0 : decode cX3_expandOne 0 = .ok (.aload_n 1, 1) := by decide +kernel
theorem dX3_expandOne_1 : decode cX3_expandOne 1 = .ok (.iload_n 3, 1) := by decide +kernel
theorem dX3_expandOne_2 : decode cX3_expandOne 2 = .ok (.iaload, 1) := by decide +kernel
theorem dX3_expandOne_3 : decode cX3_expandOne 3 = .ok (.istore 4, 2) := by decide +kernel
theorem dX3_expandOne_5 : decode cX3_expandOne 5 = .ok (.iload_n 3, 1) := by decide +kernel
theorem dX3_expandOne_6 : decode cX3_expandOne 6 = .ok (.iconst 1, 1) := by decide +kernel
theorem dX3_expandOne_7 : decode cX3_expandOne 7 = .ok (.iadd, 1) := by decide +kernel
theorem dX3_expandOne_8 : decode cX3_expandOne 8 = .ok (.iload_n 2, 1) := by decide +kernel
theorem dX3_expandOne_9 : decode cX3_expandOne 9 = .ok (.if_icmp .ge 11, 3) := by decide +kernel
theorem dX3_expandOne_12 : decode cX3_expandOne 12 = .ok (.aload_n 1, 1) := by decide +kernel
theorem dX3_expandOne_13 : decode cX3_expandOne 13 = .ok (.iload_n 3, 1) := by decide +kernel
theorem dX3_expandOne_14 : decode cX3_expandOne 14 = .ok (.iconst 1, 1) := by decide +kernel
theorem dX3_expandOne_15 : decode cX3_expandOne 15 = .ok (.iadd, 1) := by decide +kernel
theorem dX3_expandOne_16 : decode cX3_expandOne 16 = .ok (.iaload, 1) := by decide +kernel
theorem dX3_expandOne_17 : decode cX3_expandOne 17 = .ok (.goto 4, 3) := by decide +kernel
theorem dX3_expandOne_20 : decode cX3_expandOne 20 = .ok (.iconst (-1), 1) := by decide +kernel
theorem dX3_expandOne_21 : decode cX3_expandOne 21 = .ok (.istore 5, 2) := by decide +kernel
theorem dX3_expandOne_23 : decode cX3_expandOne 23 = .ok (.iload 4, 2) := by decide +kernel
theorem dX3_expandOne_25 : decode cX3_expandOne 25 = .ok (.bipush 67, 2) := by decide +kernel
theorem dX3_expandOne_27 : decode cX3_expandOne 27 = .ok (.if_icmp .eq 10, 3) := by decide +kernel
theorem dX3_expandOne_30 : decode cX3_expandOne 30 = .ok (.iload 4, 2) := by decide +kernel
theorem dX3_expandOne_32 : decode cX3_expandOne 32 = .ok (.bipush 68, 2) := by decide +kernel
theorem dX3_expandOne_34 : decode cX3_expandOne 34 = .ok (.if_icmp .ne 44, 3) := by decide +kernel
theorem dX3_expandOne_37 : decode cX3_expandOne 37 = .ok (.iload 4, 2) := by decide +kernel
theorem dX3_expandOne_39 : decode cX3_expandOne 39 = .ok (.bipush 67, 2) := by decide +kernel
theorem dX3_expandOne_41 : decode cX3_expandOne 41 = .ok (.if_icmp .ne 8, 3) := by decide +kernel
theorem dX3_expandOne_44 : decode cX3_expandOne 44 = .ok (.bipush 82, 2) := by decide +kernel
theorem dX3_expandOne_46 : decode cX3_expandOne 46 = .ok (.goto 5, 3) := by decide +kernel
theorem dX3_expandOne_49 : decode cX3_expandOne 49 = .ok (.bipush 66, 2) := by decide +kernel
theorem dX3_expandOne_51 : decode cX3_expandOne 51 = .ok (.istore 6, 2) := by decide +kernel
theorem dX3_expandOne_53 : decode cX3_expandOne 53 = .ok (.iload 5, 2) := by decide +kernel
theorem dX3_expandOne_55 : decode cX3_expandOne 55 = .ok (.iload 6, 2) := by decide +kernel
theorem dX3_expandOne_57 : decode cX3_expandOne 57 = .ok (.if_icmp .ne 19, 3) := by decide +kernel
theorem dX3_expandOne_60 : decode cX3_expandOne 60 = .ok (.aload_n 0, 1) := by decide +kernel
theorem dX3_expandOne_61 : decode cX3_expandOne 61 = .ok (.iload 4, 2) := by decide +kernel
theorem dX3_expandOne_63 : decode cX3_expandOne 63 = .ok (.iconst 1, 1) := by decide +kernel
theorem dX3_expandOne_64 : decode cX3_expandOne 64 = .ok (.invokevirtual 23, 3) := by decide +kernel
theorem dX3_expandOne_67 : decode cX3_expandOne 67 = .ok (.ifCond .eq 9, 3) := by decide +kernel
theorem dX3_expandOne_70 : decode cX3_expandOne 70 = .ok (.iload_n 3, 1) := by decide +kernel
theorem dX3_expandOne_71 : decode cX3_expandOne 71 = .ok (.iconst 2, 1) := by decide +kernel
theorem dX3_expandOne_72 : decode cX3_expandOne 72 = .ok (.iadd, 1) := by decide +kernel
theorem dX3_expandOne_73 : decode cX3_expandOne 73 = .ok (.goto 4, 3) := by decide +kernel
theorem dX3_expandOne_76 : decode cX3_expandOne 76 = .ok (.iconst (-1), 1) := by decide +kernel
theorem dX3_expandOne_77 : decode cX3_expandOne 77 = .ok (.ireturn, 1) := by decide +kernel
theorem dX3_expandOne_78 : decode cX3_expandOne 78 = .ok (.iload 5, 2) := by decide +kernel
theorem dX3_expandOne_80 : decode cX3_expandOne 80 = .ok (.bipush 40, 2) := by decide +kernel
theorem dX3_expandOne_82 : decode cX3_expandOne 82 = .ok (.if_icmp .eq 21, 3) := by decide +kernel
theorem dX3_expandOne_85 : decode cX3_expandOne 85 = .ok (.aload_n 0, 1) := by decide +kernel
theorem dX3_expandOne_86 : decode cX3_expandOne 86 = .ok (.iload 4, 2) := by decide +kernel
theorem dX3_expandOne_88 : decode cX3_expandOne 88 = .ok (.iconst 1, 1) := by decide +kernel
theorem dX3_expandOne_89 : decode cX3_expandOne 89 = .ok (.invokevirtual 23, 3) := by decide +kernel
theorem dX3_expandOne_92 : decode cX3_expandOne 92 = .ok (.ifCond .eq 9, 3) := by decide +kernel
theorem dX3_expandOne_95 : decode cX3_expandOne 95 = .ok (.iload_n 3, 1) := by decide +kernel
theorem dX3_expandOne_96 : decode cX3_expandOne 96 = .ok (.iconst 1, 1) := by decide +kernel
theorem dX3_expandOne_97 : decode cX3_expandOne 97 = .ok (.iadd, 1) := by decide +kernel
theorem dX3_expandOne_98 : decode cX3_expandOne 98 = .ok (.goto 4, 3) := by decide +kernel
theorem dX3_expandOne_101 : decode cX3_expandOne 101 = .ok (.iconst (-1), 1) := by decide +kernel
theorem dX3_expandOne_102 : decode cX3_expandOne 102 = .ok (.ireturn, 1) := by decide +kernel
theorem dX3_expandOne_103 : decode cX3_expandOne 103 = .ok (.aload_n 1, 1) := by decide +kernel
theorem dX3_expandOne_104 : decode cX3_expandOne 104 = .ok (.iload_n 2, 1) := by decide +kernel
theorem dX3_expandOne_105 : decode cX3_expandOne 105 = .ok (.iload_n 3, 1) := by decide +kernel
theorem dX3_expandOne_106 : decode cX3_expandOne 106 = .ok (.iconst 2, 1) := by decide +kernel
theorem dX3_expandOne_107 : decode cX3_expandOne 107 = .ok (.iadd, 1) := by decide +kernel
theorem dX3_expandOne_108 : decode cX3_expandOne 108 = .ok (.invokestatic 27, 3) := by decide +kernel
theorem dX3_expandOne_111 : decode cX3_expandOne 111 = .ok (.istore 6, 2) := by decide +kernel
theorem dX3_expandOne_113 : decode cX3_expandOne 113 = .ok (.iload 6, 2) := by decide +kernel
theorem dX3_expandOne_115 : decode cX3_expandOne 115 = .ok (.iconst (-1), 1) := by decide +kernel
theorem dX3_expandOne_116 : decode cX3_expandOne 116 = .ok (.if_icmp .ne 5, 3) := by decide +kernel
theorem dX3_expandOne_119 : decode cX3_expandOne 119 = .ok (.iconst (-1), 1) := by decide +kernel
theorem dX3_expandOne_120 : decode cX3_expandOne 120 = .ok (.ireturn, 1) := by decide +kernel
theorem dX3_expandOne_121 : decode cX3_expandOne 121 = .ok (.aload_n 0, 1) := by decide +kernel
theorem dX3_expandOne_122 : decode cX3_expandOne 122 = .ok (.iload 4, 2) := by decide +kernel
theorem dX3_expandOne_124 : decode cX3_expandOne 124 = .ok (.aload_n 1, 1) := by decide +kernel
theorem dX3_expandOne_125 : decode cX3_expandOne 125 = .ok (.iload_n 3, 1) := by decide +kernel
theorem dX3_expandOne_126 : decode cX3_expandOne 126 = .ok (.iconst 2, 1) := by decide +kernel
theorem dX3_expandOne_127 : decode cX3_expandOne 127 = .ok (.iadd, 1) := by decide +kernel
theorem dX3_expandOne_128 : decode cX3_expandOne 128 = .ok (.iload 6, 2) := by decide +kernel
theorem dX3_expandOne_130 : decode cX3_expandOne 130 = .ok (.invokestatic 30, 3) := by decide +kernel
theorem dX3_expandOne_133 : decode cX3_expandOne 133 = .ok (.invokevirtual 23, 3) := by decide +kernel
theorem dX3_expandOne_136 : decode cX3_expandOne 136 = .ok (.ifCond .eq 10, 3) := by decide +kernel
theorem dX3_expandOne_139 : decode cX3_expandOne 139 = .ok (.iload 6, 2) := by decide +kernel
theorem dX3_expandOne_141 : decode cX3_expandOne 141 = .ok (.iconst 1, 1) := by decide +kernel
theorem dX3_expandOne_142 : decode cX3_expandOne 142 = .ok (.iadd, 1) := by decide +kernel
theorem dX3_expandOne_143 : decode cX3_expandOne 143 = .ok (.goto 4, 3) := by decide +kernel
theorem dX3_expandOne_146 : decode cX3_expandOne 146 = .ok (.iconst (-1), 1) := by decide +kernel
theorem dX3_expandOne_147 : decode cX3_expandOne 147 = .ok (.ireturn, 1) := by decide +kernel
def m_S_expandOne_51 (y : Nat → Int32) (x3 : Int32) (x4 : Int32) (x5 : Int32) (t0 : Int32) (sv : Nat → Int32) (sr : Nat → Int32) : Option ((Int32) × (Nat → Int32) × (Nat → Int32)) := (if x5 = t0 then (m_S_append x4 1 sv sr).bind (fun q6 => (if q6.1 = 0 then (some ((-1), q6.2.1, q6.2.2)) else (some ((x3 + 2), q6.2.1, q6.2.2)))) else (some ((-1), sv, sr)))
def m_S_expandOne_37 (y : Nat → Int32) (x3 : Int32) (x4 : Int32) (x5 : Int32) (sv : Nat → Int32) (sr : Nat → Int32) : Option ((Int32) × (Nat → Int32) × (Nat → Int32)) := (if x4 = 67 then m_S_expandOne_51 y x3 x4 x5 82 sv sr else m_S_expandOne_51 y x3 x4 x5 66 sv sr)
def m_S_expandOne_21 (y : Nat → Int32) (x2 : Int32) (x3 : Int32) (x4 : Int32) (t0 : Int32) (sv : Nat → Int32) (sr : Nat → Int32) : Option ((Int32) × (Nat → Int32) × (Nat → Int32)) := (if x4 = 67 then m_S_expandOne_37 y x3 x4 t0 sv sr else (if x4 = 68 then m_S_expandOne_37 y x3 x4 t0 sv sr else (if t0 = 40 then (m_S_closingPlace x2 (x3 + 2) y).bind (fun q10 => (if q10 = (-1) then (some ((-1), sv, sr)) else (m_S_writtenNumber (x3 + 2) q10 y).bind (fun q12 => (m_S_append x4 q12 sv sr).bind (fun q13 => (if q13.1 = 0 then (some ((-1), q13.2.1, q13.2.2)) else (some ((q10 + 1), q13.2.1, q13.2.2))))))) else (m_S_append x4 1 sv sr).bind (fun q15 => (if q15.1 = 0 then (some ((-1), q15.2.1, q15.2.2)) else (some ((x3 + 1), q15.2.1, q15.2.2)))))))
def m_S_expandOne (a1 : Int32) (a2 : Int32) (sv : Nat → Int32) (sr : Nat → Int32) (y : Nat → Int32)  : Option ((Int32) × (Nat → Int32) × (Nat → Int32)) := zix a2 24 ((if a1 ≤ (a2 + 1) then m_S_expandOne_21 y a1 a2 (y a2.toNatClampNeg) (-1) sv sr else zix (a2 + 1) 24 (m_S_expandOne_21 y a1 a2 (y a2.toNatClampNeg) (y (a2 + 1).toNatClampNeg) sv sr)))
section
variable {p : Program} {l : Launch} {e : Env} {s : State} {m : MethodId} {args : Array Value} {below : List Frame} {meth : Method} {c : Code} {D : va_G} {w0 : va_W} {aS rS aY : Nat} {cs cy : ClassId} {y : Nat → Int32}
set_option maxRecDepth 100000 in
set_option maxHeartbeats 4000000 in
theorem b_S_expandOne_51 (G : zG p s m args meth c cX3_expandOne RX3 7 (some .int)) (hK : va_K D vwCl (wSY_t cs cy) s) (hX : zC (va_A w0 s.heap.size) s) {res : (Int32) × (Nat → Int32) × (Nat → Int32)} : ∀ (x3 : Int32) (x4 : Int32) (x5 : Int32) (t0 : Int32) (sv : Nat → Int32) (sr : Nat → Int32), m_S_expandOne_51 y x3 x4 x5 t0 sv sr = some res → zB p l e (zR 2 44) s m args below meth c D vwCl (va_A w0 s.heap.size) (MQ below (zQi D vwCl w0 (wSY aS rS aY cs cy res.2.1 res.2.2 y) s.heap.size res.1) args s 0 0 (va_A w0 s.heap.size)) 7 (wSY aS rS aY cs cy sv sr y) [(0, .ref aS), (3, .int x3), (4, .int x4), (5, .int x5)] 51 [.int t0] := by
  intro x3 x4 x5 t0 sv sr hm H locs ls hP hD hS hl
  unfold m_S_expandOne_51 at hm
  have G0 := G
  obtain ⟨hx, hb, hr, hml, hown, hw, hlk⟩ := G
  have hA : ∀ q, s.heap.size ≤ q → va_A w0 s.heap.size q := fun q h => Or.inr h
  refine lv_istore (lv' := [(6, .int t0), (0, .ref aS), (3, .int x3), (4, .int x4), (5, .int x5)]) hx hb dX3_expandOne_51 hl (by decide) rfl (fun ls hl => ?_)
  refine lv_iload hx hb dX3_expandOne_53 (lv_at hl 4 rfl) ?_
  refine lv_iload hx hb dX3_expandOne_55 (lv_at hl 0 rfl) ?_
  refine lv_icmp_ne (tgt := 76) hx hb dX3_expandOne_57 rfl (fun cd5 => ?_) (fun cd5 => ?_)
  · replace hm := zf cd5 hm
    refine lv_iconst (v := (-1)) hx hb dX3_expandOne_76 (by decide) ?_
    cases hm
    exact zreti hx hb hr hlk hP hD hS dX3_expandOne_77
  · replace hm := zt cd5 hm
    refine lv_aload_n hx hb dX3_expandOne_60 rfl (lv_at hl 1 rfl) ?_
    refine lv_iload hx hb dX3_expandOne_61 (lv_at hl 3 rfl) ?_
    refine lv_iconst (v := 1) hx hb dX3_expandOne_63 (by decide) ?_
    obtain ⟨q6, hq6, hm⟩ := zbind hm
    have hPc := hP.sub (ws' := (wS aS rS cs sv sr)) [0, 1] rfl
    have hDc := hD.sub (ws' := (wS aS rS cs sv sr)) [0, 1] (by decide) rfl
    have hKc := hK.sub (tys' := wS_t cs) [0] rfl
    have hFc := va_free (wc := (wS aS rS cs sv sr)) hD hS hA [0, 1] rfl
    refine zbSi (wr := [(aY, .inl (cy, 24, .inl y))]) (w1 := (wS aS rS cs q6.2.1 q6.2.2)) (w' := (wSY aS rS aY cs cy q6.2.1 q6.2.2 y)) (va_runV (As := [.int x4, .int 1]) (rest := []) ⟨hx, hb, hml, hown, hw⟩ (k_S_append l D aS rS cs _ x4 1 sv sr  q6 hq6) (zcV (C := RX3) 2 hw (zgood zw178) rfl rfl rfl zw179 zw181 zw180 zw182 hdX3_append ⟨Nat.le_of_ble_eq_true rfl, Nat.le_of_ble_eq_true rfl⟩) (zpreV (zpre zC_ok hX hS hFc hPc hKc hDc) (va_recv hK hP rfl (q0 := 0) rfl)) rfl rfl hl.1 rfl (lv_room (Nat.le_of_ble_eq_true rfl)) dX3_expandOne_64 ⟨Nat.zero_le _, Nat.zero_le _⟩) hP hD hS hFc [0, 1] [2] [1, 2, 0] rfl rfl (by decide) (by decide) rfl (by decide) (fun H locs hP hD hS => ?_)
    refine lv_if_eq (tgt := 76) hx hb dX3_expandOne_67 rfl (fun cd7 => ?_) (fun cd7 => ?_)
    · replace hm := zt cd7 hm
      refine lv_iconst (v := (-1)) hx hb dX3_expandOne_76 (by decide) ?_
      cases hm
      exact zreti hx hb hr hlk hP hD hS dX3_expandOne_77
    · replace hm := zf cd7 hm
      refine lv_iload_n hx hb dX3_expandOne_70 rfl (lv_at hl 2 rfl) ?_
      refine lv_iconst (v := 2) hx hb dX3_expandOne_71 (by decide) ?_
      refine lv_iadd hx hb dX3_expandOne_72 ?_
      refine lv_goto (tgt := 77) hx hb dX3_expandOne_73 rfl ?_
      cases hm
      exact zreti hx hb hr hlk hP hD hS dX3_expandOne_77
set_option maxRecDepth 100000 in
set_option maxHeartbeats 4000000 in
theorem b_S_expandOne_37 (G : zG p s m args meth c cX3_expandOne RX3 7 (some .int)) (hK : va_K D vwCl (wSY_t cs cy) s) (hX : zC (va_A w0 s.heap.size) s) {res : (Int32) × (Nat → Int32) × (Nat → Int32)} : ∀ (x3 : Int32) (x4 : Int32) (x5 : Int32) (sv : Nat → Int32) (sr : Nat → Int32), m_S_expandOne_37 y x3 x4 x5 sv sr = some res → zB p l e (zR 2 44) s m args below meth c D vwCl (va_A w0 s.heap.size) (MQ below (zQi D vwCl w0 (wSY aS rS aY cs cy res.2.1 res.2.2 y) s.heap.size res.1) args s 0 0 (va_A w0 s.heap.size)) 7 (wSY aS rS aY cs cy sv sr y) [(0, .ref aS), (3, .int x3), (4, .int x4), (5, .int x5)] 37 [] := by
  intro x3 x4 x5 sv sr hm H locs ls hP hD hS hl
  unfold m_S_expandOne_37 at hm
  have G0 := G
  obtain ⟨hx, hb, hr, hml, hown, hw, hlk⟩ := G
  have hA : ∀ q, s.heap.size ≤ q → va_A w0 s.heap.size q := fun q h => Or.inr h
  refine lv_iload hx hb dX3_expandOne_37 (lv_at hl 2 rfl) ?_
  refine lv_bipush (v := 67) hx hb dX3_expandOne_39 (by decide) ?_
  refine lv_icmp_ne (tgt := 49) hx hb dX3_expandOne_41 rfl (fun cd4 => ?_) (fun cd4 => ?_)
  · replace hm := zf cd4 hm
    refine lv_bipush (v := 66) hx hb dX3_expandOne_49 (by decide) ?_
    exact b_S_expandOne_51 G0 hK hX _ _ _ _ _ _ hm H _ _ hP hD hS hl
  · replace hm := zt cd4 hm
    refine lv_bipush (v := 82) hx hb dX3_expandOne_44 (by decide) ?_
    refine lv_goto (tgt := 51) hx hb dX3_expandOne_46 rfl ?_
    exact b_S_expandOne_51 G0 hK hX _ _ _ _ _ _ hm H _ _ hP hD hS hl
set_option maxRecDepth 100000 in
set_option maxHeartbeats 4000000 in
theorem b_S_expandOne_21 (G : zG p s m args meth c cX3_expandOne RX3 7 (some .int)) (hK : va_K D vwCl (wSY_t cs cy) s) (hX : zC (va_A w0 s.heap.size) s) {res : (Int32) × (Nat → Int32) × (Nat → Int32)} : ∀ (x2 : Int32) (x3 : Int32) (x4 : Int32) (t0 : Int32) (sv : Nat → Int32) (sr : Nat → Int32), m_S_expandOne_21 y x2 x3 x4 t0 sv sr = some res → zB p l e (zR 2 44) s m args below meth c D vwCl (va_A w0 s.heap.size) (MQ below (zQi D vwCl w0 (wSY aS rS aY cs cy res.2.1 res.2.2 y) s.heap.size res.1) args s 0 0 (va_A w0 s.heap.size)) 7 (wSY aS rS aY cs cy sv sr y) [(0, .ref aS), (1, .ref aY), (2, .int x2), (3, .int x3), (4, .int x4)] 21 [.int t0] := by
  intro x2 x3 x4 t0 sv sr hm H locs ls hP hD hS hl
  unfold m_S_expandOne_21 at hm
  have G0 := G
  obtain ⟨hx, hb, hr, hml, hown, hw, hlk⟩ := G
  have hA : ∀ q, s.heap.size ≤ q → va_A w0 s.heap.size q := fun q h => Or.inr h
  refine lv_istore (lv' := [(5, .int t0), (0, .ref aS), (1, .ref aY), (2, .int x2), (3, .int x3), (4, .int x4)]) hx hb dX3_expandOne_21 hl (by decide) rfl (fun ls hl => ?_)
  refine lv_iload hx hb dX3_expandOne_23 (lv_at hl 5 rfl) ?_
  refine lv_bipush (v := 67) hx hb dX3_expandOne_25 (by decide) ?_
  refine lv_icmp_eq (tgt := 37) hx hb dX3_expandOne_27 rfl (fun cd3 => ?_) (fun cd3 => ?_)
  · replace hm := zt cd3 hm
    exact b_S_expandOne_37 G0 hK hX _ _ _ _ _ hm H _ _ hP hD hS (lv_sub hl [1, 4, 5, 0] rfl)
  · replace hm := zf cd3 hm
    refine lv_iload hx hb dX3_expandOne_30 (lv_at hl 5 rfl) ?_
    refine lv_bipush (v := 68) hx hb dX3_expandOne_32 (by decide) ?_
    refine lv_icmp_ne (tgt := 78) hx hb dX3_expandOne_34 rfl (fun cd8 => ?_) (fun cd8 => ?_)
    · replace hm := zf cd8 hm
      refine lv_iload hx hb dX3_expandOne_78 (lv_at hl 0 rfl) ?_
      refine lv_bipush (v := 40) hx hb dX3_expandOne_80 (by decide) ?_
      refine lv_icmp_eq (tgt := 103) hx hb dX3_expandOne_82 rfl (fun cd9 => ?_) (fun cd9 => ?_)
      · replace hm := zt cd9 hm
        refine lv_aload_n hx hb dX3_expandOne_103 rfl (lv_at hl 2 rfl) ?_
        refine lv_iload_n hx hb dX3_expandOne_104 rfl (lv_at hl 3 rfl) ?_
        refine lv_iload_n hx hb dX3_expandOne_105 rfl (lv_at hl 4 rfl) ?_
        refine lv_iconst (v := 2) hx hb dX3_expandOne_106 (by decide) ?_
        refine lv_iadd hx hb dX3_expandOne_107 ?_
        obtain ⟨q10, hq10, hm⟩ := zbind hm
        have hPc := hP.sub (ws' := (wY aY cy y)) [2] rfl
        have hDc := hD.sub (ws' := (wY aY cy y)) [2] (by decide) rfl
        have hKc := hK.sub (tys' := wY_t cy) [1] rfl
        have hFc := va_free (wc := (wY aY cy y)) hD hS hA [2] rfl
        refine zbSi (wr := [(aS, .inr (2, [.ref rS, .int (sv 1)])), (rS, .inl (cs, 24, .inl sr))]) (w1 := (wY aY cy y)) (w' := (wSY aS rS aY cs cy sv sr y)) (va_runS (As := [.ref aY, .int x2, .int (x3 + 2)]) (rest := []) ⟨hx, hb, hml, hown, hw⟩ (k_S_closingPlace l D aY cy _ x2 (x3 + 2) y  q10 hq10) ⟨zcB 3 hw (zgood zw183) rfl rfl rfl zw179 zw185 hdX3_closingPlace ⟨Nat.le_of_ble_eq_true rfl, Nat.le_of_ble_eq_true rfl⟩, hw _ zw184⟩ (zpre zC_ok hX hS hFc hPc hKc hDc) rfl rfl hl.1 rfl (lv_room (Nat.le_of_ble_eq_true rfl)) dX3_expandOne_108 ⟨Nat.zero_le _, Nat.zero_le _⟩) hP hD hS hFc [2] [0, 1] [0, 1, 2] rfl rfl (by decide) (by decide) rfl (by decide) (fun H locs hP hD hS => ?_)
        refine lv_istore (lv' := [(6, .int q10), (5, .int t0), (0, .ref aS), (1, .ref aY), (2, .int x2), (3, .int x3), (4, .int x4)]) hx hb dX3_expandOne_111 hl (by decide) rfl (fun ls hl => ?_)
        refine lv_iload hx hb dX3_expandOne_113 (lv_at hl 0 rfl) ?_
        refine lv_iconst (v := (-1)) hx hb dX3_expandOne_115 (by decide) ?_
        refine lv_icmp_ne (tgt := 121) hx hb dX3_expandOne_116 rfl (fun cd11 => ?_) (fun cd11 => ?_)
        · replace hm := zf cd11 hm
          refine lv_aload_n hx hb dX3_expandOne_121 rfl (lv_at hl 2 rfl) ?_
          refine lv_iload hx hb dX3_expandOne_122 (lv_at hl 6 rfl) ?_
          refine lv_aload_n hx hb dX3_expandOne_124 rfl (lv_at hl 3 rfl) ?_
          refine lv_iload_n hx hb dX3_expandOne_125 rfl (lv_at hl 5 rfl) ?_
          refine lv_iconst (v := 2) hx hb dX3_expandOne_126 (by decide) ?_
          refine lv_iadd hx hb dX3_expandOne_127 ?_
          refine lv_iload hx hb dX3_expandOne_128 (lv_at hl 0 rfl) ?_
          obtain ⟨q12, hq12, hm⟩ := zbind hm
          have hPc := hP.sub (ws' := (wY aY cy y)) [2] rfl
          have hDc := hD.sub (ws' := (wY aY cy y)) [2] (by decide) rfl
          have hKc := hK.sub (tys' := wY_t cy) [1] rfl
          have hFc := va_free (wc := (wY aY cy y)) hD hS hA [2] rfl
          refine zbSi (wr := [(aS, .inr (2, [.ref rS, .int (sv 1)])), (rS, .inl (cs, 24, .inl sr))]) (w1 := (wY aY cy y)) (w' := (wSY aS rS aY cs cy sv sr y)) (va_runS (As := [.ref aY, .int (x3 + 2), .int q10]) (rest := [.int x4, .ref aS]) ⟨hx, hb, hml, hown, hw⟩ (k_S_writtenNumber l D aY cy _ (x3 + 2) q10 y  q12 hq12) ⟨zcB 3 hw (zgood zw186) rfl rfl rfl zw179 zw188 hdX3_writtenNumber ⟨Nat.le_of_ble_eq_true rfl, Nat.le_of_ble_eq_true rfl⟩, hw _ zw187⟩ (zpre zC_ok hX hS hFc hPc hKc hDc) rfl rfl hl.1 rfl (lv_room (Nat.le_of_ble_eq_true rfl)) dX3_expandOne_130 ⟨Nat.zero_le _, Nat.zero_le _⟩) hP hD hS hFc [2] [0, 1] [0, 1, 2] rfl rfl (by decide) (by decide) rfl (by decide) (fun H locs hP hD hS => ?_)
          obtain ⟨q13, hq13, hm⟩ := zbind hm
          have hPc := hP.sub (ws' := (wS aS rS cs sv sr)) [0, 1] rfl
          have hDc := hD.sub (ws' := (wS aS rS cs sv sr)) [0, 1] (by decide) rfl
          have hKc := hK.sub (tys' := wS_t cs) [0] rfl
          have hFc := va_free (wc := (wS aS rS cs sv sr)) hD hS hA [0, 1] rfl
          refine zbSi (wr := [(aY, .inl (cy, 24, .inl y))]) (w1 := (wS aS rS cs q13.2.1 q13.2.2)) (w' := (wSY aS rS aY cs cy q13.2.1 q13.2.2 y)) (va_runV (As := [.int x4, .int q12]) (rest := []) ⟨hx, hb, hml, hown, hw⟩ (k_S_append l D aS rS cs _ x4 q12 sv sr  q13 hq13) (zcV (C := RX3) 2 hw (zgood zw178) rfl rfl rfl zw179 zw181 zw180 zw182 hdX3_append ⟨Nat.le_of_ble_eq_true rfl, Nat.le_of_ble_eq_true rfl⟩) (zpreV (zpre zC_ok hX hS hFc hPc hKc hDc) (va_recv hK hP rfl (q0 := 0) rfl)) rfl rfl hl.1 rfl (lv_room (Nat.le_of_ble_eq_true rfl)) dX3_expandOne_133 ⟨Nat.zero_le _, Nat.zero_le _⟩) hP hD hS hFc [0, 1] [2] [1, 2, 0] rfl rfl (by decide) (by decide) rfl (by decide) (fun H locs hP hD hS => ?_)
          refine lv_if_eq (tgt := 146) hx hb dX3_expandOne_136 rfl (fun cd14 => ?_) (fun cd14 => ?_)
          · replace hm := zt cd14 hm
            refine lv_iconst (v := (-1)) hx hb dX3_expandOne_146 (by decide) ?_
            cases hm
            exact zreti hx hb hr hlk hP hD hS dX3_expandOne_147
          · replace hm := zf cd14 hm
            refine lv_iload hx hb dX3_expandOne_139 (lv_at hl 0 rfl) ?_
            refine lv_iconst (v := 1) hx hb dX3_expandOne_141 (by decide) ?_
            refine lv_iadd hx hb dX3_expandOne_142 ?_
            refine lv_goto (tgt := 147) hx hb dX3_expandOne_143 rfl ?_
            cases hm
            exact zreti hx hb hr hlk hP hD hS dX3_expandOne_147
        · replace hm := zt cd11 hm
          refine lv_iconst (v := (-1)) hx hb dX3_expandOne_119 (by decide) ?_
          cases hm
          exact zreti hx hb hr hlk hP hD hS dX3_expandOne_120
      · replace hm := zf cd9 hm
        refine lv_aload_n hx hb dX3_expandOne_85 rfl (lv_at hl 1 rfl) ?_
        refine lv_iload hx hb dX3_expandOne_86 (lv_at hl 5 rfl) ?_
        refine lv_iconst (v := 1) hx hb dX3_expandOne_88 (by decide) ?_
        obtain ⟨q15, hq15, hm⟩ := zbind hm
        have hPc := hP.sub (ws' := (wS aS rS cs sv sr)) [0, 1] rfl
        have hDc := hD.sub (ws' := (wS aS rS cs sv sr)) [0, 1] (by decide) rfl
        have hKc := hK.sub (tys' := wS_t cs) [0] rfl
        have hFc := va_free (wc := (wS aS rS cs sv sr)) hD hS hA [0, 1] rfl
        refine zbSi (wr := [(aY, .inl (cy, 24, .inl y))]) (w1 := (wS aS rS cs q15.2.1 q15.2.2)) (w' := (wSY aS rS aY cs cy q15.2.1 q15.2.2 y)) (va_runV (As := [.int x4, .int 1]) (rest := []) ⟨hx, hb, hml, hown, hw⟩ (k_S_append l D aS rS cs _ x4 1 sv sr  q15 hq15) (zcV (C := RX3) 2 hw (zgood zw178) rfl rfl rfl zw179 zw181 zw180 zw182 hdX3_append ⟨Nat.le_of_ble_eq_true rfl, Nat.le_of_ble_eq_true rfl⟩) (zpreV (zpre zC_ok hX hS hFc hPc hKc hDc) (va_recv hK hP rfl (q0 := 0) rfl)) rfl rfl hl.1 rfl (lv_room (Nat.le_of_ble_eq_true rfl)) dX3_expandOne_89 ⟨Nat.zero_le _, Nat.zero_le _⟩) hP hD hS hFc [0, 1] [2] [1, 2, 0] rfl rfl (by decide) (by decide) rfl (by decide) (fun H locs hP hD hS => ?_)
        refine lv_if_eq (tgt := 101) hx hb dX3_expandOne_92 rfl (fun cd16 => ?_) (fun cd16 => ?_)
        · replace hm := zt cd16 hm
          refine lv_iconst (v := (-1)) hx hb dX3_expandOne_101 (by decide) ?_
          cases hm
          exact zreti hx hb hr hlk hP hD hS dX3_expandOne_102
        · replace hm := zf cd16 hm
          refine lv_iload_n hx hb dX3_expandOne_95 rfl (lv_at hl 4 rfl) ?_
          refine lv_iconst (v := 1) hx hb dX3_expandOne_96 (by decide) ?_
          refine lv_iadd hx hb dX3_expandOne_97 ?_
          refine lv_goto (tgt := 102) hx hb dX3_expandOne_98 rfl ?_
          cases hm
          exact zreti hx hb hr hlk hP hD hS dX3_expandOne_102
    · replace hm := zt cd8 hm
      exact b_S_expandOne_37 G0 hK hX _ _ _ _ _ hm H _ _ hP hD hS (lv_sub hl [1, 4, 5, 0] rfl)
end
set_option maxRecDepth 100000 in
set_option maxHeartbeats 4000000 in
theorem k_S_expandOne (l : Launch) (D : va_G) (aS rS aY : Nat) (cs cy : ClassId) (sz : Nat) (a1 : Int32) (a2 : Int32) (sv : Nat → Int32) (sr : Nat → Int32) (y : Nat → Int32) (res : (Int32) × (Nat → Int32) × (Nat → Int32)) (hm : m_S_expandOne a1 a2 sv sr y  = some res) : Met l yX3_expandOne (Cond.code yX3_expandOne cX3_expandOne 7 (some .int) :: zBIG) (zR 2 44) (va_Pc [.ref aS, .ref aY, .int a1, .int a2] (zP zC D vwCl (wSY_t cs cy) (wSY aS rS aY cs cy sv sr y) sz)) (zQi D vwCl (wSY aS rS aY cs cy sv sr y) (wSY aS rS aY cs cy res.2.1 res.2.2 y) sz res.1) 0 0 (va_A (wSY aS rS aY cs cy sv sr y) sz) := by
  refine zEnter RX3 [.ref aS, .ref aY, .int a1, .int a2] (by decide) rfl (Nat.le_of_ble_eq_true rfl) (fun p e s m below meth c ls G hK hX hP hD hsz hl => ?_)
  subst hsz
  unfold m_S_expandOne at hm
  have hl : lv_has ls 7 [(0, .ref aS), (1, .ref aY), (2, .int a1), (3, .int a2)] := hl
  have hS : va_S (va_A (wSY aS rS aY cs cy sv sr y) s.heap.size) s.heap s.heap [] := va_S.rf
  have hA : ∀ q, s.heap.size ≤ q → va_A (wSY aS rS aY cs cy sv sr y) s.heap.size q := fun q h => Or.inr h
  have G0 := G
  obtain ⟨hx, hb, hr, hml, hown, hw, hlk⟩ := G
  refine lv_aload_n hx hb dX3_expandOne_0 rfl (lv_at hl 1 rfl) ?_
  refine lv_iload_n hx hb dX3_expandOne_1 rfl (lv_at hl 3 rfl) ?_
  obtain ⟨hi1, hm⟩ := zix_s hm
  refine va_iald (i := a2) (f := y) (n := 24) hx hb hK hP 2 1 rfl rfl hi1 dX3_expandOne_2 ?_
  refine lv_istore (lv' := [(4, .int (y a2.toNatClampNeg)), (0, .ref aS), (1, .ref aY), (2, .int a1), (3, .int a2)]) hx hb dX3_expandOne_3 hl (by decide) rfl (fun ls hl => ?_)
  refine lv_iload_n hx hb dX3_expandOne_5 rfl (lv_at hl 4 rfl) ?_
  refine lv_iconst (v := 1) hx hb dX3_expandOne_6 (by decide) ?_
  refine lv_iadd hx hb dX3_expandOne_7 ?_
  refine lv_iload_n hx hb dX3_expandOne_8 rfl (lv_at hl 3 rfl) ?_
  refine lv_icmp_ge (tgt := 20) hx hb dX3_expandOne_9 rfl (fun cd2 => ?_) (fun cd2 => ?_)
  · replace hm := zt cd2 hm
    refine lv_iconst (v := (-1)) hx hb dX3_expandOne_20 (by decide) ?_
    exact b_S_expandOne_21 G0 hK hX _ _ _ _ _ _ hm _ _ _ hP hD hS (lv_sub hl [1, 2, 3, 4, 0] rfl)
  · replace hm := zf cd2 hm
    refine lv_aload_n hx hb dX3_expandOne_12 rfl (lv_at hl 2 rfl) ?_
    refine lv_iload_n hx hb dX3_expandOne_13 rfl (lv_at hl 4 rfl) ?_
    refine lv_iconst (v := 1) hx hb dX3_expandOne_14 (by decide) ?_
    refine lv_iadd hx hb dX3_expandOne_15 ?_
    obtain ⟨hi17, hm⟩ := zix_s hm
    refine va_iald (i := (a2 + 1)) (f := y) (n := 24) hx hb hK hP 2 1 rfl rfl hi17 dX3_expandOne_16 ?_
    refine lv_goto (tgt := 21) hx hb dX3_expandOne_17 rfl ?_
    exact b_S_expandOne_21 G0 hK hX _ _ _ _ _ _ hm _ _ _ hP hD hS (lv_sub hl [1, 2, 3, 4, 0] rfl)

theorem dX3_expand_0 : decode cX3_expand 0 = .ok (.aload_n 0, 1) := by decide +kernel
theorem dX3_expand_1 : decode cX3_expand 1 = .ok (.iconst 0, 1) := by decide +kernel
theorem dX3_expand_2 : decode cX3_expand 2 = .ok (.putfield 15, 3) := by decide +kernel
theorem dX3_expand_5 : decode cX3_expand 5 = .ok (.iconst 0, 1) := by decide +kernel
theorem dX3_expand_6 : decode cX3_expand 6 = .ok (.istore_n 3, 1) := by decide +kernel
theorem dX3_expand_7 : decode cX3_expand 7 = .ok (.iconst 0, 1) := by decide +kernel
theorem dX3_expand_8 : decode cX3_expand 8 = .ok (.istore 4, 2) := by decide +kernel
theorem dX3_expand_10 : decode cX3_expand 10 = .ok (.iload 4, 2) := by decide +kernel
theorem dX3_expand_12 : decode cX3_expand 12 = .ok (.iload_n 2, 1) := by decide +kernel
theorem dX3_expand_13 : decode cX3_expand 13 = .ok (.if_icmp .ge 29, 3) := by decide +kernel
theorem dX3_expand_16 : decode cX3_expand 16 = .ok (.iload_n 3, 1) := by decide +kernel
theorem dX3_expand_17 : decode cX3_expand 17 = .ok (.iload_n 2, 1) := by decide +kernel
theorem dX3_expand_18 : decode cX3_expand 18 = .ok (.if_icmp .ge 24, 3) := by decide +kernel
theorem dX3_expand_21 : decode cX3_expand 21 = .ok (.aload_n 0, 1) := by decide +kernel
theorem dX3_expand_22 : decode cX3_expand 22 = .ok (.aload_n 1, 1) := by decide +kernel
theorem dX3_expand_23 : decode cX3_expand 23 = .ok (.iload_n 2, 1) := by decide +kernel
theorem dX3_expand_24 : decode cX3_expand 24 = .ok (.iload_n 3, 1) := by decide +kernel
theorem dX3_expand_25 : decode cX3_expand 25 = .ok (.invokevirtual 19, 3) := by decide +kernel
theorem dX3_expand_28 : decode cX3_expand 28 = .ok (.istore_n 3, 1) := by decide +kernel
theorem dX3_expand_29 : decode cX3_expand 29 = .ok (.iload_n 3, 1) := by decide +kernel
theorem dX3_expand_30 : decode cX3_expand 30 = .ok (.iconst (-1), 1) := by decide +kernel
theorem dX3_expand_31 : decode cX3_expand 31 = .ok (.if_icmp .ne 5, 3) := by decide +kernel
theorem dX3_expand_34 : decode cX3_expand 34 = .ok (.iconst 0, 1) := by decide +kernel
theorem dX3_expand_35 : decode cX3_expand 35 = .ok (.ireturn, 1) := by decide +kernel
theorem dX3_expand_36 : decode cX3_expand 36 = .ok (.iinc 4 1, 3) := by decide +kernel
theorem dX3_expand_39 : decode cX3_expand 39 = .ok (.goto (-29), 3) := by decide +kernel
theorem dX3_expand_42 : decode cX3_expand 42 = .ok (.aload_n 0, 1) := by decide +kernel
theorem dX3_expand_43 : decode cX3_expand 43 = .ok (.getfield 15, 3) := by decide +kernel
theorem dX3_expand_46 : decode cX3_expand 46 = .ok (.ifCond .le 7, 3) := by decide +kernel
theorem dX3_expand_49 : decode cX3_expand 49 = .ok (.iconst 1, 1) := by decide +kernel
theorem dX3_expand_50 : decode cX3_expand 50 = .ok (.goto 4, 3) := by decide +kernel
theorem dX3_expand_53 : decode cX3_expand 53 = .ok (.iconst 0, 1) := by decide +kernel
theorem dX3_expand_54 : decode cX3_expand 54 = .ok (.ireturn, 1) := by decide +kernel
def m_S_expand_42 (y : Nat → Int32)  (sv : Nat → Int32) (sr : Nat → Int32) : Option ((Int32) × (Nat → Int32) × (Nat → Int32)) := (if (sv 1) ≤ 0 then (zbo 0 (some (0, sv, sr))) else (zbo 1 (some (1, sv, sr))))
def m_S_expand_10b (y : Nat → Int32) (rec : Int32 → Int32 → Int32 → (Nat → Int32) → (Nat → Int32) → Option ((Int32) × (Nat → Int32) × (Nat → Int32))) (x2 : Int32) (x3 : Int32) (x4 : Int32) (sv : Nat → Int32) (sr : Nat → Int32) : Option ((Int32) × (Nat → Int32) × (Nat → Int32)) := (if x2 ≤ x4 then m_S_expand_42 y sv sr else (if x2 ≤ x3 then m_S_expand_42 y sv sr else (m_S_expandOne x2 x3 sv sr y).bind (fun q6 => (if q6.1 = (-1) then (zbo 0 (some (0, q6.2.1, q6.2.2))) else rec x2 q6.1 (x4 + 1) q6.2.1 q6.2.2))))
def m_S_expand_10 (y : Nat → Int32) : Nat → Int32 → Int32 → Int32 → (Nat → Int32) → (Nat → Int32) → Option ((Int32) × (Nat → Int32) × (Nat → Int32))
  | 0 => fun _ _ _ _ _ => none
  | n + 1 => fun x2 x3 x4 sv sr => m_S_expand_10b y (m_S_expand_10 y n) x2 x3 x4 sv sr
def m_S_expand (a1 : Int32) (sv : Nat → Int32) (sr : Nat → Int32) (y : Nat → Int32)  : Option ((Int32) × (Nat → Int32) × (Nat → Int32)) := m_S_expand_10 y 64 a1 0 0 (upd sv 1 0) sr
section
variable {p : Program} {l : Launch} {e : Env} {s : State} {m : MethodId} {args : Array Value} {below : List Frame} {meth : Method} {c : Code} {D : va_G} {w0 : va_W} {aS rS aY : Nat} {cs cy : ClassId} {y : Nat → Int32}
set_option maxRecDepth 100000 in
set_option maxHeartbeats 4000000 in
theorem b_S_expand_42 (G : zG p s m args meth c cX3_expand RX3 5 (some .boolean)) (hK : va_K D vwCl (wSY_t cs cy) s) (hX : zC (va_A w0 s.heap.size) s) {res : (Int32) × (Nat → Int32) × (Nat → Int32)} : ∀ (sv : Nat → Int32) (sr : Nat → Int32), m_S_expand_42 y sv sr = some res → zB p l e (zR 3 70) s m args below meth c D vwCl (va_A w0 s.heap.size) (MQ below (zQi D vwCl w0 (wSY aS rS aY cs cy res.2.1 res.2.2 y) s.heap.size res.1) args s 0 0 (va_A w0 s.heap.size)) 5 (wSY aS rS aY cs cy sv sr y) [(0, .ref aS)] 42 [] := by
  intro sv sr hm H locs ls hP hD hS hl
  unfold m_S_expand_42 at hm
  have G0 := G
  obtain ⟨hx, hb, hr, hml, hown, hw, hlk⟩ := G
  have hA : ∀ q, s.heap.size ≤ q → va_A w0 s.heap.size q := fun q h => Or.inr h
  refine lv_aload_n hx hb dX3_expand_42 rfl (lv_at hl 0 rfl) ?_
  refine va_get (D := D) (ci := 2) (v := .int (sv 1)) (C := RX3) (T := TX3) (N := 2) hx hb hw zinX3 hown hK hP 0 rfl rfl 1 (by decide) (hw _ zw173) (fun _ h9 => h9) rfl dX3_expand_43 ?_
  refine lv_if_le (tgt := 53) hx hb dX3_expand_46 rfl (fun cd2 => ?_) (fun cd2 => ?_)
  · replace hm := zt cd2 hm
    refine lv_iconst (v := 0) hx hb dX3_expand_53 (by decide) ?_
    obtain ⟨hz3, -, hm⟩ := zbo_s hm
    cases hm
    exact zretz hx hb hr hlk hz3 hP hD hS dX3_expand_54
  · replace hm := zf cd2 hm
    refine lv_iconst (v := 1) hx hb dX3_expand_49 (by decide) ?_
    refine lv_goto (tgt := 54) hx hb dX3_expand_50 rfl ?_
    obtain ⟨hz4, -, hm⟩ := zbo_s hm
    cases hm
    exact zretz hx hb hr hlk hz4 hP hD hS dX3_expand_54
set_option maxRecDepth 100000 in
set_option maxHeartbeats 4000000 in
theorem b_S_expand_10 (G : zG p s m args meth c cX3_expand RX3 5 (some .boolean)) (hK : va_K D vwCl (wSY_t cs cy) s) (hX : zC (va_A w0 s.heap.size) s) {res : (Int32) × (Nat → Int32) × (Nat → Int32)} : ∀ n : Nat, ∀ (x2 : Int32) (x3 : Int32) (x4 : Int32) (sv : Nat → Int32) (sr : Nat → Int32), m_S_expand_10 y n x2 x3 x4 sv sr = some res → zB p l e (zR 3 70) s m args below meth c D vwCl (va_A w0 s.heap.size) (MQ below (zQi D vwCl w0 (wSY aS rS aY cs cy res.2.1 res.2.2 y) s.heap.size res.1) args s 0 0 (va_A w0 s.heap.size)) 5 (wSY aS rS aY cs cy sv sr y) [(0, .ref aS), (1, .ref aY), (2, .int x2), (3, .int x3), (4, .int x4)] 10 [] := by
  intro n
  induction n with
  | zero => intro x2 x3 x4 sv sr hm; cases hm
  | succ n ih =>
  have hrec := ih
  intro x2 x3 x4 sv sr hm H locs ls hP hD hS hl
  replace hm : m_S_expand_10b y (m_S_expand_10 y n) x2 x3 x4 sv sr = some res := hm
  generalize m_S_expand_10 y n = rec at hm hrec
  unfold m_S_expand_10b at hm
  clear ih
  have G0 := G
  obtain ⟨hx, hb, hr, hml, hown, hw, hlk⟩ := G
  have hA : ∀ q, s.heap.size ≤ q → va_A w0 s.heap.size q := fun q h => Or.inr h
  refine lv_iload hx hb dX3_expand_10 (lv_at hl 4 rfl) ?_
  refine lv_iload_n hx hb dX3_expand_12 rfl (lv_at hl 2 rfl) ?_
  refine lv_icmp_ge (tgt := 42) hx hb dX3_expand_13 rfl (fun cd1 => ?_) (fun cd1 => ?_)
  · replace hm := zt cd1 hm
    exact b_S_expand_42 G0 hK hX _ _ hm H _ _ hP hD hS (lv_sub hl [0] rfl)
  · replace hm := zf cd1 hm
    refine lv_iload_n hx hb dX3_expand_16 rfl (lv_at hl 3 rfl) ?_
    refine lv_iload_n hx hb dX3_expand_17 rfl (lv_at hl 2 rfl) ?_
    refine lv_icmp_ge (tgt := 42) hx hb dX3_expand_18 rfl (fun cd5 => ?_) (fun cd5 => ?_)
    · replace hm := zt cd5 hm
      exact b_S_expand_42 G0 hK hX _ _ hm H _ _ hP hD hS (lv_sub hl [0] rfl)
    · replace hm := zf cd5 hm
      refine lv_aload_n hx hb dX3_expand_21 rfl (lv_at hl 0 rfl) ?_
      refine lv_aload_n hx hb dX3_expand_22 rfl (lv_at hl 1 rfl) ?_
      refine lv_iload_n hx hb dX3_expand_23 rfl (lv_at hl 2 rfl) ?_
      refine lv_iload_n hx hb dX3_expand_24 rfl (lv_at hl 3 rfl) ?_
      obtain ⟨q6, hq6, hm⟩ := zbind hm
      refine zbWi (va_runV (As := [.ref aY, .int x2, .int x3]) (rest := []) ⟨hx, hb, hml, hown, hw⟩ (k_S_expandOne l D aS rS aY cs cy _ x2 x3 sv sr y  q6 hq6) (zcV (C := RX3) 3 hw (zgood zw189) rfl rfl rfl zw179 zw191 zw190 zw192 hdX3_expandOne ⟨Nat.le_of_ble_eq_true rfl, Nat.le_of_ble_eq_true rfl⟩) (zpreV (zpre zC_ok hX hS (zfree hD hS hA) hP hK hD) (va_recv hK hP rfl (q0 := 0) rfl)) rfl rfl hl.1 rfl (lv_room (Nat.le_of_ble_eq_true rfl)) dX3_expand_25 ⟨Nat.zero_le _, Nat.zero_le _⟩) hS (zfree hD hS hA) (fun H locs hP hD hS => ?_)
      have hP : va_P D vwCl (wSY aS rS aY cs cy q6.2.1 q6.2.2 y) H := hP
      have hD : va_D _ (wSY aS rS aY cs cy q6.2.1 q6.2.2 y) := hD
      refine lv_istore_n (lv' := [(3, .int q6.1), (0, .ref aS), (1, .ref aY), (2, .int x2), (4, .int x4)]) hx hb dX3_expand_28 rfl hl (by decide) rfl (fun ls hl => ?_)
      refine lv_iload_n hx hb dX3_expand_29 rfl (lv_at hl 0 rfl) ?_
      refine lv_iconst (v := (-1)) hx hb dX3_expand_30 (by decide) ?_
      refine lv_icmp_ne (tgt := 36) hx hb dX3_expand_31 rfl (fun cd7 => ?_) (fun cd7 => ?_)
      · replace hm := zf cd7 hm
        refine lv_iinc (k := 4) (v := (x4 + 1)) (lv' := [(4, .int (x4 + 1)), (3, .int q6.1), (0, .ref aS), (1, .ref aY), (2, .int x2)]) hx hb dX3_expand_36 hl rfl rfl (by decide) rfl (fun ls hl => ?_)
        refine lv_goto (tgt := 10) hx hb dX3_expand_39 rfl ?_
        exact hrec _ _ _ _ _ hm H _ _ hP hD hS (lv_sub hl [2, 3, 4, 1, 0] rfl)
      · replace hm := zt cd7 hm
        refine lv_iconst (v := 0) hx hb dX3_expand_34 (by decide) ?_
        obtain ⟨hz8, -, hm⟩ := zbo_s hm
        cases hm
        exact zretz hx hb hr hlk hz8 hP hD hS dX3_expand_35
end
set_option maxRecDepth 100000 in
set_option maxHeartbeats 4000000 in
theorem k_S_expand (l : Launch) (D : va_G) (aS rS aY : Nat) (cs cy : ClassId) (sz : Nat) (a1 : Int32) (sv : Nat → Int32) (sr : Nat → Int32) (y : Nat → Int32) (res : (Int32) × (Nat → Int32) × (Nat → Int32)) (hm : m_S_expand a1 sv sr y  = some res) : Met l yX3_expand (Cond.code yX3_expand cX3_expand 5 (some .boolean) :: zBIG) (zR 3 70) (va_Pc [.ref aS, .ref aY, .int a1] (zP zC D vwCl (wSY_t cs cy) (wSY aS rS aY cs cy sv sr y) sz)) (zQi D vwCl (wSY aS rS aY cs cy sv sr y) (wSY aS rS aY cs cy res.2.1 res.2.2 y) sz res.1) 0 0 (va_A (wSY aS rS aY cs cy sv sr y) sz) := by
  refine zEnter RX3 [.ref aS, .ref aY, .int a1] (by decide) rfl (Nat.le_of_ble_eq_true rfl) (fun p e s m below meth c ls G hK hX hP hD hsz hl => ?_)
  subst hsz
  unfold m_S_expand at hm
  have hl : lv_has ls 5 [(0, .ref aS), (1, .ref aY), (2, .int a1)] := hl
  have hS : va_S (va_A (wSY aS rS aY cs cy sv sr y) s.heap.size) s.heap s.heap [] := va_S.rf
  have hA : ∀ q, s.heap.size ≤ q → va_A (wSY aS rS aY cs cy sv sr y) s.heap.size q := fun q h => Or.inr h
  have G0 := G
  obtain ⟨hx, hb, hr, hml, hown, hw, hlk⟩ := G
  refine lv_aload_n hx hb dX3_expand_0 rfl (lv_at hl 0 rfl) ?_
  refine lv_iconst (v := 0) hx hb dX3_expand_1 (by decide) ?_
  refine va_put (D := D) (ci := 2) (v := .int 0) (ty := .int) (C := RX3) (T := TX3) (N := 2) hx hb hw zinX3 tyX3 tyX3_ok nmX3 hown hK hP hD hS 0 rfl rfl 1 (by decide) (hw _ zw173) (fun _ h9 => h9) rfl (by decide +kernel) rfl rfl (Nat.le_of_ble_eq_true rfl) dX3_expand_2 (fun H locs hP hD hS => ?_)
  have hP : va_P D vwCl (wSY aS rS aY cs cy (upd sv 1 0) sr y) H := hP
  have hD : va_D _ (wSY aS rS aY cs cy (upd sv 1 0) sr y) := hD
  refine lv_iconst (v := 0) hx hb dX3_expand_5 (by decide) ?_
  refine lv_istore_n (lv' := [(3, .int 0), (0, .ref aS), (1, .ref aY), (2, .int a1)]) hx hb dX3_expand_6 rfl hl (by decide) rfl (fun ls hl => ?_)
  refine lv_iconst (v := 0) hx hb dX3_expand_7 (by decide) ?_
  refine lv_istore (lv' := [(4, .int 0), (3, .int 0), (0, .ref aS), (1, .ref aY), (2, .int a1)]) hx hb dX3_expand_8 hl (by decide) rfl (fun ls hl => ?_)
  exact b_S_expand_10 G0 hK hX 64 _ _ _ _ _ hm _ _ _ hP hD hS (lv_sub hl [2, 3, 4, 1, 0] rfl)

