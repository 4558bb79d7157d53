theorem dX2_fitsUnscaled_0 : decode cX2_fitsUnscaled 0 = .ok (.aload_n 1, 1) := by decide +kernel
theorem dX2_fitsUnscaled_1 : decode cX2_fitsUnscaled 1 = .ok (.bipush 57, 2) := by decide +kernel
theorem dX2_fitsUnscaled_3 : decode cX2_fitsUnscaled 3 = .ok (.iload_n 2, 1) := by decide +kernel
theorem dX2_fitsUnscaled_4 : decode cX2_fitsUnscaled 4 = .ok (.invokevirtual 47, 3) := by decide +kernel
theorem dX2_fitsUnscaled_7 : decode cX2_fitsUnscaled 7 = .ok (.istore_n 3, 1) := by decide +kernel
theorem dX2_fitsUnscaled_8 : decode cX2_fitsUnscaled 8 = .ok (.aload_n 1, 1) := by decide +kernel
theorem dX2_fitsUnscaled_9 : decode cX2_fitsUnscaled 9 = .ok (.iload_n 3, 1) := by decide +kernel
theorem dX2_fitsUnscaled_10 : decode cX2_fitsUnscaled 10 = .ok (.invokevirtual 9, 3) := by decide +kernel
theorem dX2_fitsUnscaled_13 : decode cX2_fitsUnscaled 13 = .ok (.bipush 86, 2) := by decide +kernel
theorem dX2_fitsUnscaled_15 : decode cX2_fitsUnscaled 15 = .ok (.if_icmp .ne 9, 3) := by decide +kernel
theorem dX2_fitsUnscaled_18 : decode cX2_fitsUnscaled 18 = .ok (.iload_n 3, 1) := by decide +kernel
theorem dX2_fitsUnscaled_19 : decode cX2_fitsUnscaled 19 = .ok (.iconst 1, 1) := by decide +kernel
theorem dX2_fitsUnscaled_20 : decode cX2_fitsUnscaled 20 = .ok (.iadd, 1) := by decide +kernel
theorem dX2_fitsUnscaled_21 : decode cX2_fitsUnscaled 21 = .ok (.goto 4, 3) := by decide +kernel
theorem dX2_fitsUnscaled_24 : decode cX2_fitsUnscaled 24 = .ok (.iload_n 3, 1) := by decide +kernel
theorem dX2_fitsUnscaled_25 : decode cX2_fitsUnscaled 25 = .ok (.istore 4, 2) := by decide +kernel
theorem dX2_fitsUnscaled_27 : decode cX2_fitsUnscaled 27 = .ok (.aload_n 1, 1) := by decide +kernel
theorem dX2_fitsUnscaled_28 : decode cX2_fitsUnscaled 28 = .ok (.bipush 57, 2) := by decide +kernel
theorem dX2_fitsUnscaled_30 : decode cX2_fitsUnscaled 30 = .ok (.iload 4, 2) := by decide +kernel
theorem dX2_fitsUnscaled_32 : decode cX2_fitsUnscaled 32 = .ok (.invokevirtual 47, 3) := by decide +kernel
theorem dX2_fitsUnscaled_35 : decode cX2_fitsUnscaled 35 = .ok (.istore 5, 2) := by decide +kernel
theorem dX2_fitsUnscaled_37 : decode cX2_fitsUnscaled 37 = .ok (.aload_n 0, 1) := by decide +kernel
theorem dX2_fitsUnscaled_38 : decode cX2_fitsUnscaled 38 = .ok (.iload_n 3, 1) := by decide +kernel
theorem dX2_fitsUnscaled_39 : decode cX2_fitsUnscaled 39 = .ok (.iload_n 2, 1) := by decide +kernel
theorem dX2_fitsUnscaled_40 : decode cX2_fitsUnscaled 40 = .ok (.isub, 1) := by decide +kernel
theorem dX2_fitsUnscaled_41 : decode cX2_fitsUnscaled 41 = .ok (.putfield 31, 3) := by decide +kernel
theorem dX2_fitsUnscaled_44 : decode cX2_fitsUnscaled 44 = .ok (.aload_n 0, 1) := by decide +kernel
theorem dX2_fitsUnscaled_45 : decode cX2_fitsUnscaled 45 = .ok (.iload 5, 2) := by decide +kernel
theorem dX2_fitsUnscaled_47 : decode cX2_fitsUnscaled 47 = .ok (.iload 4, 2) := by decide +kernel
theorem dX2_fitsUnscaled_49 : decode cX2_fitsUnscaled 49 = .ok (.isub, 1) := by decide +kernel
theorem dX2_fitsUnscaled_50 : decode cX2_fitsUnscaled 50 = .ok (.putfield 35, 3) := by decide +kernel
theorem dX2_fitsUnscaled_53 : decode cX2_fitsUnscaled 53 = .ok (.aload_n 0, 1) := by decide +kernel
theorem dX2_fitsUnscaled_54 : decode cX2_fitsUnscaled 54 = .ok (.aload_n 0, 1) := by decide +kernel
theorem dX2_fitsUnscaled_55 : decode cX2_fitsUnscaled 55 = .ok (.getfield 31, 3) := by decide +kernel
theorem dX2_fitsUnscaled_58 : decode cX2_fitsUnscaled 58 = .ok (.aload_n 0, 1) := by decide +kernel
theorem dX2_fitsUnscaled_59 : decode cX2_fitsUnscaled 59 = .ok (.getfield 35, 3) := by decide +kernel
theorem dX2_fitsUnscaled_62 : decode cX2_fitsUnscaled 62 = .ok (.iadd, 1) := by decide +kernel
theorem dX2_fitsUnscaled_63 : decode cX2_fitsUnscaled 63 = .ok (.putfield 41, 3) := by decide +kernel
theorem dX2_fitsUnscaled_66 : decode cX2_fitsUnscaled 66 = .ok (.aload_n 0, 1) := by decide +kernel
theorem dX2_fitsUnscaled_67 : decode cX2_fitsUnscaled 67 = .ok (.aload_n 0, 1) := by decide +kernel
theorem dX2_fitsUnscaled_68 : decode cX2_fitsUnscaled 68 = .ok (.getfield 35, 3) := by decide +kernel
theorem dX2_fitsUnscaled_71 : decode cX2_fitsUnscaled 71 = .ok (.ineg, 1) := by decide +kernel
theorem dX2_fitsUnscaled_72 : decode cX2_fitsUnscaled 72 = .ok (.putfield 51, 3) := by decide +kernel
theorem dX2_fitsUnscaled_75 : decode cX2_fitsUnscaled 75 = .ok (.aload_n 0, 1) := by decide +kernel
theorem dX2_fitsUnscaled_76 : decode cX2_fitsUnscaled 76 = .ok (.getfield 41, 3) := by decide +kernel
theorem dX2_fitsUnscaled_79 : decode cX2_fitsUnscaled 79 = .ok (.ifCond .le 16, 3) := by decide +kernel
theorem dX2_fitsUnscaled_82 : decode cX2_fitsUnscaled 82 = .ok (.iload 5, 2) := by decide +kernel
theorem dX2_fitsUnscaled_84 : decode cX2_fitsUnscaled 84 = .ok (.aload_n 1, 1) := by decide +kernel
theorem dX2_fitsUnscaled_85 : decode cX2_fitsUnscaled 85 = .ok (.getfield 54, 3) := by decide +kernel
theorem dX2_fitsUnscaled_88 : decode cX2_fitsUnscaled 88 = .ok (.if_icmp .ne 7, 3) := by decide +kernel
theorem dX2_fitsUnscaled_91 : decode cX2_fitsUnscaled 91 = .ok (.iconst 1, 1) := by decide +kernel
theorem dX2_fitsUnscaled_92 : decode cX2_fitsUnscaled 92 = .ok (.goto 4, 3) := by decide +kernel
theorem dX2_fitsUnscaled_95 : decode cX2_fitsUnscaled 95 = .ok (.iconst 0, 1) := by decide +kernel
theorem dX2_fitsUnscaled_96 : decode cX2_fitsUnscaled 96 = .ok (.ireturn, 1) := by decide +kernel
def m_N_fitsUnscaled_75 (b : Nat → Int32) (sv : Nat → Int32) (sr : Nat → Int32) (x5 : Int32) (v : Nat → Int32) : Option ((Int32) × (Nat → Int32)) := (if (v 5) ≤ 0 then (zbo 0 (some (0, v))) else (if x5 = (sv 1) then (zbo 1 (some (1, v))) else (zbo 0 (some (0, v)))))
def m_N_fitsUnscaled_25 (b : Nat → Int32) (sv : Nat → Int32) (sr : Nat → Int32) (x2 : Int32) (x3 : Int32) (t0 : Int32) (v : Nat → Int32) : Option ((Int32) × (Nat → Int32)) := (m_S_runEnd 57 t0 sv sr).bind (fun q4 => m_N_fitsUnscaled_75 b sv sr q4 (upd (upd (upd (upd v 2 (x3 - x2)) 3 (q4 - t0)) 5 (((upd (upd v 2 (x3 - x2)) 3 (q4 - t0)) 2) + ((upd (upd v 2 (x3 - x2)) 3 (q4 - t0)) 3))) 6 (0 - ((upd (upd (upd v 2 (x3 - x2)) 3 (q4 - t0)) 5 (((upd (upd v 2 (x3 - x2)) 3 (q4 - t0)) 2) + ((upd (upd v 2 (x3 - x2)) 3 (q4 - t0)) 3))) 3))))
def m_N_fitsUnscaled (a1 : Int32) (v : Nat → Int32) (b : Nat → Int32) (sv : Nat → Int32) (sr : Nat → Int32)  : Option ((Int32) × (Nat → Int32)) := (m_S_runEnd 57 a1 sv sr).bind (fun q1 => (m_S_symbolAt q1 sv sr).bind (fun q2 => (if q2 = 86 then m_N_fitsUnscaled_25 b sv sr a1 q1 (q1 + 1) v else m_N_fitsUnscaled_25 b sv sr a1 q1 q1 v)))
section
variable {p : Program} {l : Launch} {e : Env} {s : State} {m : MethodId} {args : Array Value} {below : List Frame} {meth : Method} {c : Code} {D : va_G} {w0 : va_W} {aN bN aS rS : Nat} {c1 cs : ClassId} {b : Nat → Int32} {sv : Nat → Int32} {sr : Nat → Int32}
set_option maxRecDepth 100000 in
set_option maxHeartbeats 4000000 in
theorem b_N_fitsUnscaled_75 (G : zG p s m args meth c cX2_fitsUnscaled RX2 6 (some .boolean)) (hK : va_K D vwCl (wNS_t c1 cs) s) (hX : zC (va_A w0 s.heap.size) s) {res : (Int32) × (Nat → Int32)} : ∀ (x5 : Int32) (v : Nat → Int32), m_N_fitsUnscaled_75 b sv sr x5 v = some res → zB p l e (zR 1 23) s m args below meth c D vwCl (va_A w0 s.heap.size) (MQ below (zQi D vwCl w0 (wNS aN bN aS rS c1 cs res.2 b sv sr) s.heap.size res.1) args s 0 0 (va_A w0 s.heap.size)) 6 (wNS aN bN aS rS c1 cs v b sv sr) [(0, .ref aN), (1, .ref aS), (5, .int x5)] 75 [] := by
  intro x5 v hm H locs ls hP hD hS hl
  unfold m_N_fitsUnscaled_75 at hm
  have G0 := G
  obtain ⟨hx, hb, hr, hml, hown, hw, hlk⟩ := G
  have hA : ∀ q, s.heap.size ≤ q → va_A w0 s.heap.size q := fun q h => Or.inr h
  refine lv_aload_n hx hb dX2_fitsUnscaled_75 rfl (lv_at hl 0 rfl) ?_
  refine va_get (D := D) (ci := 1) (v := .int (v 5)) (C := RX2) (T := TX2) (N := 8) hx hb hw zinX2 hown hK hP 0 rfl rfl 5 (by decide) (hw _ zw205) (fun _ h9 => h9) rfl dX2_fitsUnscaled_76 ?_
  refine lv_if_le (tgt := 95) hx hb dX2_fitsUnscaled_79 rfl (fun cd5 => ?_) (fun cd5 => ?_)
  · replace hm := zt cd5 hm
    refine lv_iconst (v := 0) hx hb dX2_fitsUnscaled_95 (by decide) ?_
    obtain ⟨hz6, -, hm⟩ := zbo_s hm
    cases hm
    exact zretz hx hb hr hlk hz6 hP hD hS dX2_fitsUnscaled_96
  · replace hm := zf cd5 hm
    refine lv_iload hx hb dX2_fitsUnscaled_82 (lv_at hl 2 rfl) ?_
    refine lv_aload_n hx hb dX2_fitsUnscaled_84 rfl (lv_at hl 1 rfl) ?_
    refine va_getN (D := D) (ci := 2) (v := .int (sv 1)) (C := RX3) (T := TX3) (N := 2) hx hb hw zinX3 hown hK hP 2 rfl rfl 1 (by decide) (va_Nw.use rfl (hX.1 _ zn1)) (fun _ h9 => h9) rfl dX2_fitsUnscaled_85 ?_
    refine lv_icmp_ne (tgt := 95) hx hb dX2_fitsUnscaled_88 rfl (fun cd7 => ?_) (fun cd7 => ?_)
    · replace hm := zf cd7 hm
      refine lv_iconst (v := 0) hx hb dX2_fitsUnscaled_95 (by decide) ?_
      obtain ⟨hz8, -, hm⟩ := zbo_s hm
      cases hm
      exact zretz hx hb hr hlk hz8 hP hD hS dX2_fitsUnscaled_96
    · replace hm := zt cd7 hm
      refine lv_iconst (v := 1) hx hb dX2_fitsUnscaled_91 (by decide) ?_
      refine lv_goto (tgt := 96) hx hb dX2_fitsUnscaled_92 rfl ?_
      obtain ⟨hz9, -, hm⟩ := zbo_s hm
      cases hm
      exact zretz hx hb hr hlk hz9 hP hD hS dX2_fitsUnscaled_96
set_option maxRecDepth 100000 in
set_option maxHeartbeats 4000000 in
theorem b_N_fitsUnscaled_25 (G : zG p s m args meth c cX2_fitsUnscaled RX2 6 (some .boolean)) (hK : va_K D vwCl (wNS_t c1 cs) s) (hX : zC (va_A w0 s.heap.size) s) {res : (Int32) × (Nat → Int32)} : ∀ (x2 : Int32) (x3 : Int32) (t0 : Int32) (v : Nat → Int32), m_N_fitsUnscaled_25 b sv sr x2 x3 t0 v = some res → zB p l e (zR 1 23) s m args below meth c D vwCl (va_A w0 s.heap.size) (MQ below (zQi D vwCl w0 (wNS aN bN aS rS c1 cs res.2 b sv sr) s.heap.size res.1) args s 0 0 (va_A w0 s.heap.size)) 6 (wNS aN bN aS rS c1 cs v b sv sr) [(0, .ref aN), (1, .ref aS), (2, .int x2), (3, .int x3)] 25 [.int t0] := by
  intro x2 x3 t0 v hm H locs ls hP hD hS hl
  unfold m_N_fitsUnscaled_25 at hm
  have G0 := G
  obtain ⟨hx, hb, hr, hml, hown, hw, hlk⟩ := G
  have hA : ∀ q, s.heap.size ≤ q → va_A w0 s.heap.size q := fun q h => Or.inr h
  refine lv_istore (lv' := [(4, .int t0), (0, .ref aN), (1, .ref aS), (2, .int x2), (3, .int x3)]) hx hb dX2_fitsUnscaled_25 hl (by decide) rfl (fun ls hl => ?_)
  refine lv_aload_n hx hb dX2_fitsUnscaled_27 rfl (lv_at hl 2 rfl) ?_
  refine lv_bipush (v := 57) hx hb dX2_fitsUnscaled_28 (by decide) ?_
  refine lv_iload hx hb dX2_fitsUnscaled_30 (lv_at hl 0 rfl) ?_
  obtain ⟨q4, hq4, hm⟩ := zbind hm
  have hPc := hP.sub (ws' := (wS aS rS cs sv sr)) [2, 3] rfl
  have hDc := hD.sub (ws' := (wS aS rS cs sv sr)) [2, 3] (by decide) rfl
  have hKc := hK.sub (tys' := wS_t cs) [1] rfl
  have hFc := va_free (wc := (wS aS rS cs sv sr)) hD hS hA [2, 3] rfl
  refine zbSi (wr := [(aN, .inr (1, [.ref bN, .int (v 1), .int (v 2), .int (v 3), .int (v 4), .int (v 5), .int (v 6), .int (v 7)])), (bN, .inl (c1, 25, .inl b))]) (w1 := (wS aS rS cs sv sr)) (w' := (wNS aN bN aS rS c1 cs v b sv sr)) (va_runV (As := [.int 57, .int t0]) (rest := []) ⟨hx, hb, hml, hown, hw⟩ (k_S_runEnd l D aS rS cs _ 57 t0 sv sr  q4 hq4) (zcV (C := RX3) 2 hw (zgood zw193) rfl rfl rfl zw179 zw195 zw194 zw196 hdX3_runEnd ⟨Nat.le_of_ble_eq_true rfl, Nat.le_of_ble_eq_true rfl⟩) (zpreV (zpre zC_ok hX hS hFc hPc hKc hDc) (va_recv hK hP rfl (q0 := 2) rfl)) rfl rfl hl.1 rfl (lv_room (Nat.le_of_ble_eq_true rfl)) dX2_fitsUnscaled_32 ⟨Nat.zero_le _, Nat.zero_le _⟩) hP hD hS hFc [2, 3] [0, 1] [0, 1, 2, 3] rfl rfl (by decide) (by decide) rfl (by decide) (fun H locs hP hD hS => ?_)
  refine lv_istore (lv' := [(5, .int q4), (4, .int t0), (0, .ref aN), (1, .ref aS), (2, .int x2), (3, .int x3)]) hx hb dX2_fitsUnscaled_35 hl (by decide) rfl (fun ls hl => ?_)
  refine lv_aload_n hx hb dX2_fitsUnscaled_37 rfl (lv_at hl 2 rfl) ?_
  refine lv_iload_n hx hb dX2_fitsUnscaled_38 rfl (lv_at hl 5 rfl) ?_
  refine lv_iload_n hx hb dX2_fitsUnscaled_39 rfl (lv_at hl 4 rfl) ?_
  refine lv_isub hx hb dX2_fitsUnscaled_40 ?_
  refine va_put (D := D) (ci := 1) (v := .int (x3 - x2)) (ty := .int) (C := RX2) (T := TX2) (N := 8) hx hb hw zinX2 tyX2 tyX2_ok nmX2 hown hK hP hD hS 0 rfl rfl 2 (by decide) (hw _ zw202) (fun x9 h9 => u_same (hw _ zw201) x9 h9) rfl (by decide +kernel) rfl rfl (Nat.le_of_ble_eq_true rfl) dX2_fitsUnscaled_41 (fun H locs hP hD hS => ?_)
  have hP : va_P D vwCl (wNS aN bN aS rS c1 cs (upd v 2 (x3 - x2)) b sv sr) H := hP
  have hD : va_D _ (wNS aN bN aS rS c1 cs (upd v 2 (x3 - x2)) b sv sr) := hD
  refine lv_aload_n hx hb dX2_fitsUnscaled_44 rfl (lv_at hl 2 rfl) ?_
  refine lv_iload hx hb dX2_fitsUnscaled_45 (lv_at hl 0 rfl) ?_
  refine lv_iload hx hb dX2_fitsUnscaled_47 (lv_at hl 1 rfl) ?_
  refine lv_isub hx hb dX2_fitsUnscaled_49 ?_
  refine va_put (D := D) (ci := 1) (v := .int (q4 - t0)) (ty := .int) (C := RX2) (T := TX2) (N := 8) hx hb hw zinX2 tyX2 tyX2_ok nmX2 hown hK hP hD hS 0 rfl rfl 3 (by decide) (hw _ zw204) (fun x9 h9 => u_same (hw _ zw203) x9 h9) rfl (by decide +kernel) rfl rfl (Nat.le_of_ble_eq_true rfl) dX2_fitsUnscaled_50 (fun H locs hP hD hS => ?_)
  have hP : va_P D vwCl (wNS aN bN aS rS c1 cs (upd (upd v 2 (x3 - x2)) 3 (q4 - t0)) b sv sr) H := hP
  have hD : va_D _ (wNS aN bN aS rS c1 cs (upd (upd v 2 (x3 - x2)) 3 (q4 - t0)) b sv sr) := hD
  refine lv_aload_n hx hb dX2_fitsUnscaled_53 rfl (lv_at hl 2 rfl) ?_
  refine lv_aload_n hx hb dX2_fitsUnscaled_54 rfl (lv_at hl 2 rfl) ?_
  refine va_get (D := D) (ci := 1) (v := .int ((upd (upd v 2 (x3 - x2)) 3 (q4 - t0)) 2)) (C := RX2) (T := TX2) (N := 8) hx hb hw zinX2 hown hK hP 0 rfl rfl 2 (by decide) (hw _ zw202) (fun x9 h9 => u_same (hw _ zw201) x9 h9) rfl dX2_fitsUnscaled_55 ?_
  refine lv_aload_n hx hb dX2_fitsUnscaled_58 rfl (lv_at hl 2 rfl) ?_
  refine va_get (D := D) (ci := 1) (v := .int ((upd (upd v 2 (x3 - x2)) 3 (q4 - t0)) 3)) (C := RX2) (T := TX2) (N := 8) hx hb hw zinX2 hown hK hP 0 rfl rfl 3 (by decide) (hw _ zw204) (fun x9 h9 => u_same (hw _ zw203) x9 h9) rfl dX2_fitsUnscaled_59 ?_
  refine lv_iadd hx hb dX2_fitsUnscaled_62 ?_
  refine va_put (D := D) (ci := 1) (v := .int (((upd (upd v 2 (x3 - x2)) 3 (q4 - t0)) 2) + ((upd (upd v 2 (x3 - x2)) 3 (q4 - t0)) 3))) (ty := .int) (C := RX2) (T := TX2) (N := 8) hx hb hw zinX2 tyX2 tyX2_ok nmX2 hown hK hP hD hS 0 rfl rfl 5 (by decide) (hw _ zw205) (fun _ h9 => h9) rfl (by decide +kernel) rfl rfl (Nat.le_of_ble_eq_true rfl) dX2_fitsUnscaled_63 (fun H locs hP hD hS => ?_)
  have hP : va_P D vwCl (wNS aN bN aS rS c1 cs (upd (upd (upd v 2 (x3 - x2)) 3 (q4 - t0)) 5 (((upd (upd v 2 (x3 - x2)) 3 (q4 - t0)) 2) + ((upd (upd v 2 (x3 - x2)) 3 (q4 - t0)) 3))) b sv sr) H := hP
  have hD : va_D _ (wNS aN bN aS rS c1 cs (upd (upd (upd v 2 (x3 - x2)) 3 (q4 - t0)) 5 (((upd (upd v 2 (x3 - x2)) 3 (q4 - t0)) 2) + ((upd (upd v 2 (x3 - x2)) 3 (q4 - t0)) 3))) b sv sr) := hD
  refine lv_aload_n hx hb dX2_fitsUnscaled_66 rfl (lv_at hl 2 rfl) ?_
  refine lv_aload_n hx hb dX2_fitsUnscaled_67 rfl (lv_at hl 2 rfl) ?_
  refine va_get (D := D) (ci := 1) (v := .int ((upd (upd (upd v 2 (x3 - x2)) 3 (q4 - t0)) 5 (((upd (upd v 2 (x3 - x2)) 3 (q4 - t0)) 2) + ((upd (upd v 2 (x3 - x2)) 3 (q4 - t0)) 3))) 3)) (C := RX2) (T := TX2) (N := 8) hx hb hw zinX2 hown hK hP 0 rfl rfl 3 (by decide) (hw _ zw204) (fun x9 h9 => u_same (hw _ zw203) x9 h9) rfl dX2_fitsUnscaled_68 ?_
  refine lv_ineg hx hb dX2_fitsUnscaled_71 ?_
  refine va_put (D := D) (ci := 1) (v := .int (0 - ((upd (upd (upd v 2 (x3 - x2)) 3 (q4 - t0)) 5 (((upd (upd v 2 (x3 - x2)) 3 (q4 - t0)) 2) + ((upd (upd v 2 (x3 - x2)) 3 (q4 - t0)) 3))) 3))) (ty := .int) (C := RX2) (T := TX2) (N := 8) hx hb hw zinX2 tyX2 tyX2_ok nmX2 hown hK hP hD hS 0 rfl rfl 6 (by decide) (hw _ zw206) (fun _ h9 => h9) rfl (by decide +kernel) rfl rfl (Nat.le_of_ble_eq_true rfl) dX2_fitsUnscaled_72 (fun H locs hP hD hS => ?_)
  have hP : va_P D vwCl (wNS aN bN aS rS c1 cs (upd (upd (upd (upd v 2 (x3 - x2)) 3 (q4 - t0)) 5 (((upd (upd v 2 (x3 - x2)) 3 (q4 - t0)) 2) + ((upd (upd v 2 (x3 - x2)) 3 (q4 - t0)) 3))) 6 (0 - ((upd (upd (upd v 2 (x3 - x2)) 3 (q4 - t0)) 5 (((upd (upd v 2 (x3 - x2)) 3 (q4 - t0)) 2) + ((upd (upd v 2 (x3 - x2)) 3 (q4 - t0)) 3))) 3))) b sv sr) H := hP
  have hD : va_D _ (wNS aN bN aS rS c1 cs (upd (upd (upd (upd v 2 (x3 - x2)) 3 (q4 - t0)) 5 (((upd (upd v 2 (x3 - x2)) 3 (q4 - t0)) 2) + ((upd (upd v 2 (x3 - x2)) 3 (q4 - t0)) 3))) 6 (0 - ((upd (upd (upd v 2 (x3 - x2)) 3 (q4 - t0)) 5 (((upd (upd v 2 (x3 - x2)) 3 (q4 - t0)) 2) + ((upd (upd v 2 (x3 - x2)) 3 (q4 - t0)) 3))) 3))) b sv sr) := hD
  exact b_N_fitsUnscaled_75 G0 hK hX _ _ hm H _ _ hP hD hS (lv_sub hl [2, 3, 0] rfl)
end
set_option maxRecDepth 100000 in
set_option maxHeartbeats 4000000 in
theorem k_N_fitsUnscaled (l : Launch) (D : va_G) (aN bN aS rS : Nat) (c1 cs : ClassId) (sz : Nat) (a1 : Int32) (v : Nat → Int32) (b : Nat → Int32) (sv : Nat → Int32) (sr : Nat → Int32) (res : (Int32) × (Nat → Int32)) (hm : m_N_fitsUnscaled a1 v b sv sr  = some res) : Met l yX2_fitsUnscaled (Cond.code yX2_fitsUnscaled cX2_fitsUnscaled 6 (some .boolean) :: zBIG) (zR 1 23) (va_Pc [.ref aN, .ref aS, .int a1] (zP zC D vwCl (wNS_t c1 cs) (wNS aN bN aS rS c1 cs v b sv sr) sz)) (zQi D vwCl (wNS aN bN aS rS c1 cs v b sv sr) (wNS aN bN aS rS c1 cs res.2 b sv sr) sz res.1) 0 0 (va_A (wNS aN bN aS rS c1 cs v b sv sr) sz) := by
  refine zEnter RX2 [.ref aN, .ref aS, .int a1] (by decide) rfl (Nat.le_of_ble_eq_true rfl) (fun p e s m below meth c ls G hK hX hP hD hsz hl => ?_)
  subst hsz
  unfold m_N_fitsUnscaled at hm
  have hl : lv_has ls 6 [(0, .ref aN), (1, .ref aS), (2, .int a1)] := hl
  have hS : va_S (va_A (wNS aN bN aS rS c1 cs v b sv sr) s.heap.size) s.heap s.heap [] := va_S.rf
  have hA : ∀ q, s.heap.size ≤ q → va_A (wNS aN bN aS rS c1 cs v b sv sr) s.heap.size q := fun q h => Or.inr h
  have G0 := G
  obtain ⟨hx, hb, hr, hml, hown, hw, hlk⟩ := G
  refine lv_aload_n hx hb dX2_fitsUnscaled_0 rfl (lv_at hl 1 rfl) ?_
  refine lv_bipush (v := 57) hx hb dX2_fitsUnscaled_1 (by decide) ?_
  refine lv_iload_n hx hb dX2_fitsUnscaled_3 rfl (lv_at hl 2 rfl) ?_
  obtain ⟨q1, hq1, hm⟩ := zbind hm
  have hPc := hP.sub (ws' := (wS aS rS cs sv sr)) [2, 3] rfl
  have hDc := hD.sub (ws' := (wS aS rS cs sv sr)) [2, 3] (by decide) rfl
  have hKc := hK.sub (tys' := wS_t cs) [1] rfl
  have hFc := va_free (wc := (wS aS rS cs sv sr)) hD hS hA [2, 3] rfl
  refine zbSi (wr := [(aN, .inr (1, [.ref bN, .int (v 1), .int (v 2), .int (v 3), .int (v 4), .int (v 5), .int (v 6), .int (v 7)])), (bN, .inl (c1, 25, .inl b))]) (w1 := (wS aS rS cs sv sr)) (w' := (wNS aN bN aS rS c1 cs v b sv sr)) (va_runV (As := [.int 57, .int a1]) (rest := []) ⟨hx, hb, hml, hown, hw⟩ (k_S_runEnd l D aS rS cs _ 57 a1 sv sr  q1 hq1) (zcV (C := RX3) 2 hw (zgood zw193) rfl rfl rfl zw179 zw195 zw194 zw196 hdX3_runEnd ⟨Nat.le_of_ble_eq_true rfl, Nat.le_of_ble_eq_true rfl⟩) (zpreV (zpre zC_ok hX hS hFc hPc hKc hDc) (va_recv hK hP rfl (q0 := 2) rfl)) rfl rfl hl.1 rfl (lv_room (Nat.le_of_ble_eq_true rfl)) dX2_fitsUnscaled_4 ⟨Nat.zero_le _, Nat.zero_le _⟩) hP hD hS hFc [2, 3] [0, 1] [0, 1, 2, 3] rfl rfl (by decide) (by decide) rfl (by decide) (fun H locs hP hD hS => ?_)
  refine lv_istore_n (lv' := [(3, .int q1), (0, .ref aN), (1, .ref aS), (2, .int a1)]) hx hb dX2_fitsUnscaled_7 rfl hl (by decide) rfl (fun ls hl => ?_)
  refine lv_aload_n hx hb dX2_fitsUnscaled_8 rfl (lv_at hl 2 rfl) ?_
  refine lv_iload_n hx hb dX2_fitsUnscaled_9 rfl (lv_at hl 0 rfl) ?_
  obtain ⟨q2, hq2, hm⟩ := zbind hm
  have hPc := hP.sub (ws' := (wS aS rS cs sv sr)) [2, 3] rfl
  have hDc := hD.sub (ws' := (wS aS rS cs sv sr)) [2, 3] (by decide) rfl
  have hKc := hK.sub (tys' := wS_t cs) [1] rfl
  have hFc := va_free (wc := (wS aS rS cs sv sr)) hD hS hA [2, 3] rfl
  refine zbSi (wr := [(aN, .inr (1, [.ref bN, .int (v 1), .int (v 2), .int (v 3), .int (v 4), .int (v 5), .int (v 6), .int (v 7)])), (bN, .inl (c1, 25, .inl b))]) (w1 := (wS aS rS cs sv sr)) (w' := (wNS aN bN aS rS c1 cs v b sv sr)) (va_runV (As := [.int q1]) (rest := []) ⟨hx, hb, hml, hown, hw⟩ (k_S_symbolAt l D aS rS cs _ q1 sv sr  q2 hq2) (zcV (C := RX3) 1 hw (zgood zw197) rfl rfl rfl zw179 zw199 zw198 zw200 hdX3_symbolAt ⟨Nat.le_of_ble_eq_true rfl, Nat.le_of_ble_eq_true rfl⟩) (zpreV (zpre zC_ok hX hS hFc hPc hKc hDc) (va_recv hK hP rfl (q0 := 2) rfl)) rfl rfl hl.1 rfl (lv_room (Nat.le_of_ble_eq_true rfl)) dX2_fitsUnscaled_10 ⟨Nat.zero_le _, Nat.zero_le _⟩) hP hD hS hFc [2, 3] [0, 1] [0, 1, 2, 3] rfl rfl (by decide) (by decide) rfl (by decide) (fun H locs hP hD hS => ?_)
  refine lv_bipush (v := 86) hx hb dX2_fitsUnscaled_13 (by decide) ?_
  refine lv_icmp_ne (tgt := 24) hx hb dX2_fitsUnscaled_15 rfl (fun cd3 => ?_) (fun cd3 => ?_)
  · replace hm := zf cd3 hm
    refine lv_iload_n hx hb dX2_fitsUnscaled_24 rfl (lv_at hl 0 rfl) ?_
    exact b_N_fitsUnscaled_25 G0 hK hX _ _ _ _ hm _ _ _ hP hD hS (lv_sub hl [1, 2, 3, 0] rfl)
  · replace hm := zt cd3 hm
    refine lv_iload_n hx hb dX2_fitsUnscaled_18 rfl (lv_at hl 0 rfl) ?_
    refine lv_iconst (v := 1) hx hb dX2_fitsUnscaled_19 (by decide) ?_
    refine lv_iadd hx hb dX2_fitsUnscaled_20 ?_
    refine lv_goto (tgt := 25) hx hb dX2_fitsUnscaled_21 rfl ?_
    exact b_N_fitsUnscaled_25 G0 hK hX _ _ _ _ hm _ _ _ hP hD hS (lv_sub hl [1, 2, 3, 0] rfl)

theorem dX2_fitsScaledBefore_0 : decode cX2_fitsScaledBefore 0 = .ok (.aload_n 1, 1) := by decide +kernel
theorem dX2_fitsScaledBefore_1 : decode cX2_fitsScaledBefore 1 = .ok (.iload_n 2, 1) := by decide +kernel
theorem dX2_fitsScaledBefore_2 : decode cX2_fitsScaledBefore 2 = .ok (.invokevirtual 9, 3) := by decide +kernel
theorem dX2_fitsScaledBefore_5 : decode cX2_fitsScaledBefore 5 = .ok (.bipush 86, 2) := by decide +kernel
theorem dX2_fitsScaledBefore_7 : decode cX2_fitsScaledBefore 7 = .ok (.if_icmp .ne 7, 3) := by decide +kernel
theorem dX2_fitsScaledBefore_10 : decode cX2_fitsScaledBefore 10 = .ok (.iconst 1, 1) := by decide +kernel
theorem dX2_fitsScaledBefore_11 : decode cX2_fitsScaledBefore 11 = .ok (.goto 4, 3) := by decide +kernel
theorem dX2_fitsScaledBefore_14 : decode cX2_fitsScaledBefore 14 = .ok (.iconst 0, 1) := by decide +kernel
theorem dX2_fitsScaledBefore_15 : decode cX2_fitsScaledBefore 15 = .ok (.istore_n 3, 1) := by decide +kernel
theorem dX2_fitsScaledBefore_16 : decode cX2_fitsScaledBefore 16 = .ok (.iload_n 3, 1) := by decide +kernel
theorem dX2_fitsScaledBefore_17 : decode cX2_fitsScaledBefore 17 = .ok (.ifCond .eq 9, 3) := by decide +kernel
theorem dX2_fitsScaledBefore_20 : decode cX2_fitsScaledBefore 20 = .ok (.iload_n 2, 1) := by decide +kernel
theorem dX2_fitsScaledBefore_21 : decode cX2_fitsScaledBefore 21 = .ok (.iconst 1, 1) := by decide +kernel
theorem dX2_fitsScaledBefore_22 : decode cX2_fitsScaledBefore 22 = .ok (.iadd, 1) := by decide +kernel
theorem dX2_fitsScaledBefore_23 : decode cX2_fitsScaledBefore 23 = .ok (.goto 4, 3) := by decide +kernel
theorem dX2_fitsScaledBefore_26 : decode cX2_fitsScaledBefore 26 = .ok (.iload_n 2, 1) := by decide +kernel
theorem dX2_fitsScaledBefore_27 : decode cX2_fitsScaledBefore 27 = .ok (.istore 4, 2) := by decide +kernel
theorem dX2_fitsScaledBefore_29 : decode cX2_fitsScaledBefore 29 = .ok (.aload_n 1, 1) := by decide +kernel
theorem dX2_fitsScaledBefore_30 : decode cX2_fitsScaledBefore 30 = .ok (.bipush 80, 2) := by decide +kernel
theorem dX2_fitsScaledBefore_32 : decode cX2_fitsScaledBefore 32 = .ok (.iload 4, 2) := by decide +kernel
theorem dX2_fitsScaledBefore_34 : decode cX2_fitsScaledBefore 34 = .ok (.invokevirtual 47, 3) := by decide +kernel
theorem dX2_fitsScaledBefore_37 : decode cX2_fitsScaledBefore 37 = .ok (.istore 5, 2) := by decide +kernel
theorem dX2_fitsScaledBefore_39 : decode cX2_fitsScaledBefore 39 = .ok (.iload_n 3, 1) := by decide +kernel
theorem dX2_fitsScaledBefore_40 : decode cX2_fitsScaledBefore 40 = .ok (.ifCond .ne 18, 3) := by decide +kernel
theorem dX2_fitsScaledBefore_43 : decode cX2_fitsScaledBefore 43 = .ok (.aload_n 1, 1) := by decide +kernel
theorem dX2_fitsScaledBefore_44 : decode cX2_fitsScaledBefore 44 = .ok (.iload 5, 2) := by decide +kernel
theorem dX2_fitsScaledBefore_46 : decode cX2_fitsScaledBefore 46 = .ok (.invokevirtual 9, 3) := by decide +kernel
theorem dX2_fitsScaledBefore_49 : decode cX2_fitsScaledBefore 49 = .ok (.bipush 86, 2) := by decide +kernel
theorem dX2_fitsScaledBefore_51 : decode cX2_fitsScaledBefore 51 = .ok (.if_icmp .ne 7, 3) := by decide +kernel
theorem dX2_fitsScaledBefore_54 : decode cX2_fitsScaledBefore 54 = .ok (.iconst 1, 1) := by decide +kernel
theorem dX2_fitsScaledBefore_55 : decode cX2_fitsScaledBefore 55 = .ok (.goto 4, 3) := by decide +kernel
theorem dX2_fitsScaledBefore_58 : decode cX2_fitsScaledBefore 58 = .ok (.iconst 0, 1) := by decide +kernel
theorem dX2_fitsScaledBefore_59 : decode cX2_fitsScaledBefore 59 = .ok (.istore 6, 2) := by decide +kernel
theorem dX2_fitsScaledBefore_61 : decode cX2_fitsScaledBefore 61 = .ok (.iload 6, 2) := by decide +kernel
theorem dX2_fitsScaledBefore_63 : decode cX2_fitsScaledBefore 63 = .ok (.ifCond .eq 10, 3) := by decide +kernel
theorem dX2_fitsScaledBefore_66 : decode cX2_fitsScaledBefore 66 = .ok (.iload 5, 2) := by decide +kernel
theorem dX2_fitsScaledBefore_68 : decode cX2_fitsScaledBefore 68 = .ok (.iconst 1, 1) := by decide +kernel
theorem dX2_fitsScaledBefore_69 : decode cX2_fitsScaledBefore 69 = .ok (.iadd, 1) := by decide +kernel
theorem dX2_fitsScaledBefore_70 : decode cX2_fitsScaledBefore 70 = .ok (.goto 5, 3) := by decide +kernel
theorem dX2_fitsScaledBefore_73 : decode cX2_fitsScaledBefore 73 = .ok (.iload 5, 2) := by decide +kernel
theorem dX2_fitsScaledBefore_75 : decode cX2_fitsScaledBefore 75 = .ok (.istore 7, 2) := by decide +kernel
theorem dX2_fitsScaledBefore_77 : decode cX2_fitsScaledBefore 77 = .ok (.aload_n 1, 1) := by decide +kernel
theorem dX2_fitsScaledBefore_78 : decode cX2_fitsScaledBefore 78 = .ok (.bipush 57, 2) := by decide +kernel
theorem dX2_fitsScaledBefore_80 : decode cX2_fitsScaledBefore 80 = .ok (.iload 7, 2) := by decide +kernel
theorem dX2_fitsScaledBefore_82 : decode cX2_fitsScaledBefore 82 = .ok (.invokevirtual 47, 3) := by decide +kernel
theorem dX2_fitsScaledBefore_85 : decode cX2_fitsScaledBefore 85 = .ok (.istore 8, 2) := by decide +kernel
theorem dX2_fitsScaledBefore_87 : decode cX2_fitsScaledBefore 87 = .ok (.aload_n 0, 1) := by decide +kernel
theorem dX2_fitsScaledBefore_88 : decode cX2_fitsScaledBefore 88 = .ok (.iload 8, 2) := by decide +kernel
theorem dX2_fitsScaledBefore_90 : decode cX2_fitsScaledBefore 90 = .ok (.iload 7, 2) := by decide +kernel
theorem dX2_fitsScaledBefore_92 : decode cX2_fitsScaledBefore 92 = .ok (.isub, 1) := by decide +kernel
theorem dX2_fitsScaledBefore_93 : decode cX2_fitsScaledBefore 93 = .ok (.putfield 41, 3) := by decide +kernel
theorem dX2_fitsScaledBefore_96 : decode cX2_fitsScaledBefore 96 = .ok (.aload_n 0, 1) := by decide +kernel
theorem dX2_fitsScaledBefore_97 : decode cX2_fitsScaledBefore 97 = .ok (.iconst 0, 1) := by decide +kernel
theorem dX2_fitsScaledBefore_98 : decode cX2_fitsScaledBefore 98 = .ok (.putfield 31, 3) := by decide +kernel
theorem dX2_fitsScaledBefore_101 : decode cX2_fitsScaledBefore 101 = .ok (.aload_n 0, 1) := by decide +kernel
theorem dX2_fitsScaledBefore_102 : decode cX2_fitsScaledBefore 102 = .ok (.iload 5, 2) := by decide +kernel
theorem dX2_fitsScaledBefore_104 : decode cX2_fitsScaledBefore 104 = .ok (.iload 4, 2) := by decide +kernel
theorem dX2_fitsScaledBefore_106 : decode cX2_fitsScaledBefore 106 = .ok (.isub, 1) := by decide +kernel
theorem dX2_fitsScaledBefore_107 : decode cX2_fitsScaledBefore 107 = .ok (.aload_n 0, 1) := by decide +kernel
theorem dX2_fitsScaledBefore_108 : decode cX2_fitsScaledBefore 108 = .ok (.getfield 41, 3) := by decide +kernel
theorem dX2_fitsScaledBefore_111 : decode cX2_fitsScaledBefore 111 = .ok (.iadd, 1) := by decide +kernel
theorem dX2_fitsScaledBefore_112 : decode cX2_fitsScaledBefore 112 = .ok (.putfield 35, 3) := by decide +kernel
theorem dX2_fitsScaledBefore_115 : decode cX2_fitsScaledBefore 115 = .ok (.aload_n 0, 1) := by decide +kernel
theorem dX2_fitsScaledBefore_116 : decode cX2_fitsScaledBefore 116 = .ok (.aload_n 0, 1) := by decide +kernel
theorem dX2_fitsScaledBefore_117 : decode cX2_fitsScaledBefore 117 = .ok (.getfield 35, 3) := by decide +kernel
theorem dX2_fitsScaledBefore_120 : decode cX2_fitsScaledBefore 120 = .ok (.ineg, 1) := by decide +kernel
theorem dX2_fitsScaledBefore_121 : decode cX2_fitsScaledBefore 121 = .ok (.putfield 51, 3) := by decide +kernel
theorem dX2_fitsScaledBefore_124 : decode cX2_fitsScaledBefore 124 = .ok (.iload 5, 2) := by decide +kernel
theorem dX2_fitsScaledBefore_126 : decode cX2_fitsScaledBefore 126 = .ok (.iload 4, 2) := by decide +kernel
theorem dX2_fitsScaledBefore_128 : decode cX2_fitsScaledBefore 128 = .ok (.if_icmp .le 23, 3) := by decide +kernel
theorem dX2_fitsScaledBefore_131 : decode cX2_fitsScaledBefore 131 = .ok (.aload_n 0, 1) := by decide +kernel
theorem dX2_fitsScaledBefore_132 : decode cX2_fitsScaledBefore 132 = .ok (.getfield 41, 3) := by decide +kernel
theorem dX2_fitsScaledBefore_135 : decode cX2_fitsScaledBefore 135 = .ok (.ifCond .le 16, 3) := by decide +kernel
theorem dX2_fitsScaledBefore_138 : decode cX2_fitsScaledBefore 138 = .ok (.iload 8, 2) := by decide +kernel
theorem dX2_fitsScaledBefore_140 : decode cX2_fitsScaledBefore 140 = .ok (.aload_n 1, 1) := by decide +kernel
theorem dX2_fitsScaledBefore_141 : decode cX2_fitsScaledBefore 141 = .ok (.getfield 54, 3) := by decide +kernel
theorem dX2_fitsScaledBefore_144 : decode cX2_fitsScaledBefore 144 = .ok (.if_icmp .ne 7, 3) := by decide +kernel
theorem dX2_fitsScaledBefore_147 : decode cX2_fitsScaledBefore 147 = .ok (.iconst 1, 1) := by decide +kernel
theorem dX2_fitsScaledBefore_148 : decode cX2_fitsScaledBefore 148 = .ok (.goto 4, 3) := by decide +kernel
theorem dX2_fitsScaledBefore_151 : decode cX2_fitsScaledBefore 151 = .ok (.iconst 0, 1) := by decide +kernel
theorem dX2_fitsScaledBefore_152 : decode cX2_fitsScaledBefore 152 = .ok (.ireturn, 1) := by decide +kernel
def m_N_fitsScaledBefore_124 (b : Nat → Int32) (sv : Nat → Int32) (sr : Nat → Int32) (x4 : Int32) (x5 : Int32) (x8 : Int32) (v : Nat → Int32) : Option ((Int32) × (Nat → Int32)) := (if x5 ≤ x4 then (zbo 0 (some (0, v))) else (if (v 5) ≤ 0 then (zbo 0 (some (0, v))) else (if x8 = (sv 1) then (zbo 1 (some (1, v))) else (zbo 0 (some (0, v))))))
def m_N_fitsScaledBefore_75 (b : Nat → Int32) (sv : Nat → Int32) (sr : Nat → Int32) (x4 : Int32) (x5 : Int32) (t0 : Int32) (v : Nat → Int32) : Option ((Int32) × (Nat → Int32)) := (m_S_runEnd 57 t0 sv sr).bind (fun q7 => m_N_fitsScaledBefore_124 b sv sr x4 x5 q7 (upd (upd (upd (upd v 5 (q7 - t0)) 2 0) 3 ((x5 - x4) + ((upd (upd v 5 (q7 - t0)) 2 0) 5))) 6 (0 - ((upd (upd (upd v 5 (q7 - t0)) 2 0) 3 ((x5 - x4) + ((upd (upd v 5 (q7 - t0)) 2 0) 5))) 3))))
def m_N_fitsScaledBefore_59 (b : Nat → Int32) (sv : Nat → Int32) (sr : Nat → Int32) (x4 : Int32) (x5 : Int32) (t0 : Int32) (v : Nat → Int32) : Option ((Int32) × (Nat → Int32)) := (if t0 = 0 then m_N_fitsScaledBefore_75 b sv sr x4 x5 x5 v else m_N_fitsScaledBefore_75 b sv sr x4 x5 (x5 + 1) v)
def m_N_fitsScaledBefore_58 (b : Nat → Int32) (sv : Nat → Int32) (sr : Nat → Int32) (x4 : Int32) (x5 : Int32) (v : Nat → Int32) : Option ((Int32) × (Nat → Int32)) := m_N_fitsScaledBefore_59 b sv sr x4 x5 0 v
def m_N_fitsScaledBefore_27 (b : Nat → Int32) (sv : Nat → Int32) (sr : Nat → Int32) (x3 : Int32) (t0 : Int32) (v : Nat → Int32) : Option ((Int32) × (Nat → Int32)) := (m_S_runEnd 80 t0 sv sr).bind (fun q4 => (if x3 = 0 then (m_S_symbolAt q4 sv sr).bind (fun q15 => (if q15 = 86 then m_N_fitsScaledBefore_59 b sv sr t0 q4 1 v else m_N_fitsScaledBefore_58 b sv sr t0 q4 v)) else m_N_fitsScaledBefore_58 b sv sr t0 q4 v))
def m_N_fitsScaledBefore_15 (b : Nat → Int32) (sv : Nat → Int32) (sr : Nat → Int32) (x2 : Int32) (t0 : Int32) (v : Nat → Int32) : Option ((Int32) × (Nat → Int32)) := (if t0 = 0 then m_N_fitsScaledBefore_27 b sv sr t0 x2 v else m_N_fitsScaledBefore_27 b sv sr t0 (x2 + 1) v)
def m_N_fitsScaledBefore (a1 : Int32) (v : Nat → Int32) (b : Nat → Int32) (sv : Nat → Int32) (sr : Nat → Int32)  : Option ((Int32) × (Nat → Int32)) := (m_S_symbolAt a1 sv sr).bind (fun q1 => (if q1 = 86 then m_N_fitsScaledBefore_15 b sv sr a1 1 v else m_N_fitsScaledBefore_15 b sv sr a1 0 v))
section
variable {p : Program} {l : Launch} {e : Env} {s : State} {m : MethodId} {args : Array Value} {below : List Frame} {meth : Method} {c : Code} {D : va_G} {w0 : va_W} {aN bN aS rS : Nat} {c1 cs : ClassId} {b : Nat → Int32} {sv : Nat → Int32} {sr : Nat → Int32}
set_option maxRecDepth 100000 in
set_option maxHeartbeats 4000000 in
theorem b_N_fitsScaledBefore_124 (G : zG p s m args meth c cX2_fitsScaledBefore RX2 9 (some .boolean)) (hK : va_K D vwCl (wNS_t c1 cs) s) (hX : zC (va_A w0 s.heap.size) s) {res : (Int32) × (Nat → Int32)} : ∀ (x4 : Int32) (x5 : Int32) (x8 : Int32) (v : Nat → Int32), m_N_fitsScaledBefore_124 b sv sr x4 x5 x8 v = some res → zB p l e (zR 1 23) s m args below meth c D vwCl (va_A w0 s.heap.size) (MQ below (zQi D vwCl w0 (wNS aN bN aS rS c1 cs res.2 b sv sr) s.heap.size res.1) args s 0 0 (va_A w0 s.heap.size)) 9 (wNS aN bN aS rS c1 cs v b sv sr) [(0, .ref aN), (1, .ref aS), (4, .int x4), (5, .int x5), (8, .int x8)] 124 [] := by
  intro x4 x5 x8 v hm H locs ls hP hD hS hl
  unfold m_N_fitsScaledBefore_124 at hm
  have G0 := G
  obtain ⟨hx, hb, hr, hml, hown, hw, hlk⟩ := G
  have hA : ∀ q, s.heap.size ≤ q → va_A w0 s.heap.size q := fun q h => Or.inr h
  refine lv_iload hx hb dX2_fitsScaledBefore_124 (lv_at hl 3 rfl) ?_
  refine lv_iload hx hb dX2_fitsScaledBefore_126 (lv_at hl 2 rfl) ?_
  refine lv_icmp_le (tgt := 151) hx hb dX2_fitsScaledBefore_128 rfl (fun cd8 => ?_) (fun cd8 => ?_)
  · replace hm := zt cd8 hm
    refine lv_iconst (v := 0) hx hb dX2_fitsScaledBefore_151 (by decide) ?_
    obtain ⟨hz9, -, hm⟩ := zbo_s hm
    cases hm
    exact zretz hx hb hr hlk hz9 hP hD hS dX2_fitsScaledBefore_152
  · replace hm := zf cd8 hm
    refine lv_aload_n hx hb dX2_fitsScaledBefore_131 rfl (lv_at hl 0 rfl) ?_
    refine va_get (D := D) (ci := 1) (v := .int (v 5)) (C := RX2) (T := TX2) (N := 8) hx hb hw zinX2 hown hK hP 0 rfl rfl 5 (by decide) (hw _ zw205) (fun _ h9 => h9) rfl dX2_fitsScaledBefore_132 ?_
    refine lv_if_le (tgt := 151) hx hb dX2_fitsScaledBefore_135 rfl (fun cd10 => ?_) (fun cd10 => ?_)
    · replace hm := zt cd10 hm
      refine lv_iconst (v := 0) hx hb dX2_fitsScaledBefore_151 (by decide) ?_
      obtain ⟨hz11, -, hm⟩ := zbo_s hm
      cases hm
      exact zretz hx hb hr hlk hz11 hP hD hS dX2_fitsScaledBefore_152
    · replace hm := zf cd10 hm
      refine lv_iload hx hb dX2_fitsScaledBefore_138 (lv_at hl 4 rfl) ?_
      refine lv_aload_n hx hb dX2_fitsScaledBefore_140 rfl (lv_at hl 1 rfl) ?_
      refine va_getN (D := D) (ci := 2) (v := .int (sv 1)) (C := RX3) (T := TX3) (N := 2) hx hb hw zinX3 hown hK hP 2 rfl rfl 1 (by decide) (va_Nw.use rfl (hX.1 _ zn1)) (fun _ h9 => h9) rfl dX2_fitsScaledBefore_141 ?_
      refine lv_icmp_ne (tgt := 151) hx hb dX2_fitsScaledBefore_144 rfl (fun cd12 => ?_) (fun cd12 => ?_)
      · replace hm := zf cd12 hm
        refine lv_iconst (v := 0) hx hb dX2_fitsScaledBefore_151 (by decide) ?_
        obtain ⟨hz13, -, hm⟩ := zbo_s hm
        cases hm
        exact zretz hx hb hr hlk hz13 hP hD hS dX2_fitsScaledBefore_152
      · replace hm := zt cd12 hm
        refine lv_iconst (v := 1) hx hb dX2_fitsScaledBefore_147 (by decide) ?_
        refine lv_goto (tgt := 152) hx hb dX2_fitsScaledBefore_148 rfl ?_
        obtain ⟨hz14, -, hm⟩ := zbo_s hm
        cases hm
        exact zretz hx hb hr hlk hz14 hP hD hS dX2_fitsScaledBefore_152
set_option maxRecDepth 100000 in
set_option maxHeartbeats 4000000 in
theorem b_N_fitsScaledBefore_75 (G : zG p s m args meth c cX2_fitsScaledBefore RX2 9 (some .boolean)) (hK : va_K D vwCl (wNS_t c1 cs) s) (hX : zC (va_A w0 s.heap.size) s) {res : (Int32) × (Nat → Int32)} : ∀ (x4 : Int32) (x5 : Int32) (t0 : Int32) (v : Nat → Int32), m_N_fitsScaledBefore_75 b sv sr x4 x5 t0 v = some res → zB p l e (zR 1 23) s m args below meth c D vwCl (va_A w0 s.heap.size) (MQ below (zQi D vwCl w0 (wNS aN bN aS rS c1 cs res.2 b sv sr) s.heap.size res.1) args s 0 0 (va_A w0 s.heap.size)) 9 (wNS aN bN aS rS c1 cs v b sv sr) [(0, .ref aN), (1, .ref aS), (4, .int x4), (5, .int x5)] 75 [.int t0] := by
  intro x4 x5 t0 v hm H locs ls hP hD hS hl
  unfold m_N_fitsScaledBefore_75 at hm
  have G0 := G
  obtain ⟨hx, hb, hr, hml, hown, hw, hlk⟩ := G
  have hA : ∀ q, s.heap.size ≤ q → va_A w0 s.heap.size q := fun q h => Or.inr h
  refine lv_istore (lv' := [(7, .int t0), (0, .ref aN), (1, .ref aS), (4, .int x4), (5, .int x5)]) hx hb dX2_fitsScaledBefore_75 hl (by decide) rfl (fun ls hl => ?_)
  refine lv_aload_n hx hb dX2_fitsScaledBefore_77 rfl (lv_at hl 2 rfl) ?_
  refine lv_bipush (v := 57) hx hb dX2_fitsScaledBefore_78 (by decide) ?_
  refine lv_iload hx hb dX2_fitsScaledBefore_80 (lv_at hl 0 rfl) ?_
  obtain ⟨q7, hq7, hm⟩ := zbind hm
  have hPc := hP.sub (ws' := (wS aS rS cs sv sr)) [2, 3] rfl
  have hDc := hD.sub (ws' := (wS aS rS cs sv sr)) [2, 3] (by decide) rfl
  have hKc := hK.sub (tys' := wS_t cs) [1] rfl
  have hFc := va_free (wc := (wS aS rS cs sv sr)) hD hS hA [2, 3] rfl
  refine zbSi (wr := [(aN, .inr (1, [.ref bN, .int (v 1), .int (v 2), .int (v 3), .int (v 4), .int (v 5), .int (v 6), .int (v 7)])), (bN, .inl (c1, 25, .inl b))]) (w1 := (wS aS rS cs sv sr)) (w' := (wNS aN bN aS rS c1 cs v b sv sr)) (va_runV (As := [.int 57, .int t0]) (rest := []) ⟨hx, hb, hml, hown, hw⟩ (k_S_runEnd l D aS rS cs _ 57 t0 sv sr  q7 hq7) (zcV (C := RX3) 2 hw (zgood zw193) rfl rfl rfl zw179 zw195 zw194 zw196 hdX3_runEnd ⟨Nat.le_of_ble_eq_true rfl, Nat.le_of_ble_eq_true rfl⟩) (zpreV (zpre zC_ok hX hS hFc hPc hKc hDc) (va_recv hK hP rfl (q0 := 2) rfl)) rfl rfl hl.1 rfl (lv_room (Nat.le_of_ble_eq_true rfl)) dX2_fitsScaledBefore_82 ⟨Nat.zero_le _, Nat.zero_le _⟩) hP hD hS hFc [2, 3] [0, 1] [0, 1, 2, 3] rfl rfl (by decide) (by decide) rfl (by decide) (fun H locs hP hD hS => ?_)
  refine lv_istore (lv' := [(8, .int q7), (7, .int t0), (0, .ref aN), (1, .ref aS), (4, .int x4), (5, .int x5)]) hx hb dX2_fitsScaledBefore_85 hl (by decide) rfl (fun ls hl => ?_)
  refine lv_aload_n hx hb dX2_fitsScaledBefore_87 rfl (lv_at hl 2 rfl) ?_
  refine lv_iload hx hb dX2_fitsScaledBefore_88 (lv_at hl 0 rfl) ?_
  refine lv_iload hx hb dX2_fitsScaledBefore_90 (lv_at hl 1 rfl) ?_
  refine lv_isub hx hb dX2_fitsScaledBefore_92 ?_
  refine va_put (D := D) (ci := 1) (v := .int (q7 - t0)) (ty := .int) (C := RX2) (T := TX2) (N := 8) hx hb hw zinX2 tyX2 tyX2_ok nmX2 hown hK hP hD hS 0 rfl rfl 5 (by decide) (hw _ zw205) (fun _ h9 => h9) rfl (by decide +kernel) rfl rfl (Nat.le_of_ble_eq_true rfl) dX2_fitsScaledBefore_93 (fun H locs hP hD hS => ?_)
  have hP : va_P D vwCl (wNS aN bN aS rS c1 cs (upd v 5 (q7 - t0)) b sv sr) H := hP
  have hD : va_D _ (wNS aN bN aS rS c1 cs (upd v 5 (q7 - t0)) b sv sr) := hD
  refine lv_aload_n hx hb dX2_fitsScaledBefore_96 rfl (lv_at hl 2 rfl) ?_
  refine lv_iconst (v := 0) hx hb dX2_fitsScaledBefore_97 (by decide) ?_
  refine va_put (D := D) (ci := 1) (v := .int 0) (ty := .int) (C := RX2) (T := TX2) (N := 8) hx hb hw zinX2 tyX2 tyX2_ok nmX2 hown hK hP hD hS 0 rfl rfl 2 (by decide) (hw _ zw202) (fun x9 h9 => u_same (hw _ zw201) x9 h9) rfl (by decide +kernel) rfl rfl (Nat.le_of_ble_eq_true rfl) dX2_fitsScaledBefore_98 (fun H locs hP hD hS => ?_)
  have hP : va_P D vwCl (wNS aN bN aS rS c1 cs (upd (upd v 5 (q7 - t0)) 2 0) b sv sr) H := hP
  have hD : va_D _ (wNS aN bN aS rS c1 cs (upd (upd v 5 (q7 - t0)) 2 0) b sv sr) := hD
  refine lv_aload_n hx hb dX2_fitsScaledBefore_101 rfl (lv_at hl 2 rfl) ?_
  refine lv_iload hx hb dX2_fitsScaledBefore_102 (lv_at hl 5 rfl) ?_
  refine lv_iload hx hb dX2_fitsScaledBefore_104 (lv_at hl 4 rfl) ?_
  refine lv_isub hx hb dX2_fitsScaledBefore_106 ?_
  refine lv_aload_n hx hb dX2_fitsScaledBefore_107 rfl (lv_at hl 2 rfl) ?_
  refine va_get (D := D) (ci := 1) (v := .int ((upd (upd v 5 (q7 - t0)) 2 0) 5)) (C := RX2) (T := TX2) (N := 8) hx hb hw zinX2 hown hK hP 0 rfl rfl 5 (by decide) (hw _ zw205) (fun _ h9 => h9) rfl dX2_fitsScaledBefore_108 ?_
  refine lv_iadd hx hb dX2_fitsScaledBefore_111 ?_
  refine va_put (D := D) (ci := 1) (v := .int ((x5 - x4) + ((upd (upd v 5 (q7 - t0)) 2 0) 5))) (ty := .int) (C := RX2) (T := TX2) (N := 8) hx hb hw zinX2 tyX2 tyX2_ok nmX2 hown hK hP hD hS 0 rfl rfl 3 (by decide) (hw _ zw204) (fun x9 h9 => u_same (hw _ zw203) x9 h9) rfl (by decide +kernel) rfl rfl (Nat.le_of_ble_eq_true rfl) dX2_fitsScaledBefore_112 (fun H locs hP hD hS => ?_)
  have hP : va_P D vwCl (wNS aN bN aS rS c1 cs (upd (upd (upd v 5 (q7 - t0)) 2 0) 3 ((x5 - x4) + ((upd (upd v 5 (q7 - t0)) 2 0) 5))) b sv sr) H := hP
  have hD : va_D _ (wNS aN bN aS rS c1 cs (upd (upd (upd v 5 (q7 - t0)) 2 0) 3 ((x5 - x4) + ((upd (upd v 5 (q7 - t0)) 2 0) 5))) b sv sr) := hD
  refine lv_aload_n hx hb dX2_fitsScaledBefore_115 rfl (lv_at hl 2 rfl) ?_
  refine lv_aload_n hx hb dX2_fitsScaledBefore_116 rfl (lv_at hl 2 rfl) ?_
  refine va_get (D := D) (ci := 1) (v := .int ((upd (upd (upd v 5 (q7 - t0)) 2 0) 3 ((x5 - x4) + ((upd (upd v 5 (q7 - t0)) 2 0) 5))) 3)) (C := RX2) (T := TX2) (N := 8) hx hb hw zinX2 hown hK hP 0 rfl rfl 3 (by decide) (hw _ zw204) (fun x9 h9 => u_same (hw _ zw203) x9 h9) rfl dX2_fitsScaledBefore_117 ?_
  refine lv_ineg hx hb dX2_fitsScaledBefore_120 ?_
  refine va_put (D := D) (ci := 1) (v := .int (0 - ((upd (upd (upd v 5 (q7 - t0)) 2 0) 3 ((x5 - x4) + ((upd (upd v 5 (q7 - t0)) 2 0) 5))) 3))) (ty := .int) (C := RX2) (T := TX2) (N := 8) hx hb hw zinX2 tyX2 tyX2_ok nmX2 hown hK hP hD hS 0 rfl rfl 6 (by decide) (hw _ zw206) (fun _ h9 => h9) rfl (by decide +kernel) rfl rfl (Nat.le_of_ble_eq_true rfl) dX2_fitsScaledBefore_121 (fun H locs hP hD hS => ?_)
  have hP : va_P D vwCl (wNS aN bN aS rS c1 cs (upd (upd (upd (upd v 5 (q7 - t0)) 2 0) 3 ((x5 - x4) + ((upd (upd v 5 (q7 - t0)) 2 0) 5))) 6 (0 - ((upd (upd (upd v 5 (q7 - t0)) 2 0) 3 ((x5 - x4) + ((upd (upd v 5 (q7 - t0)) 2 0) 5))) 3))) b sv sr) H := hP
  have hD : va_D _ (wNS aN bN aS rS c1 cs (upd (upd (upd (upd v 5 (q7 - t0)) 2 0) 3 ((x5 - x4) + ((upd (upd v 5 (q7 - t0)) 2 0) 5))) 6 (0 - ((upd (upd (upd v 5 (q7 - t0)) 2 0) 3 ((x5 - x4) + ((upd (upd v 5 (q7 - t0)) 2 0) 5))) 3))) b sv sr) := hD
  exact b_N_fitsScaledBefore_124 G0 hK hX _ _ _ _ hm H _ _ hP hD hS (lv_sub hl [2, 3, 4, 5, 0] rfl)
set_option maxRecDepth 100000 in
set_option maxHeartbeats 4000000 in
theorem b_N_fitsScaledBefore_59 (G : zG p s m args meth c cX2_fitsScaledBefore RX2 9 (some .boolean)) (hK : va_K D vwCl (wNS_t c1 cs) s) (hX : zC (va_A w0 s.heap.size) s) {res : (Int32) × (Nat → Int32)} : ∀ (x4 : Int32) (x5 : Int32) (t0 : Int32) (v : Nat → Int32), m_N_fitsScaledBefore_59 b sv sr x4 x5 t0 v = some res → zB p l e (zR 1 23) s m args below meth c D vwCl (va_A w0 s.heap.size) (MQ below (zQi D vwCl w0 (wNS aN bN aS rS c1 cs res.2 b sv sr) s.heap.size res.1) args s 0 0 (va_A w0 s.heap.size)) 9 (wNS aN bN aS rS c1 cs v b sv sr) [(0, .ref aN), (1, .ref aS), (4, .int x4), (5, .int x5)] 59 [.int t0] := by
  intro x4 x5 t0 v hm H locs ls hP hD hS hl
  unfold m_N_fitsScaledBefore_59 at hm
  have G0 := G
  obtain ⟨hx, hb, hr, hml, hown, hw, hlk⟩ := G
  have hA : ∀ q, s.heap.size ≤ q → va_A w0 s.heap.size q := fun q h => Or.inr h
  refine lv_istore (lv' := [(6, .int t0), (0, .ref aN), (1, .ref aS), (4, .int x4), (5, .int x5)]) hx hb dX2_fitsScaledBefore_59 hl (by decide) rfl (fun ls hl => ?_)
  refine lv_iload hx hb dX2_fitsScaledBefore_61 (lv_at hl 0 rfl) ?_
  refine lv_if_eq (tgt := 73) hx hb dX2_fitsScaledBefore_63 rfl (fun cd6 => ?_) (fun cd6 => ?_)
  · replace hm := zt cd6 hm
    refine lv_iload hx hb dX2_fitsScaledBefore_73 (lv_at hl 4 rfl) ?_
    exact b_N_fitsScaledBefore_75 G0 hK hX _ _ _ _ hm H _ _ hP hD hS (lv_sub hl [1, 2, 3, 4] rfl)
  · replace hm := zf cd6 hm
    refine lv_iload hx hb dX2_fitsScaledBefore_66 (lv_at hl 4 rfl) ?_
    refine lv_iconst (v := 1) hx hb dX2_fitsScaledBefore_68 (by decide) ?_
    refine lv_iadd hx hb dX2_fitsScaledBefore_69 ?_
    refine lv_goto (tgt := 75) hx hb dX2_fitsScaledBefore_70 rfl ?_
    exact b_N_fitsScaledBefore_75 G0 hK hX _ _ _ _ hm H _ _ hP hD hS (lv_sub hl [1, 2, 3, 4] rfl)
set_option maxRecDepth 100000 in
set_option maxHeartbeats 4000000 in
theorem b_N_fitsScaledBefore_58 (G : zG p s m args meth c cX2_fitsScaledBefore RX2 9 (some .boolean)) (hK : va_K D vwCl (wNS_t c1 cs) s) (hX : zC (va_A w0 s.heap.size) s) {res : (Int32) × (Nat → Int32)} : ∀ (x4 : Int32) (x5 : Int32) (v : Nat → Int32), m_N_fitsScaledBefore_58 b sv sr x4 x5 v = some res → zB p l e (zR 1 23) s m args below meth c D vwCl (va_A w0 s.heap.size) (MQ below (zQi D vwCl w0 (wNS aN bN aS rS c1 cs res.2 b sv sr) s.heap.size res.1) args s 0 0 (va_A w0 s.heap.size)) 9 (wNS aN bN aS rS c1 cs v b sv sr) [(0, .ref aN), (1, .ref aS), (4, .int x4), (5, .int x5)] 58 [] := by
  intro x4 x5 v hm H locs ls hP hD hS hl
  unfold m_N_fitsScaledBefore_58 at hm
  have G0 := G
  obtain ⟨hx, hb, hr, hml, hown, hw, hlk⟩ := G
  have hA : ∀ q, s.heap.size ≤ q → va_A w0 s.heap.size q := fun q h => Or.inr h
  refine lv_iconst (v := 0) hx hb dX2_fitsScaledBefore_58 (by decide) ?_
  exact b_N_fitsScaledBefore_59 G0 hK hX _ _ _ _ hm H _ _ hP hD hS hl
set_option maxRecDepth 100000 in
set_option maxHeartbeats 4000000 in
theorem b_N_fitsScaledBefore_27 (G : zG p s m args meth c cX2_fitsScaledBefore RX2 9 (some .boolean)) (hK : va_K D vwCl (wNS_t c1 cs) s) (hX : zC (va_A w0 s.heap.size) s) {res : (Int32) × (Nat → Int32)} : ∀ (x3 : Int32) (t0 : Int32) (v : Nat → Int32), m_N_fitsScaledBefore_27 b sv sr x3 t0 v = some res → zB p l e (zR 1 23) s m args below meth c D vwCl (va_A w0 s.heap.size) (MQ below (zQi D vwCl w0 (wNS aN bN aS rS c1 cs res.2 b sv sr) s.heap.size res.1) args s 0 0 (va_A w0 s.heap.size)) 9 (wNS aN bN aS rS c1 cs v b sv sr) [(0, .ref aN), (1, .ref aS), (3, .int x3)] 27 [.int t0] := by
  intro x3 t0 v hm H locs ls hP hD hS hl
  unfold m_N_fitsScaledBefore_27 at hm
  have G0 := G
  obtain ⟨hx, hb, hr, hml, hown, hw, hlk⟩ := G
  have hA : ∀ q, s.heap.size ≤ q → va_A w0 s.heap.size q := fun q h => Or.inr h
  refine lv_istore (lv' := [(4, .int t0), (0, .ref aN), (1, .ref aS), (3, .int x3)]) hx hb dX2_fitsScaledBefore_27 hl (by decide) rfl (fun ls hl => ?_)
  refine lv_aload_n hx hb dX2_fitsScaledBefore_29 rfl (lv_at hl 2 rfl) ?_
  refine lv_bipush (v := 80) hx hb dX2_fitsScaledBefore_30 (by decide) ?_
  refine lv_iload hx hb dX2_fitsScaledBefore_32 (lv_at hl 0 rfl) ?_
  obtain ⟨q4, hq4, hm⟩ := zbind hm
  have hPc := hP.sub (ws' := (wS aS rS cs sv sr)) [2, 3] rfl
  have hDc := hD.sub (ws' := (wS aS rS cs sv sr)) [2, 3] (by decide) rfl
  have hKc := hK.sub (tys' := wS_t cs) [1] rfl
  have hFc := va_free (wc := (wS aS rS cs sv sr)) hD hS hA [2, 3] rfl
  refine zbSi (wr := [(aN, .inr (1, [.ref bN, .int (v 1), .int (v 2), .int (v 3), .int (v 4), .int (v 5), .int (v 6), .int (v 7)])), (bN, .inl (c1, 25, .inl b))]) (w1 := (wS aS rS cs sv sr)) (w' := (wNS aN bN aS rS c1 cs v b sv sr)) (va_runV (As := [.int 80, .int t0]) (rest := []) ⟨hx, hb, hml, hown, hw⟩ (k_S_runEnd l D aS rS cs _ 80 t0 sv sr  q4 hq4) (zcV (C := RX3) 2 hw (zgood zw193) rfl rfl rfl zw179 zw195 zw194 zw196 hdX3_runEnd ⟨Nat.le_of_ble_eq_true rfl, Nat.le_of_ble_eq_true rfl⟩) (zpreV (zpre zC_ok hX hS hFc hPc hKc hDc) (va_recv hK hP rfl (q0 := 2) rfl)) rfl rfl hl.1 rfl (lv_room (Nat.le_of_ble_eq_true rfl)) dX2_fitsScaledBefore_34 ⟨Nat.zero_le _, Nat.zero_le _⟩) hP hD hS hFc [2, 3] [0, 1] [0, 1, 2, 3] rfl rfl (by decide) (by decide) rfl (by decide) (fun H locs hP hD hS => ?_)
  refine lv_istore (lv' := [(5, .int q4), (4, .int t0), (0, .ref aN), (1, .ref aS), (3, .int x3)]) hx hb dX2_fitsScaledBefore_37 hl (by decide) rfl (fun ls hl => ?_)
  refine lv_iload_n hx hb dX2_fitsScaledBefore_39 rfl (lv_at hl 4 rfl) ?_
  refine lv_if_ne (tgt := 58) hx hb dX2_fitsScaledBefore_40 rfl (fun cd5 => ?_) (fun cd5 => ?_)
  · replace hm := zf cd5 hm
    exact b_N_fitsScaledBefore_58 G0 hK hX _ _ _ hm H _ _ hP hD hS (lv_sub hl [2, 3, 1, 0] rfl)
  · replace hm := zt cd5 hm
    refine lv_aload_n hx hb dX2_fitsScaledBefore_43 rfl (lv_at hl 3 rfl) ?_
    refine lv_iload hx hb dX2_fitsScaledBefore_44 (lv_at hl 0 rfl) ?_
    obtain ⟨q15, hq15, hm⟩ := zbind hm
    have hPc := hP.sub (ws' := (wS aS rS cs sv sr)) [2, 3] rfl
    have hDc := hD.sub (ws' := (wS aS rS cs sv sr)) [2, 3] (by decide) rfl
    have hKc := hK.sub (tys' := wS_t cs) [1] rfl
    have hFc := va_free (wc := (wS aS rS cs sv sr)) hD hS hA [2, 3] rfl
    refine zbSi (wr := [(aN, .inr (1, [.ref bN, .int (v 1), .int (v 2), .int (v 3), .int (v 4), .int (v 5), .int (v 6), .int (v 7)])), (bN, .inl (c1, 25, .inl b))]) (w1 := (wS aS rS cs sv sr)) (w' := (wNS aN bN aS rS c1 cs v b sv sr)) (va_runV (As := [.int q4]) (rest := []) ⟨hx, hb, hml, hown, hw⟩ (k_S_symbolAt l D aS rS cs _ q4 sv sr  q15 hq15) (zcV (C := RX3) 1 hw (zgood zw197) rfl rfl rfl zw179 zw199 zw198 zw200 hdX3_symbolAt ⟨Nat.le_of_ble_eq_true rfl, Nat.le_of_ble_eq_true rfl⟩) (zpreV (zpre zC_ok hX hS hFc hPc hKc hDc) (va_recv hK hP rfl (q0 := 2) rfl)) rfl rfl hl.1 rfl (lv_room (Nat.le_of_ble_eq_true rfl)) dX2_fitsScaledBefore_46 ⟨Nat.zero_le _, Nat.zero_le _⟩) hP hD hS hFc [2, 3] [0, 1] [0, 1, 2, 3] rfl rfl (by decide) (by decide) rfl (by decide) (fun H locs hP hD hS => ?_)
    refine lv_bipush (v := 86) hx hb dX2_fitsScaledBefore_49 (by decide) ?_
    refine lv_icmp_ne (tgt := 58) hx hb dX2_fitsScaledBefore_51 rfl (fun cd16 => ?_) (fun cd16 => ?_)
    · replace hm := zf cd16 hm
      exact b_N_fitsScaledBefore_58 G0 hK hX _ _ _ hm H _ _ hP hD hS (lv_sub hl [2, 3, 1, 0] rfl)
    · replace hm := zt cd16 hm
      refine lv_iconst (v := 1) hx hb dX2_fitsScaledBefore_54 (by decide) ?_
      refine lv_goto (tgt := 59) hx hb dX2_fitsScaledBefore_55 rfl ?_
      exact b_N_fitsScaledBefore_59 G0 hK hX _ _ _ _ hm H _ _ hP hD hS (lv_sub hl [2, 3, 1, 0] rfl)
set_option maxRecDepth 100000 in
set_option maxHeartbeats 4000000 in
theorem b_N_fitsScaledBefore_15 (G : zG p s m args meth c cX2_fitsScaledBefore RX2 9 (some .boolean)) (hK : va_K D vwCl (wNS_t c1 cs) s) (hX : zC (va_A w0 s.heap.size) s) {res : (Int32) × (Nat → Int32)} : ∀ (x2 : Int32) (t0 : Int32) (v : Nat → Int32), m_N_fitsScaledBefore_15 b sv sr x2 t0 v = some res → zB p l e (zR 1 23) s m args below meth c D vwCl (va_A w0 s.heap.size) (MQ below (zQi D vwCl w0 (wNS aN bN aS rS c1 cs res.2 b sv sr) s.heap.size res.1) args s 0 0 (va_A w0 s.heap.size)) 9 (wNS aN bN aS rS c1 cs v b sv sr) [(0, .ref aN), (1, .ref aS), (2, .int x2)] 15 [.int t0] := by
  intro x2 t0 v hm H locs ls hP hD hS hl
  unfold m_N_fitsScaledBefore_15 at hm
  have G0 := G
  obtain ⟨hx, hb, hr, hml, hown, hw, hlk⟩ := G
  have hA : ∀ q, s.heap.size ≤ q → va_A w0 s.heap.size q := fun q h => Or.inr h
  refine lv_istore_n (lv' := [(3, .int t0), (0, .ref aN), (1, .ref aS), (2, .int x2)]) hx hb dX2_fitsScaledBefore_15 rfl hl (by decide) rfl (fun ls hl => ?_)
  refine lv_iload_n hx hb dX2_fitsScaledBefore_16 rfl (lv_at hl 0 rfl) ?_
  refine lv_if_eq (tgt := 26) hx hb dX2_fitsScaledBefore_17 rfl (fun cd3 => ?_) (fun cd3 => ?_)
  · replace hm := zt cd3 hm
    refine lv_iload_n hx hb dX2_fitsScaledBefore_26 rfl (lv_at hl 3 rfl) ?_
    exact b_N_fitsScaledBefore_27 G0 hK hX _ _ _ hm H _ _ hP hD hS (lv_sub hl [1, 2, 0] rfl)
  · replace hm := zf cd3 hm
    refine lv_iload_n hx hb dX2_fitsScaledBefore_20 rfl (lv_at hl 3 rfl) ?_
    refine lv_iconst (v := 1) hx hb dX2_fitsScaledBefore_21 (by decide) ?_
    refine lv_iadd hx hb dX2_fitsScaledBefore_22 ?_
    refine lv_goto (tgt := 27) hx hb dX2_fitsScaledBefore_23 rfl ?_
    exact b_N_fitsScaledBefore_27 G0 hK hX _ _ _ hm H _ _ hP hD hS (lv_sub hl [1, 2, 0] rfl)
end
set_option maxRecDepth 100000 in
set_option maxHeartbeats 4000000 in
theorem k_N_fitsScaledBefore (l : Launch) (D : va_G) (aN bN aS rS : Nat) (c1 cs : ClassId) (sz : Nat) (a1 : Int32) (v : Nat → Int32) (b : Nat → Int32) (sv : Nat → Int32) (sr : Nat → Int32) (res : (Int32) × (Nat → Int32)) (hm : m_N_fitsScaledBefore a1 v b sv sr  = some res) : Met l yX2_fitsScaledBefore (Cond.code yX2_fitsScaledBefore cX2_fitsScaledBefore 9 (some .boolean) :: zBIG) (zR 1 23) (va_Pc [.ref aN, .ref aS, .int a1] (zP zC D vwCl (wNS_t c1 cs) (wNS aN bN aS rS c1 cs v b sv sr) sz)) (zQi D vwCl (wNS aN bN aS rS c1 cs v b sv sr) (wNS aN bN aS rS c1 cs res.2 b sv sr) sz res.1) 0 0 (va_A (wNS aN bN aS rS c1 cs v b sv sr) sz) := by
  refine zEnter RX2 [.ref aN, .ref aS, .int a1] (by decide) rfl (Nat.le_of_ble_eq_true rfl) (fun p e s m below meth c ls G hK hX hP hD hsz hl => ?_)
  subst hsz
  unfold m_N_fitsScaledBefore at hm
  have hl : lv_has ls 9 [(0, .ref aN), (1, .ref aS), (2, .int a1)] := hl
  have hS : va_S (va_A (wNS aN bN aS rS c1 cs v b sv sr) s.heap.size) s.heap s.heap [] := va_S.rf
  have hA : ∀ q, s.heap.size ≤ q → va_A (wNS aN bN aS rS c1 cs v b sv sr) s.heap.size q := fun q h => Or.inr h
  have G0 := G
  obtain ⟨hx, hb, hr, hml, hown, hw, hlk⟩ := G
  refine lv_aload_n hx hb dX2_fitsScaledBefore_0 rfl (lv_at hl 1 rfl) ?_
  refine lv_iload_n hx hb dX2_fitsScaledBefore_1 rfl (lv_at hl 2 rfl) ?_
  obtain ⟨q1, hq1, hm⟩ := zbind hm
  have hPc := hP.sub (ws' := (wS aS rS cs sv sr)) [2, 3] rfl
  have hDc := hD.sub (ws' := (wS aS rS cs sv sr)) [2, 3] (by decide) rfl
  have hKc := hK.sub (tys' := wS_t cs) [1] rfl
  have hFc := va_free (wc := (wS aS rS cs sv sr)) hD hS hA [2, 3] rfl
  refine zbSi (wr := [(aN, .inr (1, [.ref bN, .int (v 1), .int (v 2), .int (v 3), .int (v 4), .int (v 5), .int (v 6), .int (v 7)])), (bN, .inl (c1, 25, .inl b))]) (w1 := (wS aS rS cs sv sr)) (w' := (wNS aN bN aS rS c1 cs v b sv sr)) (va_runV (As := [.int a1]) (rest := []) ⟨hx, hb, hml, hown, hw⟩ (k_S_symbolAt l D aS rS cs _ a1 sv sr  q1 hq1) (zcV (C := RX3) 1 hw (zgood zw197) rfl rfl rfl zw179 zw199 zw198 zw200 hdX3_symbolAt ⟨Nat.le_of_ble_eq_true rfl, Nat.le_of_ble_eq_true rfl⟩) (zpreV (zpre zC_ok hX hS hFc hPc hKc hDc) (va_recv hK hP rfl (q0 := 2) rfl)) rfl rfl hl.1 rfl (lv_room (Nat.le_of_ble_eq_true rfl)) dX2_fitsScaledBefore_2 ⟨Nat.zero_le _, Nat.zero_le _⟩) hP hD hS hFc [2, 3] [0, 1] [0, 1, 2, 3] rfl rfl (by decide) (by decide) rfl (by decide) (fun H locs hP hD hS => ?_)
  refine lv_bipush (v := 86) hx hb dX2_fitsScaledBefore_5 (by decide) ?_
  refine lv_icmp_ne (tgt := 14) hx hb dX2_fitsScaledBefore_7 rfl (fun cd2 => ?_) (fun cd2 => ?_)
  · replace hm := zf cd2 hm
    refine lv_iconst (v := 0) hx hb dX2_fitsScaledBefore_14 (by decide) ?_
    exact b_N_fitsScaledBefore_15 G0 hK hX _ _ _ hm _ _ _ hP hD hS hl
  · replace hm := zt cd2 hm
    refine lv_iconst (v := 1) hx hb dX2_fitsScaledBefore_10 (by decide) ?_
    refine lv_goto (tgt := 15) hx hb dX2_fitsScaledBefore_11 rfl ?_
    exact b_N_fitsScaledBefore_15 G0 hK hX _ _ _ hm _ _ _ hP hD hS hl

theorem dX2_fitsScaledBehind_0 : decode cX2_fitsScaledBehind 0 = .ok (.aload_n 1, 1) := by decide +kernel
theorem dX2_fitsScaledBehind_1 : decode cX2_fitsScaledBehind 1 = .ok (.bipush 57, 2) := by decide +kernel
theorem dX2_fitsScaledBehind_3 : decode cX2_fitsScaledBehind 3 = .ok (.iload_n 2, 1) := by decide +kernel
theorem dX2_fitsScaledBehind_4 : decode cX2_fitsScaledBehind 4 = .ok (.invokevirtual 47, 3) := by decide +kernel
theorem dX2_fitsScaledBehind_7 : decode cX2_fitsScaledBehind 7 = .ok (.istore_n 3, 1) := by decide +kernel
theorem dX2_fitsScaledBehind_8 : decode cX2_fitsScaledBehind 8 = .ok (.aload_n 1, 1) := by decide +kernel
theorem dX2_fitsScaledBehind_9 : decode cX2_fitsScaledBehind 9 = .ok (.iload_n 3, 1) := by decide +kernel
theorem dX2_fitsScaledBehind_10 : decode cX2_fitsScaledBehind 10 = .ok (.invokevirtual 9, 3) := by decide +kernel
theorem dX2_fitsScaledBehind_13 : decode cX2_fitsScaledBehind 13 = .ok (.bipush 86, 2) := by decide +kernel
theorem dX2_fitsScaledBehind_15 : decode cX2_fitsScaledBehind 15 = .ok (.if_icmp .ne 7, 3) := by decide +kernel
theorem dX2_fitsScaledBehind_18 : decode cX2_fitsScaledBehind 18 = .ok (.iconst 1, 1) := by decide +kernel
theorem dX2_fitsScaledBehind_19 : decode cX2_fitsScaledBehind 19 = .ok (.goto 4, 3) := by decide +kernel
theorem dX2_fitsScaledBehind_22 : decode cX2_fitsScaledBehind 22 = .ok (.iconst 0, 1) := by decide +kernel
theorem dX2_fitsScaledBehind_23 : decode cX2_fitsScaledBehind 23 = .ok (.istore 4, 2) := by decide +kernel
theorem dX2_fitsScaledBehind_25 : decode cX2_fitsScaledBehind 25 = .ok (.iload 4, 2) := by decide +kernel
theorem dX2_fitsScaledBehind_27 : decode cX2_fitsScaledBehind 27 = .ok (.ifCond .eq 9, 3) := by decide +kernel
theorem dX2_fitsScaledBehind_30 : decode cX2_fitsScaledBehind 30 = .ok (.iload_n 3, 1) := by decide +kernel
theorem dX2_fitsScaledBehind_31 : decode cX2_fitsScaledBehind 31 = .ok (.iconst 1, 1) := by decide +kernel
theorem dX2_fitsScaledBehind_32 : decode cX2_fitsScaledBehind 32 = .ok (.iadd, 1) := by decide +kernel
theorem dX2_fitsScaledBehind_33 : decode cX2_fitsScaledBehind 33 = .ok (.goto 4, 3) := by decide +kernel
theorem dX2_fitsScaledBehind_36 : decode cX2_fitsScaledBehind 36 = .ok (.iload_n 3, 1) := by decide +kernel
theorem dX2_fitsScaledBehind_37 : decode cX2_fitsScaledBehind 37 = .ok (.istore 5, 2) := by decide +kernel
theorem dX2_fitsScaledBehind_39 : decode cX2_fitsScaledBehind 39 = .ok (.aload_n 1, 1) := by decide +kernel
theorem dX2_fitsScaledBehind_40 : decode cX2_fitsScaledBehind 40 = .ok (.bipush 80, 2) := by decide +kernel
theorem dX2_fitsScaledBehind_42 : decode cX2_fitsScaledBehind 42 = .ok (.iload 5, 2) := by decide +kernel
theorem dX2_fitsScaledBehind_44 : decode cX2_fitsScaledBehind 44 = .ok (.invokevirtual 47, 3) := by decide +kernel
theorem dX2_fitsScaledBehind_47 : decode cX2_fitsScaledBehind 47 = .ok (.istore 6, 2) := by decide +kernel
theorem dX2_fitsScaledBehind_49 : decode cX2_fitsScaledBehind 49 = .ok (.iload 4, 2) := by decide +kernel
theorem dX2_fitsScaledBehind_51 : decode cX2_fitsScaledBehind 51 = .ok (.ifCond .ne 18, 3) := by decide +kernel
theorem dX2_fitsScaledBehind_54 : decode cX2_fitsScaledBehind 54 = .ok (.aload_n 1, 1) := by decide +kernel
theorem dX2_fitsScaledBehind_55 : decode cX2_fitsScaledBehind 55 = .ok (.iload 6, 2) := by decide +kernel
theorem dX2_fitsScaledBehind_57 : decode cX2_fitsScaledBehind 57 = .ok (.invokevirtual 9, 3) := by decide +kernel
theorem dX2_fitsScaledBehind_60 : decode cX2_fitsScaledBehind 60 = .ok (.bipush 86, 2) := by decide +kernel
theorem dX2_fitsScaledBehind_62 : decode cX2_fitsScaledBehind 62 = .ok (.if_icmp .ne 7, 3) := by decide +kernel
theorem dX2_fitsScaledBehind_65 : decode cX2_fitsScaledBehind 65 = .ok (.iconst 1, 1) := by decide +kernel
theorem dX2_fitsScaledBehind_66 : decode cX2_fitsScaledBehind 66 = .ok (.goto 4, 3) := by decide +kernel
theorem dX2_fitsScaledBehind_69 : decode cX2_fitsScaledBehind 69 = .ok (.iconst 0, 1) := by decide +kernel
theorem dX2_fitsScaledBehind_70 : decode cX2_fitsScaledBehind 70 = .ok (.istore 7, 2) := by decide +kernel
theorem dX2_fitsScaledBehind_72 : decode cX2_fitsScaledBehind 72 = .ok (.iload 7, 2) := by decide +kernel
theorem dX2_fitsScaledBehind_74 : decode cX2_fitsScaledBehind 74 = .ok (.ifCond .eq 10, 3) := by decide +kernel
theorem dX2_fitsScaledBehind_77 : decode cX2_fitsScaledBehind 77 = .ok (.iload 6, 2) := by decide +kernel
theorem dX2_fitsScaledBehind_79 : decode cX2_fitsScaledBehind 79 = .ok (.iconst 1, 1) := by decide +kernel
theorem dX2_fitsScaledBehind_80 : decode cX2_fitsScaledBehind 80 = .ok (.iadd, 1) := by decide +kernel
theorem dX2_fitsScaledBehind_81 : decode cX2_fitsScaledBehind 81 = .ok (.goto 5, 3) := by decide +kernel
theorem dX2_fitsScaledBehind_84 : decode cX2_fitsScaledBehind 84 = .ok (.iload 6, 2) := by decide +kernel
theorem dX2_fitsScaledBehind_86 : decode cX2_fitsScaledBehind 86 = .ok (.istore 8, 2) := by decide +kernel
theorem dX2_fitsScaledBehind_88 : decode cX2_fitsScaledBehind 88 = .ok (.aload_n 0, 1) := by decide +kernel
theorem dX2_fitsScaledBehind_89 : decode cX2_fitsScaledBehind 89 = .ok (.iload_n 3, 1) := by decide +kernel
theorem dX2_fitsScaledBehind_90 : decode cX2_fitsScaledBehind 90 = .ok (.iload_n 2, 1) := by decide +kernel
theorem dX2_fitsScaledBehind_91 : decode cX2_fitsScaledBehind 91 = .ok (.isub, 1) := by decide +kernel
theorem dX2_fitsScaledBehind_92 : decode cX2_fitsScaledBehind 92 = .ok (.putfield 41, 3) := by decide +kernel
theorem dX2_fitsScaledBehind_95 : decode cX2_fitsScaledBehind 95 = .ok (.aload_n 0, 1) := by decide +kernel
theorem dX2_fitsScaledBehind_96 : decode cX2_fitsScaledBehind 96 = .ok (.iload 6, 2) := by decide +kernel
theorem dX2_fitsScaledBehind_98 : decode cX2_fitsScaledBehind 98 = .ok (.iload 5, 2) := by decide +kernel
theorem dX2_fitsScaledBehind_100 : decode cX2_fitsScaledBehind 100 = .ok (.isub, 1) := by decide +kernel
theorem dX2_fitsScaledBehind_101 : decode cX2_fitsScaledBehind 101 = .ok (.putfield 51, 3) := by decide +kernel
theorem dX2_fitsScaledBehind_104 : decode cX2_fitsScaledBehind 104 = .ok (.aload_n 0, 1) := by decide +kernel
theorem dX2_fitsScaledBehind_105 : decode cX2_fitsScaledBehind 105 = .ok (.aload_n 0, 1) := by decide +kernel
theorem dX2_fitsScaledBehind_106 : decode cX2_fitsScaledBehind 106 = .ok (.getfield 41, 3) := by decide +kernel
theorem dX2_fitsScaledBehind_109 : decode cX2_fitsScaledBehind 109 = .ok (.aload_n 0, 1) := by decide +kernel
theorem dX2_fitsScaledBehind_110 : decode cX2_fitsScaledBehind 110 = .ok (.getfield 51, 3) := by decide +kernel
theorem dX2_fitsScaledBehind_113 : decode cX2_fitsScaledBehind 113 = .ok (.iadd, 1) := by decide +kernel
theorem dX2_fitsScaledBehind_114 : decode cX2_fitsScaledBehind 114 = .ok (.putfield 31, 3) := by decide +kernel
theorem dX2_fitsScaledBehind_117 : decode cX2_fitsScaledBehind 117 = .ok (.aload_n 0, 1) := by decide +kernel
theorem dX2_fitsScaledBehind_118 : decode cX2_fitsScaledBehind 118 = .ok (.iconst 0, 1) := by decide +kernel
theorem dX2_fitsScaledBehind_119 : decode cX2_fitsScaledBehind 119 = .ok (.putfield 35, 3) := by decide +kernel
theorem dX2_fitsScaledBehind_122 : decode cX2_fitsScaledBehind 122 = .ok (.aload_n 0, 1) := by decide +kernel
theorem dX2_fitsScaledBehind_123 : decode cX2_fitsScaledBehind 123 = .ok (.getfield 51, 3) := by decide +kernel
theorem dX2_fitsScaledBehind_126 : decode cX2_fitsScaledBehind 126 = .ok (.ifCond .le 23, 3) := by decide +kernel
theorem dX2_fitsScaledBehind_129 : decode cX2_fitsScaledBehind 129 = .ok (.aload_n 0, 1) := by decide +kernel
theorem dX2_fitsScaledBehind_130 : decode cX2_fitsScaledBehind 130 = .ok (.getfield 41, 3) := by decide +kernel
theorem dX2_fitsScaledBehind_133 : decode cX2_fitsScaledBehind 133 = .ok (.ifCond .le 16, 3) := by decide +kernel
theorem dX2_fitsScaledBehind_136 : decode cX2_fitsScaledBehind 136 = .ok (.iload 8, 2) := by decide +kernel
theorem dX2_fitsScaledBehind_138 : decode cX2_fitsScaledBehind 138 = .ok (.aload_n 1, 1) := by decide +kernel
theorem dX2_fitsScaledBehind_139 : decode cX2_fitsScaledBehind 139 = .ok (.getfield 54, 3) := by decide +kernel
theorem dX2_fitsScaledBehind_142 : decode cX2_fitsScaledBehind 142 = .ok (.if_icmp .ne 7, 3) := by decide +kernel
theorem dX2_fitsScaledBehind_145 : decode cX2_fitsScaledBehind 145 = .ok (.iconst 1, 1) := by decide +kernel
theorem dX2_fitsScaledBehind_146 : decode cX2_fitsScaledBehind 146 = .ok (.goto 4, 3) := by decide +kernel
theorem dX2_fitsScaledBehind_149 : decode cX2_fitsScaledBehind 149 = .ok (.iconst 0, 1) := by decide +kernel
theorem dX2_fitsScaledBehind_150 : decode cX2_fitsScaledBehind 150 = .ok (.ireturn, 1) := by decide +kernel
def m_N_fitsScaledBehind_86 (b : Nat → Int32) (sv : Nat → Int32) (sr : Nat → Int32) (x2 : Int32) (x3 : Int32) (x5 : Int32) (x6 : Int32) (t0 : Int32) (v : Nat → Int32) : Option ((Int32) × (Nat → Int32)) := (if ((upd (upd (upd (upd v 5 (x3 - x2)) 6 (x6 - x5)) 2 (((upd (upd v 5 (x3 - x2)) 6 (x6 - x5)) 5) + ((upd (upd v 5 (x3 - x2)) 6 (x6 - x5)) 6))) 3 0) 6) ≤ 0 then (zbo 0 (some (0, (upd (upd (upd (upd v 5 (x3 - x2)) 6 (x6 - x5)) 2 (((upd (upd v 5 (x3 - x2)) 6 (x6 - x5)) 5) + ((upd (upd v 5 (x3 - x2)) 6 (x6 - x5)) 6))) 3 0)))) else (if ((upd (upd (upd (upd v 5 (x3 - x2)) 6 (x6 - x5)) 2 (((upd (upd v 5 (x3 - x2)) 6 (x6 - x5)) 5) + ((upd (upd v 5 (x3 - x2)) 6 (x6 - x5)) 6))) 3 0) 5) ≤ 0 then (zbo 0 (some (0, (upd (upd (upd (upd v 5 (x3 - x2)) 6 (x6 - x5)) 2 (((upd (upd v 5 (x3 - x2)) 6 (x6 - x5)) 5) + ((upd (upd v 5 (x3 - x2)) 6 (x6 - x5)) 6))) 3 0)))) else (if t0 = (sv 1) then (zbo 1 (some (1, (upd (upd (upd (upd v 5 (x3 - x2)) 6 (x6 - x5)) 2 (((upd (upd v 5 (x3 - x2)) 6 (x6 - x5)) 5) + ((upd (upd v 5 (x3 - x2)) 6 (x6 - x5)) 6))) 3 0)))) else (zbo 0 (some (0, (upd (upd (upd (upd v 5 (x3 - x2)) 6 (x6 - x5)) 2 (((upd (upd v 5 (x3 - x2)) 6 (x6 - x5)) 5) + ((upd (upd v 5 (x3 - x2)) 6 (x6 - x5)) 6))) 3 0)))))))
def m_N_fitsScaledBehind_70 (b : Nat → Int32) (sv : Nat → Int32) (sr : Nat → Int32) (x2 : Int32) (x3 : Int32) (x5 : Int32) (x6 : Int32) (t0 : Int32) (v : Nat → Int32) : Option ((Int32) × (Nat → Int32)) := (if t0 = 0 then m_N_fitsScaledBehind_86 b sv sr x2 x3 x5 x6 x6 v else m_N_fitsScaledBehind_86 b sv sr x2 x3 x5 x6 (x6 + 1) v)
def m_N_fitsScaledBehind_69 (b : Nat → Int32) (sv : Nat → Int32) (sr : Nat → Int32) (x2 : Int32) (x3 : Int32) (x5 : Int32) (x6 : Int32) (v : Nat → Int32) : Option ((Int32) × (Nat → Int32)) := m_N_fitsScaledBehind_70 b sv sr x2 x3 x5 x6 0 v
def m_N_fitsScaledBehind_37 (b : Nat → Int32) (sv : Nat → Int32) (sr : Nat → Int32) (x2 : Int32) (x3 : Int32) (x4 : Int32) (t0 : Int32) (v : Nat → Int32) : Option ((Int32) × (Nat → Int32)) := (m_S_runEnd 80 t0 sv sr).bind (fun q5 => (if x4 = 0 then (m_S_symbolAt q5 sv sr).bind (fun q15 => (if q15 = 86 then m_N_fitsScaledBehind_70 b sv sr x2 x3 t0 q5 1 v else m_N_fitsScaledBehind_69 b sv sr x2 x3 t0 q5 v)) else m_N_fitsScaledBehind_69 b sv sr x2 x3 t0 q5 v))
def m_N_fitsScaledBehind_23 (b : Nat → Int32) (sv : Nat → Int32) (sr : Nat → Int32) (x2 : Int32) (x3 : Int32) (t0 : Int32) (v : Nat → Int32) : Option ((Int32) × (Nat → Int32)) := (if t0 = 0 then m_N_fitsScaledBehind_37 b sv sr x2 x3 t0 x3 v else m_N_fitsScaledBehind_37 b sv sr x2 x3 t0 (x3 + 1) v)
def m_N_fitsScaledBehind (a1 : Int32) (v : Nat → Int32) (b : Nat → Int32) (sv : Nat → Int32) (sr : Nat → Int32)  : Option ((Int32) × (Nat → Int32)) := (m_S_runEnd 57 a1 sv sr).bind (fun q1 => (m_S_symbolAt q1 sv sr).bind (fun q2 => (if q2 = 86 then m_N_fitsScaledBehind_23 b sv sr a1 q1 1 v else m_N_fitsScaledBehind_23 b sv sr a1 q1 0 v)))
section
variable {p : Program} {l : Launch} {e : Env} {s : State} {m : MethodId} {args : Array Value} {below : List Frame} {meth : Method} {c : Code} {D : va_G} {w0 : va_W} {aN bN aS rS : Nat} {c1 cs : ClassId} {b : Nat → Int32} {sv : Nat → Int32} {sr : Nat → Int32}
set_option maxRecDepth 100000 in
set_option maxHeartbeats 4000000 in
theorem b_N_fitsScaledBehind_86 (G : zG p s m args meth c cX2_fitsScaledBehind RX2 9 (some .boolean)) (hK : va_K D vwCl (wNS_t c1 cs) s) (hX : zC (va_A w0 s.heap.size) s) {res : (Int32) × (Nat → Int32)} : ∀ (x2 : Int32) (x3 : Int32) (x5 : Int32) (x6 : Int32) (t0 : Int32) (v : Nat → Int32), m_N_fitsScaledBehind_86 b sv sr x2 x3 x5 x6 t0 v = some res → zB p l e (zR 1 23) s m args below meth c D vwCl (va_A w0 s.heap.size) (MQ below (zQi D vwCl w0 (wNS aN bN aS rS c1 cs res.2 b sv sr) s.heap.size res.1) args s 0 0 (va_A w0 s.heap.size)) 9 (wNS aN bN aS rS c1 cs v b sv sr) [(0, .ref aN), (1, .ref aS), (2, .int x2), (3, .int x3), (5, .int x5), (6, .int x6)] 86 [.int t0] := by
  intro x2 x3 x5 x6 t0 v hm H locs ls hP hD hS hl
  unfold m_N_fitsScaledBehind_86 at hm
  have G0 := G
  obtain ⟨hx, hb, hr, hml, hown, hw, hlk⟩ := G
  have hA : ∀ q, s.heap.size ≤ q → va_A w0 s.heap.size q := fun q h => Or.inr h
  refine lv_istore (lv' := [(8, .int t0), (0, .ref aN), (1, .ref aS), (2, .int x2), (3, .int x3), (5, .int x5), (6, .int x6)]) hx hb dX2_fitsScaledBehind_86 hl (by decide) rfl (fun ls hl => ?_)
  refine lv_aload_n hx hb dX2_fitsScaledBehind_88 rfl (lv_at hl 1 rfl) ?_
  refine lv_iload_n hx hb dX2_fitsScaledBehind_89 rfl (lv_at hl 4 rfl) ?_
  refine lv_iload_n hx hb dX2_fitsScaledBehind_90 rfl (lv_at hl 3 rfl) ?_
  refine lv_isub hx hb dX2_fitsScaledBehind_91 ?_
  refine va_put (D := D) (ci := 1) (v := .int (x3 - x2)) (ty := .int) (C := RX2) (T := TX2) (N := 8) hx hb hw zinX2 tyX2 tyX2_ok nmX2 hown hK hP hD hS 0 rfl rfl 5 (by decide) (hw _ zw205) (fun _ h9 => h9) rfl (by decide +kernel) rfl rfl (Nat.le_of_ble_eq_true rfl) dX2_fitsScaledBehind_92 (fun H locs hP hD hS => ?_)
  have hP : va_P D vwCl (wNS aN bN aS rS c1 cs (upd v 5 (x3 - x2)) b sv sr) H := hP
  have hD : va_D _ (wNS aN bN aS rS c1 cs (upd v 5 (x3 - x2)) b sv sr) := hD
  refine lv_aload_n hx hb dX2_fitsScaledBehind_95 rfl (lv_at hl 1 rfl) ?_
  refine lv_iload hx hb dX2_fitsScaledBehind_96 (lv_at hl 6 rfl) ?_
  refine lv_iload hx hb dX2_fitsScaledBehind_98 (lv_at hl 5 rfl) ?_
  refine lv_isub hx hb dX2_fitsScaledBehind_100 ?_
  refine va_put (D := D) (ci := 1) (v := .int (x6 - x5)) (ty := .int) (C := RX2) (T := TX2) (N := 8) hx hb hw zinX2 tyX2 tyX2_ok nmX2 hown hK hP hD hS 0 rfl rfl 6 (by decide) (hw _ zw206) (fun _ h9 => h9) rfl (by decide +kernel) rfl rfl (Nat.le_of_ble_eq_true rfl) dX2_fitsScaledBehind_101 (fun H locs hP hD hS => ?_)
  have hP : va_P D vwCl (wNS aN bN aS rS c1 cs (upd (upd v 5 (x3 - x2)) 6 (x6 - x5)) b sv sr) H := hP
  have hD : va_D _ (wNS aN bN aS rS c1 cs (upd (upd v 5 (x3 - x2)) 6 (x6 - x5)) b sv sr) := hD
  refine lv_aload_n hx hb dX2_fitsScaledBehind_104 rfl (lv_at hl 1 rfl) ?_
  refine lv_aload_n hx hb dX2_fitsScaledBehind_105 rfl (lv_at hl 1 rfl) ?_
  refine va_get (D := D) (ci := 1) (v := .int ((upd (upd v 5 (x3 - x2)) 6 (x6 - x5)) 5)) (C := RX2) (T := TX2) (N := 8) hx hb hw zinX2 hown hK hP 0 rfl rfl 5 (by decide) (hw _ zw205) (fun _ h9 => h9) rfl dX2_fitsScaledBehind_106 ?_
  refine lv_aload_n hx hb dX2_fitsScaledBehind_109 rfl (lv_at hl 1 rfl) ?_
  refine va_get (D := D) (ci := 1) (v := .int ((upd (upd v 5 (x3 - x2)) 6 (x6 - x5)) 6)) (C := RX2) (T := TX2) (N := 8) hx hb hw zinX2 hown hK hP 0 rfl rfl 6 (by decide) (hw _ zw206) (fun _ h9 => h9) rfl dX2_fitsScaledBehind_110 ?_
  refine lv_iadd hx hb dX2_fitsScaledBehind_113 ?_
  refine va_put (D := D) (ci := 1) (v := .int (((upd (upd v 5 (x3 - x2)) 6 (x6 - x5)) 5) + ((upd (upd v 5 (x3 - x2)) 6 (x6 - x5)) 6))) (ty := .int) (C := RX2) (T := TX2) (N := 8) hx hb hw zinX2 tyX2 tyX2_ok nmX2 hown hK hP hD hS 0 rfl rfl 2 (by decide) (hw _ zw202) (fun x9 h9 => u_same (hw _ zw201) x9 h9) rfl (by decide +kernel) rfl rfl (Nat.le_of_ble_eq_true rfl) dX2_fitsScaledBehind_114 (fun H locs hP hD hS => ?_)
  have hP : va_P D vwCl (wNS aN bN aS rS c1 cs (upd (upd (upd v 5 (x3 - x2)) 6 (x6 - x5)) 2 (((upd (upd v 5 (x3 - x2)) 6 (x6 - x5)) 5) + ((upd (upd v 5 (x3 - x2)) 6 (x6 - x5)) 6))) b sv sr) H := hP
  have hD : va_D _ (wNS aN bN aS rS c1 cs (upd (upd (upd v 5 (x3 - x2)) 6 (x6 - x5)) 2 (((upd (upd v 5 (x3 - x2)) 6 (x6 - x5)) 5) + ((upd (upd v 5 (x3 - x2)) 6 (x6 - x5)) 6))) b sv sr) := hD
  refine lv_aload_n hx hb dX2_fitsScaledBehind_117 rfl (lv_at hl 1 rfl) ?_
  refine lv_iconst (v := 0) hx hb dX2_fitsScaledBehind_118 (by decide) ?_
  refine va_put (D := D) (ci := 1) (v := .int 0) (ty := .int) (C := RX2) (T := TX2) (N := 8) hx hb hw zinX2 tyX2 tyX2_ok nmX2 hown hK hP hD hS 0 rfl rfl 3 (by decide) (hw _ zw204) (fun x9 h9 => u_same (hw _ zw203) x9 h9) rfl (by decide +kernel) rfl rfl (Nat.le_of_ble_eq_true rfl) dX2_fitsScaledBehind_119 (fun H locs hP hD hS => ?_)
  have hP : va_P D vwCl (wNS aN bN aS rS c1 cs (upd (upd (upd (upd v 5 (x3 - x2)) 6 (x6 - x5)) 2 (((upd (upd v 5 (x3 - x2)) 6 (x6 - x5)) 5) + ((upd (upd v 5 (x3 - x2)) 6 (x6 - x5)) 6))) 3 0) b sv sr) H := hP
  have hD : va_D _ (wNS aN bN aS rS c1 cs (upd (upd (upd (upd v 5 (x3 - x2)) 6 (x6 - x5)) 2 (((upd (upd v 5 (x3 - x2)) 6 (x6 - x5)) 5) + ((upd (upd v 5 (x3 - x2)) 6 (x6 - x5)) 6))) 3 0) b sv sr) := hD
  refine lv_aload_n hx hb dX2_fitsScaledBehind_122 rfl (lv_at hl 1 rfl) ?_
  refine va_get (D := D) (ci := 1) (v := .int ((upd (upd (upd (upd v 5 (x3 - x2)) 6 (x6 - x5)) 2 (((upd (upd v 5 (x3 - x2)) 6 (x6 - x5)) 5) + ((upd (upd v 5 (x3 - x2)) 6 (x6 - x5)) 6))) 3 0) 6)) (C := RX2) (T := TX2) (N := 8) hx hb hw zinX2 hown hK hP 0 rfl rfl 6 (by decide) (hw _ zw206) (fun _ h9 => h9) rfl dX2_fitsScaledBehind_123 ?_
  refine lv_if_le (tgt := 149) hx hb dX2_fitsScaledBehind_126 rfl (fun cd8 => ?_) (fun cd8 => ?_)
  · replace hm := zt cd8 hm
    refine lv_iconst (v := 0) hx hb dX2_fitsScaledBehind_149 (by decide) ?_
    obtain ⟨hz9, -, hm⟩ := zbo_s hm
    cases hm
    exact zretz hx hb hr hlk hz9 hP hD hS dX2_fitsScaledBehind_150
  · replace hm := zf cd8 hm
    refine lv_aload_n hx hb dX2_fitsScaledBehind_129 rfl (lv_at hl 1 rfl) ?_
    refine va_get (D := D) (ci := 1) (v := .int ((upd (upd (upd (upd v 5 (x3 - x2)) 6 (x6 - x5)) 2 (((upd (upd v 5 (x3 - x2)) 6 (x6 - x5)) 5) + ((upd (upd v 5 (x3 - x2)) 6 (x6 - x5)) 6))) 3 0) 5)) (C := RX2) (T := TX2) (N := 8) hx hb hw zinX2 hown hK hP 0 rfl rfl 5 (by decide) (hw _ zw205) (fun _ h9 => h9) rfl dX2_fitsScaledBehind_130 ?_
    refine lv_if_le (tgt := 149) hx hb dX2_fitsScaledBehind_133 rfl (fun cd10 => ?_) (fun cd10 => ?_)
    · replace hm := zt cd10 hm
      refine lv_iconst (v := 0) hx hb dX2_fitsScaledBehind_149 (by decide) ?_
      obtain ⟨hz11, -, hm⟩ := zbo_s hm
      cases hm
      exact zretz hx hb hr hlk hz11 hP hD hS dX2_fitsScaledBehind_150
    · replace hm := zf cd10 hm
      refine lv_iload hx hb dX2_fitsScaledBehind_136 (lv_at hl 0 rfl) ?_
      refine lv_aload_n hx hb dX2_fitsScaledBehind_138 rfl (lv_at hl 2 rfl) ?_
      refine va_getN (D := D) (ci := 2) (v := .int (sv 1)) (C := RX3) (T := TX3) (N := 2) hx hb hw zinX3 hown hK hP 2 rfl rfl 1 (by decide) (va_Nw.use rfl (hX.1 _ zn1)) (fun _ h9 => h9) rfl dX2_fitsScaledBehind_139 ?_
      refine lv_icmp_ne (tgt := 149) hx hb dX2_fitsScaledBehind_142 rfl (fun cd12 => ?_) (fun cd12 => ?_)
      · replace hm := zf cd12 hm
        refine lv_iconst (v := 0) hx hb dX2_fitsScaledBehind_149 (by decide) ?_
        obtain ⟨hz13, -, hm⟩ := zbo_s hm
        cases hm
        exact zretz hx hb hr hlk hz13 hP hD hS dX2_fitsScaledBehind_150
      · replace hm := zt cd12 hm
        refine lv_iconst (v := 1) hx hb dX2_fitsScaledBehind_145 (by decide) ?_
        refine lv_goto (tgt := 150) hx hb dX2_fitsScaledBehind_146 rfl ?_
        obtain ⟨hz14, -, hm⟩ := zbo_s hm
        cases hm
        exact zretz hx hb hr hlk hz14 hP hD hS dX2_fitsScaledBehind_150
set_option maxRecDepth 100000 in
set_option maxHeartbeats 4000000 in
theorem b_N_fitsScaledBehind_70 (G : zG p s m args meth c cX2_fitsScaledBehind RX2 9 (some .boolean)) (hK : va_K D vwCl (wNS_t c1 cs) s) (hX : zC (va_A w0 s.heap.size) s) {res : (Int32) × (Nat → Int32)} : ∀ (x2 : Int32) (x3 : Int32) (x5 : Int32) (x6 : Int32) (t0 : Int32) (v : Nat → Int32), m_N_fitsScaledBehind_70 b sv sr x2 x3 x5 x6 t0 v = some res → zB p l e (zR 1 23) s m args below meth c D vwCl (va_A w0 s.heap.size) (MQ below (zQi D vwCl w0 (wNS aN bN aS rS c1 cs res.2 b sv sr) s.heap.size res.1) args s 0 0 (va_A w0 s.heap.size)) 9 (wNS aN bN aS rS c1 cs v b sv sr) [(0, .ref aN), (1, .ref aS), (2, .int x2), (3, .int x3), (5, .int x5), (6, .int x6)] 70 [.int t0] := by
  intro x2 x3 x5 x6 t0 v hm H locs ls hP hD hS hl
  unfold m_N_fitsScaledBehind_70 at hm
  have G0 := G
  obtain ⟨hx, hb, hr, hml, hown, hw, hlk⟩ := G
  have hA : ∀ q, s.heap.size ≤ q → va_A w0 s.heap.size q := fun q h => Or.inr h
  refine lv_istore (lv' := [(7, .int t0), (0, .ref aN), (1, .ref aS), (2, .int x2), (3, .int x3), (5, .int x5), (6, .int x6)]) hx hb dX2_fitsScaledBehind_70 hl (by decide) rfl (fun ls hl => ?_)
  refine lv_iload hx hb dX2_fitsScaledBehind_72 (lv_at hl 0 rfl) ?_
  refine lv_if_eq (tgt := 84) hx hb dX2_fitsScaledBehind_74 rfl (fun cd7 => ?_) (fun cd7 => ?_)
  · replace hm := zt cd7 hm
    refine lv_iload hx hb dX2_fitsScaledBehind_84 (lv_at hl 6 rfl) ?_
    exact b_N_fitsScaledBehind_86 G0 hK hX _ _ _ _ _ _ hm H _ _ hP hD hS (lv_sub hl [1, 2, 3, 4, 5, 6] rfl)
  · replace hm := zf cd7 hm
    refine lv_iload hx hb dX2_fitsScaledBehind_77 (lv_at hl 6 rfl) ?_
    refine lv_iconst (v := 1) hx hb dX2_fitsScaledBehind_79 (by decide) ?_
    refine lv_iadd hx hb dX2_fitsScaledBehind_80 ?_
    refine lv_goto (tgt := 86) hx hb dX2_fitsScaledBehind_81 rfl ?_
    exact b_N_fitsScaledBehind_86 G0 hK hX _ _ _ _ _ _ hm H _ _ hP hD hS (lv_sub hl [1, 2, 3, 4, 5, 6] rfl)
set_option maxRecDepth 100000 in
set_option maxHeartbeats 4000000 in
theorem b_N_fitsScaledBehind_69 (G : zG p s m args meth c cX2_fitsScaledBehind RX2 9 (some .boolean)) (hK : va_K D vwCl (wNS_t c1 cs) s) (hX : zC (va_A w0 s.heap.size) s) {res : (Int32) × (Nat → Int32)} : ∀ (x2 : Int32) (x3 : Int32) (x5 : Int32) (x6 : Int32) (v : Nat → Int32), m_N_fitsScaledBehind_69 b sv sr x2 x3 x5 x6 v = some res → zB p l e (zR 1 23) s m args below meth c D vwCl (va_A w0 s.heap.size) (MQ below (zQi D vwCl w0 (wNS aN bN aS rS c1 cs res.2 b sv sr) s.heap.size res.1) args s 0 0 (va_A w0 s.heap.size)) 9 (wNS aN bN aS rS c1 cs v b sv sr) [(0, .ref aN), (1, .ref aS), (2, .int x2), (3, .int x3), (5, .int x5), (6, .int x6)] 69 [] := by
  intro x2 x3 x5 x6 v hm H locs ls hP hD hS hl
  unfold m_N_fitsScaledBehind_69 at hm
  have G0 := G
  obtain ⟨hx, hb, hr, hml, hown, hw, hlk⟩ := G
  have hA : ∀ q, s.heap.size ≤ q → va_A w0 s.heap.size q := fun q h => Or.inr h
  refine lv_iconst (v := 0) hx hb dX2_fitsScaledBehind_69 (by decide) ?_
  exact b_N_fitsScaledBehind_70 G0 hK hX _ _ _ _ _ _ hm H _ _ hP hD hS hl
set_option maxRecDepth 100000 in
set_option maxHeartbeats 4000000 in
theorem b_N_fitsScaledBehind_37 (G : zG p s m args meth c cX2_fitsScaledBehind RX2 9 (some .boolean)) (hK : va_K D vwCl (wNS_t c1 cs) s) (hX : zC (va_A w0 s.heap.size) s) {res : (Int32) × (Nat → Int32)} : ∀ (x2 : Int32) (x3 : Int32) (x4 : Int32) (t0 : Int32) (v : Nat → Int32), m_N_fitsScaledBehind_37 b sv sr x2 x3 x4 t0 v = some res → zB p l e (zR 1 23) s m args below meth c D vwCl (va_A w0 s.heap.size) (MQ below (zQi D vwCl w0 (wNS aN bN aS rS c1 cs res.2 b sv sr) s.heap.size res.1) args s 0 0 (va_A w0 s.heap.size)) 9 (wNS aN bN aS rS c1 cs v b sv sr) [(0, .ref aN), (1, .ref aS), (2, .int x2), (3, .int x3), (4, .int x4)] 37 [.int t0] := by
  intro x2 x3 x4 t0 v hm H locs ls hP hD hS hl
  unfold m_N_fitsScaledBehind_37 at hm
  have G0 := G
  obtain ⟨hx, hb, hr, hml, hown, hw, hlk⟩ := G
  have hA : ∀ q, s.heap.size ≤ q → va_A w0 s.heap.size q := fun q h => Or.inr h
  refine lv_istore (lv' := [(5, .int t0), (0, .ref aN), (1, .ref aS), (2, .int x2), (3, .int x3), (4, .int x4)]) hx hb dX2_fitsScaledBehind_37 hl (by decide) rfl (fun ls hl => ?_)
  refine lv_aload_n hx hb dX2_fitsScaledBehind_39 rfl (lv_at hl 2 rfl) ?_
  refine lv_bipush (v := 80) hx hb dX2_fitsScaledBehind_40 (by decide) ?_
  refine lv_iload hx hb dX2_fitsScaledBehind_42 (lv_at hl 0 rfl) ?_
  obtain ⟨q5, hq5, hm⟩ := zbind hm
  have hPc := hP.sub (ws' := (wS aS rS cs sv sr)) [2, 3] rfl
  have hDc := hD.sub (ws' := (wS aS rS cs sv sr)) [2, 3] (by decide) rfl
  have hKc := hK.sub (tys' := wS_t cs) [1] rfl
  have hFc := va_free (wc := (wS aS rS cs sv sr)) hD hS hA [2, 3] rfl
  refine zbSi (wr := [(aN, .inr (1, [.ref bN, .int (v 1), .int (v 2), .int (v 3), .int (v 4), .int (v 5), .int (v 6), .int (v 7)])), (bN, .inl (c1, 25, .inl b))]) (w1 := (wS aS rS cs sv sr)) (w' := (wNS aN bN aS rS c1 cs v b sv sr)) (va_runV (As := [.int 80, .int t0]) (rest := []) ⟨hx, hb, hml, hown, hw⟩ (k_S_runEnd l D aS rS cs _ 80 t0 sv sr  q5 hq5) (zcV (C := RX3) 2 hw (zgood zw193) rfl rfl rfl zw179 zw195 zw194 zw196 hdX3_runEnd ⟨Nat.le_of_ble_eq_true rfl, Nat.le_of_ble_eq_true rfl⟩) (zpreV (zpre zC_ok hX hS hFc hPc hKc hDc) (va_recv hK hP rfl (q0 := 2) rfl)) rfl rfl hl.1 rfl (lv_room (Nat.le_of_ble_eq_true rfl)) dX2_fitsScaledBehind_44 ⟨Nat.zero_le _, Nat.zero_le _⟩) hP hD hS hFc [2, 3] [0, 1] [0, 1, 2, 3] rfl rfl (by decide) (by decide) rfl (by decide) (fun H locs hP hD hS => ?_)
  refine lv_istore (lv' := [(6, .int q5), (5, .int t0), (0, .ref aN), (1, .ref aS), (2, .int x2), (3, .int x3), (4, .int x4)]) hx hb dX2_fitsScaledBehind_47 hl (by decide) rfl (fun ls hl => ?_)
  refine lv_iload hx hb dX2_fitsScaledBehind_49 (lv_at hl 6 rfl) ?_
  refine lv_if_ne (tgt := 69) hx hb dX2_fitsScaledBehind_51 rfl (fun cd6 => ?_) (fun cd6 => ?_)
  · replace hm := zf cd6 hm
    exact b_N_fitsScaledBehind_69 G0 hK hX _ _ _ _ _ hm H _ _ hP hD hS (lv_sub hl [2, 3, 4, 5, 1, 0] rfl)
  · replace hm := zt cd6 hm
    refine lv_aload_n hx hb dX2_fitsScaledBehind_54 rfl (lv_at hl 3 rfl) ?_
    refine lv_iload hx hb dX2_fitsScaledBehind_55 (lv_at hl 0 rfl) ?_
    obtain ⟨q15, hq15, hm⟩ := zbind hm
    have hPc := hP.sub (ws' := (wS aS rS cs sv sr)) [2, 3] rfl
    have hDc := hD.sub (ws' := (wS aS rS cs sv sr)) [2, 3] (by decide) rfl
    have hKc := hK.sub (tys' := wS_t cs) [1] rfl
    have hFc := va_free (wc := (wS aS rS cs sv sr)) hD hS hA [2, 3] rfl
    refine zbSi (wr := [(aN, .inr (1, [.ref bN, .int (v 1), .int (v 2), .int (v 3), .int (v 4), .int (v 5), .int (v 6), .int (v 7)])), (bN, .inl (c1, 25, .inl b))]) (w1 := (wS aS rS cs sv sr)) (w' := (wNS aN bN aS rS c1 cs v b sv sr)) (va_runV (As := [.int q5]) (rest := []) ⟨hx, hb, hml, hown, hw⟩ (k_S_symbolAt l D aS rS cs _ q5 sv sr  q15 hq15) (zcV (C := RX3) 1 hw (zgood zw197) rfl rfl rfl zw179 zw199 zw198 zw200 hdX3_symbolAt ⟨Nat.le_of_ble_eq_true rfl, Nat.le_of_ble_eq_true rfl⟩) (zpreV (zpre zC_ok hX hS hFc hPc hKc hDc) (va_recv hK hP rfl (q0 := 2) rfl)) rfl rfl hl.1 rfl (lv_room (Nat.le_of_ble_eq_true rfl)) dX2_fitsScaledBehind_57 ⟨Nat.zero_le _, Nat.zero_le _⟩) hP hD hS hFc [2, 3] [0, 1] [0, 1, 2, 3] rfl rfl (by decide) (by decide) rfl (by decide) (fun H locs hP hD hS => ?_)
    refine lv_bipush (v := 86) hx hb dX2_fitsScaledBehind_60 (by decide) ?_
    refine lv_icmp_ne (tgt := 69) hx hb dX2_fitsScaledBehind_62 rfl (fun cd16 => ?_) (fun cd16 => ?_)
    · replace hm := zf cd16 hm
      exact b_N_fitsScaledBehind_69 G0 hK hX _ _ _ _ _ hm H _ _ hP hD hS (lv_sub hl [2, 3, 4, 5, 1, 0] rfl)
    · replace hm := zt cd16 hm
      refine lv_iconst (v := 1) hx hb dX2_fitsScaledBehind_65 (by decide) ?_
      refine lv_goto (tgt := 70) hx hb dX2_fitsScaledBehind_66 rfl ?_
      exact b_N_fitsScaledBehind_70 G0 hK hX _ _ _ _ _ _ hm H _ _ hP hD hS (lv_sub hl [2, 3, 4, 5, 1, 0] rfl)
set_option maxRecDepth 100000 in
set_option maxHeartbeats 4000000 in
theorem b_N_fitsScaledBehind_23 (G : zG p s m args meth c cX2_fitsScaledBehind RX2 9 (some .boolean)) (hK : va_K D vwCl (wNS_t c1 cs) s) (hX : zC (va_A w0 s.heap.size) s) {res : (Int32) × (Nat → Int32)} : ∀ (x2 : Int32) (x3 : Int32) (t0 : Int32) (v : Nat → Int32), m_N_fitsScaledBehind_23 b sv sr x2 x3 t0 v = some res → zB p l e (zR 1 23) s m args below meth c D vwCl (va_A w0 s.heap.size) (MQ below (zQi D vwCl w0 (wNS aN bN aS rS c1 cs res.2 b sv sr) s.heap.size res.1) args s 0 0 (va_A w0 s.heap.size)) 9 (wNS aN bN aS rS c1 cs v b sv sr) [(0, .ref aN), (1, .ref aS), (2, .int x2), (3, .int x3)] 23 [.int t0] := by
  intro x2 x3 t0 v hm H locs ls hP hD hS hl
  unfold m_N_fitsScaledBehind_23 at hm
  have G0 := G
  obtain ⟨hx, hb, hr, hml, hown, hw, hlk⟩ := G
  have hA : ∀ q, s.heap.size ≤ q → va_A w0 s.heap.size q := fun q h => Or.inr h
  refine lv_istore (lv' := [(4, .int t0), (0, .ref aN), (1, .ref aS), (2, .int x2), (3, .int x3)]) hx hb dX2_fitsScaledBehind_23 hl (by decide) rfl (fun ls hl => ?_)
  refine lv_iload hx hb dX2_fitsScaledBehind_25 (lv_at hl 0 rfl) ?_
  refine lv_if_eq (tgt := 36) hx hb dX2_fitsScaledBehind_27 rfl (fun cd4 => ?_) (fun cd4 => ?_)
  · replace hm := zt cd4 hm
    refine lv_iload_n hx hb dX2_fitsScaledBehind_36 rfl (lv_at hl 4 rfl) ?_
    exact b_N_fitsScaledBehind_37 G0 hK hX _ _ _ _ _ hm H _ _ hP hD hS (lv_sub hl [1, 2, 3, 4, 0] rfl)
  · replace hm := zf cd4 hm
    refine lv_iload_n hx hb dX2_fitsScaledBehind_30 rfl (lv_at hl 4 rfl) ?_
    refine lv_iconst (v := 1) hx hb dX2_fitsScaledBehind_31 (by decide) ?_
    refine lv_iadd hx hb dX2_fitsScaledBehind_32 ?_
    refine lv_goto (tgt := 37) hx hb dX2_fitsScaledBehind_33 rfl ?_
    exact b_N_fitsScaledBehind_37 G0 hK hX _ _ _ _ _ hm H _ _ hP hD hS (lv_sub hl [1, 2, 3, 4, 0] rfl)
end
set_option maxRecDepth 100000 in
set_option maxHeartbeats 4000000 in
theorem k_N_fitsScaledBehind (l : Launch) (D : va_G) (aN bN aS rS : Nat) (c1 cs : ClassId) (sz : Nat) (a1 : Int32) (v : Nat → Int32) (b : Nat → Int32) (sv : Nat → Int32) (sr : Nat → Int32) (res : (Int32) × (Nat → Int32)) (hm : m_N_fitsScaledBehind a1 v b sv sr  = some res) : Met l yX2_fitsScaledBehind (Cond.code yX2_fitsScaledBehind cX2_fitsScaledBehind 9 (some .boolean) :: zBIG) (zR 1 23) (va_Pc [.ref aN, .ref aS, .int a1] (zP zC D vwCl (wNS_t c1 cs) (wNS aN bN aS rS c1 cs v b sv sr) sz)) (zQi D vwCl (wNS aN bN aS rS c1 cs v b sv sr) (wNS aN bN aS rS c1 cs res.2 b sv sr) sz res.1) 0 0 (va_A (wNS aN bN aS rS c1 cs v b sv sr) sz) := by
  refine zEnter RX2 [.ref aN, .ref aS, .int a1] (by decide) rfl (Nat.le_of_ble_eq_true rfl) (fun p e s m below meth c ls G hK hX hP hD hsz hl => ?_)
  subst hsz
  unfold m_N_fitsScaledBehind at hm
  have hl : lv_has ls 9 [(0, .ref aN), (1, .ref aS), (2, .int a1)] := hl
  have hS : va_S (va_A (wNS aN bN aS rS c1 cs v b sv sr) s.heap.size) s.heap s.heap [] := va_S.rf
  have hA : ∀ q, s.heap.size ≤ q → va_A (wNS aN bN aS rS c1 cs v b sv sr) s.heap.size q := fun q h => Or.inr h
  have G0 := G
  obtain ⟨hx, hb, hr, hml, hown, hw, hlk⟩ := G
  refine lv_aload_n hx hb dX2_fitsScaledBehind_0 rfl (lv_at hl 1 rfl) ?_
  refine lv_bipush (v := 57) hx hb dX2_fitsScaledBehind_1 (by decide) ?_
  refine lv_iload_n hx hb dX2_fitsScaledBehind_3 rfl (lv_at hl 2 rfl) ?_
  obtain ⟨q1, hq1, hm⟩ := zbind hm
  have hPc := hP.sub (ws' := (wS aS rS cs sv sr)) [2, 3] rfl
  have hDc := hD.sub (ws' := (wS aS rS cs sv sr)) [2, 3] (by decide) rfl
  have hKc := hK.sub (tys' := wS_t cs) [1] rfl
  have hFc := va_free (wc := (wS aS rS cs sv sr)) hD hS hA [2, 3] rfl
  refine zbSi (wr := [(aN, .inr (1, [.ref bN, .int (v 1), .int (v 2), .int (v 3), .int (v 4), .int (v 5), .int (v 6), .int (v 7)])), (bN, .inl (c1, 25, .inl b))]) (w1 := (wS aS rS cs sv sr)) (w' := (wNS aN bN aS rS c1 cs v b sv sr)) (va_runV (As := [.int 57, .int a1]) (rest := []) ⟨hx, hb, hml, hown, hw⟩ (k_S_runEnd l D aS rS cs _ 57 a1 sv sr  q1 hq1) (zcV (C := RX3) 2 hw (zgood zw193) rfl rfl rfl zw179 zw195 zw194 zw196 hdX3_runEnd ⟨Nat.le_of_ble_eq_true rfl, Nat.le_of_ble_eq_true rfl⟩) (zpreV (zpre zC_ok hX hS hFc hPc hKc hDc) (va_recv hK hP rfl (q0 := 2) rfl)) rfl rfl hl.1 rfl (lv_room (Nat.le_of_ble_eq_true rfl)) dX2_fitsScaledBehind_4 ⟨Nat.zero_le _, Nat.zero_le _⟩) hP hD hS hFc [2, 3] [0, 1] [0, 1, 2, 3] rfl rfl (by decide) (by decide) rfl (by decide) (fun H locs hP hD hS => ?_)
  refine lv_istore_n (lv' := [(3, .int q1), (0, .ref aN), (1, .ref aS), (2, .int a1)]) hx hb dX2_fitsScaledBehind_7 rfl hl (by decide) rfl (fun ls hl => ?_)
  refine lv_aload_n hx hb dX2_fitsScaledBehind_8 rfl (lv_at hl 2 rfl) ?_
  refine lv_iload_n hx hb dX2_fitsScaledBehind_9 rfl (lv_at hl 0 rfl) ?_
  obtain ⟨q2, hq2, hm⟩ := zbind hm
  have hPc := hP.sub (ws' := (wS aS rS cs sv sr)) [2, 3] rfl
  have hDc := hD.sub (ws' := (wS aS rS cs sv sr)) [2, 3] (by decide) rfl
  have hKc := hK.sub (tys' := wS_t cs) [1] rfl
  have hFc := va_free (wc := (wS aS rS cs sv sr)) hD hS hA [2, 3] rfl
  refine zbSi (wr := [(aN, .inr (1, [.ref bN, .int (v 1), .int (v 2), .int (v 3), .int (v 4), .int (v 5), .int (v 6), .int (v 7)])), (bN, .inl (c1, 25, .inl b))]) (w1 := (wS aS rS cs sv sr)) (w' := (wNS aN bN aS rS c1 cs v b sv sr)) (va_runV (As := [.int q1]) (rest := []) ⟨hx, hb, hml, hown, hw⟩ (k_S_symbolAt l D aS rS cs _ q1 sv sr  q2 hq2) (zcV (C := RX3) 1 hw (zgood zw197) rfl rfl rfl zw179 zw199 zw198 zw200 hdX3_symbolAt ⟨Nat.le_of_ble_eq_true rfl, Nat.le_of_ble_eq_true rfl⟩) (zpreV (zpre zC_ok hX hS hFc hPc hKc hDc) (va_recv hK hP rfl (q0 := 2) rfl)) rfl rfl hl.1 rfl (lv_room (Nat.le_of_ble_eq_true rfl)) dX2_fitsScaledBehind_10 ⟨Nat.zero_le _, Nat.zero_le _⟩) hP hD hS hFc [2, 3] [0, 1] [0, 1, 2, 3] rfl rfl (by decide) (by decide) rfl (by decide) (fun H locs hP hD hS => ?_)
  refine lv_bipush (v := 86) hx hb dX2_fitsScaledBehind_13 (by decide) ?_
  refine lv_icmp_ne (tgt := 22) hx hb dX2_fitsScaledBehind_15 rfl (fun cd3 => ?_) (fun cd3 => ?_)
  · replace hm := zf cd3 hm
    refine lv_iconst (v := 0) hx hb dX2_fitsScaledBehind_22 (by decide) ?_
    exact b_N_fitsScaledBehind_23 G0 hK hX _ _ _ _ hm _ _ _ hP hD hS (lv_sub hl [1, 2, 3, 0] rfl)
  · replace hm := zt cd3 hm
    refine lv_iconst (v := 1) hx hb dX2_fitsScaledBehind_18 (by decide) ?_
    refine lv_goto (tgt := 23) hx hb dX2_fitsScaledBehind_19 rfl ?_
    exact b_N_fitsScaledBehind_23 G0 hK hX _ _ _ _ hm _ _ _ hP hD hS (lv_sub hl [1, 2, 3, 0] rfl)

theorem dX2_fits_0 : decode cX2_fits 0 = .ok (.aload_n 0, 1) := by decide +kernel
theorem dX2_fits_1 : decode cX2_fits 1 = .ok (.aload_n 1, 1) := by decide +kernel
theorem dX2_fits_2 : decode cX2_fits 2 = .ok (.iconst 0, 1) := by decide +kernel
theorem dX2_fits_3 : decode cX2_fits 3 = .ok (.invokevirtual 9, 3) := by decide +kernel
theorem dX2_fits_6 : decode cX2_fits 6 = .ok (.bipush 83, 2) := by decide +kernel
theorem dX2_fits_8 : decode cX2_fits 8 = .ok (.if_icmp .ne 7, 3) := by decide +kernel
theorem dX2_fits_11 : decode cX2_fits 11 = .ok (.iconst 1, 1) := by decide +kernel
theorem dX2_fits_12 : decode cX2_fits 12 = .ok (.goto 4, 3) := by decide +kernel
theorem dX2_fits_15 : decode cX2_fits 15 = .ok (.iconst 0, 1) := by decide +kernel
theorem dX2_fits_16 : decode cX2_fits 16 = .ok (.putfield 15, 3) := by decide +kernel
theorem dX2_fits_19 : decode cX2_fits 19 = .ok (.aload_n 0, 1) := by decide +kernel
theorem dX2_fits_20 : decode cX2_fits 20 = .ok (.getfield 15, 3) := by decide +kernel
theorem dX2_fits_23 : decode cX2_fits 23 = .ok (.ifCond .eq 7, 3) := by decide +kernel
theorem dX2_fits_26 : decode cX2_fits 26 = .ok (.iconst 1, 1) := by decide +kernel
theorem dX2_fits_27 : decode cX2_fits 27 = .ok (.goto 4, 3) := by decide +kernel
theorem dX2_fits_30 : decode cX2_fits 30 = .ok (.iconst 0, 1) := by decide +kernel
theorem dX2_fits_31 : decode cX2_fits 31 = .ok (.istore_n 2, 1) := by decide +kernel
theorem dX2_fits_32 : decode cX2_fits 32 = .ok (.aload_n 0, 1) := by decide +kernel
theorem dX2_fits_33 : decode cX2_fits 33 = .ok (.aload_n 1, 1) := by decide +kernel
theorem dX2_fits_34 : decode cX2_fits 34 = .ok (.iload_n 2, 1) := by decide +kernel
theorem dX2_fits_35 : decode cX2_fits 35 = .ok (.invokevirtual 21, 3) := by decide +kernel
theorem dX2_fits_38 : decode cX2_fits 38 = .ok (.ifCond .ne 21, 3) := by decide +kernel
theorem dX2_fits_41 : decode cX2_fits 41 = .ok (.aload_n 0, 1) := by decide +kernel
theorem dX2_fits_42 : decode cX2_fits 42 = .ok (.aload_n 1, 1) := by decide +kernel
theorem dX2_fits_43 : decode cX2_fits 43 = .ok (.iload_n 2, 1) := by decide +kernel
theorem dX2_fits_44 : decode cX2_fits 44 = .ok (.invokevirtual 25, 3) := by decide +kernel
theorem dX2_fits_47 : decode cX2_fits 47 = .ok (.ifCond .ne 12, 3) := by decide +kernel
theorem dX2_fits_50 : decode cX2_fits 50 = .ok (.aload_n 0, 1) := by decide +kernel
theorem dX2_fits_51 : decode cX2_fits 51 = .ok (.aload_n 1, 1) := by decide +kernel
theorem dX2_fits_52 : decode cX2_fits 52 = .ok (.iload_n 2, 1) := by decide +kernel
theorem dX2_fits_53 : decode cX2_fits 53 = .ok (.invokevirtual 28, 3) := by decide +kernel
theorem dX2_fits_56 : decode cX2_fits 56 = .ok (.ifCond .eq 7, 3) := by decide +kernel
theorem dX2_fits_59 : decode cX2_fits 59 = .ok (.iconst 1, 1) := by decide +kernel
theorem dX2_fits_60 : decode cX2_fits 60 = .ok (.goto 4, 3) := by decide +kernel
theorem dX2_fits_63 : decode cX2_fits 63 = .ok (.iconst 0, 1) := by decide +kernel
theorem dX2_fits_64 : decode cX2_fits 64 = .ok (.istore_n 3, 1) := by decide +kernel
theorem dX2_fits_65 : decode cX2_fits 65 = .ok (.iload_n 3, 1) := by decide +kernel
theorem dX2_fits_66 : decode cX2_fits 66 = .ok (.ifCond .eq 21, 3) := by decide +kernel
theorem dX2_fits_69 : decode cX2_fits 69 = .ok (.aload_n 0, 1) := by decide +kernel
theorem dX2_fits_70 : decode cX2_fits 70 = .ok (.getfield 31, 3) := by decide +kernel
theorem dX2_fits_73 : decode cX2_fits 73 = .ok (.aload_n 0, 1) := by decide +kernel
theorem dX2_fits_74 : decode cX2_fits 74 = .ok (.getfield 35, 3) := by decide +kernel
theorem dX2_fits_77 : decode cX2_fits 77 = .ok (.iadd, 1) := by decide +kernel
theorem dX2_fits_78 : decode cX2_fits 78 = .ok (.bipush 12, 2) := by decide +kernel
theorem dX2_fits_80 : decode cX2_fits 80 = .ok (.if_icmp .gt 7, 3) := by decide +kernel
theorem dX2_fits_83 : decode cX2_fits 83 = .ok (.iconst 1, 1) := by decide +kernel
theorem dX2_fits_84 : decode cX2_fits 84 = .ok (.goto 4, 3) := by decide +kernel
theorem dX2_fits_87 : decode cX2_fits 87 = .ok (.iconst 0, 1) := by decide +kernel
theorem dX2_fits_88 : decode cX2_fits 88 = .ok (.ireturn, 1) := by decide +kernel
def m_N_fits_64 (b : Nat → Int32) (sv : Nat → Int32) (sr : Nat → Int32) (t0 : Int32) (v : Nat → Int32) : Option ((Int32) × (Nat → Int32)) := (if t0 = 0 then (zbo 0 (some (0, v))) else (if 12 < ((v 2) + (v 3)) then (zbo 0 (some (0, v))) else (zbo 1 (some (1, v)))))
def m_N_fits_59 (b : Nat → Int32) (sv : Nat → Int32) (sr : Nat → Int32)  (v : Nat → Int32) : Option ((Int32) × (Nat → Int32)) := m_N_fits_64 b sv sr 1 v
def m_N_fits_31 (b : Nat → Int32) (sv : Nat → Int32) (sr : Nat → Int32) (t0 : Int32) (v : Nat → Int32) : Option ((Int32) × (Nat → Int32)) := (m_N_fitsUnscaled t0 v b sv sr).bind (fun q6 => (if q6.1 = 0 then (m_N_fitsScaledBefore t0 q6.2 b sv sr).bind (fun q13 => (if q13.1 = 0 then (m_N_fitsScaledBehind t0 q13.2 b sv sr).bind (fun q15 => (if q15.1 = 0 then m_N_fits_64 b sv sr 0 q15.2 else m_N_fits_59 b sv sr q15.2)) else m_N_fits_59 b sv sr q13.2)) else m_N_fits_59 b sv sr q6.2))
def m_N_fits_16 (b : Nat → Int32) (sv : Nat → Int32) (sr : Nat → Int32) (t0 : Int32) (v : Nat → Int32) : Option ((Int32) × (Nat → Int32)) := zbo t0 ((if ((upd v 4 t0) 4) = 0 then m_N_fits_31 b sv sr 0 (upd v 4 t0) else m_N_fits_31 b sv sr 1 (upd v 4 t0)))
def m_N_fits  (v : Nat → Int32) (b : Nat → Int32) (sv : Nat → Int32) (sr : Nat → Int32)  : Option ((Int32) × (Nat → Int32)) := (m_S_symbolAt 0 sv sr).bind (fun q1 => (if q1 = 83 then m_N_fits_16 b sv sr 1 v else m_N_fits_16 b sv sr 0 v))
section
variable {p : Program} {l : Launch} {e : Env} {s : State} {m : MethodId} {args : Array Value} {below : List Frame} {meth : Method} {c : Code} {D : va_G} {w0 : va_W} {aN bN aS rS : Nat} {c1 cs : ClassId} {b : Nat → Int32} {sv : Nat → Int32} {sr : Nat → Int32}
set_option maxRecDepth 100000 in
set_option maxHeartbeats 4000000 in
theorem b_N_fits_64 (G : zG p s m args meth c cX2_fits RX2 4 (some .boolean)) (hK : va_K D vwCl (wNS_t c1 cs) s) (hX : zC (va_A w0 s.heap.size) s) {res : (Int32) × (Nat → Int32)} : ∀ (t0 : Int32) (v : Nat → Int32), m_N_fits_64 b sv sr t0 v = some res → zB p l e (zR 2 51) s m args below meth c D vwCl (va_A w0 s.heap.size) (MQ below (zQi D vwCl w0 (wNS aN bN aS rS c1 cs res.2 b sv sr) s.heap.size res.1) args s 0 0 (va_A w0 s.heap.size)) 4 (wNS aN bN aS rS c1 cs v b sv sr) [(0, .ref aN)] 64 [.int t0] := by
  intro t0 v hm H locs ls hP hD hS hl
  unfold m_N_fits_64 at hm
  have G0 := G
  obtain ⟨hx, hb, hr, hml, hown, hw, hlk⟩ := G
  have hA : ∀ q, s.heap.size ≤ q → va_A w0 s.heap.size q := fun q h => Or.inr h
  refine lv_istore_n (lv' := [(3, .int t0), (0, .ref aN)]) hx hb dX2_fits_64 rfl hl (by decide) rfl (fun ls hl => ?_)
  refine lv_iload_n hx hb dX2_fits_65 rfl (lv_at hl 0 rfl) ?_
  refine lv_if_eq (tgt := 87) hx hb dX2_fits_66 rfl (fun cd8 => ?_) (fun cd8 => ?_)
  · replace hm := zt cd8 hm
    refine lv_iconst (v := 0) hx hb dX2_fits_87 (by decide) ?_
    obtain ⟨hz9, -, hm⟩ := zbo_s hm
    cases hm
    exact zretz hx hb hr hlk hz9 hP hD hS dX2_fits_88
  · replace hm := zf cd8 hm
    refine lv_aload_n hx hb dX2_fits_69 rfl (lv_at hl 1 rfl) ?_
    refine va_get (D := D) (ci := 1) (v := .int (v 2)) (C := RX2) (T := TX2) (N := 8) hx hb hw zinX2 hown hK hP 0 rfl rfl 2 (by decide) (hw _ zw202) (fun x9 h9 => u_same (hw _ zw201) x9 h9) rfl dX2_fits_70 ?_
    refine lv_aload_n hx hb dX2_fits_73 rfl (lv_at hl 1 rfl) ?_
    refine va_get (D := D) (ci := 1) (v := .int (v 3)) (C := RX2) (T := TX2) (N := 8) hx hb hw zinX2 hown hK hP 0 rfl rfl 3 (by decide) (hw _ zw204) (fun x9 h9 => u_same (hw _ zw203) x9 h9) rfl dX2_fits_74 ?_
    refine lv_iadd hx hb dX2_fits_77 ?_
    refine lv_bipush (v := 12) hx hb dX2_fits_78 (by decide) ?_
    refine lv_icmp_gt (tgt := 87) hx hb dX2_fits_80 rfl (fun cd10 => ?_) (fun cd10 => ?_)
    · replace hm := zt cd10 hm
      refine lv_iconst (v := 0) hx hb dX2_fits_87 (by decide) ?_
      obtain ⟨hz11, -, hm⟩ := zbo_s hm
      cases hm
      exact zretz hx hb hr hlk hz11 hP hD hS dX2_fits_88
    · replace hm := zf cd10 hm
      refine lv_iconst (v := 1) hx hb dX2_fits_83 (by decide) ?_
      refine lv_goto (tgt := 88) hx hb dX2_fits_84 rfl ?_
      obtain ⟨hz12, -, hm⟩ := zbo_s hm
      cases hm
      exact zretz hx hb hr hlk hz12 hP hD hS dX2_fits_88
set_option maxRecDepth 100000 in
set_option maxHeartbeats 4000000 in
theorem b_N_fits_59 (G : zG p s m args meth c cX2_fits RX2 4 (some .boolean)) (hK : va_K D vwCl (wNS_t c1 cs) s) (hX : zC (va_A w0 s.heap.size) s) {res : (Int32) × (Nat → Int32)} : ∀ (v : Nat → Int32), m_N_fits_59 b sv sr v = some res → zB p l e (zR 2 51) s m args below meth c D vwCl (va_A w0 s.heap.size) (MQ below (zQi D vwCl w0 (wNS aN bN aS rS c1 cs res.2 b sv sr) s.heap.size res.1) args s 0 0 (va_A w0 s.heap.size)) 4 (wNS aN bN aS rS c1 cs v b sv sr) [(0, .ref aN)] 59 [] := by
  intro v hm H locs ls hP hD hS hl
  unfold m_N_fits_59 at hm
  have G0 := G
  obtain ⟨hx, hb, hr, hml, hown, hw, hlk⟩ := G
  have hA : ∀ q, s.heap.size ≤ q → va_A w0 s.heap.size q := fun q h => Or.inr h
  refine lv_iconst (v := 1) hx hb dX2_fits_59 (by decide) ?_
  refine lv_goto (tgt := 64) hx hb dX2_fits_60 rfl ?_
  exact b_N_fits_64 G0 hK hX _ _ hm H _ _ hP hD hS hl
set_option maxRecDepth 100000 in
set_option maxHeartbeats 4000000 in
theorem b_N_fits_31 (G : zG p s m args meth c cX2_fits RX2 4 (some .boolean)) (hK : va_K D vwCl (wNS_t c1 cs) s) (hX : zC (va_A w0 s.heap.size) s) {res : (Int32) × (Nat → Int32)} : ∀ (t0 : Int32) (v : Nat → Int32), m_N_fits_31 b sv sr t0 v = some res → zB p l e (zR 2 51) s m args below meth c D vwCl (va_A w0 s.heap.size) (MQ below (zQi D vwCl w0 (wNS aN bN aS rS c1 cs res.2 b sv sr) s.heap.size res.1) args s 0 0 (va_A w0 s.heap.size)) 4 (wNS aN bN aS rS c1 cs v b sv sr) [(0, .ref aN), (1, .ref aS)] 31 [.int t0] := by
  intro t0 v hm H locs ls hP hD hS hl
  unfold m_N_fits_31 at hm
  have G0 := G
  obtain ⟨hx, hb, hr, hml, hown, hw, hlk⟩ := G
  have hA : ∀ q, s.heap.size ≤ q → va_A w0 s.heap.size q := fun q h => Or.inr h
  refine lv_istore_n (lv' := [(2, .int t0), (0, .ref aN), (1, .ref aS)]) hx hb dX2_fits_31 rfl hl (by decide) rfl (fun ls hl => ?_)
  refine lv_aload_n hx hb dX2_fits_32 rfl (lv_at hl 1 rfl) ?_
  refine lv_aload_n hx hb dX2_fits_33 rfl (lv_at hl 2 rfl) ?_
  refine lv_iload_n hx hb dX2_fits_34 rfl (lv_at hl 0 rfl) ?_
  obtain ⟨q6, hq6, hm⟩ := zbind hm
  refine zbWi (va_runV (As := [.ref aS, .int t0]) (rest := []) ⟨hx, hb, hml, hown, hw⟩ (k_N_fitsUnscaled l D aN bN aS rS c1 cs _ t0 v b sv sr  q6 hq6) (zcV (C := RX2) 2 hw (zgood zw209) rfl rfl rfl zw210 zw212 zw211 zw213 hdX2_fitsUnscaled ⟨Nat.le_of_ble_eq_true rfl, Nat.le_of_ble_eq_true rfl⟩) (zpreV (zpre zC_ok hX hS (zfree hD hS hA) hP hK hD) (va_recv hK hP rfl (q0 := 0) rfl)) rfl rfl hl.1 rfl (lv_room (Nat.le_of_ble_eq_true rfl)) dX2_fits_35 ⟨Nat.zero_le _, Nat.zero_le _⟩) hS (zfree hD hS hA) (fun H locs hP hD hS => ?_)
  have hP : va_P D vwCl (wNS aN bN aS rS c1 cs q6.2 b sv sr) H := hP
  have hD : va_D _ (wNS aN bN aS rS c1 cs q6.2 b sv sr) := hD
  refine lv_if_ne (tgt := 59) hx hb dX2_fits_38 rfl (fun cd7 => ?_) (fun cd7 => ?_)
  · replace hm := zf cd7 hm
    exact b_N_fits_59 G0 hK hX _ hm H _ _ hP hD hS (lv_sub hl [1] rfl)
  · replace hm := zt cd7 hm
    refine lv_aload_n hx hb dX2_fits_41 rfl (lv_at hl 1 rfl) ?_
    refine lv_aload_n hx hb dX2_fits_42 rfl (lv_at hl 2 rfl) ?_
    refine lv_iload_n hx hb dX2_fits_43 rfl (lv_at hl 0 rfl) ?_
    obtain ⟨q13, hq13, hm⟩ := zbind hm
    refine zbWi (va_runV (As := [.ref aS, .int t0]) (rest := []) ⟨hx, hb, hml, hown, hw⟩ (k_N_fitsScaledBefore l D aN bN aS rS c1 cs _ t0 q6.2 b sv sr  q13 hq13) (zcV (C := RX2) 2 hw (zgood zw214) rfl rfl rfl zw210 zw216 zw215 zw217 hdX2_fitsScaledBefore ⟨Nat.le_of_ble_eq_true rfl, Nat.le_of_ble_eq_true rfl⟩) (zpreV (zpre zC_ok hX hS (zfree hD hS hA) hP hK hD) (va_recv hK hP rfl (q0 := 0) rfl)) rfl rfl hl.1 rfl (lv_room (Nat.le_of_ble_eq_true rfl)) dX2_fits_44 ⟨Nat.zero_le _, Nat.zero_le _⟩) hS (zfree hD hS hA) (fun H locs hP hD hS => ?_)
    have hP : va_P D vwCl (wNS aN bN aS rS c1 cs q13.2 b sv sr) H := hP
    have hD : va_D _ (wNS aN bN aS rS c1 cs q13.2 b sv sr) := hD
    refine lv_if_ne (tgt := 59) hx hb dX2_fits_47 rfl (fun cd14 => ?_) (fun cd14 => ?_)
    · replace hm := zf cd14 hm
      exact b_N_fits_59 G0 hK hX _ hm H _ _ hP hD hS (lv_sub hl [1] rfl)
    · replace hm := zt cd14 hm
      refine lv_aload_n hx hb dX2_fits_50 rfl (lv_at hl 1 rfl) ?_
      refine lv_aload_n hx hb dX2_fits_51 rfl (lv_at hl 2 rfl) ?_
      refine lv_iload_n hx hb dX2_fits_52 rfl (lv_at hl 0 rfl) ?_
      obtain ⟨q15, hq15, hm⟩ := zbind hm
      refine zbWi (va_runV (As := [.ref aS, .int t0]) (rest := []) ⟨hx, hb, hml, hown, hw⟩ (k_N_fitsScaledBehind l D aN bN aS rS c1 cs _ t0 q13.2 b sv sr  q15 hq15) (zcV (C := RX2) 2 hw (zgood zw218) rfl rfl rfl zw210 zw220 zw219 zw221 hdX2_fitsScaledBehind ⟨Nat.le_of_ble_eq_true rfl, Nat.le_of_ble_eq_true rfl⟩) (zpreV (zpre zC_ok hX hS (zfree hD hS hA) hP hK hD) (va_recv hK hP rfl (q0 := 0) rfl)) rfl rfl hl.1 rfl (lv_room (Nat.le_of_ble_eq_true rfl)) dX2_fits_53 ⟨Nat.zero_le _, Nat.zero_le _⟩) hS (zfree hD hS hA) (fun H locs hP hD hS => ?_)
      have hP : va_P D vwCl (wNS aN bN aS rS c1 cs q15.2 b sv sr) H := hP
      have hD : va_D _ (wNS aN bN aS rS c1 cs q15.2 b sv sr) := hD
      refine lv_if_eq (tgt := 63) hx hb dX2_fits_56 rfl (fun cd16 => ?_) (fun cd16 => ?_)
      · replace hm := zt cd16 hm
        refine lv_iconst (v := 0) hx hb dX2_fits_63 (by decide) ?_
        exact b_N_fits_64 G0 hK hX _ _ hm H _ _ hP hD hS (lv_sub hl [1] rfl)
      · replace hm := zf cd16 hm
        exact b_N_fits_59 G0 hK hX _ hm H _ _ hP hD hS (lv_sub hl [1] rfl)
set_option maxRecDepth 100000 in
set_option maxHeartbeats 4000000 in
theorem b_N_fits_16 (G : zG p s m args meth c cX2_fits RX2 4 (some .boolean)) (hK : va_K D vwCl (wNS_t c1 cs) s) (hX : zC (va_A w0 s.heap.size) s) {res : (Int32) × (Nat → Int32)} : ∀ (t0 : Int32) (v : Nat → Int32), m_N_fits_16 b sv sr t0 v = some res → zB p l e (zR 2 51) s m args below meth c D vwCl (va_A w0 s.heap.size) (MQ below (zQi D vwCl w0 (wNS aN bN aS rS c1 cs res.2 b sv sr) s.heap.size res.1) args s 0 0 (va_A w0 s.heap.size)) 4 (wNS aN bN aS rS c1 cs v b sv sr) [(0, .ref aN), (1, .ref aS)] 16 [.int t0, .ref aN] := by
  intro t0 v hm H locs ls hP hD hS hl
  unfold m_N_fits_16 at hm
  have G0 := G
  obtain ⟨hx, hb, hr, hml, hown, hw, hlk⟩ := G
  have hA : ∀ q, s.heap.size ≤ q → va_A w0 s.heap.size q := fun q h => Or.inr h
  obtain ⟨hz3, hz4, hm⟩ := zbo_s hm
  refine va_put (D := D) (ci := 1) (v := .int t0) (ty := .boolean) (C := RX2) (T := TX2) (N := 8) hx hb hw zinX2 tyX2 tyX2_ok nmX2 hown hK hP hD hS 0 rfl rfl 4 (by decide) (hw _ zw208) (fun x9 h9 => u_same (hw _ zw207) x9 h9) rfl (by decide +kernel) hz3 hz4 (Nat.le_of_ble_eq_true rfl) dX2_fits_16 (fun H locs hP hD hS => ?_)
  have hP : va_P D vwCl (wNS aN bN aS rS c1 cs (upd v 4 t0) b sv sr) H := hP
  have hD : va_D _ (wNS aN bN aS rS c1 cs (upd v 4 t0) b sv sr) := hD
  refine lv_aload_n hx hb dX2_fits_19 rfl (lv_at hl 0 rfl) ?_
  refine va_get (D := D) (ci := 1) (v := .int ((upd v 4 t0) 4)) (C := RX2) (T := TX2) (N := 8) hx hb hw zinX2 hown hK hP 0 rfl rfl 4 (by decide) (hw _ zw208) (fun x9 h9 => u_same (hw _ zw207) x9 h9) rfl dX2_fits_20 ?_
  refine lv_if_eq (tgt := 30) hx hb dX2_fits_23 rfl (fun cd5 => ?_) (fun cd5 => ?_)
  · replace hm := zt cd5 hm
    refine lv_iconst (v := 0) hx hb dX2_fits_30 (by decide) ?_
    exact b_N_fits_31 G0 hK hX _ _ hm H _ _ hP hD hS hl
  · replace hm := zf cd5 hm
    refine lv_iconst (v := 1) hx hb dX2_fits_26 (by decide) ?_
    refine lv_goto (tgt := 31) hx hb dX2_fits_27 rfl ?_
    exact b_N_fits_31 G0 hK hX _ _ hm H _ _ hP hD hS hl
end
set_option maxRecDepth 100000 in
set_option maxHeartbeats 4000000 in
theorem k_N_fits (l : Launch) (D : va_G) (aN bN aS rS : Nat) (c1 cs : ClassId) (sz : Nat)  (v : Nat → Int32) (b : Nat → Int32) (sv : Nat → Int32) (sr : Nat → Int32) (res : (Int32) × (Nat → Int32)) (hm : m_N_fits  v b sv sr  = some res) : Met l yX2_fits (Cond.code yX2_fits cX2_fits 4 (some .boolean) :: zBIG) (zR 2 51) (va_Pc [.ref aN, .ref aS] (zP zC D vwCl (wNS_t c1 cs) (wNS aN bN aS rS c1 cs v b sv sr) sz)) (zQi D vwCl (wNS aN bN aS rS c1 cs v b sv sr) (wNS aN bN aS rS c1 cs res.2 b sv sr) sz res.1) 0 0 (va_A (wNS aN bN aS rS c1 cs v b sv sr) sz) := by
  refine zEnter RX2 [.ref aN, .ref aS] (by decide) rfl (Nat.le_of_ble_eq_true rfl) (fun p e s m below meth c ls G hK hX hP hD hsz hl => ?_)
  subst hsz
  unfold m_N_fits at hm
  have hl : lv_has ls 4 [(0, .ref aN), (1, .ref aS)] := hl
  have hS : va_S (va_A (wNS aN bN aS rS c1 cs v b sv sr) s.heap.size) s.heap s.heap [] := va_S.rf
  have hA : ∀ q, s.heap.size ≤ q → va_A (wNS aN bN aS rS c1 cs v b sv sr) s.heap.size q := fun q h => Or.inr h
  have G0 := G
  obtain ⟨hx, hb, hr, hml, hown, hw, hlk⟩ := G
  refine lv_aload_n hx hb dX2_fits_0 rfl (lv_at hl 0 rfl) ?_
  refine lv_aload_n hx hb dX2_fits_1 rfl (lv_at hl 1 rfl) ?_
  refine lv_iconst (v := 0) hx hb dX2_fits_2 (by decide) ?_
  obtain ⟨q1, hq1, hm⟩ := zbind hm
  have hPc := hP.sub (ws' := (wS aS rS cs sv sr)) [2, 3] rfl
  have hDc := hD.sub (ws' := (wS aS rS cs sv sr)) [2, 3] (by decide) rfl
  have hKc := hK.sub (tys' := wS_t cs) [1] rfl
  have hFc := va_free (wc := (wS aS rS cs sv sr)) hD hS hA [2, 3] rfl
  refine zbSi (wr := [(aN, .inr (1, [.ref bN, .int (v 1), .int (v 2), .int (v 3), .int (v 4), .int (v 5), .int (v 6), .int (v 7)])), (bN, .inl (c1, 25, .inl b))]) (w1 := (wS aS rS cs sv sr)) (w' := (wNS aN bN aS rS c1 cs v b sv sr)) (va_runV (As := [.int 0]) (rest := [.ref aN]) ⟨hx, hb, hml, hown, hw⟩ (k_S_symbolAt l D aS rS cs _ 0 sv sr  q1 hq1) (zcV (C := RX3) 1 hw (zgood zw197) rfl rfl rfl zw179 zw199 zw198 zw200 hdX3_symbolAt ⟨Nat.le_of_ble_eq_true rfl, Nat.le_of_ble_eq_true rfl⟩) (zpreV (zpre zC_ok hX hS hFc hPc hKc hDc) (va_recv hK hP rfl (q0 := 2) rfl)) rfl rfl hl.1 rfl (lv_room (Nat.le_of_ble_eq_true rfl)) dX2_fits_3 ⟨Nat.zero_le _, Nat.zero_le _⟩) hP hD hS hFc [2, 3] [0, 1] [0, 1, 2, 3] rfl rfl (by decide) (by decide) rfl (by decide) (fun H locs hP hD hS => ?_)
  refine lv_bipush (v := 83) hx hb dX2_fits_6 (by decide) ?_
  refine lv_icmp_ne (tgt := 15) hx hb dX2_fits_8 rfl (fun cd2 => ?_) (fun cd2 => ?_)
  · replace hm := zf cd2 hm
    refine lv_iconst (v := 0) hx hb dX2_fits_15 (by decide) ?_
    exact b_N_fits_16 G0 hK hX _ _ hm _ _ _ hP hD hS hl
  · replace hm := zt cd2 hm
    refine lv_iconst (v := 1) hx hb dX2_fits_11 (by decide) ?_
    refine lv_goto (tgt := 16) hx hb dX2_fits_12 rfl ?_
    exact b_N_fits_16 G0 hK hX _ _ hm _ _ _ hP hD hS hl

theorem dX2_kind_0 : decode cX2_kind 0 = .ok (.iconst 0, 1) := by decide +kernel
theorem dX2_kind_1 : decode cX2_kind 1 = .ok (.ireturn, 1) := by decide +kernel
def m_N_kind  (v : Nat → Int32) (b : Nat → Int32)  : Option ((Int32)) := (some 0)
section
variable {p : Program} {l : Launch} {e : Env} {s : State} {m : MethodId} {args : Array Value} {below : List Frame} {meth : Method} {c : Code} {D : va_G} {w0 : va_W} {aN bN : Nat} {c1 : ClassId} {v : Nat → Int32} {b : Nat → Int32}
end
set_option maxRecDepth 100000 in
set_option maxHeartbeats 4000000 in
theorem k_N_kind (l : Launch) (D : va_G) (aN bN : Nat) (c1 : ClassId) (sz : Nat)  (v : Nat → Int32) (b : Nat → Int32) (res : (Int32)) (hm : m_N_kind  v b  = some res) : Met l yX2_kind (Cond.code yX2_kind cX2_kind 1 (some .int) :: zBIG) (zR 0 0) (va_Pc [.ref aN] (zP zC D vwCl (wN_t c1) (wN aN bN c1 v b) sz)) (zQi D vwCl (wN aN bN c1 v b) (wN aN bN c1 v b) sz res) 0 0 (va_A (wN aN bN c1 v b) sz) := by
  refine zEnter RX2 [.ref aN] (by decide) rfl (Nat.le_of_ble_eq_true rfl) (fun p e s m below meth c ls G hK hX hP hD hsz hl => ?_)
  subst hsz
  unfold m_N_kind at hm
  have hl : lv_has ls 1 [(0, .ref aN)] := hl
  have hS : va_S (va_A (wN aN bN c1 v b) s.heap.size) s.heap s.heap [] := va_S.rf
  have hA : ∀ q, s.heap.size ≤ q → va_A (wN aN bN c1 v b) s.heap.size q := fun q h => Or.inr h
  have G0 := G
  obtain ⟨hx, hb, hr, hml, hown, hw, hlk⟩ := G
  refine lv_iconst (v := 0) hx hb dX2_kind_0 (by decide) ?_
  cases hm
  exact zreti hx hb hr hlk hP hD hS dX2_kind_1

theorem dX2_takesUsage_0 : decode cX2_takesUsage 0 = .ok (.aload_n 0, 1) := by decide +kernel
theorem dX2_takesUsage_1 : decode cX2_takesUsage 1 = .ok (.iload_n 1, 1) := by decide +kernel
theorem dX2_takesUsage_2 : decode cX2_takesUsage 2 = .ok (.iconst 1, 1) := by decide +kernel
theorem dX2_takesUsage_3 : decode cX2_takesUsage 3 = .ok (.if_icmp .ne 7, 3) := by decide +kernel
theorem dX2_takesUsage_6 : decode cX2_takesUsage 6 = .ok (.iconst 1, 1) := by decide +kernel
theorem dX2_takesUsage_7 : decode cX2_takesUsage 7 = .ok (.goto 4, 3) := by decide +kernel
theorem dX2_takesUsage_10 : decode cX2_takesUsage 10 = .ok (.iconst 0, 1) := by decide +kernel
theorem dX2_takesUsage_11 : decode cX2_takesUsage 11 = .ok (.putfield 38, 3) := by decide +kernel
theorem dX2_takesUsage_14 : decode cX2_takesUsage 14 = .ok (.aload_n 0, 1) := by decide +kernel
theorem dX2_takesUsage_15 : decode cX2_takesUsage 15 = .ok (.aload_n 0, 1) := by decide +kernel
theorem dX2_takesUsage_16 : decode cX2_takesUsage 16 = .ok (.getfield 38, 3) := by decide +kernel
theorem dX2_takesUsage_19 : decode cX2_takesUsage 19 = .ok (.ifCond .eq 14, 3) := by decide +kernel
theorem dX2_takesUsage_22 : decode cX2_takesUsage 22 = .ok (.aload_n 0, 1) := by decide +kernel
theorem dX2_takesUsage_23 : decode cX2_takesUsage 23 = .ok (.getfield 41, 3) := by decide +kernel
theorem dX2_takesUsage_26 : decode cX2_takesUsage 26 = .ok (.iconst 2, 1) := by decide +kernel
theorem dX2_takesUsage_27 : decode cX2_takesUsage 27 = .ok (.idiv, 1) := by decide +kernel
theorem dX2_takesUsage_28 : decode cX2_takesUsage 28 = .ok (.iconst 1, 1) := by decide +kernel
theorem dX2_takesUsage_29 : decode cX2_takesUsage 29 = .ok (.iadd, 1) := by decide +kernel
theorem dX2_takesUsage_30 : decode cX2_takesUsage 30 = .ok (.goto 7, 3) := by decide +kernel
theorem dX2_takesUsage_33 : decode cX2_takesUsage 33 = .ok (.aload_n 0, 1) := by decide +kernel
theorem dX2_takesUsage_34 : decode cX2_takesUsage 34 = .ok (.getfield 41, 3) := by decide +kernel
theorem dX2_takesUsage_37 : decode cX2_takesUsage 37 = .ok (.putfield 44, 3) := by decide +kernel
theorem dX2_takesUsage_40 : decode cX2_takesUsage 40 = .ok (.iload_n 1, 1) := by decide +kernel
theorem dX2_takesUsage_41 : decode cX2_takesUsage 41 = .ok (.ifCond .eq 8, 3) := by decide +kernel
theorem dX2_takesUsage_44 : decode cX2_takesUsage 44 = .ok (.iload_n 1, 1) := by decide +kernel
theorem dX2_takesUsage_45 : decode cX2_takesUsage 45 = .ok (.iconst 1, 1) := by decide +kernel
theorem dX2_takesUsage_46 : decode cX2_takesUsage 46 = .ok (.if_icmp .ne 7, 3) := by decide +kernel
theorem dX2_takesUsage_49 : decode cX2_takesUsage 49 = .ok (.iconst 1, 1) := by decide +kernel
theorem dX2_takesUsage_50 : decode cX2_takesUsage 50 = .ok (.goto 4, 3) := by decide +kernel
theorem dX2_takesUsage_53 : decode cX2_takesUsage 53 = .ok (.iconst 0, 1) := by decide +kernel
theorem dX2_takesUsage_54 : decode cX2_takesUsage 54 = .ok (.ireturn, 1) := by decide +kernel
def m_N_takesUsage_49 (b : Nat → Int32)  (v : Nat → Int32) : Option ((Int32) × (Nat → Int32)) := (zbo 1 (some (1, v)))
def m_N_takesUsage_37 (b : Nat → Int32) (x1 : Int32) (t0 : Int32) (v : Nat → Int32) : Option ((Int32) × (Nat → Int32)) := (if x1 = 0 then m_N_takesUsage_49 b (upd v 1 t0) else (if x1 = 1 then m_N_takesUsage_49 b (upd v 1 t0) else (zbo 0 (some (0, (upd v 1 t0))))))
def m_N_takesUsage_11 (b : Nat → Int32) (x1 : Int32) (t0 : Int32) (v : Nat → Int32) : Option ((Int32) × (Nat → Int32)) := zbo t0 ((if ((upd v 7 t0) 7) = 0 then m_N_takesUsage_37 b x1 ((upd v 7 t0) 5) (upd v 7 t0) else m_N_takesUsage_37 b x1 ((((upd v 7 t0) 5) / 2) + 1) (upd v 7 t0)))
def m_N_takesUsage (a0 : Int32) (v : Nat → Int32) (b : Nat → Int32)  : Option ((Int32) × (Nat → Int32)) := (if a0 = 1 then m_N_takesUsage_11 b a0 1 v else m_N_takesUsage_11 b a0 0 v)
section
variable {p : Program} {l : Launch} {e : Env} {s : State} {m : MethodId} {args : Array Value} {below : List Frame} {meth : Method} {c : Code} {D : va_G} {w0 : va_W} {aN bN : Nat} {c1 : ClassId} {b : Nat → Int32}
set_option maxRecDepth 100000 in
set_option maxHeartbeats 4000000 in
theorem b_N_takesUsage_49 (G : zG p s m args meth c cX2_takesUsage RX2 2 (some .boolean)) (hK : va_K D vwCl (wN_t c1) s) (hX : zC (va_A w0 s.heap.size) s) {res : (Int32) × (Nat → Int32)} : ∀ (v : Nat → Int32), m_N_takesUsage_49 b v = some res → zB p l e (zR 0 0) s m args below meth c D vwCl (va_A w0 s.heap.size) (MQ below (zQi D vwCl w0 (wN aN bN c1 res.2 b) s.heap.size res.1) args s 0 0 (va_A w0 s.heap.size)) 2 (wN aN bN c1 v b) [] 49 [] := by
  intro v hm H locs ls hP hD hS hl
  unfold m_N_takesUsage_49 at hm
  have G0 := G
  obtain ⟨hx, hb, hr, hml, hown, hw, hlk⟩ := G
  have hA : ∀ q, s.heap.size ≤ q → va_A w0 s.heap.size q := fun q h => Or.inr h
  refine lv_iconst (v := 1) hx hb dX2_takesUsage_49 (by decide) ?_
  refine lv_goto (tgt := 54) hx hb dX2_takesUsage_50 rfl ?_
  obtain ⟨hz6, -, hm⟩ := zbo_s hm
  cases hm
  exact zretz hx hb hr hlk hz6 hP hD hS dX2_takesUsage_54
set_option maxRecDepth 100000 in
set_option maxHeartbeats 4000000 in
theorem b_N_takesUsage_37 (G : zG p s m args meth c cX2_takesUsage RX2 2 (some .boolean)) (hK : va_K D vwCl (wN_t c1) s) (hX : zC (va_A w0 s.heap.size) s) {res : (Int32) × (Nat → Int32)} : ∀ (x1 : Int32) (t0 : Int32) (v : Nat → Int32), m_N_takesUsage_37 b x1 t0 v = some res → zB p l e (zR 0 0) s m args below meth c D vwCl (va_A w0 s.heap.size) (MQ below (zQi D vwCl w0 (wN aN bN c1 res.2 b) s.heap.size res.1) args s 0 0 (va_A w0 s.heap.size)) 2 (wN aN bN c1 v b) [(1, .int x1)] 37 [.int t0, .ref aN] := by
  intro x1 t0 v hm H locs ls hP hD hS hl
  unfold m_N_takesUsage_37 at hm
  have G0 := G
  obtain ⟨hx, hb, hr, hml, hown, hw, hlk⟩ := G
  have hA : ∀ q, s.heap.size ≤ q → va_A w0 s.heap.size q := fun q h => Or.inr h
  refine va_put (D := D) (ci := 1) (v := .int t0) (ty := .int) (C := RX2) (T := TX2) (N := 8) hx hb hw zinX2 tyX2 tyX2_ok nmX2 hown hK hP hD hS 0 rfl rfl 1 (by decide) (hw _ zw224) (fun x9 h9 => u_same (hw _ zw223) x9 h9) rfl (by decide +kernel) rfl rfl (Nat.le_of_ble_eq_true rfl) dX2_takesUsage_37 (fun H locs hP hD hS => ?_)
  have hP : va_P D vwCl (wN aN bN c1 (upd v 1 t0) b) H := hP
  have hD : va_D _ (wN aN bN c1 (upd v 1 t0) b) := hD
  refine lv_iload_n hx hb dX2_takesUsage_40 rfl (lv_at hl 0 rfl) ?_
  refine lv_if_eq (tgt := 49) hx hb dX2_takesUsage_41 rfl (fun cd5 => ?_) (fun cd5 => ?_)
  · replace hm := zt cd5 hm
    exact b_N_takesUsage_49 G0 hK hX _ hm H _ _ hP hD hS (lv_sub hl [] rfl)
  · replace hm := zf cd5 hm
    refine lv_iload_n hx hb dX2_takesUsage_44 rfl (lv_at hl 0 rfl) ?_
    refine lv_iconst (v := 1) hx hb dX2_takesUsage_45 (by decide) ?_
    refine lv_icmp_ne (tgt := 53) hx hb dX2_takesUsage_46 rfl (fun cd7 => ?_) (fun cd7 => ?_)
    · replace hm := zf cd7 hm
      refine lv_iconst (v := 0) hx hb dX2_takesUsage_53 (by decide) ?_
      obtain ⟨hz8, -, hm⟩ := zbo_s hm
      cases hm
      exact zretz hx hb hr hlk hz8 hP hD hS dX2_takesUsage_54
    · replace hm := zt cd7 hm
      exact b_N_takesUsage_49 G0 hK hX _ hm H _ _ hP hD hS (lv_sub hl [] rfl)
set_option maxRecDepth 100000 in
set_option maxHeartbeats 4000000 in
theorem b_N_takesUsage_11 (G : zG p s m args meth c cX2_takesUsage RX2 2 (some .boolean)) (hK : va_K D vwCl (wN_t c1) s) (hX : zC (va_A w0 s.heap.size) s) {res : (Int32) × (Nat → Int32)} : ∀ (x1 : Int32) (t0 : Int32) (v : Nat → Int32), m_N_takesUsage_11 b x1 t0 v = some res → zB p l e (zR 0 0) s m args below meth c D vwCl (va_A w0 s.heap.size) (MQ below (zQi D vwCl w0 (wN aN bN c1 res.2 b) s.heap.size res.1) args s 0 0 (va_A w0 s.heap.size)) 2 (wN aN bN c1 v b) [(0, .ref aN), (1, .int x1)] 11 [.int t0, .ref aN] := by
  intro x1 t0 v hm H locs ls hP hD hS hl
  unfold m_N_takesUsage_11 at hm
  have G0 := G
  obtain ⟨hx, hb, hr, hml, hown, hw, hlk⟩ := G
  have hA : ∀ q, s.heap.size ≤ q → va_A w0 s.heap.size q := fun q h => Or.inr h
  obtain ⟨hz2, hz3, hm⟩ := zbo_s hm
  refine va_put (D := D) (ci := 1) (v := .int t0) (ty := .boolean) (C := RX2) (T := TX2) (N := 8) hx hb hw zinX2 tyX2 tyX2_ok nmX2 hown hK hP hD hS 0 rfl rfl 7 (by decide) (hw _ zw222) (fun _ h9 => h9) rfl (by decide +kernel) hz2 hz3 (Nat.le_of_ble_eq_true rfl) dX2_takesUsage_11 (fun H locs hP hD hS => ?_)
  have hP : va_P D vwCl (wN aN bN c1 (upd v 7 t0) b) H := hP
  have hD : va_D _ (wN aN bN c1 (upd v 7 t0) b) := hD
  refine lv_aload_n hx hb dX2_takesUsage_14 rfl (lv_at hl 0 rfl) ?_
  refine lv_aload_n hx hb dX2_takesUsage_15 rfl (lv_at hl 0 rfl) ?_
  refine va_get (D := D) (ci := 1) (v := .int ((upd v 7 t0) 7)) (C := RX2) (T := TX2) (N := 8) hx hb hw zinX2 hown hK hP 0 rfl rfl 7 (by decide) (hw _ zw222) (fun _ h9 => h9) rfl dX2_takesUsage_16 ?_
  refine lv_if_eq (tgt := 33) hx hb dX2_takesUsage_19 rfl (fun cd4 => ?_) (fun cd4 => ?_)
  · replace hm := zt cd4 hm
    refine lv_aload_n hx hb dX2_takesUsage_33 rfl (lv_at hl 0 rfl) ?_
    refine va_get (D := D) (ci := 1) (v := .int ((upd v 7 t0) 5)) (C := RX2) (T := TX2) (N := 8) hx hb hw zinX2 hown hK hP 0 rfl rfl 5 (by decide) (hw _ zw205) (fun _ h9 => h9) rfl dX2_takesUsage_34 ?_
    exact b_N_takesUsage_37 G0 hK hX _ _ _ hm H _ _ hP hD hS (lv_sub hl [1] rfl)
  · replace hm := zf cd4 hm
    refine lv_aload_n hx hb dX2_takesUsage_22 rfl (lv_at hl 0 rfl) ?_
    refine va_get (D := D) (ci := 1) (v := .int ((upd v 7 t0) 5)) (C := RX2) (T := TX2) (N := 8) hx hb hw zinX2 hown hK hP 0 rfl rfl 5 (by decide) (hw _ zw205) (fun _ h9 => h9) rfl dX2_takesUsage_23 ?_
    refine lv_iconst (v := 2) hx hb dX2_takesUsage_26 (by decide) ?_
    refine lv_idiv hx hb dX2_takesUsage_27 (by decide) ?_
    refine lv_iconst (v := 1) hx hb dX2_takesUsage_28 (by decide) ?_
    refine lv_iadd hx hb dX2_takesUsage_29 ?_
    refine lv_goto (tgt := 37) hx hb dX2_takesUsage_30 rfl ?_
    exact b_N_takesUsage_37 G0 hK hX _ _ _ hm H _ _ hP hD hS (lv_sub hl [1] rfl)
end
set_option maxRecDepth 100000 in
set_option maxHeartbeats 4000000 in
theorem k_N_takesUsage (l : Launch) (D : va_G) (aN bN : Nat) (c1 : ClassId) (sz : Nat) (a0 : Int32) (v : Nat → Int32) (b : Nat → Int32) (res : (Int32) × (Nat → Int32)) (hm : m_N_takesUsage a0 v b  = some res) : Met l yX2_takesUsage (Cond.code yX2_takesUsage cX2_takesUsage 2 (some .boolean) :: zBIG) (zR 0 0) (va_Pc [.ref aN, .int a0] (zP zC D vwCl (wN_t c1) (wN aN bN c1 v b) sz)) (zQi D vwCl (wN aN bN c1 v b) (wN aN bN c1 res.2 b) sz res.1) 0 0 (va_A (wN aN bN c1 v b) sz) := by
  refine zEnter RX2 [.ref aN, .int a0] (by decide) rfl (Nat.le_of_ble_eq_true rfl) (fun p e s m below meth c ls G hK hX hP hD hsz hl => ?_)
  subst hsz
  unfold m_N_takesUsage at hm
  have hl : lv_has ls 2 [(0, .ref aN), (1, .int a0)] := hl
  have hS : va_S (va_A (wN aN bN c1 v b) s.heap.size) s.heap s.heap [] := va_S.rf
  have hA : ∀ q, s.heap.size ≤ q → va_A (wN aN bN c1 v b) s.heap.size q := fun q h => Or.inr h
  have G0 := G
  obtain ⟨hx, hb, hr, hml, hown, hw, hlk⟩ := G
  refine lv_aload_n hx hb dX2_takesUsage_0 rfl (lv_at hl 0 rfl) ?_
  refine lv_iload_n hx hb dX2_takesUsage_1 rfl (lv_at hl 1 rfl) ?_
  refine lv_iconst (v := 1) hx hb dX2_takesUsage_2 (by decide) ?_
  refine lv_icmp_ne (tgt := 10) hx hb dX2_takesUsage_3 rfl (fun cd1 => ?_) (fun cd1 => ?_)
  · replace hm := zf cd1 hm
    refine lv_iconst (v := 0) hx hb dX2_takesUsage_10 (by decide) ?_
    exact b_N_takesUsage_11 G0 hK hX _ _ _ hm _ _ _ hP hD hS hl
  · replace hm := zt cd1 hm
    refine lv_iconst (v := 1) hx hb dX2_takesUsage_6 (by decide) ?_
    refine lv_goto (tgt := 11) hx hb dX2_takesUsage_7 rfl ?_
    exact b_N_takesUsage_11 G0 hK hX _ _ _ hm _ _ _ hP hD hS hl

theorem dX2_byteOf_0 : decode cX2_byteOf 0 = .ok (.aload_n 0, 1) := by decide +kernel
theorem dX2_byteOf_1 : decode cX2_byteOf 1 = .ok (.getfield 38, 3) := by decide +kernel
theorem dX2_byteOf_4 : decode cX2_byteOf 4 = .ok (.ifCond .eq 21, 3) := by decide +kernel
theorem dX2_byteOf_7 : decode cX2_byteOf 7 = .ok (.aload_n 0, 1) := by decide +kernel
theorem dX2_byteOf_8 : decode cX2_byteOf 8 = .ok (.getfield 44, 3) := by decide +kernel
theorem dX2_byteOf_11 : decode cX2_byteOf 11 = .ok (.iconst 1, 1) := by decide +kernel
theorem dX2_byteOf_12 : decode cX2_byteOf 12 = .ok (.isub, 1) := by decide +kernel
theorem dX2_byteOf_13 : decode cX2_byteOf 13 = .ok (.aload_n 0, 1) := by decide +kernel
theorem dX2_byteOf_14 : decode cX2_byteOf 14 = .ok (.getfield 41, 3) := by decide +kernel
theorem dX2_byteOf_17 : decode cX2_byteOf 17 = .ok (.iload_n 1, 1) := by decide +kernel
theorem dX2_byteOf_18 : decode cX2_byteOf 18 = .ok (.isub, 1) := by decide +kernel
theorem dX2_byteOf_19 : decode cX2_byteOf 19 = .ok (.iconst 2, 1) := by decide +kernel
theorem dX2_byteOf_20 : decode cX2_byteOf 20 = .ok (.idiv, 1) := by decide +kernel
theorem dX2_byteOf_21 : decode cX2_byteOf 21 = .ok (.isub, 1) := by decide +kernel
theorem dX2_byteOf_22 : decode cX2_byteOf 22 = .ok (.goto 4, 3) := by decide +kernel
theorem dX2_byteOf_25 : decode cX2_byteOf 25 = .ok (.iload_n 1, 1) := by decide +kernel
theorem dX2_byteOf_26 : decode cX2_byteOf 26 = .ok (.ireturn, 1) := by decide +kernel
def m_N_byteOf (a0 : Int32) (v : Nat → Int32) (b : Nat → Int32)  : Option ((Int32)) := (if (v 7) = 0 then (some a0) else (some (((v 1) - 1) - (((v 5) - a0) / 2))))
section
variable {p : Program} {l : Launch} {e : Env} {s : State} {m : MethodId} {args : Array Value} {below : List Frame} {meth : Method} {c : Code} {D : va_G} {w0 : va_W} {aN bN : Nat} {c1 : ClassId} {v : Nat → Int32} {b : Nat → Int32}
end
set_option maxRecDepth 100000 in
set_option maxHeartbeats 4000000 in
theorem k_N_byteOf (l : Launch) (D : va_G) (aN bN : Nat) (c1 : ClassId) (sz : Nat) (a0 : Int32) (v : Nat → Int32) (b : Nat → Int32) (res : (Int32)) (hm : m_N_byteOf a0 v b  = some res) : Met l yX2_byteOf (Cond.code yX2_byteOf cX2_byteOf 2 (some .int) :: zBIG) (zR 0 0) (va_Pc [.ref aN, .int a0] (zP zC D vwCl (wN_t c1) (wN aN bN c1 v b) sz)) (zQi D vwCl (wN aN bN c1 v b) (wN aN bN c1 v b) sz res) 0 0 (va_A (wN aN bN c1 v b) sz) := by
  refine zEnter RX2 [.ref aN, .int a0] (by decide) rfl (Nat.le_of_ble_eq_true rfl) (fun p e s m below meth c ls G hK hX hP hD hsz hl => ?_)
  subst hsz
  unfold m_N_byteOf at hm
  have hl : lv_has ls 2 [(0, .ref aN), (1, .int a0)] := hl
  have hS : va_S (va_A (wN aN bN c1 v b) s.heap.size) s.heap s.heap [] := va_S.rf
  have hA : ∀ q, s.heap.size ≤ q → va_A (wN aN bN c1 v b) s.heap.size q := fun q h => Or.inr h
  have G0 := G
  obtain ⟨hx, hb, hr, hml, hown, hw, hlk⟩ := G
  refine lv_aload_n hx hb dX2_byteOf_0 rfl (lv_at hl 0 rfl) ?_
  refine va_get (D := D) (ci := 1) (v := .int (v 7)) (C := RX2) (T := TX2) (N := 8) hx hb hw zinX2 hown hK hP 0 rfl rfl 7 (by decide) (hw _ zw222) (fun _ h9 => h9) rfl dX2_byteOf_1 ?_
  refine lv_if_eq (tgt := 25) hx hb dX2_byteOf_4 rfl (fun cd1 => ?_) (fun cd1 => ?_)
  · replace hm := zt cd1 hm
    refine lv_iload_n hx hb dX2_byteOf_25 rfl (lv_at hl 1 rfl) ?_
    cases hm
    exact zreti hx hb hr hlk hP hD hS dX2_byteOf_26
  · replace hm := zf cd1 hm
    refine lv_aload_n hx hb dX2_byteOf_7 rfl (lv_at hl 0 rfl) ?_
    refine va_get (D := D) (ci := 1) (v := .int (v 1)) (C := RX2) (T := TX2) (N := 8) hx hb hw zinX2 hown hK hP 0 rfl rfl 1 (by decide) (hw _ zw224) (fun x9 h9 => u_same (hw _ zw223) x9 h9) rfl dX2_byteOf_8 ?_
    refine lv_iconst (v := 1) hx hb dX2_byteOf_11 (by decide) ?_
    refine lv_isub hx hb dX2_byteOf_12 ?_
    refine lv_aload_n hx hb dX2_byteOf_13 rfl (lv_at hl 0 rfl) ?_
    refine va_get (D := D) (ci := 1) (v := .int (v 5)) (C := RX2) (T := TX2) (N := 8) hx hb hw zinX2 hown hK hP 0 rfl rfl 5 (by decide) (hw _ zw205) (fun _ h9 => h9) rfl dX2_byteOf_14 ?_
    refine lv_iload_n hx hb dX2_byteOf_17 rfl (lv_at hl 1 rfl) ?_
    refine lv_isub hx hb dX2_byteOf_18 ?_
    refine lv_iconst (v := 2) hx hb dX2_byteOf_19 (by decide) ?_
    refine lv_idiv hx hb dX2_byteOf_20 (by decide) ?_
    refine lv_isub hx hb dX2_byteOf_21 ?_
    refine lv_goto (tgt := 26) hx hb dX2_byteOf_22 rfl ?_
    cases hm
    exact zreti hx hb hr hlk hP hD hS dX2_byteOf_26

theorem dX2_shiftOf_0 : decode cX2_shiftOf 0 = .ok (.aload_n 0, 1) := by decide +kernel
theorem dX2_shiftOf_1 : decode cX2_shiftOf 1 = .ok (.getfield 38, 3) := by decide +kernel
theorem dX2_shiftOf_4 : decode cX2_shiftOf 4 = .ok (.ifCond .eq 19, 3) := by decide +kernel
theorem dX2_shiftOf_7 : decode cX2_shiftOf 7 = .ok (.aload_n 0, 1) := by decide +kernel
theorem dX2_shiftOf_8 : decode cX2_shiftOf 8 = .ok (.getfield 41, 3) := by decide +kernel
theorem dX2_shiftOf_11 : decode cX2_shiftOf 11 = .ok (.iload_n 1, 1) := by decide +kernel
theorem dX2_shiftOf_12 : decode cX2_shiftOf 12 = .ok (.isub, 1) := by decide +kernel
theorem dX2_shiftOf_13 : decode cX2_shiftOf 13 = .ok (.iconst 2, 1) := by decide +kernel
theorem dX2_shiftOf_14 : decode cX2_shiftOf 14 = .ok (.irem, 1) := by decide +kernel
theorem dX2_shiftOf_15 : decode cX2_shiftOf 15 = .ok (.iconst 1, 1) := by decide +kernel
theorem dX2_shiftOf_16 : decode cX2_shiftOf 16 = .ok (.if_icmp .ne 7, 3) := by decide +kernel
theorem dX2_shiftOf_19 : decode cX2_shiftOf 19 = .ok (.iconst 4, 1) := by decide +kernel
theorem dX2_shiftOf_20 : decode cX2_shiftOf 20 = .ok (.goto 4, 3) := by decide +kernel
theorem dX2_shiftOf_23 : decode cX2_shiftOf 23 = .ok (.iconst 0, 1) := by decide +kernel
theorem dX2_shiftOf_24 : decode cX2_shiftOf 24 = .ok (.ireturn, 1) := by decide +kernel
def m_N_shiftOf (a0 : Int32) (v : Nat → Int32) (b : Nat → Int32)  : Option ((Int32)) := (if (v 7) = 0 then (some 0) else (if (((v 5) - a0) - ((v 5) - a0) / 2 * 2) = 1 then (some 4) else (some 0)))
section
variable {p : Program} {l : Launch} {e : Env} {s : State} {m : MethodId} {args : Array Value} {below : List Frame} {meth : Method} {c : Code} {D : va_G} {w0 : va_W} {aN bN : Nat} {c1 : ClassId} {v : Nat → Int32} {b : Nat → Int32}
end
set_option maxRecDepth 100000 in
set_option maxHeartbeats 4000000 in
theorem k_N_shiftOf (l : Launch) (D : va_G) (aN bN : Nat) (c1 : ClassId) (sz : Nat) (a0 : Int32) (v : Nat → Int32) (b : Nat → Int32) (res : (Int32)) (hm : m_N_shiftOf a0 v b  = some res) : Met l yX2_shiftOf (Cond.code yX2_shiftOf cX2_shiftOf 2 (some .int) :: zBIG) (zR 0 0) (va_Pc [.ref aN, .int a0] (zP zC D vwCl (wN_t c1) (wN aN bN c1 v b) sz)) (zQi D vwCl (wN aN bN c1 v b) (wN aN bN c1 v b) sz res) 0 0 (va_A (wN aN bN c1 v b) sz) := by
  refine zEnter RX2 [.ref aN, .int a0] (by decide) rfl (Nat.le_of_ble_eq_true rfl) (fun p e s m below meth c ls G hK hX hP hD hsz hl => ?_)
  subst hsz
  unfold m_N_shiftOf at hm
  have hl : lv_has ls 2 [(0, .ref aN), (1, .int a0)] := hl
  have hS : va_S (va_A (wN aN bN c1 v b) s.heap.size) s.heap s.heap [] := va_S.rf
  have hA : ∀ q, s.heap.size ≤ q → va_A (wN aN bN c1 v b) s.heap.size q := fun q h => Or.inr h
  have G0 := G
  obtain ⟨hx, hb, hr, hml, hown, hw, hlk⟩ := G
  refine lv_aload_n hx hb dX2_shiftOf_0 rfl (lv_at hl 0 rfl) ?_
  refine va_get (D := D) (ci := 1) (v := .int (v 7)) (C := RX2) (T := TX2) (N := 8) hx hb hw zinX2 hown hK hP 0 rfl rfl 7 (by decide) (hw _ zw222) (fun _ h9 => h9) rfl dX2_shiftOf_1 ?_
  refine lv_if_eq (tgt := 23) hx hb dX2_shiftOf_4 rfl (fun cd1 => ?_) (fun cd1 => ?_)
  · replace hm := zt cd1 hm
    refine lv_iconst (v := 0) hx hb dX2_shiftOf_23 (by decide) ?_
    cases hm
    exact zreti hx hb hr hlk hP hD hS dX2_shiftOf_24
  · replace hm := zf cd1 hm
    refine lv_aload_n hx hb dX2_shiftOf_7 rfl (lv_at hl 0 rfl) ?_
    refine va_get (D := D) (ci := 1) (v := .int (v 5)) (C := RX2) (T := TX2) (N := 8) hx hb hw zinX2 hown hK hP 0 rfl rfl 5 (by decide) (hw _ zw205) (fun _ h9 => h9) rfl dX2_shiftOf_8 ?_
    refine lv_iload_n hx hb dX2_shiftOf_11 rfl (lv_at hl 1 rfl) ?_
    refine lv_isub hx hb dX2_shiftOf_12 ?_
    refine lv_iconst (v := 2) hx hb dX2_shiftOf_13 (by decide) ?_
    refine lv_irem hx hb dX2_shiftOf_14 (by decide) ?_
    refine lv_iconst (v := 1) hx hb dX2_shiftOf_15 (by decide) ?_
    refine lv_icmp_ne (tgt := 23) hx hb dX2_shiftOf_16 rfl (fun cd2 => ?_) (fun cd2 => ?_)
    · replace hm := zf cd2 hm
      refine lv_iconst (v := 0) hx hb dX2_shiftOf_23 (by decide) ?_
      cases hm
      exact zreti hx hb hr hlk hP hD hS dX2_shiftOf_24
    · replace hm := zt cd2 hm
      refine lv_iconst (v := 4) hx hb dX2_shiftOf_19 (by decide) ?_
      refine lv_goto (tgt := 24) hx hb dX2_shiftOf_20 rfl ?_
      cases hm
      exact zreti hx hb hr hlk hP hD hS dX2_shiftOf_24

theorem dX2_signBits_0 : decode cX2_signBits 0 = .ok (.aload_n 0, 1) := by decide +kernel
theorem dX2_signBits_1 : decode cX2_signBits 1 = .ok (.getfield 38, 3) := by decide +kernel
theorem dX2_signBits_4 : decode cX2_signBits 4 = .ok (.ifCond .ne 14, 3) := by decide +kernel
theorem dX2_signBits_7 : decode cX2_signBits 7 = .ok (.iload_n 1, 1) := by decide +kernel
theorem dX2_signBits_8 : decode cX2_signBits 8 = .ok (.ifCond .eq 8, 3) := by decide +kernel
theorem dX2_signBits_11 : decode cX2_signBits 11 = .ok (.bipush 64, 2) := by decide +kernel
theorem dX2_signBits_13 : decode cX2_signBits 13 = .ok (.goto 4, 3) := by decide +kernel
theorem dX2_signBits_16 : decode cX2_signBits 16 = .ok (.iconst 0, 1) := by decide +kernel
theorem dX2_signBits_17 : decode cX2_signBits 17 = .ok (.ireturn, 1) := by decide +kernel
theorem dX2_signBits_18 : decode cX2_signBits 18 = .ok (.aload_n 0, 1) := by decide +kernel
theorem dX2_signBits_19 : decode cX2_signBits 19 = .ok (.getfield 15, 3) := by decide +kernel
theorem dX2_signBits_22 : decode cX2_signBits 22 = .ok (.ifCond .ne 6, 3) := by decide +kernel
theorem dX2_signBits_25 : decode cX2_signBits 25 = .ok (.bipush 15, 2) := by decide +kernel
theorem dX2_signBits_27 : decode cX2_signBits 27 = .ok (.ireturn, 1) := by decide +kernel
theorem dX2_signBits_28 : decode cX2_signBits 28 = .ok (.iload_n 1, 1) := by decide +kernel
theorem dX2_signBits_29 : decode cX2_signBits 29 = .ok (.ifCond .eq 8, 3) := by decide +kernel
theorem dX2_signBits_32 : decode cX2_signBits 32 = .ok (.bipush 13, 2) := by decide +kernel
theorem dX2_signBits_34 : decode cX2_signBits 34 = .ok (.goto 5, 3) := by decide +kernel
theorem dX2_signBits_37 : decode cX2_signBits 37 = .ok (.bipush 12, 2) := by decide +kernel
theorem dX2_signBits_39 : decode cX2_signBits 39 = .ok (.ireturn, 1) := by decide +kernel
def m_N_signBits (a0 : Int32) (v : Nat → Int32) (b : Nat → Int32)  : Option ((Int32)) := (if (v 7) = 0 then (if a0 = 0 then (some 0) else (some 64)) else (if (v 4) = 0 then (some 15) else (if a0 = 0 then (some 12) else (some 13))))
section
variable {p : Program} {l : Launch} {e : Env} {s : State} {m : MethodId} {args : Array Value} {below : List Frame} {meth : Method} {c : Code} {D : va_G} {w0 : va_W} {aN bN : Nat} {c1 : ClassId} {v : Nat → Int32} {b : Nat → Int32}
end
set_option maxRecDepth 100000 in
set_option maxHeartbeats 4000000 in
theorem k_N_signBits (l : Launch) (D : va_G) (aN bN : Nat) (c1 : ClassId) (sz : Nat) (a0 : Int32) (v : Nat → Int32) (b : Nat → Int32) (res : (Int32)) (hm : m_N_signBits a0 v b  = some res) : Met l yX2_signBits (Cond.code yX2_signBits cX2_signBits 2 (some .int) :: zBIG) (zR 0 0) (va_Pc [.ref aN, .int a0] (zP zC D vwCl (wN_t c1) (wN aN bN c1 v b) sz)) (zQi D vwCl (wN aN bN c1 v b) (wN aN bN c1 v b) sz res) 0 0 (va_A (wN aN bN c1 v b) sz) := by
  refine zEnter RX2 [.ref aN, .int a0] (by decide) rfl (Nat.le_of_ble_eq_true rfl) (fun p e s m below meth c ls G hK hX hP hD hsz hl => ?_)
  subst hsz
  unfold m_N_signBits at hm
  have hl : lv_has ls 2 [(0, .ref aN), (1, .int a0)] := hl
  have hS : va_S (va_A (wN aN bN c1 v b) s.heap.size) s.heap s.heap [] := va_S.rf
  have hA : ∀ q, s.heap.size ≤ q → va_A (wN aN bN c1 v b) s.heap.size q := fun q h => Or.inr h
  have G0 := G
  obtain ⟨hx, hb, hr, hml, hown, hw, hlk⟩ := G
  refine lv_aload_n hx hb dX2_signBits_0 rfl (lv_at hl 0 rfl) ?_
  refine va_get (D := D) (ci := 1) (v := .int (v 7)) (C := RX2) (T := TX2) (N := 8) hx hb hw zinX2 hown hK hP 0 rfl rfl 7 (by decide) (hw _ zw222) (fun _ h9 => h9) rfl dX2_signBits_1 ?_
  refine lv_if_ne (tgt := 18) hx hb dX2_signBits_4 rfl (fun cd1 => ?_) (fun cd1 => ?_)
  · replace hm := zf cd1 hm
    refine lv_aload_n hx hb dX2_signBits_18 rfl (lv_at hl 0 rfl) ?_
    refine va_get (D := D) (ci := 1) (v := .int (v 4)) (C := RX2) (T := TX2) (N := 8) hx hb hw zinX2 hown hK hP 0 rfl rfl 4 (by decide) (hw _ zw208) (fun x9 h9 => u_same (hw _ zw207) x9 h9) rfl dX2_signBits_19 ?_
    refine lv_if_ne (tgt := 28) hx hb dX2_signBits_22 rfl (fun cd2 => ?_) (fun cd2 => ?_)
    · replace hm := zf cd2 hm
      refine lv_iload_n hx hb dX2_signBits_28 rfl (lv_at hl 1 rfl) ?_
      refine lv_if_eq (tgt := 37) hx hb dX2_signBits_29 rfl (fun cd3 => ?_) (fun cd3 => ?_)
      · replace hm := zt cd3 hm
        refine lv_bipush (v := 12) hx hb dX2_signBits_37 (by decide) ?_
        cases hm
        exact zreti hx hb hr hlk hP hD hS dX2_signBits_39
      · replace hm := zf cd3 hm
        refine lv_bipush (v := 13) hx hb dX2_signBits_32 (by decide) ?_
        refine lv_goto (tgt := 39) hx hb dX2_signBits_34 rfl ?_
        cases hm
        exact zreti hx hb hr hlk hP hD hS dX2_signBits_39
    · replace hm := zt cd2 hm
      refine lv_bipush (v := 15) hx hb dX2_signBits_25 (by decide) ?_
      cases hm
      exact zreti hx hb hr hlk hP hD hS dX2_signBits_27
  · replace hm := zt cd1 hm
    refine lv_iload_n hx hb dX2_signBits_7 rfl (lv_at hl 1 rfl) ?_
    refine lv_if_eq (tgt := 16) hx hb dX2_signBits_8 rfl (fun cd4 => ?_) (fun cd4 => ?_)
    · replace hm := zt cd4 hm
      refine lv_iconst (v := 0) hx hb dX2_signBits_16 (by decide) ?_
      cases hm
      exact zreti hx hb hr hlk hP hD hS dX2_signBits_17
    · replace hm := zf cd4 hm
      refine lv_bipush (v := 64) hx hb dX2_signBits_11 (by decide) ?_
      refine lv_goto (tgt := 17) hx hb dX2_signBits_13 rfl ?_
      cases hm
      exact zreti hx hb hr hlk hP hD hS dX2_signBits_17

theorem dX2_isBelowZero_0 : decode cX2_isBelowZero 0 = .ok (.aload_n 0, 1) := by decide +kernel
theorem dX2_isBelowZero_1 : decode cX2_isBelowZero 1 = .ok (.getfield 59, 3) := by decide +kernel
theorem dX2_isBelowZero_4 : decode cX2_isBelowZero 4 = .ok (.aload_n 0, 1) := by decide +kernel
theorem dX2_isBelowZero_5 : decode cX2_isBelowZero 5 = .ok (.getfield 44, 3) := by decide +kernel
theorem dX2_isBelowZero_8 : decode cX2_isBelowZero 8 = .ok (.iconst 1, 1) := by decide +kernel
theorem dX2_isBelowZero_9 : decode cX2_isBelowZero 9 = .ok (.isub, 1) := by decide +kernel
theorem dX2_isBelowZero_10 : decode cX2_isBelowZero 10 = .ok (.iaload, 1) := by decide +kernel
theorem dX2_isBelowZero_11 : decode cX2_isBelowZero 11 = .ok (.istore_n 1, 1) := by decide +kernel
theorem dX2_isBelowZero_12 : decode cX2_isBelowZero 12 = .ok (.aload_n 0, 1) := by decide +kernel
theorem dX2_isBelowZero_13 : decode cX2_isBelowZero 13 = .ok (.getfield 38, 3) := by decide +kernel
theorem dX2_isBelowZero_16 : decode cX2_isBelowZero 16 = .ok (.ifCond .eq 34, 3) := by decide +kernel
theorem dX2_isBelowZero_19 : decode cX2_isBelowZero 19 = .ok (.aload_n 0, 1) := by decide +kernel
theorem dX2_isBelowZero_20 : decode cX2_isBelowZero 20 = .ok (.getfield 15, 3) := by decide +kernel
theorem dX2_isBelowZero_23 : decode cX2_isBelowZero 23 = .ok (.ifCond .eq 25, 3) := by decide +kernel
theorem dX2_isBelowZero_26 : decode cX2_isBelowZero 26 = .ok (.iload_n 1, 1) := by decide +kernel
theorem dX2_isBelowZero_27 : decode cX2_isBelowZero 27 = .ok (.bipush 15, 2) := by decide +kernel
theorem dX2_isBelowZero_29 : decode cX2_isBelowZero 29 = .ok (.iand, 1) := by decide +kernel
theorem dX2_isBelowZero_30 : decode cX2_isBelowZero 30 = .ok (.bipush 11, 2) := by decide +kernel
theorem dX2_isBelowZero_32 : decode cX2_isBelowZero 32 = .ok (.if_icmp .eq 12, 3) := by decide +kernel
theorem dX2_isBelowZero_35 : decode cX2_isBelowZero 35 = .ok (.iload_n 1, 1) := by decide +kernel
theorem dX2_isBelowZero_36 : decode cX2_isBelowZero 36 = .ok (.bipush 15, 2) := by decide +kernel
theorem dX2_isBelowZero_38 : decode cX2_isBelowZero 38 = .ok (.iand, 1) := by decide +kernel
theorem dX2_isBelowZero_39 : decode cX2_isBelowZero 39 = .ok (.bipush 13, 2) := by decide +kernel
theorem dX2_isBelowZero_41 : decode cX2_isBelowZero 41 = .ok (.if_icmp .ne 7, 3) := by decide +kernel
theorem dX2_isBelowZero_44 : decode cX2_isBelowZero 44 = .ok (.iconst 1, 1) := by decide +kernel
theorem dX2_isBelowZero_45 : decode cX2_isBelowZero 45 = .ok (.goto 4, 3) := by decide +kernel
theorem dX2_isBelowZero_48 : decode cX2_isBelowZero 48 = .ok (.iconst 0, 1) := by decide +kernel
theorem dX2_isBelowZero_49 : decode cX2_isBelowZero 49 = .ok (.ireturn, 1) := by decide +kernel
theorem dX2_isBelowZero_50 : decode cX2_isBelowZero 50 = .ok (.aload_n 0, 1) := by decide +kernel
theorem dX2_isBelowZero_51 : decode cX2_isBelowZero 51 = .ok (.getfield 15, 3) := by decide +kernel
theorem dX2_isBelowZero_54 : decode cX2_isBelowZero 54 = .ok (.ifCond .eq 14, 3) := by decide +kernel
theorem dX2_isBelowZero_57 : decode cX2_isBelowZero 57 = .ok (.iload_n 1, 1) := by decide +kernel
theorem dX2_isBelowZero_58 : decode cX2_isBelowZero 58 = .ok (.bipush 64, 2) := by decide +kernel
theorem dX2_isBelowZero_60 : decode cX2_isBelowZero 60 = .ok (.iand, 1) := by decide +kernel
theorem dX2_isBelowZero_61 : decode cX2_isBelowZero 61 = .ok (.ifCond .eq 7, 3) := by decide +kernel
theorem dX2_isBelowZero_64 : decode cX2_isBelowZero 64 = .ok (.iconst 1, 1) := by decide +kernel
theorem dX2_isBelowZero_65 : decode cX2_isBelowZero 65 = .ok (.goto 4, 3) := by decide +kernel
theorem dX2_isBelowZero_68 : decode cX2_isBelowZero 68 = .ok (.iconst 0, 1) := by decide +kernel
theorem dX2_isBelowZero_69 : decode cX2_isBelowZero 69 = .ok (.ireturn, 1) := by decide +kernel
def m_N_isBelowZero_44 (v : Nat → Int32) (b : Nat → Int32)   : Option ((Int32)) := (zbo 1 (some 1))
def m_N_isBelowZero  (v : Nat → Int32) (b : Nat → Int32)  : Option ((Int32)) := zix ((v 1) - 1) 25 ((if (v 7) = 0 then (if (v 4) = 0 then (zbo 0 (some 0)) else (if ((b ((v 1) - 1).toNatClampNeg) &&& 64) = 0 then (zbo 0 (some 0)) else (zbo 1 (some 1)))) else (if (v 4) = 0 then (zbo 0 (some 0)) else (if ((b ((v 1) - 1).toNatClampNeg) &&& 15) = 11 then m_N_isBelowZero_44 v b  else (if ((b ((v 1) - 1).toNatClampNeg) &&& 15) = 13 then m_N_isBelowZero_44 v b  else (zbo 0 (some 0)))))))
section
variable {p : Program} {l : Launch} {e : Env} {s : State} {m : MethodId} {args : Array Value} {below : List Frame} {meth : Method} {c : Code} {D : va_G} {w0 : va_W} {aN bN : Nat} {c1 : ClassId} {v : Nat → Int32} {b : Nat → Int32}
set_option maxRecDepth 100000 in
set_option maxHeartbeats 4000000 in
theorem b_N_isBelowZero_44 (G : zG p s m args meth c cX2_isBelowZero RX2 2 (some .boolean)) (hK : va_K D vwCl (wN_t c1) s) (hX : zC (va_A w0 s.heap.size) s) {res : (Int32)} : m_N_isBelowZero_44 v b  = some res → zB p l e (zR 0 0) s m args below meth c D vwCl (va_A w0 s.heap.size) (MQ below (zQi D vwCl w0 (wN aN bN c1 v b) s.heap.size res) args s 0 0 (va_A w0 s.heap.size)) 2 (wN aN bN c1 v b) [] 44 [] := by
  intro  hm H locs ls hP hD hS hl
  unfold m_N_isBelowZero_44 at hm
  have G0 := G
  obtain ⟨hx, hb, hr, hml, hown, hw, hlk⟩ := G
  have hA : ∀ q, s.heap.size ≤ q → va_A w0 s.heap.size q := fun q h => Or.inr h
  refine lv_iconst (v := 1) hx hb dX2_isBelowZero_44 (by decide) ?_
  refine lv_goto (tgt := 49) hx hb dX2_isBelowZero_45 rfl ?_
  obtain ⟨hz11, -, hm⟩ := zbo_s hm
  cases hm
  exact zretz hx hb hr hlk hz11 hP hD hS dX2_isBelowZero_49
end
set_option maxRecDepth 100000 in
set_option maxHeartbeats 4000000 in
theorem k_N_isBelowZero (l : Launch) (D : va_G) (aN bN : Nat) (c1 : ClassId) (sz : Nat)  (v : Nat → Int32) (b : Nat → Int32) (res : (Int32)) (hm : m_N_isBelowZero  v b  = some res) : Met l yX2_isBelowZero (Cond.code yX2_isBelowZero cX2_isBelowZero 2 (some .boolean) :: zBIG) (zR 0 0) (va_Pc [.ref aN] (zP zC D vwCl (wN_t c1) (wN aN bN c1 v b) sz)) (zQi D vwCl (wN aN bN c1 v b) (wN aN bN c1 v b) sz res) 0 0 (va_A (wN aN bN c1 v b) sz) := by
  refine zEnter RX2 [.ref aN] (by decide) rfl (Nat.le_of_ble_eq_true rfl) (fun p e s m below meth c ls G hK hX hP hD hsz hl => ?_)
  subst hsz
  unfold m_N_isBelowZero at hm
  have hl : lv_has ls 2 [(0, .ref aN)] := hl
  have hS : va_S (va_A (wN aN bN c1 v b) s.heap.size) s.heap s.heap [] := va_S.rf
  have hA : ∀ q, s.heap.size ≤ q → va_A (wN aN bN c1 v b) s.heap.size q := fun q h => Or.inr h
  have G0 := G
  obtain ⟨hx, hb, hr, hml, hown, hw, hlk⟩ := G
  refine lv_aload_n hx hb dX2_isBelowZero_0 rfl (lv_at hl 0 rfl) ?_
  refine va_get (D := D) (ci := 1) (v := .ref bN) (C := RX2) (T := TX2) (N := 8) hx hb hw zinX2 hown hK hP 0 rfl rfl 0 (by decide) (hw _ zw226) (fun x9 h9 => u_same (hw _ zw225) x9 h9) rfl dX2_isBelowZero_1 ?_
  refine lv_aload_n hx hb dX2_isBelowZero_4 rfl (lv_at hl 0 rfl) ?_
  refine va_get (D := D) (ci := 1) (v := .int (v 1)) (C := RX2) (T := TX2) (N := 8) hx hb hw zinX2 hown hK hP 0 rfl rfl 1 (by decide) (hw _ zw224) (fun x9 h9 => u_same (hw _ zw223) x9 h9) rfl dX2_isBelowZero_5 ?_
  refine lv_iconst (v := 1) hx hb dX2_isBelowZero_8 (by decide) ?_
  refine lv_isub hx hb dX2_isBelowZero_9 ?_
  obtain ⟨hi1, hm⟩ := zix_s hm
  refine va_iald (i := ((v 1) - 1)) (f := b) (n := 25) hx hb hK hP 1 0 rfl rfl hi1 dX2_isBelowZero_10 ?_
  refine lv_istore_n (lv' := [(1, .int (b ((v 1) - 1).toNatClampNeg)), (0, .ref aN)]) hx hb dX2_isBelowZero_11 rfl hl (by decide) rfl (fun ls hl => ?_)
  refine lv_aload_n hx hb dX2_isBelowZero_12 rfl (lv_at hl 1 rfl) ?_
  refine va_get (D := D) (ci := 1) (v := .int (v 7)) (C := RX2) (T := TX2) (N := 8) hx hb hw zinX2 hown hK hP 0 rfl rfl 7 (by decide) (hw _ zw222) (fun _ h9 => h9) rfl dX2_isBelowZero_13 ?_
  refine lv_if_eq (tgt := 50) hx hb dX2_isBelowZero_16 rfl (fun cd2 => ?_) (fun cd2 => ?_)
  · replace hm := zt cd2 hm
    refine lv_aload_n hx hb dX2_isBelowZero_50 rfl (lv_at hl 1 rfl) ?_
    refine va_get (D := D) (ci := 1) (v := .int (v 4)) (C := RX2) (T := TX2) (N := 8) hx hb hw zinX2 hown hK hP 0 rfl rfl 4 (by decide) (hw _ zw208) (fun x9 h9 => u_same (hw _ zw207) x9 h9) rfl dX2_isBelowZero_51 ?_
    refine lv_if_eq (tgt := 68) hx hb dX2_isBelowZero_54 rfl (fun cd3 => ?_) (fun cd3 => ?_)
    · replace hm := zt cd3 hm
      refine lv_iconst (v := 0) hx hb dX2_isBelowZero_68 (by decide) ?_
      obtain ⟨hz4, -, hm⟩ := zbo_s hm
      cases hm
      exact zretz hx hb hr hlk hz4 hP hD hS dX2_isBelowZero_69
    · replace hm := zf cd3 hm
      refine lv_iload_n hx hb dX2_isBelowZero_57 rfl (lv_at hl 0 rfl) ?_
      refine lv_bipush (v := 64) hx hb dX2_isBelowZero_58 (by decide) ?_
      refine lv_iand hx hb dX2_isBelowZero_60 ?_
      refine lv_if_eq (tgt := 68) hx hb dX2_isBelowZero_61 rfl (fun cd5 => ?_) (fun cd5 => ?_)
      · replace hm := zt cd5 hm
        refine lv_iconst (v := 0) hx hb dX2_isBelowZero_68 (by decide) ?_
        obtain ⟨hz6, -, hm⟩ := zbo_s hm
        cases hm
        exact zretz hx hb hr hlk hz6 hP hD hS dX2_isBelowZero_69
      · replace hm := zf cd5 hm
        refine lv_iconst (v := 1) hx hb dX2_isBelowZero_64 (by decide) ?_
        refine lv_goto (tgt := 69) hx hb dX2_isBelowZero_65 rfl ?_
        obtain ⟨hz7, -, hm⟩ := zbo_s hm
        cases hm
        exact zretz hx hb hr hlk hz7 hP hD hS dX2_isBelowZero_69
  · replace hm := zf cd2 hm
    refine lv_aload_n hx hb dX2_isBelowZero_19 rfl (lv_at hl 1 rfl) ?_
    refine va_get (D := D) (ci := 1) (v := .int (v 4)) (C := RX2) (T := TX2) (N := 8) hx hb hw zinX2 hown hK hP 0 rfl rfl 4 (by decide) (hw _ zw208) (fun x9 h9 => u_same (hw _ zw207) x9 h9) rfl dX2_isBelowZero_20 ?_
    refine lv_if_eq (tgt := 48) hx hb dX2_isBelowZero_23 rfl (fun cd8 => ?_) (fun cd8 => ?_)
    · replace hm := zt cd8 hm
      refine lv_iconst (v := 0) hx hb dX2_isBelowZero_48 (by decide) ?_
      obtain ⟨hz9, -, hm⟩ := zbo_s hm
      cases hm
      exact zretz hx hb hr hlk hz9 hP hD hS dX2_isBelowZero_49
    · replace hm := zf cd8 hm
      refine lv_iload_n hx hb dX2_isBelowZero_26 rfl (lv_at hl 0 rfl) ?_
      refine lv_bipush (v := 15) hx hb dX2_isBelowZero_27 (by decide) ?_
      refine lv_iand hx hb dX2_isBelowZero_29 ?_
      refine lv_bipush (v := 11) hx hb dX2_isBelowZero_30 (by decide) ?_
      refine lv_icmp_eq (tgt := 44) hx hb dX2_isBelowZero_32 rfl (fun cd10 => ?_) (fun cd10 => ?_)
      · replace hm := zt cd10 hm
        exact b_N_isBelowZero_44 G0 hK hX  hm _ _ _ hP hD hS (lv_sub hl [] rfl)
      · replace hm := zf cd10 hm
        refine lv_iload_n hx hb dX2_isBelowZero_35 rfl (lv_at hl 0 rfl) ?_
        refine lv_bipush (v := 15) hx hb dX2_isBelowZero_36 (by decide) ?_
        refine lv_iand hx hb dX2_isBelowZero_38 ?_
        refine lv_bipush (v := 13) hx hb dX2_isBelowZero_39 (by decide) ?_
        refine lv_icmp_ne (tgt := 48) hx hb dX2_isBelowZero_41 rfl (fun cd12 => ?_) (fun cd12 => ?_)
        · replace hm := zf cd12 hm
          refine lv_iconst (v := 0) hx hb dX2_isBelowZero_48 (by decide) ?_
          obtain ⟨hz13, -, hm⟩ := zbo_s hm
          cases hm
          exact zretz hx hb hr hlk hz13 hP hD hS dX2_isBelowZero_49
        · replace hm := zt cd12 hm
          exact b_N_isBelowZero_44 G0 hK hX  hm _ _ _ hP hD hS (lv_sub hl [] rfl)

theorem dX2_number_0 : decode cX2_number 0 = .ok (.lconst 0, 1) := by decide +kernel
theorem dX2_number_1 : decode cX2_number 1 = .ok (.lstore_n 1, 1) := by decide +kernel
theorem dX2_number_2 : decode cX2_number 2 = .ok (.iconst 0, 1) := by decide +kernel
theorem dX2_number_3 : decode cX2_number 3 = .ok (.istore_n 3, 1) := by decide +kernel
theorem dX2_number_4 : decode cX2_number 4 = .ok (.iload_n 3, 1) := by decide +kernel
theorem dX2_number_5 : decode cX2_number 5 = .ok (.aload_n 0, 1) := by decide +kernel
theorem dX2_number_6 : decode cX2_number 6 = .ok (.getfield 41, 3) := by decide +kernel
theorem dX2_number_9 : decode cX2_number 9 = .ok (.if_icmp .ge 39, 3) := by decide +kernel
theorem dX2_number_12 : decode cX2_number 12 = .ok (.lload_n 1, 1) := by decide +kernel
theorem dX2_number_13 : decode cX2_number 13 = .ok (.ldc2_w 57, 3) := by decide +kernel
theorem dX2_number_16 : decode cX2_number 16 = .ok (.lmul, 1) := by decide +kernel
theorem dX2_number_17 : decode cX2_number 17 = .ok (.aload_n 0, 1) := by decide +kernel
theorem dX2_number_18 : decode cX2_number 18 = .ok (.getfield 59, 3) := by decide +kernel
theorem dX2_number_21 : decode cX2_number 21 = .ok (.aload_n 0, 1) := by decide +kernel
theorem dX2_number_22 : decode cX2_number 22 = .ok (.iload_n 3, 1) := by decide +kernel
theorem dX2_number_23 : decode cX2_number 23 = .ok (.invokevirtual 63, 3) := by decide +kernel
theorem dX2_number_26 : decode cX2_number 26 = .ok (.iaload, 1) := by decide +kernel
theorem dX2_number_27 : decode cX2_number 27 = .ok (.aload_n 0, 1) := by decide +kernel
theorem dX2_number_28 : decode cX2_number 28 = .ok (.iload_n 3, 1) := by decide +kernel
theorem dX2_number_29 : decode cX2_number 29 = .ok (.invokevirtual 66, 3) := by decide +kernel
theorem dX2_number_32 : decode cX2_number 32 = .ok (.ishr, 1) := by decide +kernel
theorem dX2_number_33 : decode cX2_number 33 = .ok (.bipush 15, 2) := by decide +kernel
theorem dX2_number_35 : decode cX2_number 35 = .ok (.iand, 1) := by decide +kernel
theorem dX2_number_36 : decode cX2_number 36 = .ok (.bipush 10, 2) := by decide +kernel
theorem dX2_number_38 : decode cX2_number 38 = .ok (.irem, 1) := by decide +kernel
theorem dX2_number_39 : decode cX2_number 39 = .ok (.i2l, 1) := by decide +kernel
theorem dX2_number_40 : decode cX2_number 40 = .ok (.ladd, 1) := by decide +kernel
theorem dX2_number_41 : decode cX2_number 41 = .ok (.lstore_n 1, 1) := by decide +kernel
theorem dX2_number_42 : decode cX2_number 42 = .ok (.iinc 3 1, 3) := by decide +kernel
theorem dX2_number_45 : decode cX2_number 45 = .ok (.goto (-41), 3) := by decide +kernel
theorem dX2_number_48 : decode cX2_number 48 = .ok (.aload_n 0, 1) := by decide +kernel
theorem dX2_number_49 : decode cX2_number 49 = .ok (.getfield 51, 3) := by decide +kernel
theorem dX2_number_52 : decode cX2_number 52 = .ok (.ifCond .le 14, 3) := by decide +kernel
theorem dX2_number_55 : decode cX2_number 55 = .ok (.lload_n 1, 1) := by decide +kernel
theorem dX2_number_56 : decode cX2_number 56 = .ok (.getstatic 69, 3) := by decide +kernel
theorem dX2_number_59 : decode cX2_number 59 = .ok (.aload_n 0, 1) := by decide +kernel
theorem dX2_number_60 : decode cX2_number 60 = .ok (.getfield 51, 3) := by decide +kernel
theorem dX2_number_63 : decode cX2_number 63 = .ok (.laload, 1) := by decide +kernel
theorem dX2_number_64 : decode cX2_number 64 = .ok (.lmul, 1) := by decide +kernel
theorem dX2_number_65 : decode cX2_number 65 = .ok (.lstore_n 1, 1) := by decide +kernel
theorem dX2_number_66 : decode cX2_number 66 = .ok (.aload_n 0, 1) := by decide +kernel
theorem dX2_number_67 : decode cX2_number 67 = .ok (.invokevirtual 73, 3) := by decide +kernel
theorem dX2_number_70 : decode cX2_number 70 = .ok (.ifCond .eq 8, 3) := by decide +kernel
theorem dX2_number_73 : decode cX2_number 73 = .ok (.lload_n 1, 1) := by decide +kernel
theorem dX2_number_74 : decode cX2_number 74 = .ok (.lneg, 1) := by decide +kernel
theorem dX2_number_75 : decode cX2_number 75 = .ok (.goto 4, 3) := by decide +kernel
theorem dX2_number_78 : decode cX2_number 78 = .ok (.lload_n 1, 1) := by decide +kernel
theorem dX2_number_79 : decode cX2_number 79 = .ok (.lreturn, 1) := by decide +kernel
def m_N_number_66 (v : Nat → Int32) (b : Nat → Int32) (x1 : Int64)  : Option ((Int64)) := (m_N_isBelowZero v b).bind (fun q3 => (if q3 = 0 then (some x1) else (some (0 - x1))))
def m_N_number_4b (v : Nat → Int32) (b : Nat → Int32) (rec : Int64 → Int32 → Option ((Int64))) (x1 : Int64) (x3 : Int32)  : Option ((Int64)) := (if (v 5) ≤ x3 then (if (v 6) ≤ 0 then m_N_number_66 v b x1 else zix (v 6) 19 (m_N_number_66 v b (x1 * (zpl (v 6).toNatClampNeg)))) else (m_N_byteOf x3 v b).bind (fun q6 => zix q6 25 ((m_N_shiftOf x3 v b).bind (fun q8 => rec ((x1 * 10) + (((((b q6.toNatClampNeg) >>> (q8 &&& 31)) &&& 15) - (((b q6.toNatClampNeg) >>> (q8 &&& 31)) &&& 15) / 10 * 10).toInt64)) (x3 + 1)))))
def m_N_number_4 (v : Nat → Int32) (b : Nat → Int32) : Nat → Int64 → Int32 → Option ((Int64))
  | 0 => fun _ _ => none
  | n + 1 => fun x1 x3 => m_N_number_4b v b (m_N_number_4 v b n) x1 x3
def m_N_number  (v : Nat → Int32) (b : Nat → Int32)  : Option ((Int64)) := m_N_number_4 v b 64 0 0
section
variable {p : Program} {l : Launch} {e : Env} {s : State} {m : MethodId} {args : Array Value} {below : List Frame} {meth : Method} {c : Code} {D : va_G} {w0 : va_W} {aN bN : Nat} {c1 : ClassId} {v : Nat → Int32} {b : Nat → Int32}
set_option maxRecDepth 100000 in
set_option maxHeartbeats 4000000 in
theorem b_N_number_66 (G : zG p s m args meth c cX2_number RX2 4 (some .long)) (hK : va_K D vwCl (wN_t c1) s) (hX : zC (va_A w0 s.heap.size) s) {res : (Int64)} : ∀ (x1 : Int64), m_N_number_66 v b x1 = some res → zB p l e (zR 1 21) s m args below meth c D vwCl (va_A w0 s.heap.size) (MQ below (zQl D vwCl w0 (wN aN bN c1 v b) s.heap.size res) args s 0 0 (va_A w0 s.heap.size)) 4 (wN aN bN c1 v b) [(0, .ref aN), (1, .long x1)] 66 [] := by
  intro x1 hm H locs ls hP hD hS hl
  unfold m_N_number_66 at hm
  have G0 := G
  obtain ⟨hx, hb, hr, hml, hown, hw, hlk⟩ := G
  have hA : ∀ q, s.heap.size ≤ q → va_A w0 s.heap.size q := fun q h => Or.inr h
  refine lv_aload_n hx hb dX2_number_66 rfl (lv_at hl 0 rfl) ?_
  obtain ⟨q3, hq3, hm⟩ := zbind hm
  refine zbWi (va_runV (As := []) (rest := []) ⟨hx, hb, hml, hown, hw⟩ (k_N_isBelowZero l D aN bN c1 _ v b  q3 hq3) (zcV (C := RX2) 0 hw (zgood zw227) rfl rfl rfl zw210 zw229 zw228 zw230 hdX2_isBelowZero ⟨Nat.le_of_ble_eq_true rfl, Nat.le_of_ble_eq_true rfl⟩) (zpreV (zpre zC_ok hX hS (zfree hD hS hA) hP hK hD) (va_recv hK hP rfl (q0 := 0) rfl)) rfl rfl hl.1 rfl (lv_room (Nat.le_of_ble_eq_true rfl)) dX2_number_67 ⟨Nat.zero_le _, Nat.zero_le _⟩) hS (zfree hD hS hA) (fun H locs hP hD hS => ?_)
  refine lv_if_eq (tgt := 78) hx hb dX2_number_70 rfl (fun cd4 => ?_) (fun cd4 => ?_)
  · replace hm := zt cd4 hm
    refine lv_lload_n hx hb dX2_number_78 rfl (lv_at hl 1 rfl) ?_
    cases hm
    exact zretl hx hb hr hlk hP hD hS dX2_number_79
  · replace hm := zf cd4 hm
    refine lv_lload_n hx hb dX2_number_73 rfl (lv_at hl 1 rfl) ?_
    refine lv_lneg hx hb dX2_number_74 ?_
    refine lv_goto (tgt := 79) hx hb dX2_number_75 rfl ?_
    cases hm
    exact zretl hx hb hr hlk hP hD hS dX2_number_79
set_option maxRecDepth 100000 in
set_option maxHeartbeats 4000000 in
theorem b_N_number_4 (G : zG p s m args meth c cX2_number RX2 4 (some .long)) (hK : va_K D vwCl (wN_t c1) s) (hX : zC (va_A w0 s.heap.size) s) {res : (Int64)} : ∀ n : Nat, ∀ (x1 : Int64) (x3 : Int32), m_N_number_4 v b n x1 x3 = some res → zB p l e (zR 1 21) s m args below meth c D vwCl (va_A w0 s.heap.size) (MQ below (zQl D vwCl w0 (wN aN bN c1 v b) s.heap.size res) args s 0 0 (va_A w0 s.heap.size)) 4 (wN aN bN c1 v b) [(0, .ref aN), (1, .long x1), (3, .int x3)] 4 [] := by
  intro n
  induction n with
  | zero => intro x1 x3 hm; cases hm
  | succ n ih =>
  have hrec := ih
  intro x1 x3 hm H locs ls hP hD hS hl
  replace hm : m_N_number_4b v b (m_N_number_4 v b n) x1 x3 = some res := hm
  generalize m_N_number_4 v b n = rec at hm hrec
  unfold m_N_number_4b at hm
  clear ih
  have G0 := G
  obtain ⟨hx, hb, hr, hml, hown, hw, hlk⟩ := G
  have hA : ∀ q, s.heap.size ≤ q → va_A w0 s.heap.size q := fun q h => Or.inr h
  refine lv_iload_n hx hb dX2_number_4 rfl (lv_at hl 2 rfl) ?_
  refine lv_aload_n hx hb dX2_number_5 rfl (lv_at hl 0 rfl) ?_
  refine va_get (D := D) (ci := 1) (v := .int (v 5)) (C := RX2) (T := TX2) (N := 8) hx hb hw zinX2 hown hK hP 0 rfl rfl 5 (by decide) (hw _ zw205) (fun _ h9 => h9) rfl dX2_number_6 ?_
  refine lv_icmp_ge (tgt := 48) hx hb dX2_number_9 rfl (fun cd1 => ?_) (fun cd1 => ?_)
  · replace hm := zt cd1 hm
    refine lv_aload_n hx hb dX2_number_48 rfl (lv_at hl 0 rfl) ?_
    refine va_get (D := D) (ci := 1) (v := .int (v 6)) (C := RX2) (T := TX2) (N := 8) hx hb hw zinX2 hown hK hP 0 rfl rfl 6 (by decide) (hw _ zw206) (fun _ h9 => h9) rfl dX2_number_49 ?_
    refine lv_if_le (tgt := 66) hx hb dX2_number_52 rfl (fun cd2 => ?_) (fun cd2 => ?_)
    · replace hm := zt cd2 hm
      exact b_N_number_66 G0 hK hX _ hm H _ _ hP hD hS (lv_sub hl [0, 1] rfl)
    · replace hm := zf cd2 hm
      refine lv_lload_n hx hb dX2_number_55 rfl (lv_at hl 1 rfl) ?_
      obtain ⟨tP, hZ, hT⟩ := hX.2
      refine va_getsN hx hb hZ hS hown (va_Nw.use rfl (hX.1 _ zn2)) (fun _ h9 => h9) dX2_number_56 ?_
      refine lv_aload_n hx hb dX2_number_59 rfl (lv_at hl 0 rfl) ?_
      refine va_get (D := D) (ci := 1) (v := .int (v 6)) (C := RX2) (T := TX2) (N := 8) hx hb hw zinX2 hown hK hP 0 rfl rfl 6 (by decide) (hw _ zw206) (fun _ h9 => h9) rfl dX2_number_60 ?_
      obtain ⟨hi5, hm⟩ := zix_s hm
      refine va_tl (i := (v 6)) (v := .long (zpl (v 6).toNatClampNeg)) hx hb hT hS hi5 rfl dX2_number_63 ?_
      refine lv_lmul hx hb dX2_number_64 ?_
      refine lv_lstore_n (lv' := [(1, .long (x1 * (zpl (v 6).toNatClampNeg))), (0, .ref aN), (3, .int x3)]) hx hb dX2_number_65 rfl hl (by decide) rfl (fun ls hl => ?_)
      exact b_N_number_66 G0 hK hX _ hm H _ _ hP hD hS (lv_sub hl [1, 0] rfl)
  · replace hm := zf cd1 hm
    refine lv_lload_n hx hb dX2_number_12 rfl (lv_at hl 1 rfl) ?_
    refine lv_ldc2 (v := 10) hx hb hown (hw _ zw231) dX2_number_13 ?_
    refine lv_lmul hx hb dX2_number_16 ?_
    refine lv_aload_n hx hb dX2_number_17 rfl (lv_at hl 0 rfl) ?_
    refine va_get (D := D) (ci := 1) (v := .ref bN) (C := RX2) (T := TX2) (N := 8) hx hb hw zinX2 hown hK hP 0 rfl rfl 0 (by decide) (hw _ zw226) (fun x9 h9 => u_same (hw _ zw225) x9 h9) rfl dX2_number_18 ?_
    refine lv_aload_n hx hb dX2_number_21 rfl (lv_at hl 0 rfl) ?_
    refine lv_iload_n hx hb dX2_number_22 rfl (lv_at hl 2 rfl) ?_
    obtain ⟨q6, hq6, hm⟩ := zbind hm
    refine zbWi (va_runV (As := [.int x3]) (rest := [.ref bN, .long (x1 * 10)]) ⟨hx, hb, hml, hown, hw⟩ (k_N_byteOf l D aN bN c1 _ x3 v b  q6 hq6) (zcV (C := RX2) 1 hw (zgood zw232) rfl rfl rfl zw210 zw234 zw233 zw235 hdX2_byteOf ⟨Nat.le_of_ble_eq_true rfl, Nat.le_of_ble_eq_true rfl⟩) (zpreV (zpre zC_ok hX hS (zfree hD hS hA) hP hK hD) (va_recv hK hP rfl (q0 := 0) rfl)) rfl rfl hl.1 rfl (lv_room (Nat.le_of_ble_eq_true rfl)) dX2_number_23 ⟨Nat.zero_le _, Nat.zero_le _⟩) hS (zfree hD hS hA) (fun H locs hP hD hS => ?_)
    obtain ⟨hi7, hm⟩ := zix_s hm
    refine va_iald (i := q6) (f := b) (n := 25) hx hb hK hP 1 0 rfl rfl hi7 dX2_number_26 ?_
    refine lv_aload_n hx hb dX2_number_27 rfl (lv_at hl 0 rfl) ?_
    refine lv_iload_n hx hb dX2_number_28 rfl (lv_at hl 2 rfl) ?_
    obtain ⟨q8, hq8, hm⟩ := zbind hm
    refine zbWi (va_runV (As := [.int x3]) (rest := [.int (b q6.toNatClampNeg), .long (x1 * 10)]) ⟨hx, hb, hml, hown, hw⟩ (k_N_shiftOf l D aN bN c1 _ x3 v b  q8 hq8) (zcV (C := RX2) 1 hw (zgood zw236) rfl rfl rfl zw210 zw238 zw237 zw239 hdX2_shiftOf ⟨Nat.le_of_ble_eq_true rfl, Nat.le_of_ble_eq_true rfl⟩) (zpreV (zpre zC_ok hX hS (zfree hD hS hA) hP hK hD) (va_recv hK hP rfl (q0 := 0) rfl)) rfl rfl hl.1 rfl (lv_room (Nat.le_of_ble_eq_true rfl)) dX2_number_29 ⟨Nat.zero_le _, Nat.zero_le _⟩) hS (zfree hD hS hA) (fun H locs hP hD hS => ?_)
    refine lv_ishr hx hb dX2_number_32 ?_
    refine lv_bipush (v := 15) hx hb dX2_number_33 (by decide) ?_
    refine lv_iand hx hb dX2_number_35 ?_
    refine lv_bipush (v := 10) hx hb dX2_number_36 (by decide) ?_
    refine lv_irem hx hb dX2_number_38 (by decide) ?_
    refine lv_i2l (v := (((((b q6.toNatClampNeg) >>> (q8 &&& 31)) &&& 15) - (((b q6.toNatClampNeg) >>> (q8 &&& 31)) &&& 15) / 10 * 10).toInt64)) hx hb dX2_number_39 rfl ?_
    refine lv_ladd hx hb dX2_number_40 ?_
    refine lv_lstore_n (lv' := [(1, .long ((x1 * 10) + (((((b q6.toNatClampNeg) >>> (q8 &&& 31)) &&& 15) - (((b q6.toNatClampNeg) >>> (q8 &&& 31)) &&& 15) / 10 * 10).toInt64))), (0, .ref aN), (3, .int x3)]) hx hb dX2_number_41 rfl hl (by decide) rfl (fun ls hl => ?_)
    refine lv_iinc (k := 2) (v := (x3 + 1)) (lv' := [(3, .int (x3 + 1)), (1, .long ((x1 * 10) + (((((b q6.toNatClampNeg) >>> (q8 &&& 31)) &&& 15) - (((b q6.toNatClampNeg) >>> (q8 &&& 31)) &&& 15) / 10 * 10).toInt64))), (0, .ref aN)]) hx hb dX2_number_42 hl rfl rfl (by decide) rfl (fun ls hl => ?_)
    refine lv_goto (tgt := 4) hx hb dX2_number_45 rfl ?_
    exact hrec _ _ hm H _ _ hP hD hS (lv_sub hl [2, 1, 0] rfl)
end
set_option maxRecDepth 100000 in
set_option maxHeartbeats 4000000 in
theorem k_N_number (l : Launch) (D : va_G) (aN bN : Nat) (c1 : ClassId) (sz : Nat)  (v : Nat → Int32) (b : Nat → Int32) (res : (Int64)) (hm : m_N_number  v b  = some res) : Met l yX2_number (Cond.code yX2_number cX2_number 4 (some .long) :: zBIG) (zR 1 21) (va_Pc [.ref aN] (zP zC D vwCl (wN_t c1) (wN aN bN c1 v b) sz)) (zQl D vwCl (wN aN bN c1 v b) (wN aN bN c1 v b) sz res) 0 0 (va_A (wN aN bN c1 v b) sz) := by
  refine zEnter RX2 [.ref aN] (by decide) rfl (Nat.le_of_ble_eq_true rfl) (fun p e s m below meth c ls G hK hX hP hD hsz hl => ?_)
  subst hsz
  unfold m_N_number at hm
  have hl : lv_has ls 4 [(0, .ref aN)] := hl
  have hS : va_S (va_A (wN aN bN c1 v b) s.heap.size) s.heap s.heap [] := va_S.rf
  have hA : ∀ q, s.heap.size ≤ q → va_A (wN aN bN c1 v b) s.heap.size q := fun q h => Or.inr h
  have G0 := G
  obtain ⟨hx, hb, hr, hml, hown, hw, hlk⟩ := G
  refine lv_lconst (v := 0) hx hb dX2_number_0 (by decide) ?_
  refine lv_lstore_n (lv' := [(1, .long 0), (0, .ref aN)]) hx hb dX2_number_1 rfl hl (by decide) rfl (fun ls hl => ?_)
  refine lv_iconst (v := 0) hx hb dX2_number_2 (by decide) ?_
  refine lv_istore_n (lv' := [(3, .int 0), (1, .long 0), (0, .ref aN)]) hx hb dX2_number_3 rfl hl (by decide) rfl (fun ls hl => ?_)
  exact b_N_number_4 G0 hK hX 64 _ _ hm _ _ _ hP hD hS (lv_sub hl [2, 1, 0] rfl)

theorem dX2_takeNumber_0 : decode cX2_takeNumber 0 = .ok (.iconst 0, 1) := by decide +kernel
theorem dX2_takeNumber_1 : decode cX2_takeNumber 1 = .ok (.istore 4, 2) := by decide +kernel
theorem dX2_takeNumber_3 : decode cX2_takeNumber 3 = .ok (.iconst 0, 1) := by decide +kernel
theorem dX2_takeNumber_4 : decode cX2_takeNumber 4 = .ok (.istore 5, 2) := by decide +kernel
theorem dX2_takeNumber_6 : decode cX2_takeNumber 6 = .ok (.iload 5, 2) := by decide +kernel
theorem dX2_takeNumber_8 : decode cX2_takeNumber 8 = .ok (.aload_n 0, 1) := by decide +kernel
theorem dX2_takeNumber_9 : decode cX2_takeNumber 9 = .ok (.getfield 44, 3) := by decide +kernel
theorem dX2_takeNumber_12 : decode cX2_takeNumber 12 = .ok (.if_icmp .ge 29, 3) := by decide +kernel
theorem dX2_takeNumber_15 : decode cX2_takeNumber 15 = .ok (.aload_n 0, 1) := by decide +kernel
theorem dX2_takeNumber_16 : decode cX2_takeNumber 16 = .ok (.getfield 59, 3) := by decide +kernel
theorem dX2_takeNumber_19 : decode cX2_takeNumber 19 = .ok (.iload 5, 2) := by decide +kernel
theorem dX2_takeNumber_21 : decode cX2_takeNumber 21 = .ok (.aload_n 0, 1) := by decide +kernel
theorem dX2_takeNumber_22 : decode cX2_takeNumber 22 = .ok (.getfield 38, 3) := by decide +kernel
theorem dX2_takeNumber_25 : decode cX2_takeNumber 25 = .ok (.ifCond .eq 7, 3) := by decide +kernel
theorem dX2_takeNumber_28 : decode cX2_takeNumber 28 = .ok (.iconst 0, 1) := by decide +kernel
theorem dX2_takeNumber_29 : decode cX2_takeNumber 29 = .ok (.goto 5, 3) := by decide +kernel
theorem dX2_takeNumber_32 : decode cX2_takeNumber 32 = .ok (.bipush 48, 2) := by decide +kernel
theorem dX2_takeNumber_34 : decode cX2_takeNumber 34 = .ok (.iastore, 1) := by decide +kernel
theorem dX2_takeNumber_35 : decode cX2_takeNumber 35 = .ok (.iinc 5 1, 3) := by decide +kernel
theorem dX2_takeNumber_38 : decode cX2_takeNumber 38 = .ok (.goto (-32), 3) := by decide +kernel
theorem dX2_takeNumber_41 : decode cX2_takeNumber 41 = .ok (.iconst 0, 1) := by decide +kernel
theorem dX2_takeNumber_42 : decode cX2_takeNumber 42 = .ok (.istore 5, 2) := by decide +kernel
theorem dX2_takeNumber_44 : decode cX2_takeNumber 44 = .ok (.iload 5, 2) := by decide +kernel
theorem dX2_takeNumber_46 : decode cX2_takeNumber 46 = .ok (.aload_n 0, 1) := by decide +kernel
theorem dX2_takeNumber_47 : decode cX2_takeNumber 47 = .ok (.getfield 41, 3) := by decide +kernel
theorem dX2_takeNumber_50 : decode cX2_takeNumber 50 = .ok (.if_icmp .ge 70, 3) := by decide +kernel
theorem dX2_takeNumber_53 : decode cX2_takeNumber 53 = .ok (.lload_n 1, 1) := by decide +kernel
theorem dX2_takeNumber_54 : decode cX2_takeNumber 54 = .ok (.iload_n 3, 1) := by decide +kernel
theorem dX2_takeNumber_55 : decode cX2_takeNumber 55 = .ok (.aload_n 0, 1) := by decide +kernel
theorem dX2_takeNumber_56 : decode cX2_takeNumber 56 = .ok (.getfield 51, 3) := by decide +kernel
theorem dX2_takeNumber_59 : decode cX2_takeNumber 59 = .ok (.aload_n 0, 1) := by decide +kernel
theorem dX2_takeNumber_60 : decode cX2_takeNumber 60 = .ok (.getfield 41, 3) := by decide +kernel
theorem dX2_takeNumber_63 : decode cX2_takeNumber 63 = .ok (.iadd, 1) := by decide +kernel
theorem dX2_takeNumber_64 : decode cX2_takeNumber 64 = .ok (.iconst 1, 1) := by decide +kernel
theorem dX2_takeNumber_65 : decode cX2_takeNumber 65 = .ok (.isub, 1) := by decide +kernel
theorem dX2_takeNumber_66 : decode cX2_takeNumber 66 = .ok (.iload 5, 2) := by decide +kernel
theorem dX2_takeNumber_68 : decode cX2_takeNumber 68 = .ok (.isub, 1) := by decide +kernel
theorem dX2_takeNumber_69 : decode cX2_takeNumber 69 = .ok (.invokestatic 77, 3) := by decide +kernel
theorem dX2_takeNumber_72 : decode cX2_takeNumber 72 = .ok (.istore 6, 2) := by decide +kernel
theorem dX2_takeNumber_74 : decode cX2_takeNumber 74 = .ok (.aload_n 0, 1) := by decide +kernel
theorem dX2_takeNumber_75 : decode cX2_takeNumber 75 = .ok (.getfield 59, 3) := by decide +kernel
theorem dX2_takeNumber_78 : decode cX2_takeNumber 78 = .ok (.aload_n 0, 1) := by decide +kernel
theorem dX2_takeNumber_79 : decode cX2_takeNumber 79 = .ok (.iload 5, 2) := by decide +kernel
theorem dX2_takeNumber_81 : decode cX2_takeNumber 81 = .ok (.invokevirtual 63, 3) := by decide +kernel
theorem dX2_takeNumber_84 : decode cX2_takeNumber 84 = .ok (.dup2, 1) := by decide +kernel
theorem dX2_takeNumber_85 : decode cX2_takeNumber 85 = .ok (.iaload, 1) := by decide +kernel
theorem dX2_takeNumber_86 : decode cX2_takeNumber 86 = .ok (.iload 6, 2) := by decide +kernel
theorem dX2_takeNumber_88 : decode cX2_takeNumber 88 = .ok (.aload_n 0, 1) := by decide +kernel
theorem dX2_takeNumber_89 : decode cX2_takeNumber 89 = .ok (.iload 5, 2) := by decide +kernel
theorem dX2_takeNumber_91 : decode cX2_takeNumber 91 = .ok (.invokevirtual 66, 3) := by decide +kernel
theorem dX2_takeNumber_94 : decode cX2_takeNumber 94 = .ok (.ishl, 1) := by decide +kernel
theorem dX2_takeNumber_95 : decode cX2_takeNumber 95 = .ok (.ior, 1) := by decide +kernel
theorem dX2_takeNumber_96 : decode cX2_takeNumber 96 = .ok (.iastore, 1) := by decide +kernel
theorem dX2_takeNumber_97 : decode cX2_takeNumber 97 = .ok (.iload 4, 2) := by decide +kernel
theorem dX2_takeNumber_99 : decode cX2_takeNumber 99 = .ok (.ifCond .ne 8, 3) := by decide +kernel
theorem dX2_takeNumber_102 : decode cX2_takeNumber 102 = .ok (.iload 6, 2) := by decide +kernel
theorem dX2_takeNumber_104 : decode cX2_takeNumber 104 = .ok (.ifCond .eq 7, 3) := by decide +kernel
theorem dX2_takeNumber_107 : decode cX2_takeNumber 107 = .ok (.iconst 1, 1) := by decide +kernel
theorem dX2_takeNumber_108 : decode cX2_takeNumber 108 = .ok (.goto 4, 3) := by decide +kernel
theorem dX2_takeNumber_111 : decode cX2_takeNumber 111 = .ok (.iconst 0, 1) := by decide +kernel
theorem dX2_takeNumber_112 : decode cX2_takeNumber 112 = .ok (.istore 4, 2) := by decide +kernel
theorem dX2_takeNumber_114 : decode cX2_takeNumber 114 = .ok (.iinc 5 1, 3) := by decide +kernel
theorem dX2_takeNumber_117 : decode cX2_takeNumber 117 = .ok (.goto (-73), 3) := by decide +kernel
theorem dX2_takeNumber_120 : decode cX2_takeNumber 120 = .ok (.aload_n 0, 1) := by decide +kernel
theorem dX2_takeNumber_121 : decode cX2_takeNumber 121 = .ok (.getfield 59, 3) := by decide +kernel
theorem dX2_takeNumber_124 : decode cX2_takeNumber 124 = .ok (.aload_n 0, 1) := by decide +kernel
theorem dX2_takeNumber_125 : decode cX2_takeNumber 125 = .ok (.getfield 44, 3) := by decide +kernel
theorem dX2_takeNumber_128 : decode cX2_takeNumber 128 = .ok (.iconst 1, 1) := by decide +kernel
theorem dX2_takeNumber_129 : decode cX2_takeNumber 129 = .ok (.isub, 1) := by decide +kernel
theorem dX2_takeNumber_130 : decode cX2_takeNumber 130 = .ok (.dup2, 1) := by decide +kernel
theorem dX2_takeNumber_131 : decode cX2_takeNumber 131 = .ok (.iaload, 1) := by decide +kernel
theorem dX2_takeNumber_132 : decode cX2_takeNumber 132 = .ok (.aload_n 0, 1) := by decide +kernel
theorem dX2_takeNumber_133 : decode cX2_takeNumber 133 = .ok (.aload_n 0, 1) := by decide +kernel
theorem dX2_takeNumber_134 : decode cX2_takeNumber 134 = .ok (.getfield 15, 3) := by decide +kernel
theorem dX2_takeNumber_137 : decode cX2_takeNumber 137 = .ok (.ifCond .eq 18, 3) := by decide +kernel
theorem dX2_takeNumber_140 : decode cX2_takeNumber 140 = .ok (.iload 4, 2) := by decide +kernel
theorem dX2_takeNumber_142 : decode cX2_takeNumber 142 = .ok (.ifCond .eq 13, 3) := by decide +kernel
theorem dX2_takeNumber_145 : decode cX2_takeNumber 145 = .ok (.lload_n 1, 1) := by decide +kernel
theorem dX2_takeNumber_146 : decode cX2_takeNumber 146 = .ok (.lconst 0, 1) := by decide +kernel
theorem dX2_takeNumber_147 : decode cX2_takeNumber 147 = .ok (.lcmp, 1) := by decide +kernel
theorem dX2_takeNumber_148 : decode cX2_takeNumber 148 = .ok (.ifCond .ge 7, 3) := by decide +kernel
theorem dX2_takeNumber_151 : decode cX2_takeNumber 151 = .ok (.iconst 1, 1) := by decide +kernel
theorem dX2_takeNumber_152 : decode cX2_takeNumber 152 = .ok (.goto 4, 3) := by decide +kernel
theorem dX2_takeNumber_155 : decode cX2_takeNumber 155 = .ok (.iconst 0, 1) := by decide +kernel
theorem dX2_takeNumber_156 : decode cX2_takeNumber 156 = .ok (.invokevirtual 81, 3) := by decide +kernel
theorem dX2_takeNumber_159 : decode cX2_takeNumber 159 = .ok (.ior, 1) := by decide +kernel
theorem dX2_takeNumber_160 : decode cX2_takeNumber 160 = .ok (.iastore, 1) := by decide +kernel
theorem dX2_takeNumber_161 : decode cX2_takeNumber 161 = .ok (.iconst 1, 1) := by decide +kernel
theorem dX2_takeNumber_162 : decode cX2_takeNumber 162 = .ok (.ireturn, 1) := by decide +kernel
def m_N_takeNumber_156 (v : Nat → Int32) (t0 : Int32) (t2 : Int32) (t3 : Int32) (b : Nat → Int32) : Option ((Int32) × (Nat → Int32)) := (m_N_signBits t0 v b).bind (fun q5 => zix t3 25 ((zbo 1 (some (1, (upd b t3.toNatClampNeg (t2 ||| q5)))))))
def m_N_takeNumber_155 (v : Nat → Int32) (t1 : Int32) (t2 : Int32) (b : Nat → Int32) : Option ((Int32) × (Nat → Int32)) := m_N_takeNumber_156 v 0 t1 t2 b
def m_N_takeNumber_112 (v : Nat → Int32) (rec : Int64 → Int32 → Int32 → Int32 → (Nat → Int32) → Option ((Int32) × (Nat → Int32))) (x1 : Int64) (x3 : Int32) (x5 : Int32) (t0 : Int32) (b : Nat → Int32) : Option ((Int32) × (Nat → Int32)) := rec x1 x3 t0 (x5 + 1) b
def m_N_takeNumber_107 (v : Nat → Int32) (rec : Int64 → Int32 → Int32 → Int32 → (Nat → Int32) → Option ((Int32) × (Nat → Int32))) (x1 : Int64) (x3 : Int32) (x5 : Int32) (b : Nat → Int32) : Option ((Int32) × (Nat → Int32)) := m_N_takeNumber_112 v rec x1 x3 x5 1 b
def m_N_takeNumber_44b (v : Nat → Int32) (rec : Int64 → Int32 → Int32 → Int32 → (Nat → Int32) → Option ((Int32) × (Nat → Int32))) (x1 : Int64) (x3 : Int32) (x4 : Int32) (x5 : Int32) (b : Nat → Int32) : Option ((Int32) × (Nat → Int32)) := (if (v 5) ≤ x5 then zix ((v 1) - 1) 25 ((if (v 4) = 0 then m_N_takeNumber_155 v (b ((v 1) - 1).toNatClampNeg) ((v 1) - 1) b else (if x4 = 0 then m_N_takeNumber_155 v (b ((v 1) - 1).toNatClampNeg) ((v 1) - 1) b else (if 0 ≤ (lg_cmp x1 0) then m_N_takeNumber_155 v (b ((v 1) - 1).toNatClampNeg) ((v 1) - 1) b else m_N_takeNumber_156 v 1 (b ((v 1) - 1).toNatClampNeg) ((v 1) - 1) b)))) else (m_P_digitAt x1 x3 ((((v 6) + (v 5)) - 1) - x5)).bind (fun q10 => (m_N_byteOf x5 v b).bind (fun q11 => zix q11 25 ((m_N_shiftOf x5 v b).bind (fun q13 => zix q11 25 ((if x4 = 0 then (if q10 = 0 then m_N_takeNumber_112 v rec x1 x3 x5 0 (upd b q11.toNatClampNeg ((b q11.toNatClampNeg) ||| (q10 <<< (q13 &&& 31)))) else m_N_takeNumber_107 v rec x1 x3 x5 (upd b q11.toNatClampNeg ((b q11.toNatClampNeg) ||| (q10 <<< (q13 &&& 31))))) else m_N_takeNumber_107 v rec x1 x3 x5 (upd b q11.toNatClampNeg ((b q11.toNatClampNeg) ||| (q10 <<< (q13 &&& 31)))))))))))
def m_N_takeNumber_44 (v : Nat → Int32) : Nat → Int64 → Int32 → Int32 → Int32 → (Nat → Int32) → Option ((Int32) × (Nat → Int32))
  | 0 => fun _ _ _ _ _ => none
  | n + 1 => fun x1 x3 x4 x5 b => m_N_takeNumber_44b v (m_N_takeNumber_44 v n) x1 x3 x4 x5 b
def m_N_takeNumber_34 (v : Nat → Int32) (rec : Int64 → Int32 → Int32 → Int32 → (Nat → Int32) → Option ((Int32) × (Nat → Int32))) (x1 : Int64) (x3 : Int32) (x4 : Int32) (x5 : Int32) (t0 : Int32) (t1 : Int32) (b : Nat → Int32) : Option ((Int32) × (Nat → Int32)) := zix t1 25 (rec x1 x3 x4 (x5 + 1) (upd b t1.toNatClampNeg t0))
def m_N_takeNumber_6b (v : Nat → Int32) (rec : Int64 → Int32 → Int32 → Int32 → (Nat → Int32) → Option ((Int32) × (Nat → Int32))) (x1 : Int64) (x3 : Int32) (x4 : Int32) (x5 : Int32) (b : Nat → Int32) : Option ((Int32) × (Nat → Int32)) := (if (v 1) ≤ x5 then m_N_takeNumber_44 v 64 x1 x3 x4 0 b else (if (v 7) = 0 then m_N_takeNumber_34 v rec x1 x3 x4 x5 48 x5 b else m_N_takeNumber_34 v rec x1 x3 x4 x5 0 x5 b))
def m_N_takeNumber_6 (v : Nat → Int32) : Nat → Int64 → Int32 → Int32 → Int32 → (Nat → Int32) → Option ((Int32) × (Nat → Int32))
  | 0 => fun _ _ _ _ _ => none
  | n + 1 => fun x1 x3 x4 x5 b => m_N_takeNumber_6b v (m_N_takeNumber_6 v n) x1 x3 x4 x5 b
def m_N_takeNumber (a0 : Int64) (a1 : Int32) (v : Nat → Int32) (b : Nat → Int32)  : Option ((Int32) × (Nat → Int32)) := m_N_takeNumber_6 v 64 a0 a1 0 0 b
section
variable {p : Program} {l : Launch} {e : Env} {s : State} {m : MethodId} {args : Array Value} {below : List Frame} {meth : Method} {c : Code} {D : va_G} {w0 : va_W} {aN bN : Nat} {c1 : ClassId} {v : Nat → Int32}
set_option maxRecDepth 100000 in
set_option maxHeartbeats 4000000 in
theorem b_N_takeNumber_156 (G : zG p s m args meth c cX2_takeNumber RX2 7 (some .boolean)) (hK : va_K D vwCl (wN_t c1) s) (hX : zC (va_A w0 s.heap.size) s) {res : (Int32) × (Nat → Int32)} : ∀ (t0 : Int32) (t2 : Int32) (t3 : Int32) (b : Nat → Int32), m_N_takeNumber_156 v t0 t2 t3 b = some res → zB p l e (zR 2 45) s m args below meth c D vwCl (va_A w0 s.heap.size) (MQ below (zQi D vwCl w0 (wN aN bN c1 v res.2) s.heap.size res.1) args s 0 0 (va_A w0 s.heap.size)) 7 (wN aN bN c1 v b) [] 156 [.int t0, .ref aN, .int t2, .int t3, .ref bN] := by
  intro t0 t2 t3 b hm H locs ls hP hD hS hl
  unfold m_N_takeNumber_156 at hm
  have G0 := G
  obtain ⟨hx, hb, hr, hml, hown, hw, hlk⟩ := G
  have hA : ∀ q, s.heap.size ≤ q → va_A w0 s.heap.size q := fun q h => Or.inr h
  obtain ⟨q5, hq5, hm⟩ := zbind hm
  refine zbWi (va_runV (As := [.int t0]) (rest := [.int t2, .int t3, .ref bN]) ⟨hx, hb, hml, hown, hw⟩ (k_N_signBits l D aN bN c1 _ t0 v b  q5 hq5) (zcV (C := RX2) 1 hw (zgood zw240) rfl rfl rfl zw210 zw242 zw241 zw243 hdX2_signBits ⟨Nat.le_of_ble_eq_true rfl, Nat.le_of_ble_eq_true rfl⟩) (zpreV (zpre zC_ok hX hS (zfree hD hS hA) hP hK hD) (va_recv hK hP rfl (q0 := 0) rfl)) rfl rfl hl.1 rfl (lv_room (Nat.le_of_ble_eq_true rfl)) dX2_takeNumber_156 ⟨Nat.zero_le _, Nat.zero_le _⟩) hS (zfree hD hS hA) (fun H locs hP hD hS => ?_)
  refine lv_ior hx hb dX2_takeNumber_159 ?_
  obtain ⟨hi6, hm⟩ := zix_s hm
  refine va_iast (i := t3) (x := (t2 ||| q5)) (f := b) (n := 25) hx hb hK hP hD hS 1 0 rfl rfl hi6 dX2_takeNumber_160 (fun H locs hP hD hS => ?_)
  have hP : va_P D vwCl (wN aN bN c1 v (upd b t3.toNatClampNeg (t2 ||| q5))) H := hP
  have hD : va_D _ (wN aN bN c1 v (upd b t3.toNatClampNeg (t2 ||| q5))) := hD
  refine lv_iconst (v := 1) hx hb dX2_takeNumber_161 (by decide) ?_
  obtain ⟨hz7, -, hm⟩ := zbo_s hm
  cases hm
  exact zretz hx hb hr hlk hz7 hP hD hS dX2_takeNumber_162
set_option maxRecDepth 100000 in
set_option maxHeartbeats 4000000 in
theorem b_N_takeNumber_155 (G : zG p s m args meth c cX2_takeNumber RX2 7 (some .boolean)) (hK : va_K D vwCl (wN_t c1) s) (hX : zC (va_A w0 s.heap.size) s) {res : (Int32) × (Nat → Int32)} : ∀ (t1 : Int32) (t2 : Int32) (b : Nat → Int32), m_N_takeNumber_155 v t1 t2 b = some res → zB p l e (zR 2 45) s m args below meth c D vwCl (va_A w0 s.heap.size) (MQ below (zQi D vwCl w0 (wN aN bN c1 v res.2) s.heap.size res.1) args s 0 0 (va_A w0 s.heap.size)) 7 (wN aN bN c1 v b) [] 155 [.ref aN, .int t1, .int t2, .ref bN] := by
  intro t1 t2 b hm H locs ls hP hD hS hl
  unfold m_N_takeNumber_155 at hm
  have G0 := G
  obtain ⟨hx, hb, hr, hml, hown, hw, hlk⟩ := G
  have hA : ∀ q, s.heap.size ≤ q → va_A w0 s.heap.size q := fun q h => Or.inr h
  refine lv_iconst (v := 0) hx hb dX2_takeNumber_155 (by decide) ?_
  exact b_N_takeNumber_156 G0 hK hX _ _ _ _ hm H _ _ hP hD hS hl
set_option maxRecDepth 100000 in
set_option maxHeartbeats 4000000 in
theorem b_N_takeNumber_112 (G : zG p s m args meth c cX2_takeNumber RX2 7 (some .boolean)) (hK : va_K D vwCl (wN_t c1) s) (hX : zC (va_A w0 s.heap.size) s) {res : (Int32) × (Nat → Int32)} (rec : Int64 → Int32 → Int32 → Int32 → (Nat → Int32) → Option ((Int32) × (Nat → Int32))) (hrec : ∀ (x1 : Int64) (x3 : Int32) (x4 : Int32) (x5 : Int32) (b : Nat → Int32), rec x1 x3 x4 x5 b = some res → zB p l e (zR 2 45) s m args below meth c D vwCl (va_A w0 s.heap.size) (MQ below (zQi D vwCl w0 (wN aN bN c1 v res.2) s.heap.size res.1) args s 0 0 (va_A w0 s.heap.size)) 7 (wN aN bN c1 v b) [(0, .ref aN), (1, .long x1), (3, .int x3), (4, .int x4), (5, .int x5)] 44 []) : ∀ (x1 : Int64) (x3 : Int32) (x5 : Int32) (t0 : Int32) (b : Nat → Int32), m_N_takeNumber_112 v rec x1 x3 x5 t0 b = some res → zB p l e (zR 2 45) s m args below meth c D vwCl (va_A w0 s.heap.size) (MQ below (zQi D vwCl w0 (wN aN bN c1 v res.2) s.heap.size res.1) args s 0 0 (va_A w0 s.heap.size)) 7 (wN aN bN c1 v b) [(0, .ref aN), (1, .long x1), (3, .int x3), (5, .int x5)] 112 [.int t0] := by
  intro x1 x3 x5 t0 b hm H locs ls hP hD hS hl
  unfold m_N_takeNumber_112 at hm
  have G0 := G
  obtain ⟨hx, hb, hr, hml, hown, hw, hlk⟩ := G
  have hA : ∀ q, s.heap.size ≤ q → va_A w0 s.heap.size q := fun q h => Or.inr h
  refine lv_istore (lv' := [(4, .int t0), (0, .ref aN), (1, .long x1), (3, .int x3), (5, .int x5)]) hx hb dX2_takeNumber_112 hl (by decide) rfl (fun ls hl => ?_)
  refine lv_iinc (k := 4) (v := (x5 + 1)) (lv' := [(5, .int (x5 + 1)), (4, .int t0), (0, .ref aN), (1, .long x1), (3, .int x3)]) hx hb dX2_takeNumber_114 hl rfl rfl (by decide) rfl (fun ls hl => ?_)
  refine lv_goto (tgt := 44) hx hb dX2_takeNumber_117 rfl ?_
  exact hrec _ _ _ _ _ hm H _ _ hP hD hS (lv_sub hl [2, 3, 4, 1, 0] rfl)
set_option maxRecDepth 100000 in
set_option maxHeartbeats 4000000 in
theorem b_N_takeNumber_107 (G : zG p s m args meth c cX2_takeNumber RX2 7 (some .boolean)) (hK : va_K D vwCl (wN_t c1) s) (hX : zC (va_A w0 s.heap.size) s) {res : (Int32) × (Nat → Int32)} (rec : Int64 → Int32 → Int32 → Int32 → (Nat → Int32) → Option ((Int32) × (Nat → Int32))) (hrec : ∀ (x1 : Int64) (x3 : Int32) (x4 : Int32) (x5 : Int32) (b : Nat → Int32), rec x1 x3 x4 x5 b = some res → zB p l e (zR 2 45) s m args below meth c D vwCl (va_A w0 s.heap.size) (MQ below (zQi D vwCl w0 (wN aN bN c1 v res.2) s.heap.size res.1) args s 0 0 (va_A w0 s.heap.size)) 7 (wN aN bN c1 v b) [(0, .ref aN), (1, .long x1), (3, .int x3), (4, .int x4), (5, .int x5)] 44 []) : ∀ (x1 : Int64) (x3 : Int32) (x5 : Int32) (b : Nat → Int32), m_N_takeNumber_107 v rec x1 x3 x5 b = some res → zB p l e (zR 2 45) s m args below meth c D vwCl (va_A w0 s.heap.size) (MQ below (zQi D vwCl w0 (wN aN bN c1 v res.2) s.heap.size res.1) args s 0 0 (va_A w0 s.heap.size)) 7 (wN aN bN c1 v b) [(0, .ref aN), (1, .long x1), (3, .int x3), (5, .int x5)] 107 [] := by
  intro x1 x3 x5 b hm H locs ls hP hD hS hl
  unfold m_N_takeNumber_107 at hm
  have G0 := G
  obtain ⟨hx, hb, hr, hml, hown, hw, hlk⟩ := G
  have hA : ∀ q, s.heap.size ≤ q → va_A w0 s.heap.size q := fun q h => Or.inr h
  refine lv_iconst (v := 1) hx hb dX2_takeNumber_107 (by decide) ?_
  refine lv_goto (tgt := 112) hx hb dX2_takeNumber_108 rfl ?_
  exact b_N_takeNumber_112 G0 hK hX rec hrec _ _ _ _ _ hm H _ _ hP hD hS hl
set_option maxRecDepth 100000 in
set_option maxHeartbeats 4000000 in
theorem b_N_takeNumber_44 (G : zG p s m args meth c cX2_takeNumber RX2 7 (some .boolean)) (hK : va_K D vwCl (wN_t c1) s) (hX : zC (va_A w0 s.heap.size) s) {res : (Int32) × (Nat → Int32)} : ∀ n : Nat, ∀ (x1 : Int64) (x3 : Int32) (x4 : Int32) (x5 : Int32) (b : Nat → Int32), m_N_takeNumber_44 v n x1 x3 x4 x5 b = some res → zB p l e (zR 2 45) s m args below meth c D vwCl (va_A w0 s.heap.size) (MQ below (zQi D vwCl w0 (wN aN bN c1 v res.2) s.heap.size res.1) args s 0 0 (va_A w0 s.heap.size)) 7 (wN aN bN c1 v b) [(0, .ref aN), (1, .long x1), (3, .int x3), (4, .int x4), (5, .int x5)] 44 [] := by
  intro n
  induction n with
  | zero => intro x1 x3 x4 x5 b hm; cases hm
  | succ n ih =>
  have hrec := ih
  intro x1 x3 x4 x5 b hm H locs ls hP hD hS hl
  replace hm : m_N_takeNumber_44b v (m_N_takeNumber_44 v n) x1 x3 x4 x5 b = some res := hm
  generalize m_N_takeNumber_44 v n = rec at hm hrec
  unfold m_N_takeNumber_44b at hm
  clear ih
  have G0 := G
  obtain ⟨hx, hb, hr, hml, hown, hw, hlk⟩ := G
  have hA : ∀ q, s.heap.size ≤ q → va_A w0 s.heap.size q := fun q h => Or.inr h
  refine lv_iload hx hb dX2_takeNumber_44 (lv_at hl 4 rfl) ?_
  refine lv_aload_n hx hb dX2_takeNumber_46 rfl (lv_at hl 0 rfl) ?_
  refine va_get (D := D) (ci := 1) (v := .int (v 5)) (C := RX2) (T := TX2) (N := 8) hx hb hw zinX2 hown hK hP 0 rfl rfl 5 (by decide) (hw _ zw205) (fun _ h9 => h9) rfl dX2_takeNumber_47 ?_
  refine lv_icmp_ge (tgt := 120) hx hb dX2_takeNumber_50 rfl (fun cd2 => ?_) (fun cd2 => ?_)
  · replace hm := zt cd2 hm
    refine lv_aload_n hx hb dX2_takeNumber_120 rfl (lv_at hl 0 rfl) ?_
    refine va_get (D := D) (ci := 1) (v := .ref bN) (C := RX2) (T := TX2) (N := 8) hx hb hw zinX2 hown hK hP 0 rfl rfl 0 (by decide) (hw _ zw226) (fun x9 h9 => u_same (hw _ zw225) x9 h9) rfl dX2_takeNumber_121 ?_
    refine lv_aload_n hx hb dX2_takeNumber_124 rfl (lv_at hl 0 rfl) ?_
    refine va_get (D := D) (ci := 1) (v := .int (v 1)) (C := RX2) (T := TX2) (N := 8) hx hb hw zinX2 hown hK hP 0 rfl rfl 1 (by decide) (hw _ zw224) (fun x9 h9 => u_same (hw _ zw223) x9 h9) rfl dX2_takeNumber_125 ?_
    refine lv_iconst (v := 1) hx hb dX2_takeNumber_128 (by decide) ?_
    refine lv_isub hx hb dX2_takeNumber_129 ?_
    refine lv_dup2_11 hx hb dX2_takeNumber_130 rfl rfl ?_
    obtain ⟨hi3, hm⟩ := zix_s hm
    refine va_iald (i := ((v 1) - 1)) (f := b) (n := 25) hx hb hK hP 1 0 rfl rfl hi3 dX2_takeNumber_131 ?_
    refine lv_aload_n hx hb dX2_takeNumber_132 rfl (lv_at hl 0 rfl) ?_
    refine lv_aload_n hx hb dX2_takeNumber_133 rfl (lv_at hl 0 rfl) ?_
    refine va_get (D := D) (ci := 1) (v := .int (v 4)) (C := RX2) (T := TX2) (N := 8) hx hb hw zinX2 hown hK hP 0 rfl rfl 4 (by decide) (hw _ zw208) (fun x9 h9 => u_same (hw _ zw207) x9 h9) rfl dX2_takeNumber_134 ?_
    refine lv_if_eq (tgt := 155) hx hb dX2_takeNumber_137 rfl (fun cd4 => ?_) (fun cd4 => ?_)
    · replace hm := zt cd4 hm
      exact b_N_takeNumber_155 G0 hK hX _ _ _ hm H _ _ hP hD hS (lv_sub hl [] rfl)
    · replace hm := zf cd4 hm
      refine lv_iload hx hb dX2_takeNumber_140 (lv_at hl 3 rfl) ?_
      refine lv_if_eq (tgt := 155) hx hb dX2_takeNumber_142 rfl (fun cd8 => ?_) (fun cd8 => ?_)
      · replace hm := zt cd8 hm
        exact b_N_takeNumber_155 G0 hK hX _ _ _ hm H _ _ hP hD hS (lv_sub hl [] rfl)
      · replace hm := zf cd8 hm
        refine lv_lload_n hx hb dX2_takeNumber_145 rfl (lv_at hl 1 rfl) ?_
        refine lv_lconst (v := 0) hx hb dX2_takeNumber_146 (by decide) ?_
        refine W.lcmp (x := x1) (y := 0) hx hb dX2_takeNumber_147 ?_
        refine lv_if_ge (tgt := 155) hx hb dX2_takeNumber_148 rfl (fun cd9 => ?_) (fun cd9 => ?_)
        · replace hm := zt cd9 hm
          exact b_N_takeNumber_155 G0 hK hX _ _ _ hm H _ _ hP hD hS (lv_sub hl [] rfl)
        · replace hm := zf cd9 hm
          refine lv_iconst (v := 1) hx hb dX2_takeNumber_151 (by decide) ?_
          refine lv_goto (tgt := 156) hx hb dX2_takeNumber_152 rfl ?_
          exact b_N_takeNumber_156 G0 hK hX _ _ _ _ hm H _ _ hP hD hS (lv_sub hl [] rfl)
  · replace hm := zf cd2 hm
    refine lv_lload_n hx hb dX2_takeNumber_53 rfl (lv_at hl 1 rfl) ?_
    refine lv_iload_n hx hb dX2_takeNumber_54 rfl (lv_at hl 2 rfl) ?_
    refine lv_aload_n hx hb dX2_takeNumber_55 rfl (lv_at hl 0 rfl) ?_
    refine va_get (D := D) (ci := 1) (v := .int (v 6)) (C := RX2) (T := TX2) (N := 8) hx hb hw zinX2 hown hK hP 0 rfl rfl 6 (by decide) (hw _ zw206) (fun _ h9 => h9) rfl dX2_takeNumber_56 ?_
    refine lv_aload_n hx hb dX2_takeNumber_59 rfl (lv_at hl 0 rfl) ?_
    refine va_get (D := D) (ci := 1) (v := .int (v 5)) (C := RX2) (T := TX2) (N := 8) hx hb hw zinX2 hown hK hP 0 rfl rfl 5 (by decide) (hw _ zw205) (fun _ h9 => h9) rfl dX2_takeNumber_60 ?_
    refine lv_iadd hx hb dX2_takeNumber_63 ?_
    refine lv_iconst (v := 1) hx hb dX2_takeNumber_64 (by decide) ?_
    refine lv_isub hx hb dX2_takeNumber_65 ?_
    refine lv_iload hx hb dX2_takeNumber_66 (lv_at hl 4 rfl) ?_
    refine lv_isub hx hb dX2_takeNumber_68 ?_
    obtain ⟨q10, hq10, hm⟩ := zbind hm
    refine zb0i (va_runSN (As := [.long x1, .int x3, .int ((((v 6) + (v 5)) - 1) - x5)]) (rest := []) ⟨hx, hb, hml, hown, hw⟩ (k_P_digitAt l D  _ x1 x3 ((((v 6) + (v 5)) - 1) - x5)  q10 hq10) ⟨va_cnB 3 hw (zgood zw244) rfl rfl rfl (hX.1 _ zn3) (hw _ zw176) hdX5_digitAt ⟨Nat.le_of_ble_eq_true rfl, Nat.le_of_ble_eq_true rfl⟩, hw _ zw245, trivial⟩ (zpre zC_ok hX hS (zfree0 hS hA) zP0 (hK.sub (tys' := []) [] rfl) zD0) rfl rfl hl.1 rfl (lv_room (Nat.le_of_ble_eq_true rfl)) dX2_takeNumber_69 ⟨Nat.zero_le _, Nat.zero_le _⟩) hP hD hS (zfree0 hS hA) (fun H locs hP hD hS => ?_)
    refine lv_istore (lv' := [(6, .int q10), (0, .ref aN), (1, .long x1), (3, .int x3), (4, .int x4), (5, .int x5)]) hx hb dX2_takeNumber_72 hl (by decide) rfl (fun ls hl => ?_)
    refine lv_aload_n hx hb dX2_takeNumber_74 rfl (lv_at hl 1 rfl) ?_
    refine va_get (D := D) (ci := 1) (v := .ref bN) (C := RX2) (T := TX2) (N := 8) hx hb hw zinX2 hown hK hP 0 rfl rfl 0 (by decide) (hw _ zw226) (fun x9 h9 => u_same (hw _ zw225) x9 h9) rfl dX2_takeNumber_75 ?_
    refine lv_aload_n hx hb dX2_takeNumber_78 rfl (lv_at hl 1 rfl) ?_
    refine lv_iload hx hb dX2_takeNumber_79 (lv_at hl 5 rfl) ?_
    obtain ⟨q11, hq11, hm⟩ := zbind hm
    refine zbWi (va_runV (As := [.int x5]) (rest := [.ref bN]) ⟨hx, hb, hml, hown, hw⟩ (k_N_byteOf l D aN bN c1 _ x5 v b  q11 hq11) (zcV (C := RX2) 1 hw (zgood zw232) rfl rfl rfl zw210 zw234 zw233 zw235 hdX2_byteOf ⟨Nat.le_of_ble_eq_true rfl, Nat.le_of_ble_eq_true rfl⟩) (zpreV (zpre zC_ok hX hS (zfree hD hS hA) hP hK hD) (va_recv hK hP rfl (q0 := 0) rfl)) rfl rfl hl.1 rfl (lv_room (Nat.le_of_ble_eq_true rfl)) dX2_takeNumber_81 ⟨Nat.zero_le _, Nat.zero_le _⟩) hS (zfree hD hS hA) (fun H locs hP hD hS => ?_)
    refine lv_dup2_11 hx hb dX2_takeNumber_84 rfl rfl ?_
    obtain ⟨hi12, hm⟩ := zix_s hm
    refine va_iald (i := q11) (f := b) (n := 25) hx hb hK hP 1 0 rfl rfl hi12 dX2_takeNumber_85 ?_
    refine lv_iload hx hb dX2_takeNumber_86 (lv_at hl 0 rfl) ?_
    refine lv_aload_n hx hb dX2_takeNumber_88 rfl (lv_at hl 1 rfl) ?_
    refine lv_iload hx hb dX2_takeNumber_89 (lv_at hl 5 rfl) ?_
    obtain ⟨q13, hq13, hm⟩ := zbind hm
    refine zbWi (va_runV (As := [.int x5]) (rest := [.int q10, .int (b q11.toNatClampNeg), .int q11, .ref bN]) ⟨hx, hb, hml, hown, hw⟩ (k_N_shiftOf l D aN bN c1 _ x5 v b  q13 hq13) (zcV (C := RX2) 1 hw (zgood zw236) rfl rfl rfl zw210 zw238 zw237 zw239 hdX2_shiftOf ⟨Nat.le_of_ble_eq_true rfl, Nat.le_of_ble_eq_true rfl⟩) (zpreV (zpre zC_ok hX hS (zfree hD hS hA) hP hK hD) (va_recv hK hP rfl (q0 := 0) rfl)) rfl rfl hl.1 rfl (lv_room (Nat.le_of_ble_eq_true rfl)) dX2_takeNumber_91 ⟨Nat.zero_le _, Nat.zero_le _⟩) hS (zfree hD hS hA) (fun H locs hP hD hS => ?_)
    refine lv_ishl hx hb dX2_takeNumber_94 ?_
    refine lv_ior hx hb dX2_takeNumber_95 ?_
    obtain ⟨hi14, hm⟩ := zix_s hm
    refine va_iast (i := q11) (x := ((b q11.toNatClampNeg) ||| (q10 <<< (q13 &&& 31)))) (f := b) (n := 25) hx hb hK hP hD hS 1 0 rfl rfl hi14 dX2_takeNumber_96 (fun H locs hP hD hS => ?_)
    have hP : va_P D vwCl (wN aN bN c1 v (upd b q11.toNatClampNeg ((b q11.toNatClampNeg) ||| (q10 <<< (q13 &&& 31))))) H := hP
    have hD : va_D _ (wN aN bN c1 v (upd b q11.toNatClampNeg ((b q11.toNatClampNeg) ||| (q10 <<< (q13 &&& 31))))) := hD
    refine lv_iload hx hb dX2_takeNumber_97 (lv_at hl 4 rfl) ?_
    refine lv_if_ne (tgt := 107) hx hb dX2_takeNumber_99 rfl (fun cd15 => ?_) (fun cd15 => ?_)
    · replace hm := zf cd15 hm
      exact b_N_takeNumber_107 G0 hK hX rec hrec _ _ _ _ hm H _ _ hP hD hS (lv_sub hl [1, 2, 3, 5] rfl)
    · replace hm := zt cd15 hm
      refine lv_iload hx hb dX2_takeNumber_102 (lv_at hl 0 rfl) ?_
      refine lv_if_eq (tgt := 111) hx hb dX2_takeNumber_104 rfl (fun cd16 => ?_) (fun cd16 => ?_)
      · replace hm := zt cd16 hm
        refine lv_iconst (v := 0) hx hb dX2_takeNumber_111 (by decide) ?_
        exact b_N_takeNumber_112 G0 hK hX rec hrec _ _ _ _ _ hm H _ _ hP hD hS (lv_sub hl [1, 2, 3, 5] rfl)
      · replace hm := zf cd16 hm
        exact b_N_takeNumber_107 G0 hK hX rec hrec _ _ _ _ hm H _ _ hP hD hS (lv_sub hl [1, 2, 3, 5] rfl)
set_option maxRecDepth 100000 in
set_option maxHeartbeats 4000000 in
theorem b_N_takeNumber_34 (G : zG p s m args meth c cX2_takeNumber RX2 7 (some .boolean)) (hK : va_K D vwCl (wN_t c1) s) (hX : zC (va_A w0 s.heap.size) s) {res : (Int32) × (Nat → Int32)} (rec : Int64 → Int32 → Int32 → Int32 → (Nat → Int32) → Option ((Int32) × (Nat → Int32))) (hrec : ∀ (x1 : Int64) (x3 : Int32) (x4 : Int32) (x5 : Int32) (b : Nat → Int32), rec x1 x3 x4 x5 b = some res → zB p l e (zR 2 45) s m args below meth c D vwCl (va_A w0 s.heap.size) (MQ below (zQi D vwCl w0 (wN aN bN c1 v res.2) s.heap.size res.1) args s 0 0 (va_A w0 s.heap.size)) 7 (wN aN bN c1 v b) [(0, .ref aN), (1, .long x1), (3, .int x3), (4, .int x4), (5, .int x5)] 6 []) : ∀ (x1 : Int64) (x3 : Int32) (x4 : Int32) (x5 : Int32) (t0 : Int32) (t1 : Int32) (b : Nat → Int32), m_N_takeNumber_34 v rec x1 x3 x4 x5 t0 t1 b = some res → zB p l e (zR 2 45) s m args below meth c D vwCl (va_A w0 s.heap.size) (MQ below (zQi D vwCl w0 (wN aN bN c1 v res.2) s.heap.size res.1) args s 0 0 (va_A w0 s.heap.size)) 7 (wN aN bN c1 v b) [(0, .ref aN), (1, .long x1), (3, .int x3), (4, .int x4), (5, .int x5)] 34 [.int t0, .int t1, .ref bN] := by
  intro x1 x3 x4 x5 t0 t1 b hm H locs ls hP hD hS hl
  unfold m_N_takeNumber_34 at hm
  have G0 := G
  obtain ⟨hx, hb, hr, hml, hown, hw, hlk⟩ := G
  have hA : ∀ q, s.heap.size ≤ q → va_A w0 s.heap.size q := fun q h => Or.inr h
  obtain ⟨hi18, hm⟩ := zix_s hm
  refine va_iast (i := t1) (x := t0) (f := b) (n := 25) hx hb hK hP hD hS 1 0 rfl rfl hi18 dX2_takeNumber_34 (fun H locs hP hD hS => ?_)
  have hP : va_P D vwCl (wN aN bN c1 v (upd b t1.toNatClampNeg t0)) H := hP
  have hD : va_D _ (wN aN bN c1 v (upd b t1.toNatClampNeg t0)) := hD
  refine lv_iinc (k := 4) (v := (x5 + 1)) (lv' := [(5, .int (x5 + 1)), (0, .ref aN), (1, .long x1), (3, .int x3), (4, .int x4)]) hx hb dX2_takeNumber_35 hl rfl rfl (by decide) rfl (fun ls hl => ?_)
  refine lv_goto (tgt := 6) hx hb dX2_takeNumber_38 rfl ?_
  exact hrec _ _ _ _ _ hm H _ _ hP hD hS (lv_sub hl [1, 2, 3, 4, 0] rfl)
set_option maxRecDepth 100000 in
set_option maxHeartbeats 4000000 in
theorem b_N_takeNumber_6 (G : zG p s m args meth c cX2_takeNumber RX2 7 (some .boolean)) (hK : va_K D vwCl (wN_t c1) s) (hX : zC (va_A w0 s.heap.size) s) {res : (Int32) × (Nat → Int32)} : ∀ n : Nat, ∀ (x1 : Int64) (x3 : Int32) (x4 : Int32) (x5 : Int32) (b : Nat → Int32), m_N_takeNumber_6 v n x1 x3 x4 x5 b = some res → zB p l e (zR 2 45) s m args below meth c D vwCl (va_A w0 s.heap.size) (MQ below (zQi D vwCl w0 (wN aN bN c1 v res.2) s.heap.size res.1) args s 0 0 (va_A w0 s.heap.size)) 7 (wN aN bN c1 v b) [(0, .ref aN), (1, .long x1), (3, .int x3), (4, .int x4), (5, .int x5)] 6 [] := by
  intro n
  induction n with
  | zero => intro x1 x3 x4 x5 b hm; cases hm
  | succ n ih =>
  have hrec := ih
  intro x1 x3 x4 x5 b hm H locs ls hP hD hS hl
  replace hm : m_N_takeNumber_6b v (m_N_takeNumber_6 v n) x1 x3 x4 x5 b = some res := hm
  generalize m_N_takeNumber_6 v n = rec at hm hrec
  unfold m_N_takeNumber_6b at hm
  clear ih
  have G0 := G
  obtain ⟨hx, hb, hr, hml, hown, hw, hlk⟩ := G
  have hA : ∀ q, s.heap.size ≤ q → va_A w0 s.heap.size q := fun q h => Or.inr h
  refine lv_iload hx hb dX2_takeNumber_6 (lv_at hl 4 rfl) ?_
  refine lv_aload_n hx hb dX2_takeNumber_8 rfl (lv_at hl 0 rfl) ?_
  refine va_get (D := D) (ci := 1) (v := .int (v 1)) (C := RX2) (T := TX2) (N := 8) hx hb hw zinX2 hown hK hP 0 rfl rfl 1 (by decide) (hw _ zw224) (fun x9 h9 => u_same (hw _ zw223) x9 h9) rfl dX2_takeNumber_9 ?_
  refine lv_icmp_ge (tgt := 41) hx hb dX2_takeNumber_12 rfl (fun cd1 => ?_) (fun cd1 => ?_)
  · replace hm := zt cd1 hm
    refine lv_iconst (v := 0) hx hb dX2_takeNumber_41 (by decide) ?_
    refine lv_istore (lv' := [(5, .int 0), (0, .ref aN), (1, .long x1), (3, .int x3), (4, .int x4)]) hx hb dX2_takeNumber_42 hl (by decide) rfl (fun ls hl => ?_)
    exact b_N_takeNumber_44 G0 hK hX 64 _ _ _ _ _ hm H _ _ hP hD hS (lv_sub hl [1, 2, 3, 4, 0] rfl)
  · replace hm := zf cd1 hm
    refine lv_aload_n hx hb dX2_takeNumber_15 rfl (lv_at hl 0 rfl) ?_
    refine va_get (D := D) (ci := 1) (v := .ref bN) (C := RX2) (T := TX2) (N := 8) hx hb hw zinX2 hown hK hP 0 rfl rfl 0 (by decide) (hw _ zw226) (fun x9 h9 => u_same (hw _ zw225) x9 h9) rfl dX2_takeNumber_16 ?_
    refine lv_iload hx hb dX2_takeNumber_19 (lv_at hl 4 rfl) ?_
    refine lv_aload_n hx hb dX2_takeNumber_21 rfl (lv_at hl 0 rfl) ?_
    refine va_get (D := D) (ci := 1) (v := .int (v 7)) (C := RX2) (T := TX2) (N := 8) hx hb hw zinX2 hown hK hP 0 rfl rfl 7 (by decide) (hw _ zw222) (fun _ h9 => h9) rfl dX2_takeNumber_22 ?_
    refine lv_if_eq (tgt := 32) hx hb dX2_takeNumber_25 rfl (fun cd17 => ?_) (fun cd17 => ?_)
    · replace hm := zt cd17 hm
      refine lv_bipush (v := 48) hx hb dX2_takeNumber_32 (by decide) ?_
      exact b_N_takeNumber_34 G0 hK hX rec hrec _ _ _ _ _ _ _ hm H _ _ hP hD hS hl
    · replace hm := zf cd17 hm
      refine lv_iconst (v := 0) hx hb dX2_takeNumber_28 (by decide) ?_
      refine lv_goto (tgt := 34) hx hb dX2_takeNumber_29 rfl ?_
      exact b_N_takeNumber_34 G0 hK hX rec hrec _ _ _ _ _ _ _ hm H _ _ hP hD hS hl
end
set_option maxRecDepth 100000 in
set_option maxHeartbeats 4000000 in
theorem k_N_takeNumber (l : Launch) (D : va_G) (aN bN : Nat) (c1 : ClassId) (sz : Nat) (a0 : Int64) (a1 : Int32) (v : Nat → Int32) (b : Nat → Int32) (res : (Int32) × (Nat → Int32)) (hm : m_N_takeNumber a0 a1 v b  = some res) : Met l yX2_takeNumber (Cond.code yX2_takeNumber cX2_takeNumber 7 (some .boolean) :: zBIG) (zR 2 45) (va_Pc [.ref aN, .long a0, .int a1] (zP zC D vwCl (wN_t c1) (wN aN bN c1 v b) sz)) (zQi D vwCl (wN aN bN c1 v b) (wN aN bN c1 v res.2) sz res.1) 0 0 (va_A (wN aN bN c1 v b) sz) := by
  refine zEnter RX2 [.ref aN, .long a0, .int a1] (by decide) rfl (Nat.le_of_ble_eq_true rfl) (fun p e s m below meth c ls G hK hX hP hD hsz hl => ?_)
  subst hsz
  unfold m_N_takeNumber at hm
  have hl : lv_has ls 7 [(0, .ref aN), (1, .long a0), (3, .int a1)] := hl
  have hS : va_S (va_A (wN aN bN c1 v b) s.heap.size) s.heap s.heap [] := va_S.rf
  have hA : ∀ q, s.heap.size ≤ q → va_A (wN aN bN c1 v b) s.heap.size q := fun q h => Or.inr h
  have G0 := G
  obtain ⟨hx, hb, hr, hml, hown, hw, hlk⟩ := G
  refine lv_iconst (v := 0) hx hb dX2_takeNumber_0 (by decide) ?_
  refine lv_istore (lv' := [(4, .int 0), (0, .ref aN), (1, .long a0), (3, .int a1)]) hx hb dX2_takeNumber_1 hl (by decide) rfl (fun ls hl => ?_)
  refine lv_iconst (v := 0) hx hb dX2_takeNumber_3 (by decide) ?_
  refine lv_istore (lv' := [(5, .int 0), (4, .int 0), (0, .ref aN), (1, .long a0), (3, .int a1)]) hx hb dX2_takeNumber_4 hl (by decide) rfl (fun ls hl => ?_)
  exact b_N_takeNumber_6 G0 hK hX 64 _ _ _ _ _ hm _ _ _ hP hD hS (lv_sub hl [2, 3, 4, 1, 0] rfl)

theorem dX4_fits_0 : decode cX4_fits 0 = .ok (.iconst 0, 1) := by decide +kernel
theorem dX4_fits_1 : decode cX4_fits 1 = .ok (.istore_n 2, 1) := by decide +kernel
theorem dX4_fits_2 : decode cX4_fits 2 = .ok (.iconst 0, 1) := by decide +kernel
theorem dX4_fits_3 : decode cX4_fits 3 = .ok (.istore_n 3, 1) := by decide +kernel
theorem dX4_fits_4 : decode cX4_fits 4 = .ok (.iload_n 3, 1) := by decide +kernel
theorem dX4_fits_5 : decode cX4_fits 5 = .ok (.aload_n 1, 1) := by decide +kernel
theorem dX4_fits_6 : decode cX4_fits 6 = .ok (.getfield 9, 3) := by decide +kernel
theorem dX4_fits_9 : decode cX4_fits 9 = .ok (.if_icmp .ge 45, 3) := by decide +kernel
theorem dX4_fits_12 : decode cX4_fits 12 = .ok (.aload_n 1, 1) := by decide +kernel
theorem dX4_fits_13 : decode cX4_fits 13 = .ok (.getfield 15, 3) := by decide +kernel
theorem dX4_fits_16 : decode cX4_fits 16 = .ok (.iload_n 3, 1) := by decide +kernel
theorem dX4_fits_17 : decode cX4_fits 17 = .ok (.iaload, 1) := by decide +kernel
theorem dX4_fits_18 : decode cX4_fits 18 = .ok (.istore 4, 2) := by decide +kernel
theorem dX4_fits_20 : decode cX4_fits 20 = .ok (.iload 4, 2) := by decide +kernel
theorem dX4_fits_22 : decode cX4_fits 22 = .ok (.bipush 88, 2) := by decide +kernel
theorem dX4_fits_24 : decode cX4_fits 24 = .ok (.if_icmp .eq 10, 3) := by decide +kernel
theorem dX4_fits_27 : decode cX4_fits 27 = .ok (.iload 4, 2) := by decide +kernel
theorem dX4_fits_29 : decode cX4_fits 29 = .ok (.bipush 65, 2) := by decide +kernel
theorem dX4_fits_31 : decode cX4_fits 31 = .ok (.if_icmp .ne 8, 3) := by decide +kernel
theorem dX4_fits_34 : decode cX4_fits 34 = .ok (.iconst 1, 1) := by decide +kernel
theorem dX4_fits_35 : decode cX4_fits 35 = .ok (.istore_n 2, 1) := by decide +kernel
theorem dX4_fits_36 : decode cX4_fits 36 = .ok (.goto 12, 3) := by decide +kernel
theorem dX4_fits_39 : decode cX4_fits 39 = .ok (.iload 4, 2) := by decide +kernel
theorem dX4_fits_41 : decode cX4_fits 41 = .ok (.bipush 57, 2) := by decide +kernel
theorem dX4_fits_43 : decode cX4_fits 43 = .ok (.if_icmp .eq 5, 3) := by decide +kernel
theorem dX4_fits_46 : decode cX4_fits 46 = .ok (.iconst 0, 1) := by decide +kernel
theorem dX4_fits_47 : decode cX4_fits 47 = .ok (.ireturn, 1) := by decide +kernel
theorem dX4_fits_48 : decode cX4_fits 48 = .ok (.iinc 3 1, 3) := by decide +kernel
theorem dX4_fits_51 : decode cX4_fits 51 = .ok (.goto (-47), 3) := by decide +kernel
theorem dX4_fits_54 : decode cX4_fits 54 = .ok (.aload_n 0, 1) := by decide +kernel
theorem dX4_fits_55 : decode cX4_fits 55 = .ok (.aload_n 1, 1) := by decide +kernel
theorem dX4_fits_56 : decode cX4_fits 56 = .ok (.getfield 9, 3) := by decide +kernel
theorem dX4_fits_59 : decode cX4_fits 59 = .ok (.putfield 19, 3) := by decide +kernel
theorem dX4_fits_62 : decode cX4_fits 62 = .ok (.iload_n 2, 1) := by decide +kernel
theorem dX4_fits_63 : decode cX4_fits 63 = .ok (.ireturn, 1) := by decide +kernel
def m_T_fits_48 (b : Nat → Int32) (sv : Nat → Int32) (sr : Nat → Int32) (rec : Int32 → Int32 → (Nat → Int32) → Option ((Int32) × (Nat → Int32))) (x2 : Int32) (x3 : Int32) (v : Nat → Int32) : Option ((Int32) × (Nat → Int32)) := rec x2 (x3 + 1) v
def m_T_fits_34 (b : Nat → Int32) (sv : Nat → Int32) (sr : Nat → Int32) (rec : Int32 → Int32 → (Nat → Int32) → Option ((Int32) × (Nat → Int32))) (x3 : Int32) (v : Nat → Int32) : Option ((Int32) × (Nat → Int32)) := m_T_fits_48 b sv sr rec 1 x3 v
def m_T_fits_4b (b : Nat → Int32) (sv : Nat → Int32) (sr : Nat → Int32) (rec : Int32 → Int32 → (Nat → Int32) → Option ((Int32) × (Nat → Int32))) (x2 : Int32) (x3 : Int32) (v : Nat → Int32) : Option ((Int32) × (Nat → Int32)) := (if (sv 1) ≤ x3 then (zbo x2 (some (x2, (upd v 1 (sv 1))))) else zix x3 24 ((if (sr x3.toNatClampNeg) = 88 then m_T_fits_34 b sv sr rec x3 v else (if (sr x3.toNatClampNeg) = 65 then m_T_fits_34 b sv sr rec x3 v else (if (sr x3.toNatClampNeg) = 57 then m_T_fits_48 b sv sr rec x2 x3 v else (zbo 0 (some (0, v))))))))
def m_T_fits_4 (b : Nat → Int32) (sv : Nat → Int32) (sr : Nat → Int32) : Nat → Int32 → Int32 → (Nat → Int32) → Option ((Int32) × (Nat → Int32))
  | 0 => fun _ _ _ => none
  | n + 1 => fun x2 x3 v => m_T_fits_4b b sv sr (m_T_fits_4 b sv sr n) x2 x3 v
def m_T_fits  (v : Nat → Int32) (b : Nat → Int32) (sv : Nat → Int32) (sr : Nat → Int32)  : Option ((Int32) × (Nat → Int32)) := m_T_fits_4 b sv sr 64 0 0 v
section
variable {p : Program} {l : Launch} {e : Env} {s : State} {m : MethodId} {args : Array Value} {below : List Frame} {meth : Method} {c : Code} {D : va_G} {w0 : va_W} {aT bT aS rS : Nat} {c1 cs : ClassId} {b : Nat → Int32} {sv : Nat → Int32} {sr : Nat → Int32}
set_option maxRecDepth 100000 in
set_option maxHeartbeats 4000000 in
theorem b_T_fits_48 (G : zG p s m args meth c cX4_fits RX4 5 (some .boolean)) (hK : va_K D vwCl (wTS_t c1 cs) s) (hX : zC (va_A w0 s.heap.size) s) {res : (Int32) × (Nat → Int32)} (rec : Int32 → Int32 → (Nat → Int32) → Option ((Int32) × (Nat → Int32))) (hrec : ∀ (x2 : Int32) (x3 : Int32) (v : Nat → Int32), rec x2 x3 v = some res → zB p l e (zR 0 0) s m args below meth c D vwCl (va_A w0 s.heap.size) (MQ below (zQi D vwCl w0 (wTS aT bT aS rS c1 cs res.2 b sv sr) s.heap.size res.1) args s 0 0 (va_A w0 s.heap.size)) 5 (wTS aT bT aS rS c1 cs v b sv sr) [(0, .ref aT), (1, .ref aS), (2, .int x2), (3, .int x3)] 4 []) : ∀ (x2 : Int32) (x3 : Int32) (v : Nat → Int32), m_T_fits_48 b sv sr rec x2 x3 v = some res → zB p l e (zR 0 0) s m args below meth c D vwCl (va_A w0 s.heap.size) (MQ below (zQi D vwCl w0 (wTS aT bT aS rS c1 cs res.2 b sv sr) s.heap.size res.1) args s 0 0 (va_A w0 s.heap.size)) 5 (wTS aT bT aS rS c1 cs v b sv sr) [(0, .ref aT), (1, .ref aS), (2, .int x2), (3, .int x3)] 48 [] := by
  intro x2 x3 v hm H locs ls hP hD hS hl
  unfold m_T_fits_48 at hm
  have G0 := G
  obtain ⟨hx, hb, hr, hml, hown, hw, hlk⟩ := G
  have hA : ∀ q, s.heap.size ≤ q → va_A w0 s.heap.size q := fun q h => Or.inr h
  refine lv_iinc (k := 3) (v := (x3 + 1)) (lv' := [(3, .int (x3 + 1)), (0, .ref aT), (1, .ref aS), (2, .int x2)]) hx hb dX4_fits_48 hl rfl rfl (by decide) rfl (fun ls hl => ?_)
  refine lv_goto (tgt := 4) hx hb dX4_fits_51 rfl ?_
  exact hrec _ _ _ hm H _ _ hP hD hS (lv_sub hl [1, 2, 3, 0] rfl)
set_option maxRecDepth 100000 in
set_option maxHeartbeats 4000000 in
theorem b_T_fits_34 (G : zG p s m args meth c cX4_fits RX4 5 (some .boolean)) (hK : va_K D vwCl (wTS_t c1 cs) s) (hX : zC (va_A w0 s.heap.size) s) {res : (Int32) × (Nat → Int32)} (rec : Int32 → Int32 → (Nat → Int32) → Option ((Int32) × (Nat → Int32))) (hrec : ∀ (x2 : Int32) (x3 : Int32) (v : Nat → Int32), rec x2 x3 v = some res → zB p l e (zR 0 0) s m args below meth c D vwCl (va_A w0 s.heap.size) (MQ below (zQi D vwCl w0 (wTS aT bT aS rS c1 cs res.2 b sv sr) s.heap.size res.1) args s 0 0 (va_A w0 s.heap.size)) 5 (wTS aT bT aS rS c1 cs v b sv sr) [(0, .ref aT), (1, .ref aS), (2, .int x2), (3, .int x3)] 4 []) : ∀ (x3 : Int32) (v : Nat → Int32), m_T_fits_34 b sv sr rec x3 v = some res → zB p l e (zR 0 0) s m args below meth c D vwCl (va_A w0 s.heap.size) (MQ below (zQi D vwCl w0 (wTS aT bT aS rS c1 cs res.2 b sv sr) s.heap.size res.1) args s 0 0 (va_A w0 s.heap.size)) 5 (wTS aT bT aS rS c1 cs v b sv sr) [(0, .ref aT), (1, .ref aS), (3, .int x3)] 34 [] := by
  intro x3 v hm H locs ls hP hD hS hl
  unfold m_T_fits_34 at hm
  have G0 := G
  obtain ⟨hx, hb, hr, hml, hown, hw, hlk⟩ := G
  have hA : ∀ q, s.heap.size ≤ q → va_A w0 s.heap.size q := fun q h => Or.inr h
  refine lv_iconst (v := 1) hx hb dX4_fits_34 (by decide) ?_
  refine lv_istore_n (lv' := [(2, .int 1), (0, .ref aT), (1, .ref aS), (3, .int x3)]) hx hb dX4_fits_35 rfl hl (by decide) rfl (fun ls hl => ?_)
  refine lv_goto (tgt := 48) hx hb dX4_fits_36 rfl ?_
  exact b_T_fits_48 G0 hK hX rec hrec _ _ _ hm H _ _ hP hD hS (lv_sub hl [1, 2, 0, 3] rfl)
set_option maxRecDepth 100000 in
set_option maxHeartbeats 4000000 in
theorem b_T_fits_4 (G : zG p s m args meth c cX4_fits RX4 5 (some .boolean)) (hK : va_K D vwCl (wTS_t c1 cs) s) (hX : zC (va_A w0 s.heap.size) s) {res : (Int32) × (Nat → Int32)} : ∀ n : Nat, ∀ (x2 : Int32) (x3 : Int32) (v : Nat → Int32), m_T_fits_4 b sv sr n x2 x3 v = some res → zB p l e (zR 0 0) s m args below meth c D vwCl (va_A w0 s.heap.size) (MQ below (zQi D vwCl w0 (wTS aT bT aS rS c1 cs res.2 b sv sr) s.heap.size res.1) args s 0 0 (va_A w0 s.heap.size)) 5 (wTS aT bT aS rS c1 cs v b sv sr) [(0, .ref aT), (1, .ref aS), (2, .int x2), (3, .int x3)] 4 [] := by
  intro n
  induction n with
  | zero => intro x2 x3 v hm; cases hm
  | succ n ih =>
  have hrec := ih
  intro x2 x3 v hm H locs ls hP hD hS hl
  replace hm : m_T_fits_4b b sv sr (m_T_fits_4 b sv sr n) x2 x3 v = some res := hm
  generalize m_T_fits_4 b sv sr n = rec at hm hrec
  unfold m_T_fits_4b at hm
  clear ih
  have G0 := G
  obtain ⟨hx, hb, hr, hml, hown, hw, hlk⟩ := G
  have hA : ∀ q, s.heap.size ≤ q → va_A w0 s.heap.size q := fun q h => Or.inr h
  refine lv_iload_n hx hb dX4_fits_4 rfl (lv_at hl 3 rfl) ?_
  refine lv_aload_n hx hb dX4_fits_5 rfl (lv_at hl 1 rfl) ?_
  refine va_getN (D := D) (ci := 2) (v := .int (sv 1)) (C := RX3) (T := TX3) (N := 2) hx hb hw zinX3 hown hK hP 2 rfl rfl 1 (by decide) (va_Nw.use rfl (hX.1 _ zn4)) (fun _ h9 => h9) rfl dX4_fits_6 ?_
  refine lv_icmp_ge (tgt := 54) hx hb dX4_fits_9 rfl (fun cd1 => ?_) (fun cd1 => ?_)
  · replace hm := zt cd1 hm
    refine lv_aload_n hx hb dX4_fits_54 rfl (lv_at hl 0 rfl) ?_
    refine lv_aload_n hx hb dX4_fits_55 rfl (lv_at hl 1 rfl) ?_
    refine va_getN (D := D) (ci := 2) (v := .int (sv 1)) (C := RX3) (T := TX3) (N := 2) hx hb hw zinX3 hown hK hP 2 rfl rfl 1 (by decide) (va_Nw.use rfl (hX.1 _ zn4)) (fun _ h9 => h9) rfl dX4_fits_56 ?_
    refine va_put (D := D) (ci := 3) (v := .int (sv 1)) (ty := .int) (C := RX4) (T := TX4) (N := 5) hx hb hw zinX4 tyX4 tyX4_ok nmX4 hown hK hP hD hS 0 rfl rfl 1 (by decide) (hw _ zw247) (fun x9 h9 => u_same (hw _ zw246) x9 h9) rfl (by decide +kernel) rfl rfl (Nat.le_of_ble_eq_true rfl) dX4_fits_59 (fun H locs hP hD hS => ?_)
    have hP : va_P D vwCl (wTS aT bT aS rS c1 cs (upd v 1 (sv 1)) b sv sr) H := hP
    have hD : va_D _ (wTS aT bT aS rS c1 cs (upd v 1 (sv 1)) b sv sr) := hD
    refine lv_iload_n hx hb dX4_fits_62 rfl (lv_at hl 2 rfl) ?_
    obtain ⟨hz2, -, hm⟩ := zbo_s hm
    cases hm
    exact zretz hx hb hr hlk hz2 hP hD hS dX4_fits_63
  · replace hm := zf cd1 hm
    refine lv_aload_n hx hb dX4_fits_12 rfl (lv_at hl 1 rfl) ?_
    refine va_getN (D := D) (ci := 2) (v := .ref rS) (C := RX3) (T := TX3) (N := 2) hx hb hw zinX3 hown hK hP 2 rfl rfl 0 (by decide) (va_Nw.use rfl (hX.1 _ zn5)) (fun _ h9 => h9) rfl dX4_fits_13 ?_
    refine lv_iload_n hx hb dX4_fits_16 rfl (lv_at hl 3 rfl) ?_
    obtain ⟨hi3, hm⟩ := zix_s hm
    refine va_iald (i := x3) (f := sr) (n := 24) hx hb hK hP 3 1 rfl rfl hi3 dX4_fits_17 ?_
    refine lv_istore (lv' := [(4, .int (sr x3.toNatClampNeg)), (0, .ref aT), (1, .ref aS), (2, .int x2), (3, .int x3)]) hx hb dX4_fits_18 hl (by decide) rfl (fun ls hl => ?_)
    refine lv_iload hx hb dX4_fits_20 (lv_at hl 0 rfl) ?_
    refine lv_bipush (v := 88) hx hb dX4_fits_22 (by decide) ?_
    refine lv_icmp_eq (tgt := 34) hx hb dX4_fits_24 rfl (fun cd4 => ?_) (fun cd4 => ?_)
    · replace hm := zt cd4 hm
      exact b_T_fits_34 G0 hK hX rec hrec _ _ hm H _ _ hP hD hS (lv_sub hl [1, 2, 4] rfl)
    · replace hm := zf cd4 hm
      refine lv_iload hx hb dX4_fits_27 (lv_at hl 0 rfl) ?_
      refine lv_bipush (v := 65) hx hb dX4_fits_29 (by decide) ?_
      refine lv_icmp_ne (tgt := 39) hx hb dX4_fits_31 rfl (fun cd5 => ?_) (fun cd5 => ?_)
      · replace hm := zf cd5 hm
        refine lv_iload hx hb dX4_fits_39 (lv_at hl 0 rfl) ?_
        refine lv_bipush (v := 57) hx hb dX4_fits_41 (by decide) ?_
        refine lv_icmp_eq (tgt := 48) hx hb dX4_fits_43 rfl (fun cd6 => ?_) (fun cd6 => ?_)
        · replace hm := zt cd6 hm
          exact b_T_fits_48 G0 hK hX rec hrec _ _ _ hm H _ _ hP hD hS (lv_sub hl [1, 2, 3, 4] rfl)
        · replace hm := zf cd6 hm
          refine lv_iconst (v := 0) hx hb dX4_fits_46 (by decide) ?_
          obtain ⟨hz7, -, hm⟩ := zbo_s hm
          cases hm
          exact zretz hx hb hr hlk hz7 hP hD hS dX4_fits_47
      · replace hm := zt cd5 hm
        exact b_T_fits_34 G0 hK hX rec hrec _ _ hm H _ _ hP hD hS (lv_sub hl [1, 2, 4] rfl)
end
set_option maxRecDepth 100000 in
set_option maxHeartbeats 4000000 in
theorem k_T_fits (l : Launch) (D : va_G) (aT bT aS rS : Nat) (c1 cs : ClassId) (sz : Nat)  (v : Nat → Int32) (b : Nat → Int32) (sv : Nat → Int32) (sr : Nat → Int32) (res : (Int32) × (Nat → Int32)) (hm : m_T_fits  v b sv sr  = some res) : Met l yX4_fits (Cond.code yX4_fits cX4_fits 5 (some .boolean) :: zBIG) (zR 0 0) (va_Pc [.ref aT, .ref aS] (zP zC D vwCl (wTS_t c1 cs) (wTS aT bT aS rS c1 cs v b sv sr) sz)) (zQi D vwCl (wTS aT bT aS rS c1 cs v b sv sr) (wTS aT bT aS rS c1 cs res.2 b sv sr) sz res.1) 0 0 (va_A (wTS aT bT aS rS c1 cs v b sv sr) sz) := by
  refine zEnter RX4 [.ref aT, .ref aS] (by decide) rfl (Nat.le_of_ble_eq_true rfl) (fun p e s m below meth c ls G hK hX hP hD hsz hl => ?_)
  subst hsz
  unfold m_T_fits at hm
  have hl : lv_has ls 5 [(0, .ref aT), (1, .ref aS)] := hl
  have hS : va_S (va_A (wTS aT bT aS rS c1 cs v b sv sr) s.heap.size) s.heap s.heap [] := va_S.rf
  have hA : ∀ q, s.heap.size ≤ q → va_A (wTS aT bT aS rS c1 cs v b sv sr) s.heap.size q := fun q h => Or.inr h
  have G0 := G
  obtain ⟨hx, hb, hr, hml, hown, hw, hlk⟩ := G
  refine lv_iconst (v := 0) hx hb dX4_fits_0 (by decide) ?_
  refine lv_istore_n (lv' := [(2, .int 0), (0, .ref aT), (1, .ref aS)]) hx hb dX4_fits_1 rfl hl (by decide) rfl (fun ls hl => ?_)
  refine lv_iconst (v := 0) hx hb dX4_fits_2 (by decide) ?_
  refine lv_istore_n (lv' := [(3, .int 0), (2, .int 0), (0, .ref aT), (1, .ref aS)]) hx hb dX4_fits_3 rfl hl (by decide) rfl (fun ls hl => ?_)
  exact b_T_fits_4 G0 hK hX 64 _ _ _ hm _ _ _ hP hD hS (lv_sub hl [2, 3, 1, 0] rfl)

theorem dX4_kind_0 : decode cX4_kind 0 = .ok (.iconst 1, 1) := by decide +kernel
theorem dX4_kind_1 : decode cX4_kind 1 = .ok (.ireturn, 1) := by decide +kernel
def m_T_kind  (v : Nat → Int32) (b : Nat → Int32)  : Option ((Int32)) := (some 1)
section
variable {p : Program} {l : Launch} {e : Env} {s : State} {m : MethodId} {args : Array Value} {below : List Frame} {meth : Method} {c : Code} {D : va_G} {w0 : va_W} {aT bT : Nat} {c1 : ClassId} {v : Nat → Int32} {b : Nat → Int32}
end
set_option maxRecDepth 100000 in
set_option maxHeartbeats 4000000 in
theorem k_T_kind (l : Launch) (D : va_G) (aT bT : Nat) (c1 : ClassId) (sz : Nat)  (v : Nat → Int32) (b : Nat → Int32) (res : (Int32)) (hm : m_T_kind  v b  = some res) : Met l yX4_kind (Cond.code yX4_kind cX4_kind 1 (some .int) :: zBIG) (zR 0 0) (va_Pc [.ref aT] (zP zC D vwCl (wT_t c1) (wT aT bT c1 v b) sz)) (zQi D vwCl (wT aT bT c1 v b) (wT aT bT c1 v b) sz res) 0 0 (va_A (wT aT bT c1 v b) sz) := by
  refine zEnter RX4 [.ref aT] (by decide) rfl (Nat.le_of_ble_eq_true rfl) (fun p e s m below meth c ls G hK hX hP hD hsz hl => ?_)
  subst hsz
  unfold m_T_kind at hm
  have hl : lv_has ls 1 [(0, .ref aT)] := hl
  have hS : va_S (va_A (wT aT bT c1 v b) s.heap.size) s.heap s.heap [] := va_S.rf
  have hA : ∀ q, s.heap.size ≤ q → va_A (wT aT bT c1 v b) s.heap.size q := fun q h => Or.inr h
  have G0 := G
  obtain ⟨hx, hb, hr, hml, hown, hw, hlk⟩ := G
  refine lv_iconst (v := 1) hx hb dX4_kind_0 (by decide) ?_
  cases hm
  exact zreti hx hb hr hlk hP hD hS dX4_kind_1

theorem dX4_number_0 : decode cX4_number 0 = .ok (.lconst 0, 1) := by decide +kernel
theorem dX4_number_1 : decode cX4_number 1 = .ok (.lstore_n 1, 1) := by decide +kernel
theorem dX4_number_2 : decode cX4_number 2 = .ok (.iconst 0, 1) := by decide +kernel
theorem dX4_number_3 : decode cX4_number 3 = .ok (.aload_n 0, 1) := by decide +kernel
theorem dX4_number_4 : decode cX4_number 4 = .ok (.getfield 19, 3) := by decide +kernel
theorem dX4_number_7 : decode cX4_number 7 = .ok (.bipush 12, 2) := by decide +kernel
theorem dX4_number_9 : decode cX4_number 9 = .ok (.isub, 1) := by decide +kernel
theorem dX4_number_10 : decode cX4_number 10 = .ok (.invokestatic 24, 3) := by decide +kernel
theorem dX4_number_13 : decode cX4_number 13 = .ok (.istore_n 3, 1) := by decide +kernel
theorem dX4_number_14 : decode cX4_number 14 = .ok (.iload_n 3, 1) := by decide +kernel
theorem dX4_number_15 : decode cX4_number 15 = .ok (.aload_n 0, 1) := by decide +kernel
theorem dX4_number_16 : decode cX4_number 16 = .ok (.getfield 19, 3) := by decide +kernel
theorem dX4_number_19 : decode cX4_number 19 = .ok (.if_icmp .ge 42, 3) := by decide +kernel
theorem dX4_number_22 : decode cX4_number 22 = .ok (.lload_n 1, 1) := by decide +kernel
theorem dX4_number_23 : decode cX4_number 23 = .ok (.ldc2_w 30, 3) := by decide +kernel
theorem dX4_number_26 : decode cX4_number 26 = .ok (.lmul, 1) := by decide +kernel
theorem dX4_number_27 : decode cX4_number 27 = .ok (.aload_n 0, 1) := by decide +kernel
theorem dX4_number_28 : decode cX4_number 28 = .ok (.getfield 32, 3) := by decide +kernel
theorem dX4_number_31 : decode cX4_number 31 = .ok (.iload_n 3, 1) := by decide +kernel
theorem dX4_number_32 : decode cX4_number 32 = .ok (.iaload, 1) := by decide +kernel
theorem dX4_number_33 : decode cX4_number 33 = .ok (.invokestatic 35, 3) := by decide +kernel
theorem dX4_number_36 : decode cX4_number 36 = .ok (.ifCond .eq 15, 3) := by decide +kernel
theorem dX4_number_39 : decode cX4_number 39 = .ok (.aload_n 0, 1) := by decide +kernel
theorem dX4_number_40 : decode cX4_number 40 = .ok (.getfield 32, 3) := by decide +kernel
theorem dX4_number_43 : decode cX4_number 43 = .ok (.iload_n 3, 1) := by decide +kernel
theorem dX4_number_44 : decode cX4_number 44 = .ok (.iaload, 1) := by decide +kernel
theorem dX4_number_45 : decode cX4_number 45 = .ok (.bipush 48, 2) := by decide +kernel
theorem dX4_number_47 : decode cX4_number 47 = .ok (.isub, 1) := by decide +kernel
theorem dX4_number_48 : decode cX4_number 48 = .ok (.goto 4, 3) := by decide +kernel
theorem dX4_number_51 : decode cX4_number 51 = .ok (.iconst 0, 1) := by decide +kernel
theorem dX4_number_52 : decode cX4_number 52 = .ok (.i2l, 1) := by decide +kernel
theorem dX4_number_53 : decode cX4_number 53 = .ok (.ladd, 1) := by decide +kernel
theorem dX4_number_54 : decode cX4_number 54 = .ok (.lstore_n 1, 1) := by decide +kernel
theorem dX4_number_55 : decode cX4_number 55 = .ok (.iinc 3 1, 3) := by decide +kernel
theorem dX4_number_58 : decode cX4_number 58 = .ok (.goto (-44), 3) := by decide +kernel
theorem dX4_number_61 : decode cX4_number 61 = .ok (.lload_n 1, 1) := by decide +kernel
theorem dX4_number_62 : decode cX4_number 62 = .ok (.lreturn, 1) := by decide +kernel
def m_T_number_52 (v : Nat → Int32) (b : Nat → Int32) (rec : Int64 → Int32 → Option ((Int64))) (x3 : Int32) (t0 : Int32) (t1 : Int64)  : Option ((Int64)) := rec (t1 + ((t0).toInt64)) (x3 + 1)
def m_T_number_14b (v : Nat → Int32) (b : Nat → Int32) (rec : Int64 → Int32 → Option ((Int64))) (x1 : Int64) (x3 : Int32)  : Option ((Int64)) := (if (v 1) ≤ x3 then (some x1) else zix x3 25 ((m_P_isDigit (b x3.toNatClampNeg)).bind (fun q3 => (if q3 = 0 then m_T_number_52 v b rec x3 0 (x1 * 10) else zix x3 25 (m_T_number_52 v b rec x3 ((b x3.toNatClampNeg) - 48) (x1 * 10))))))
def m_T_number_14 (v : Nat → Int32) (b : Nat → Int32) : Nat → Int64 → Int32 → Option ((Int64))
  | 0 => fun _ _ => none
  | n + 1 => fun x1 x3 => m_T_number_14b v b (m_T_number_14 v b n) x1 x3
def m_T_number  (v : Nat → Int32) (b : Nat → Int32)  : Option ((Int64)) := m_T_number_14 v b 64 0 (if 0 < ((v 1) - 12) then ((v 1) - 12) else 0)
section
variable {p : Program} {l : Launch} {e : Env} {s : State} {m : MethodId} {args : Array Value} {below : List Frame} {meth : Method} {c : Code} {D : va_G} {w0 : va_W} {aT bT : Nat} {c1 : ClassId} {v : Nat → Int32} {b : Nat → Int32}
set_option maxRecDepth 100000 in
set_option maxHeartbeats 4000000 in
theorem b_T_number_52 (G : zG p s m args meth c cX4_number RX4 4 (some .long)) (hK : va_K D vwCl (wT_t c1) s) (hX : zC (va_A w0 s.heap.size) s) {res : (Int64)} (rec : Int64 → Int32 → Option ((Int64))) (hrec : ∀ (x1 : Int64) (x3 : Int32), rec x1 x3 = some res → zB p l e (zR 1 21) s m args below meth c D vwCl (va_A w0 s.heap.size) (MQ below (zQl D vwCl w0 (wT aT bT c1 v b) s.heap.size res) args s 0 0 (va_A w0 s.heap.size)) 4 (wT aT bT c1 v b) [(0, .ref aT), (1, .long x1), (3, .int x3)] 14 []) : ∀ (x3 : Int32) (t0 : Int32) (t1 : Int64), m_T_number_52 v b rec x3 t0 t1 = some res → zB p l e (zR 1 21) s m args below meth c D vwCl (va_A w0 s.heap.size) (MQ below (zQl D vwCl w0 (wT aT bT c1 v b) s.heap.size res) args s 0 0 (va_A w0 s.heap.size)) 4 (wT aT bT c1 v b) [(0, .ref aT), (3, .int x3)] 52 [.int t0, .long t1] := by
  intro x3 t0 t1 hm H locs ls hP hD hS hl
  unfold m_T_number_52 at hm
  have G0 := G
  obtain ⟨hx, hb, hr, hml, hown, hw, hlk⟩ := G
  have hA : ∀ q, s.heap.size ≤ q → va_A w0 s.heap.size q := fun q h => Or.inr h
  refine lv_i2l (v := ((t0).toInt64)) hx hb dX4_number_52 rfl ?_
  refine lv_ladd hx hb dX4_number_53 ?_
  refine lv_lstore_n (lv' := [(1, .long (t1 + ((t0).toInt64))), (0, .ref aT), (3, .int x3)]) hx hb dX4_number_54 rfl hl (by decide) rfl (fun ls hl => ?_)
  refine lv_iinc (k := 2) (v := (x3 + 1)) (lv' := [(3, .int (x3 + 1)), (1, .long (t1 + ((t0).toInt64))), (0, .ref aT)]) hx hb dX4_number_55 hl rfl rfl (by decide) rfl (fun ls hl => ?_)
  refine lv_goto (tgt := 14) hx hb dX4_number_58 rfl ?_
  exact hrec _ _ hm H _ _ hP hD hS (lv_sub hl [2, 1, 0] rfl)
set_option maxRecDepth 100000 in
set_option maxHeartbeats 4000000 in
theorem b_T_number_14 (G : zG p s m args meth c cX4_number RX4 4 (some .long)) (hK : va_K D vwCl (wT_t c1) s) (hX : zC (va_A w0 s.heap.size) s) {res : (Int64)} : ∀ n : Nat, ∀ (x1 : Int64) (x3 : Int32), m_T_number_14 v b n x1 x3 = some res → zB p l e (zR 1 21) s m args below meth c D vwCl (va_A w0 s.heap.size) (MQ below (zQl D vwCl w0 (wT aT bT c1 v b) s.heap.size res) args s 0 0 (va_A w0 s.heap.size)) 4 (wT aT bT c1 v b) [(0, .ref aT), (1, .long x1), (3, .int x3)] 14 [] := by
  intro n
  induction n with
  | zero => intro x1 x3 hm; cases hm
  | succ n ih =>
  have hrec := ih
  intro x1 x3 hm H locs ls hP hD hS hl
  replace hm : m_T_number_14b v b (m_T_number_14 v b n) x1 x3 = some res := hm
  generalize m_T_number_14 v b n = rec at hm hrec
  unfold m_T_number_14b at hm
  clear ih
  have G0 := G
  obtain ⟨hx, hb, hr, hml, hown, hw, hlk⟩ := G
  have hA : ∀ q, s.heap.size ≤ q → va_A w0 s.heap.size q := fun q h => Or.inr h
  refine lv_iload_n hx hb dX4_number_14 rfl (lv_at hl 2 rfl) ?_
  refine lv_aload_n hx hb dX4_number_15 rfl (lv_at hl 0 rfl) ?_
  refine va_get (D := D) (ci := 3) (v := .int (v 1)) (C := RX4) (T := TX4) (N := 5) hx hb hw zinX4 hown hK hP 0 rfl rfl 1 (by decide) (hw _ zw247) (fun x9 h9 => u_same (hw _ zw246) x9 h9) rfl dX4_number_16 ?_
  refine lv_icmp_ge (tgt := 61) hx hb dX4_number_19 rfl (fun cd1 => ?_) (fun cd1 => ?_)
  · replace hm := zt cd1 hm
    refine lv_lload_n hx hb dX4_number_61 rfl (lv_at hl 1 rfl) ?_
    cases hm
    exact zretl hx hb hr hlk hP hD hS dX4_number_62
  · replace hm := zf cd1 hm
    refine lv_lload_n hx hb dX4_number_22 rfl (lv_at hl 1 rfl) ?_
    refine lv_ldc2 (v := 10) hx hb hown (hw _ zw251) dX4_number_23 ?_
    refine lv_lmul hx hb dX4_number_26 ?_
    refine lv_aload_n hx hb dX4_number_27 rfl (lv_at hl 0 rfl) ?_
    refine va_get (D := D) (ci := 3) (v := .ref bT) (C := RX4) (T := TX4) (N := 5) hx hb hw zinX4 hown hK hP 0 rfl rfl 0 (by decide) (hw _ zw253) (fun x9 h9 => u_same (hw _ zw252) x9 h9) rfl dX4_number_28 ?_
    refine lv_iload_n hx hb dX4_number_31 rfl (lv_at hl 2 rfl) ?_
    obtain ⟨hi2, hm⟩ := zix_s hm
    refine va_iald (i := x3) (f := b) (n := 25) hx hb hK hP 1 0 rfl rfl hi2 dX4_number_32 ?_
    obtain ⟨q3, hq3, hm⟩ := zbind hm
    refine zb0i (va_runSN (As := [.int (b x3.toNatClampNeg)]) (rest := [.long (x1 * 10)]) ⟨hx, hb, hml, hown, hw⟩ (k_P_isDigit l D  _ (b x3.toNatClampNeg)  q3 hq3) ⟨va_cnB 1 hw (zgood zw175) rfl rfl rfl (hX.1 _ zn6) (hw _ zw176) hdX5_isDigit ⟨Nat.le_of_ble_eq_true rfl, Nat.le_of_ble_eq_true rfl⟩, hw _ zw177, trivial⟩ (zpre zN_ok trivial hS (zfree0 hS hA) zP0 (hK.sub (tys' := []) [] rfl) zD0) rfl rfl hl.1 rfl (lv_room (Nat.le_of_ble_eq_true rfl)) dX4_number_33 ⟨Nat.zero_le _, Nat.zero_le _⟩) hP hD hS (zfree0 hS hA) (fun H locs hP hD hS => ?_)
    refine lv_if_eq (tgt := 51) hx hb dX4_number_36 rfl (fun cd4 => ?_) (fun cd4 => ?_)
    · replace hm := zt cd4 hm
      refine lv_iconst (v := 0) hx hb dX4_number_51 (by decide) ?_
      exact b_T_number_52 G0 hK hX rec hrec _ _ _ hm H _ _ hP hD hS (lv_sub hl [0, 2] rfl)
    · replace hm := zf cd4 hm
      refine lv_aload_n hx hb dX4_number_39 rfl (lv_at hl 0 rfl) ?_
      refine va_get (D := D) (ci := 3) (v := .ref bT) (C := RX4) (T := TX4) (N := 5) hx hb hw zinX4 hown hK hP 0 rfl rfl 0 (by decide) (hw _ zw253) (fun x9 h9 => u_same (hw _ zw252) x9 h9) rfl dX4_number_40 ?_
      refine lv_iload_n hx hb dX4_number_43 rfl (lv_at hl 2 rfl) ?_
      obtain ⟨hi5, hm⟩ := zix_s hm
      refine va_iald (i := x3) (f := b) (n := 25) hx hb hK hP 1 0 rfl rfl hi5 dX4_number_44 ?_
      refine lv_bipush (v := 48) hx hb dX4_number_45 (by decide) ?_
      refine lv_isub hx hb dX4_number_47 ?_
      refine lv_goto (tgt := 52) hx hb dX4_number_48 rfl ?_
      exact b_T_number_52 G0 hK hX rec hrec _ _ _ hm H _ _ hP hD hS (lv_sub hl [0, 2] rfl)
end
set_option maxRecDepth 100000 in
set_option maxHeartbeats 4000000 in
theorem k_T_number (l : Launch) (D : va_G) (aT bT : Nat) (c1 : ClassId) (sz : Nat)  (v : Nat → Int32) (b : Nat → Int32) (res : (Int64)) (hm : m_T_number  v b  = some res) : Met l yX4_number (Cond.code yX4_number cX4_number 4 (some .long) :: zBIG) (zR 1 21) (va_Pc [.ref aT] (zP zC D vwCl (wT_t c1) (wT aT bT c1 v b) sz)) (zQl D vwCl (wT aT bT c1 v b) (wT aT bT c1 v b) sz res) 0 0 (va_A (wT aT bT c1 v b) sz) := by
  refine zEnter RX4 [.ref aT] (by decide) rfl (Nat.le_of_ble_eq_true rfl) (fun p e s m below meth c ls G hK hX hP hD hsz hl => ?_)
  subst hsz
  unfold m_T_number at hm
  have hl : lv_has ls 4 [(0, .ref aT)] := hl
  have hS : va_S (va_A (wT aT bT c1 v b) s.heap.size) s.heap s.heap [] := va_S.rf
  have hA : ∀ q, s.heap.size ≤ q → va_A (wT aT bT c1 v b) s.heap.size q := fun q h => Or.inr h
  have G0 := G
  obtain ⟨hx, hb, hr, hml, hown, hw, hlk⟩ := G
  refine lv_lconst (v := 0) hx hb dX4_number_0 (by decide) ?_
  refine lv_lstore_n (lv' := [(1, .long 0), (0, .ref aT)]) hx hb dX4_number_1 rfl hl (by decide) rfl (fun ls hl => ?_)
  refine lv_iconst (v := 0) hx hb dX4_number_2 (by decide) ?_
  refine lv_aload_n hx hb dX4_number_3 rfl (lv_at hl 1 rfl) ?_
  refine va_get (D := D) (ci := 3) (v := .int (v 1)) (C := RX4) (T := TX4) (N := 5) hx hb hw zinX4 hown hK hP 0 rfl rfl 1 (by decide) (hw _ zw247) (fun x9 h9 => u_same (hw _ zw246) x9 h9) rfl dX4_number_4 ?_
  refine lv_bipush (v := 12) hx hb dX4_number_7 (by decide) ?_
  refine lv_isub hx hb dX4_number_9 ?_
  refine va_mmax hx hb (hml.trans hl.1.symm) hown (hw _ zw248) (hw _ zw249) (hw _ zw171) (hw _ zw250) (Nat.le_of_ble_eq_true rfl) (Nat.le_of_ble_eq_true rfl) (Nat.zero_le _) (Nat.zero_le _) dX4_number_10 ?_
  refine lv_istore_n (lv' := [(3, .int (if 0 < ((v 1) - 12) then ((v 1) - 12) else 0)), (1, .long 0), (0, .ref aT)]) hx hb dX4_number_13 rfl hl (by decide) rfl (fun ls hl => ?_)
  exact b_T_number_14 G0 hK hX 64 _ _ hm _ _ _ hP hD hS (lv_sub hl [2, 1, 0] rfl)

theorem dX4_takeNumber_0 : decode cX4_takeNumber 0 = .ok (.iconst 0, 1) := by decide +kernel
theorem dX4_takeNumber_1 : decode cX4_takeNumber 1 = .ok (.ireturn, 1) := by decide +kernel
def m_T_takeNumber (a0 : Int64) (a1 : Int32) (v : Nat → Int32) (b : Nat → Int32)  : Option ((Int32)) := (zbo 0 (some 0))
section
variable {p : Program} {l : Launch} {e : Env} {s : State} {m : MethodId} {args : Array Value} {below : List Frame} {meth : Method} {c : Code} {D : va_G} {w0 : va_W} {aT bT : Nat} {c1 : ClassId} {v : Nat → Int32} {b : Nat → Int32}
end
set_option maxRecDepth 100000 in
set_option maxHeartbeats 4000000 in
theorem k_T_takeNumber (l : Launch) (D : va_G) (aT bT : Nat) (c1 : ClassId) (sz : Nat) (a0 : Int64) (a1 : Int32) (v : Nat → Int32) (b : Nat → Int32) (res : (Int32)) (hm : m_T_takeNumber a0 a1 v b  = some res) : Met l yX4_takeNumber (Cond.code yX4_takeNumber cX4_takeNumber 4 (some .boolean) :: zBIG) (zR 0 0) (va_Pc [.ref aT, .long a0, .int a1] (zP zC D vwCl (wT_t c1) (wT aT bT c1 v b) sz)) (zQi D vwCl (wT aT bT c1 v b) (wT aT bT c1 v b) sz res) 0 0 (va_A (wT aT bT c1 v b) sz) := by
  refine zEnter RX4 [.ref aT, .long a0, .int a1] (by decide) rfl (Nat.le_of_ble_eq_true rfl) (fun p e s m below meth c ls G hK hX hP hD hsz hl => ?_)
  subst hsz
  unfold m_T_takeNumber at hm
  have hl : lv_has ls 4 [(0, .ref aT), (1, .long a0), (3, .int a1)] := hl
  have hS : va_S (va_A (wT aT bT c1 v b) s.heap.size) s.heap s.heap [] := va_S.rf
  have hA : ∀ q, s.heap.size ≤ q → va_A (wT aT bT c1 v b) s.heap.size q := fun q h => Or.inr h
  have G0 := G
  obtain ⟨hx, hb, hr, hml, hown, hw, hlk⟩ := G
  refine lv_iconst (v := 0) hx hb dX4_takeNumber_0 (by decide) ?_
  obtain ⟨hz1, -, hm⟩ := zbo_s hm
  cases hm
  exact zretz hx hb hr hlk hz1 hP hD hS dX4_takeNumber_1

theorem dX4_empty_0 : decode cX4_empty 0 = .ok (.iconst 0, 1) := by decide +kernel
theorem dX4_empty_1 : decode cX4_empty 1 = .ok (.istore_n 1, 1) := by decide +kernel
theorem dX4_empty_2 : decode cX4_empty 2 = .ok (.iload_n 1, 1) := by decide +kernel
theorem dX4_empty_3 : decode cX4_empty 3 = .ok (.aload_n 0, 1) := by decide +kernel
theorem dX4_empty_4 : decode cX4_empty 4 = .ok (.getfield 19, 3) := by decide +kernel
theorem dX4_empty_7 : decode cX4_empty 7 = .ok (.if_icmp .ge 17, 3) := by decide +kernel
theorem dX4_empty_10 : decode cX4_empty 10 = .ok (.aload_n 0, 1) := by decide +kernel
theorem dX4_empty_11 : decode cX4_empty 11 = .ok (.getfield 32, 3) := by decide +kernel
theorem dX4_empty_14 : decode cX4_empty 14 = .ok (.iload_n 1, 1) := by decide +kernel
theorem dX4_empty_15 : decode cX4_empty 15 = .ok (.bipush 32, 2) := by decide +kernel
theorem dX4_empty_17 : decode cX4_empty 17 = .ok (.iastore, 1) := by decide +kernel
theorem dX4_empty_18 : decode cX4_empty 18 = .ok (.iinc 1 1, 3) := by decide +kernel
theorem dX4_empty_21 : decode cX4_empty 21 = .ok (.goto (-19), 3) := by decide +kernel
theorem dX4_empty_24 : decode cX4_empty 24 = .ok (.return_, 1) := by decide +kernel
def m_T_empty_2b (v : Nat → Int32) (rec : Int32 → (Nat → Int32) → Option ((Nat → Int32))) (x1 : Int32) (b : Nat → Int32) : Option ((Nat → Int32)) := (if (v 1) ≤ x1 then (some b) else zix x1 25 (rec (x1 + 1) (upd b x1.toNatClampNeg 32)))
def m_T_empty_2 (v : Nat → Int32) : Nat → Int32 → (Nat → Int32) → Option ((Nat → Int32))
  | 0 => fun _ _ => none
  | n + 1 => fun x1 b => m_T_empty_2b v (m_T_empty_2 v n) x1 b
def m_T_empty  (v : Nat → Int32) (b : Nat → Int32)  : Option ((Nat → Int32)) := m_T_empty_2 v 64 0 b
section
variable {p : Program} {l : Launch} {e : Env} {s : State} {m : MethodId} {args : Array Value} {below : List Frame} {meth : Method} {c : Code} {D : va_G} {w0 : va_W} {aT bT : Nat} {c1 : ClassId} {v : Nat → Int32}
set_option maxRecDepth 100000 in
set_option maxHeartbeats 4000000 in
theorem b_T_empty_2 (G : zG p s m args meth c cX4_empty RX4 2 none) (hK : va_K D vwCl (wT_t c1) s) (hX : zC (va_A w0 s.heap.size) s) {res : (Nat → Int32)} : ∀ n : Nat, ∀ (x1 : Int32) (b : Nat → Int32), m_T_empty_2 v n x1 b = some res → zB p l e (zR 0 0) s m args below meth c D vwCl (va_A w0 s.heap.size) (MQ below (zQv D vwCl w0 (wT aT bT c1 v res) s.heap.size) args s 0 0 (va_A w0 s.heap.size)) 2 (wT aT bT c1 v b) [(0, .ref aT), (1, .int x1)] 2 [] := by
  intro n
  induction n with
  | zero => intro x1 b hm; cases hm
  | succ n ih =>
  have hrec := ih
  intro x1 b hm H locs ls hP hD hS hl
  replace hm : m_T_empty_2b v (m_T_empty_2 v n) x1 b = some res := hm
  generalize m_T_empty_2 v n = rec at hm hrec
  unfold m_T_empty_2b at hm
  clear ih
  have G0 := G
  obtain ⟨hx, hb, hr, hml, hown, hw, hlk⟩ := G
  have hA : ∀ q, s.heap.size ≤ q → va_A w0 s.heap.size q := fun q h => Or.inr h
  refine lv_iload_n hx hb dX4_empty_2 rfl (lv_at hl 1 rfl) ?_
  refine lv_aload_n hx hb dX4_empty_3 rfl (lv_at hl 0 rfl) ?_
  refine va_get (D := D) (ci := 3) (v := .int (v 1)) (C := RX4) (T := TX4) (N := 5) hx hb hw zinX4 hown hK hP 0 rfl rfl 1 (by decide) (hw _ zw247) (fun x9 h9 => u_same (hw _ zw246) x9 h9) rfl dX4_empty_4 ?_
  refine lv_icmp_ge (tgt := 24) hx hb dX4_empty_7 rfl (fun cd1 => ?_) (fun cd1 => ?_)
  · replace hm := zt cd1 hm
    cases hm
    exact zretv hx hb hr hlk hP hD hS dX4_empty_24
  · replace hm := zf cd1 hm
    refine lv_aload_n hx hb dX4_empty_10 rfl (lv_at hl 0 rfl) ?_
    refine va_get (D := D) (ci := 3) (v := .ref bT) (C := RX4) (T := TX4) (N := 5) hx hb hw zinX4 hown hK hP 0 rfl rfl 0 (by decide) (hw _ zw253) (fun x9 h9 => u_same (hw _ zw252) x9 h9) rfl dX4_empty_11 ?_
    refine lv_iload_n hx hb dX4_empty_14 rfl (lv_at hl 1 rfl) ?_
    refine lv_bipush (v := 32) hx hb dX4_empty_15 (by decide) ?_
    obtain ⟨hi2, hm⟩ := zix_s hm
    refine va_iast (i := x1) (x := 32) (f := b) (n := 25) hx hb hK hP hD hS 1 0 rfl rfl hi2 dX4_empty_17 (fun H locs hP hD hS => ?_)
    have hP : va_P D vwCl (wT aT bT c1 v (upd b x1.toNatClampNeg 32)) H := hP
    have hD : va_D _ (wT aT bT c1 v (upd b x1.toNatClampNeg 32)) := hD
    refine lv_iinc (k := 1) (v := (x1 + 1)) (lv' := [(1, .int (x1 + 1)), (0, .ref aT)]) hx hb dX4_empty_18 hl rfl rfl (by decide) rfl (fun ls hl => ?_)
    refine lv_goto (tgt := 2) hx hb dX4_empty_21 rfl ?_
    exact hrec _ _ hm H _ _ hP hD hS (lv_sub hl [1, 0] rfl)
end
set_option maxRecDepth 100000 in
set_option maxHeartbeats 4000000 in
theorem k_T_empty (l : Launch) (D : va_G) (aT bT : Nat) (c1 : ClassId) (sz : Nat)  (v : Nat → Int32) (b : Nat → Int32) (res : (Nat → Int32)) (hm : m_T_empty  v b  = some res) : Met l yX4_empty (Cond.code yX4_empty cX4_empty 2 none :: zBIG) (zR 0 0) (va_Pc [.ref aT] (zP zC D vwCl (wT_t c1) (wT aT bT c1 v b) sz)) (zQv D vwCl (wT aT bT c1 v b) (wT aT bT c1 v res) sz) 0 0 (va_A (wT aT bT c1 v b) sz) := by
  refine zEnter RX4 [.ref aT] (by decide) rfl (Nat.le_of_ble_eq_true rfl) (fun p e s m below meth c ls G hK hX hP hD hsz hl => ?_)
  subst hsz
  unfold m_T_empty at hm
  have hl : lv_has ls 2 [(0, .ref aT)] := hl
  have hS : va_S (va_A (wT aT bT c1 v b) s.heap.size) s.heap s.heap [] := va_S.rf
  have hA : ∀ q, s.heap.size ≤ q → va_A (wT aT bT c1 v b) s.heap.size q := fun q h => Or.inr h
  have G0 := G
  obtain ⟨hx, hb, hr, hml, hown, hw, hlk⟩ := G
  refine lv_iconst (v := 0) hx hb dX4_empty_0 (by decide) ?_
  refine lv_istore_n (lv' := [(1, .int 0), (0, .ref aT)]) hx hb dX4_empty_1 rfl hl (by decide) rfl (fun ls hl => ?_)
  exact b_T_empty_2 G0 hK hX 64 _ _ hm _ _ _ hP hD hS (lv_sub hl [1, 0] rfl)

