theorem dX0_fits_0 : decode cX0_fits 0 = .ok (.aload_n 1, 1) := by decide +kernel
theorem dX0_fits_1 : decode cX0_fits 1 = .ok (.getfield 18, 3) := by decide +kernel
theorem dX0_fits_4 : decode cX0_fits 4 = .ok (.iconst 0, 1) := by decide +kernel
theorem dX0_fits_5 : decode cX0_fits 5 = .ok (.aload_n 0, 1) := by decide +kernel
theorem dX0_fits_6 : decode cX0_fits 6 = .ok (.getfield 9, 3) := by decide +kernel
theorem dX0_fits_9 : decode cX0_fits 9 = .ok (.iconst 0, 1) := by decide +kernel
theorem dX0_fits_10 : decode cX0_fits 10 = .ok (.aload_n 1, 1) := by decide +kernel
theorem dX0_fits_11 : decode cX0_fits 11 = .ok (.getfield 21, 3) := by decide +kernel
theorem dX0_fits_14 : decode cX0_fits 14 = .ok (.invokestatic 25, 3) := by decide +kernel
theorem dX0_fits_17 : decode cX0_fits 17 = .ok (.aload_n 0, 1) := by decide +kernel
theorem dX0_fits_18 : decode cX0_fits 18 = .ok (.aload_n 1, 1) := by decide +kernel
theorem dX0_fits_19 : decode cX0_fits 19 = .ok (.getfield 21, 3) := by decide +kernel
theorem dX0_fits_22 : decode cX0_fits 22 = .ok (.invokevirtual 31, 3) := by decide +kernel
theorem dX0_fits_25 : decode cX0_fits 25 = .ok (.aload_n 0, 1) := by decide +kernel
theorem dX0_fits_26 : decode cX0_fits 26 = .ok (.invokevirtual 35, 3) := by decide +kernel
theorem dX0_fits_29 : decode cX0_fits 29 = .ok (.ifCond .eq 17, 3) := by decide +kernel
theorem dX0_fits_32 : decode cX0_fits 32 = .ok (.aload_n 0, 1) := by decide +kernel
theorem dX0_fits_33 : decode cX0_fits 33 = .ok (.invokevirtual 39, 3) := by decide +kernel
theorem dX0_fits_36 : decode cX0_fits 36 = .ok (.ifCond .eq 10, 3) := by decide +kernel
theorem dX0_fits_39 : decode cX0_fits 39 = .ok (.aload_n 0, 1) := by decide +kernel
theorem dX0_fits_40 : decode cX0_fits 40 = .ok (.invokevirtual 42, 3) := by decide +kernel
theorem dX0_fits_43 : decode cX0_fits 43 = .ok (.ifCond .ne 5, 3) := by decide +kernel
theorem dX0_fits_46 : decode cX0_fits 46 = .ok (.iconst 0, 1) := by decide +kernel
theorem dX0_fits_47 : decode cX0_fits 47 = .ok (.ireturn, 1) := by decide +kernel
theorem dX0_fits_48 : decode cX0_fits 48 = .ok (.aload_n 0, 1) := by decide +kernel
theorem dX0_fits_49 : decode cX0_fits 49 = .ok (.invokevirtual 45, 3) := by decide +kernel
theorem dX0_fits_52 : decode cX0_fits 52 = .ok (.aload_n 0, 1) := by decide +kernel
theorem dX0_fits_53 : decode cX0_fits 53 = .ok (.aload_n 0, 1) := by decide +kernel
theorem dX0_fits_54 : decode cX0_fits 54 = .ok (.getfield 48, 3) := by decide +kernel
theorem dX0_fits_57 : decode cX0_fits 57 = .ok (.iconst (-1), 1) := by decide +kernel
theorem dX0_fits_58 : decode cX0_fits 58 = .ok (.if_icmp .ne 21, 3) := by decide +kernel
theorem dX0_fits_61 : decode cX0_fits 61 = .ok (.aload_n 0, 1) := by decide +kernel
theorem dX0_fits_62 : decode cX0_fits 62 = .ok (.getfield 51, 3) := by decide +kernel
theorem dX0_fits_65 : decode cX0_fits 65 = .ok (.iconst (-1), 1) := by decide +kernel
theorem dX0_fits_66 : decode cX0_fits 66 = .ok (.if_icmp .ne 13, 3) := by decide +kernel
theorem dX0_fits_69 : decode cX0_fits 69 = .ok (.aload_n 0, 1) := by decide +kernel
theorem dX0_fits_70 : decode cX0_fits 70 = .ok (.getfield 54, 3) := by decide +kernel
theorem dX0_fits_73 : decode cX0_fits 73 = .ok (.invokestatic 57, 3) := by decide +kernel
theorem dX0_fits_76 : decode cX0_fits 76 = .ok (.ifCond .eq 7, 3) := by decide +kernel
theorem dX0_fits_79 : decode cX0_fits 79 = .ok (.iconst 1, 1) := by decide +kernel
theorem dX0_fits_80 : decode cX0_fits 80 = .ok (.goto 4, 3) := by decide +kernel
theorem dX0_fits_83 : decode cX0_fits 83 = .ok (.iconst 0, 1) := by decide +kernel
theorem dX0_fits_84 : decode cX0_fits 84 = .ok (.putfield 61, 3) := by decide +kernel
theorem dX0_fits_87 : decode cX0_fits 87 = .ok (.aload_n 0, 1) := by decide +kernel
theorem dX0_fits_88 : decode cX0_fits 88 = .ok (.aload_n 1, 1) := by decide +kernel
theorem dX0_fits_89 : decode cX0_fits 89 = .ok (.getfield 21, 3) := by decide +kernel
theorem dX0_fits_92 : decode cX0_fits 92 = .ok (.aload_n 0, 1) := by decide +kernel
theorem dX0_fits_93 : decode cX0_fits 93 = .ok (.invokevirtual 65, 3) := by decide +kernel
theorem dX0_fits_96 : decode cX0_fits 96 = .ok (.ifCond .eq 7, 3) := by decide +kernel
theorem dX0_fits_99 : decode cX0_fits 99 = .ok (.iconst 1, 1) := by decide +kernel
theorem dX0_fits_100 : decode cX0_fits 100 = .ok (.goto 4, 3) := by decide +kernel
theorem dX0_fits_103 : decode cX0_fits 103 = .ok (.iconst 0, 1) := by decide +kernel
theorem dX0_fits_104 : decode cX0_fits 104 = .ok (.isub, 1) := by decide +kernel
theorem dX0_fits_105 : decode cX0_fits 105 = .ok (.aload_n 0, 1) := by decide +kernel
theorem dX0_fits_106 : decode cX0_fits 106 = .ok (.invokevirtual 68, 3) := by decide +kernel
theorem dX0_fits_109 : decode cX0_fits 109 = .ok (.ifCond .eq 7, 3) := by decide +kernel
theorem dX0_fits_112 : decode cX0_fits 112 = .ok (.iconst 1, 1) := by decide +kernel
theorem dX0_fits_113 : decode cX0_fits 113 = .ok (.goto 4, 3) := by decide +kernel
theorem dX0_fits_116 : decode cX0_fits 116 = .ok (.iconst 0, 1) := by decide +kernel
theorem dX0_fits_117 : decode cX0_fits 117 = .ok (.iadd, 1) := by decide +kernel
theorem dX0_fits_118 : decode cX0_fits 118 = .ok (.putfield 71, 3) := by decide +kernel
theorem dX0_fits_121 : decode cX0_fits 121 = .ok (.aload_n 0, 1) := by decide +kernel
theorem dX0_fits_122 : decode cX0_fits 122 = .ok (.getfield 74, 3) := by decide +kernel
theorem dX0_fits_125 : decode cX0_fits 125 = .ok (.aload_n 0, 1) := by decide +kernel
theorem dX0_fits_126 : decode cX0_fits 126 = .ok (.getfield 77, 3) := by decide +kernel
theorem dX0_fits_129 : decode cX0_fits 129 = .ok (.iadd, 1) := by decide +kernel
theorem dX0_fits_130 : decode cX0_fits 130 = .ok (.iconst 1, 1) := by decide +kernel
theorem dX0_fits_131 : decode cX0_fits 131 = .ok (.if_icmp .lt 21, 3) := by decide +kernel
theorem dX0_fits_134 : decode cX0_fits 134 = .ok (.aload_n 0, 1) := by decide +kernel
theorem dX0_fits_135 : decode cX0_fits 135 = .ok (.getfield 74, 3) := by decide +kernel
theorem dX0_fits_138 : decode cX0_fits 138 = .ok (.aload_n 0, 1) := by decide +kernel
theorem dX0_fits_139 : decode cX0_fits 139 = .ok (.getfield 77, 3) := by decide +kernel
theorem dX0_fits_142 : decode cX0_fits 142 = .ok (.iadd, 1) := by decide +kernel
theorem dX0_fits_143 : decode cX0_fits 143 = .ok (.bipush 12, 2) := by decide +kernel
theorem dX0_fits_145 : decode cX0_fits 145 = .ok (.if_icmp .gt 7, 3) := by decide +kernel
theorem dX0_fits_148 : decode cX0_fits 148 = .ok (.iconst 1, 1) := by decide +kernel
theorem dX0_fits_149 : decode cX0_fits 149 = .ok (.goto 4, 3) := by decide +kernel
theorem dX0_fits_152 : decode cX0_fits 152 = .ok (.iconst 0, 1) := by decide +kernel
theorem dX0_fits_153 : decode cX0_fits 153 = .ok (.ireturn, 1) := by decide +kernel
def m_E_fits_117 (b : Nat → Int32) (sv : Nat → Int32) (sr : Nat → Int32) (t0 : Int32) (t1 : Int32) (v : Nat → Int32) (rw : Nat → Int32) (pw : Nat → Int32) : Option ((Int32) × (Nat → Int32) × (Nat → Int32) × (Nat → Int32)) := (if (((upd v 1 (t1 + t0)) 2) + ((upd v 1 (t1 + t0)) 3)) < 1 then (zbo 0 (some (0, (upd v 1 (t1 + t0)), rw, pw))) else (if 12 < (((upd v 1 (t1 + t0)) 2) + ((upd v 1 (t1 + t0)) 3)) then (zbo 0 (some (0, (upd v 1 (t1 + t0)), rw, pw))) else (zbo 1 (some (1, (upd v 1 (t1 + t0)), rw, pw)))))
def m_E_fits_104 (b : Nat → Int32) (sv : Nat → Int32) (sr : Nat → Int32) (t0 : Int32) (t1 : Int32) (v : Nat → Int32) (rw : Nat → Int32) (pw : Nat → Int32) : Option ((Int32) × (Nat → Int32) × (Nat → Int32) × (Nat → Int32)) := (m_E_isLetterSign v b rw pw).bind (fun q17 => (if q17 = 0 then m_E_fits_117 b sv sr 0 (t1 - t0) v rw pw else m_E_fits_117 b sv sr 1 (t1 - t0) v rw pw))
def m_E_fits_84 (b : Nat → Int32) (sv : Nat → Int32) (sr : Nat → Int32) (t0 : Int32) (v : Nat → Int32) (rw : Nat → Int32) (pw : Nat → Int32) : Option ((Int32) × (Nat → Int32) × (Nat → Int32) × (Nat → Int32)) := zbo t0 ((m_E_hasHiddenPoint (upd v 4 t0) b rw pw).bind (fun q15 => (if q15 = 0 then m_E_fits_104 b sv sr 0 (sv 1) (upd v 4 t0) rw pw else m_E_fits_104 b sv sr 1 (sv 1) (upd v 4 t0) rw pw)))
def m_E_fits_79 (b : Nat → Int32) (sv : Nat → Int32) (sr : Nat → Int32)  (v : Nat → Int32) (rw : Nat → Int32) (pw : Nat → Int32) : Option ((Int32) × (Nat → Int32) × (Nat → Int32) × (Nat → Int32)) := m_E_fits_84 b sv sr 1 v rw pw
def m_E_fits  (v : Nat → Int32) (b : Nat → Int32) (rw : Nat → Int32) (pw : Nat → Int32) (sv : Nat → Int32) (sr : Nat → Int32)  : Option ((Int32) × (Nat → Int32) × (Nat → Int32) × (Nat → Int32)) := zcp (sv 1) 24 ((m_E_takeApart (sv 1) v b (va_cpy sr rw 0 0 (sv 1).toNatClampNeg) pw).bind (fun q2 => (m_E_countBody q2 b (va_cpy sr rw 0 0 (sv 1).toNatClampNeg) pw).bind (fun q3 => (if q3.1 = 0 then (zbo 0 (some (0, q3.2, (va_cpy sr rw 0 0 (sv 1).toNatClampNeg), pw))) else (m_E_signsAgree q3.2 b (va_cpy sr rw 0 0 (sv 1).toNatClampNeg) pw).bind (fun q6 => (if q6 = 0 then (zbo 0 (some (0, q3.2, (va_cpy sr rw 0 0 (sv 1).toNatClampNeg), pw))) else (m_E_fillsStandRight q3.2 b (va_cpy sr rw 0 0 (sv 1).toNatClampNeg) pw).bind (fun q9 => (if q9 = 0 then (zbo 0 (some (0, q3.2, (va_cpy sr rw 0 0 (sv 1).toNatClampNeg), pw))) else (m_E_placeDigits q3.2 b (va_cpy sr rw 0 0 (sv 1).toNatClampNeg) pw).bind (fun q11 => (if (q11.1 7) = (-1) then (if (q11.1 8) = (-1) then (m_E_isSign (q11.1 11)).bind (fun q25 => (if q25 = 0 then m_E_fits_84 b sv sr 0 q11.1 (va_cpy sr rw 0 0 (sv 1).toNatClampNeg) q11.2 else m_E_fits_79 b sv sr q11.1 (va_cpy sr rw 0 0 (sv 1).toNatClampNeg) q11.2)) else m_E_fits_79 b sv sr q11.1 (va_cpy sr rw 0 0 (sv 1).toNatClampNeg) q11.2) else m_E_fits_79 b sv sr q11.1 (va_cpy sr rw 0 0 (sv 1).toNatClampNeg) q11.2))))))))))
section
variable {p : Program} {l : Launch} {e : Env} {s : State} {m : MethodId} {args : Array Value} {below : List Frame} {meth : Method} {c : Code} {D : va_G} {w0 : va_W} {aE bE rE pE aS rS : Nat} {c1 c2 c3 cs : ClassId} {b : Nat → Int32} {sv : Nat → Int32} {sr : Nat → Int32}
set_option maxRecDepth 100000 in
set_option maxHeartbeats 4000000 in
theorem b_E_fits_117 (G : zG p s m args meth c cX0_fits RX0 2 (some .boolean)) (hK : va_K D vwCl (wES_t c1 c2 c3 cs) s) (hX : zC (va_A w0 s.heap.size) s) {res : (Int32) × (Nat → Int32) × (Nat → Int32) × (Nat → Int32)} : ∀ (t0 : Int32) (t1 : Int32) (v : Nat → Int32) (rw : Nat → Int32) (pw : Nat → Int32), m_E_fits_117 b sv sr t0 t1 v rw pw = some res → zB p l e (zR 4 84) s m args below meth c D vwCl (va_A w0 s.heap.size) (MQ below (zQi D vwCl w0 (wES aE bE rE pE aS rS c1 c2 c3 cs res.2.1 b res.2.2.1 res.2.2.2 sv sr) s.heap.size res.1) args s 0 0 (va_A w0 s.heap.size)) 2 (wES aE bE rE pE aS rS c1 c2 c3 cs v b rw pw sv sr) [(0, .ref aE)] 117 [.int t0, .int t1, .ref aE] := by
  intro t0 t1 v rw pw hm H locs ls hP hD hS hl
  unfold m_E_fits_117 at hm
  have G0 := G
  obtain ⟨hx, hb, hr, hml, hown, hw, hlk⟩ := G
  have hA : ∀ q, s.heap.size ≤ q → va_A w0 s.heap.size q := fun q h => Or.inr h
  refine lv_iadd hx hb dX0_fits_117 ?_
  refine va_put (D := D) (ci := 0) (v := .int (t1 + t0)) (ty := .int) (C := RX0) (T := TX0) (N := 16) hx hb hw zinX0 tyX0 tyX0_ok nmX0 hown hK hP hD hS 0 rfl rfl 1 (by decide) (hw _ zw302) (fun x9 h9 => u_same (hw _ zw301) x9 h9) rfl (by decide +kernel) rfl rfl (Nat.le_of_ble_eq_true rfl) dX0_fits_118 (fun H locs hP hD hS => ?_)
  have hP : va_P D vwCl (wES aE bE rE pE aS rS c1 c2 c3 cs (upd v 1 (t1 + t0)) b rw pw sv sr) H := hP
  have hD : va_D _ (wES aE bE rE pE aS rS c1 c2 c3 cs (upd v 1 (t1 + t0)) b rw pw sv sr) := hD
  refine lv_aload_n hx hb dX0_fits_121 rfl (lv_at hl 0 rfl) ?_
  refine va_get (D := D) (ci := 0) (v := .int ((upd v 1 (t1 + t0)) 2)) (C := RX0) (T := TX0) (N := 16) hx hb hw zinX0 hown hK hP 0 rfl rfl 2 (by decide) (hw _ zw289) (fun x9 h9 => u_same (hw _ zw288) x9 h9) rfl dX0_fits_122 ?_
  refine lv_aload_n hx hb dX0_fits_125 rfl (lv_at hl 0 rfl) ?_
  refine va_get (D := D) (ci := 0) (v := .int ((upd v 1 (t1 + t0)) 3)) (C := RX0) (T := TX0) (N := 16) hx hb hw zinX0 hown hK hP 0 rfl rfl 3 (by decide) (hw _ zw291) (fun x9 h9 => u_same (hw _ zw290) x9 h9) rfl dX0_fits_126 ?_
  refine lv_iadd hx hb dX0_fits_129 ?_
  refine lv_iconst (v := 1) hx hb dX0_fits_130 (by decide) ?_
  refine lv_icmp_lt (tgt := 152) hx hb dX0_fits_131 rfl (fun cd19 => ?_) (fun cd19 => ?_)
  · replace hm := zt cd19 hm
    refine lv_iconst (v := 0) hx hb dX0_fits_152 (by decide) ?_
    obtain ⟨hz20, -, hm⟩ := zbo_s hm
    cases hm
    exact zretz hx hb hr hlk hz20 hP hD hS dX0_fits_153
  · replace hm := zf cd19 hm
    refine lv_aload_n hx hb dX0_fits_134 rfl (lv_at hl 0 rfl) ?_
    refine va_get (D := D) (ci := 0) (v := .int ((upd v 1 (t1 + t0)) 2)) (C := RX0) (T := TX0) (N := 16) hx hb hw zinX0 hown hK hP 0 rfl rfl 2 (by decide) (hw _ zw289) (fun x9 h9 => u_same (hw _ zw288) x9 h9) rfl dX0_fits_135 ?_
    refine lv_aload_n hx hb dX0_fits_138 rfl (lv_at hl 0 rfl) ?_
    refine va_get (D := D) (ci := 0) (v := .int ((upd v 1 (t1 + t0)) 3)) (C := RX0) (T := TX0) (N := 16) hx hb hw zinX0 hown hK hP 0 rfl rfl 3 (by decide) (hw _ zw291) (fun x9 h9 => u_same (hw _ zw290) x9 h9) rfl dX0_fits_139 ?_
    refine lv_iadd hx hb dX0_fits_142 ?_
    refine lv_bipush (v := 12) hx hb dX0_fits_143 (by decide) ?_
    refine lv_icmp_gt (tgt := 152) hx hb dX0_fits_145 rfl (fun cd21 => ?_) (fun cd21 => ?_)
    · replace hm := zt cd21 hm
      refine lv_iconst (v := 0) hx hb dX0_fits_152 (by decide) ?_
      obtain ⟨hz22, -, hm⟩ := zbo_s hm
      cases hm
      exact zretz hx hb hr hlk hz22 hP hD hS dX0_fits_153
    · replace hm := zf cd21 hm
      refine lv_iconst (v := 1) hx hb dX0_fits_148 (by decide) ?_
      refine lv_goto (tgt := 153) hx hb dX0_fits_149 rfl ?_
      obtain ⟨hz23, -, hm⟩ := zbo_s hm
      cases hm
      exact zretz hx hb hr hlk hz23 hP hD hS dX0_fits_153
set_option maxRecDepth 100000 in
set_option maxHeartbeats 4000000 in
theorem b_E_fits_104 (G : zG p s m args meth c cX0_fits RX0 2 (some .boolean)) (hK : va_K D vwCl (wES_t c1 c2 c3 cs) s) (hX : zC (va_A w0 s.heap.size) s) {res : (Int32) × (Nat → Int32) × (Nat → Int32) × (Nat → Int32)} : ∀ (t0 : Int32) (t1 : Int32) (v : Nat → Int32) (rw : Nat → Int32) (pw : Nat → Int32), m_E_fits_104 b sv sr t0 t1 v rw pw = some res → zB p l e (zR 4 84) s m args below meth c D vwCl (va_A w0 s.heap.size) (MQ below (zQi D vwCl w0 (wES aE bE rE pE aS rS c1 c2 c3 cs res.2.1 b res.2.2.1 res.2.2.2 sv sr) s.heap.size res.1) args s 0 0 (va_A w0 s.heap.size)) 2 (wES aE bE rE pE aS rS c1 c2 c3 cs v b rw pw sv sr) [(0, .ref aE)] 104 [.int t0, .int t1, .ref aE] := by
  intro t0 t1 v rw pw hm H locs ls hP hD hS hl
  unfold m_E_fits_104 at hm
  have G0 := G
  obtain ⟨hx, hb, hr, hml, hown, hw, hlk⟩ := G
  have hA : ∀ q, s.heap.size ≤ q → va_A w0 s.heap.size q := fun q h => Or.inr h
  refine lv_isub hx hb dX0_fits_104 ?_
  refine lv_aload_n hx hb dX0_fits_105 rfl (lv_at hl 0 rfl) ?_
  obtain ⟨q17, hq17, hm⟩ := zbind hm
  have hPc := hP.sub (ws' := (wE aE bE rE pE c1 c2 c3 v b rw pw)) [0, 1, 2, 3] rfl
  have hDc := hD.sub (ws' := (wE aE bE rE pE c1 c2 c3 v b rw pw)) [0, 1, 2, 3] (by decide) rfl
  have hKc := hK.sub (tys' := wE_t c1 c2 c3) [0, 1, 2] rfl
  have hFc := va_free (wc := (wE aE bE rE pE c1 c2 c3 v b rw pw)) hD hS hA [0, 1, 2, 3] rfl
  refine zbSi (wr := [(aS, .inr (2, [.ref rS, .int (sv 1)])), (rS, .inl (cs, 24, .inl sr))]) (w1 := (wE aE bE rE pE c1 c2 c3 v b rw pw)) (w' := (wES aE bE rE pE aS rS c1 c2 c3 cs v b rw pw sv sr)) (va_runV (As := []) (rest := [.int (t1 - t0), .ref aE]) ⟨hx, hb, hml, hown, hw⟩ (k_E_isLetterSign l D aE bE rE pE c1 c2 c3 _ v b rw pw  q17 hq17) (zcV (C := RX0) 0 hw (zgood zw303) rfl rfl rfl zw259 zw305 zw304 zw306 hdX0_isLetterSign ⟨Nat.le_of_ble_eq_true rfl, Nat.le_of_ble_eq_true rfl⟩) (zpreV (zpre zC_ok hX hS hFc hPc hKc hDc) (va_recv hK hP rfl (q0 := 0) rfl)) rfl rfl hl.1 rfl (lv_room (Nat.le_of_ble_eq_true rfl)) dX0_fits_106 ⟨Nat.zero_le _, Nat.zero_le _⟩) hP hD hS hFc [0, 1, 2, 3] [4, 5] [2, 3, 4, 5, 0, 1] rfl rfl (by decide) (by decide) rfl (by decide) (fun H locs hP hD hS => ?_)
  refine lv_if_eq (tgt := 116) hx hb dX0_fits_109 rfl (fun cd18 => ?_) (fun cd18 => ?_)
  · replace hm := zt cd18 hm
    refine lv_iconst (v := 0) hx hb dX0_fits_116 (by decide) ?_
    exact b_E_fits_117 G0 hK hX _ _ _ _ _ hm H _ _ hP hD hS hl
  · replace hm := zf cd18 hm
    refine lv_iconst (v := 1) hx hb dX0_fits_112 (by decide) ?_
    refine lv_goto (tgt := 117) hx hb dX0_fits_113 rfl ?_
    exact b_E_fits_117 G0 hK hX _ _ _ _ _ hm H _ _ hP hD hS hl
set_option maxRecDepth 100000 in
set_option maxHeartbeats 4000000 in
theorem b_E_fits_84 (G : zG p s m args meth c cX0_fits RX0 2 (some .boolean)) (hK : va_K D vwCl (wES_t c1 c2 c3 cs) s) (hX : zC (va_A w0 s.heap.size) s) {res : (Int32) × (Nat → Int32) × (Nat → Int32) × (Nat → Int32)} : ∀ (t0 : Int32) (v : Nat → Int32) (rw : Nat → Int32) (pw : Nat → Int32), m_E_fits_84 b sv sr t0 v rw pw = some res → zB p l e (zR 4 84) s m args below meth c D vwCl (va_A w0 s.heap.size) (MQ below (zQi D vwCl w0 (wES aE bE rE pE aS rS c1 c2 c3 cs res.2.1 b res.2.2.1 res.2.2.2 sv sr) s.heap.size res.1) args s 0 0 (va_A w0 s.heap.size)) 2 (wES aE bE rE pE aS rS c1 c2 c3 cs v b rw pw sv sr) [(0, .ref aE), (1, .ref aS)] 84 [.int t0, .ref aE] := by
  intro t0 v rw pw hm H locs ls hP hD hS hl
  unfold m_E_fits_84 at hm
  have G0 := G
  obtain ⟨hx, hb, hr, hml, hown, hw, hlk⟩ := G
  have hA : ∀ q, s.heap.size ≤ q → va_A w0 s.heap.size q := fun q h => Or.inr h
  obtain ⟨hz13, hz14, hm⟩ := zbo_s hm
  refine va_put (D := D) (ci := 0) (v := .int t0) (ty := .boolean) (C := RX0) (T := TX0) (N := 16) hx hb hw zinX0 tyX0 tyX0_ok nmX0 hown hK hP hD hS 0 rfl rfl 4 (by decide) (hw _ zw354) (fun x9 h9 => u_same (hw _ zw353) x9 h9) rfl (by decide +kernel) hz13 hz14 (Nat.le_of_ble_eq_true rfl) dX0_fits_84 (fun H locs hP hD hS => ?_)
  have hP : va_P D vwCl (wES aE bE rE pE aS rS c1 c2 c3 cs (upd v 4 t0) b rw pw sv sr) H := hP
  have hD : va_D _ (wES aE bE rE pE aS rS c1 c2 c3 cs (upd v 4 t0) b rw pw sv sr) := hD
  refine lv_aload_n hx hb dX0_fits_87 rfl (lv_at hl 0 rfl) ?_
  refine lv_aload_n hx hb dX0_fits_88 rfl (lv_at hl 1 rfl) ?_
  refine va_getN (D := D) (ci := 2) (v := .int (sv 1)) (C := RX3) (T := TX3) (N := 2) hx hb hw zinX3 hown hK hP 4 rfl rfl 1 (by decide) (va_Nw.use rfl (hX.1 _ zn9)) (fun _ h9 => h9) rfl dX0_fits_89 ?_
  refine lv_aload_n hx hb dX0_fits_92 rfl (lv_at hl 0 rfl) ?_
  obtain ⟨q15, hq15, hm⟩ := zbind hm
  have hPc := hP.sub (ws' := (wE aE bE rE pE c1 c2 c3 (upd v 4 t0) b rw pw)) [0, 1, 2, 3] rfl
  have hDc := hD.sub (ws' := (wE aE bE rE pE c1 c2 c3 (upd v 4 t0) b rw pw)) [0, 1, 2, 3] (by decide) rfl
  have hKc := hK.sub (tys' := wE_t c1 c2 c3) [0, 1, 2] rfl
  have hFc := va_free (wc := (wE aE bE rE pE c1 c2 c3 (upd v 4 t0) b rw pw)) hD hS hA [0, 1, 2, 3] rfl
  refine zbSi (wr := [(aS, .inr (2, [.ref rS, .int (sv 1)])), (rS, .inl (cs, 24, .inl sr))]) (w1 := (wE aE bE rE pE c1 c2 c3 (upd v 4 t0) b rw pw)) (w' := (wES aE bE rE pE aS rS c1 c2 c3 cs (upd v 4 t0) b rw pw sv sr)) (va_runV (As := []) (rest := [.int (sv 1), .ref aE]) ⟨hx, hb, hml, hown, hw⟩ (k_E_hasHiddenPoint l D aE bE rE pE c1 c2 c3 _ (upd v 4 t0) b rw pw  q15 hq15) (zcV (C := RX0) 0 hw (zgood zw297) rfl rfl rfl zw259 zw299 zw298 zw300 hdX0_hasHiddenPoint ⟨Nat.le_of_ble_eq_true rfl, Nat.le_of_ble_eq_true rfl⟩) (zpreV (zpre zC_ok hX hS hFc hPc hKc hDc) (va_recv hK hP rfl (q0 := 0) rfl)) rfl rfl hl.1 rfl (lv_room (Nat.le_of_ble_eq_true rfl)) dX0_fits_93 ⟨Nat.zero_le _, Nat.zero_le _⟩) hP hD hS hFc [0, 1, 2, 3] [4, 5] [2, 3, 4, 5, 0, 1] rfl rfl (by decide) (by decide) rfl (by decide) (fun H locs hP hD hS => ?_)
  refine lv_if_eq (tgt := 103) hx hb dX0_fits_96 rfl (fun cd16 => ?_) (fun cd16 => ?_)
  · replace hm := zt cd16 hm
    refine lv_iconst (v := 0) hx hb dX0_fits_103 (by decide) ?_
    exact b_E_fits_104 G0 hK hX _ _ _ _ _ hm H _ _ hP hD hS (lv_sub hl [0] rfl)
  · replace hm := zf cd16 hm
    refine lv_iconst (v := 1) hx hb dX0_fits_99 (by decide) ?_
    refine lv_goto (tgt := 104) hx hb dX0_fits_100 rfl ?_
    exact b_E_fits_104 G0 hK hX _ _ _ _ _ hm H _ _ hP hD hS (lv_sub hl [0] rfl)
set_option maxRecDepth 100000 in
set_option maxHeartbeats 4000000 in
theorem b_E_fits_79 (G : zG p s m args meth c cX0_fits RX0 2 (some .boolean)) (hK : va_K D vwCl (wES_t c1 c2 c3 cs) s) (hX : zC (va_A w0 s.heap.size) s) {res : (Int32) × (Nat → Int32) × (Nat → Int32) × (Nat → Int32)} : ∀ (v : Nat → Int32) (rw : Nat → Int32) (pw : Nat → Int32), m_E_fits_79 b sv sr v rw pw = some res → zB p l e (zR 4 84) s m args below meth c D vwCl (va_A w0 s.heap.size) (MQ below (zQi D vwCl w0 (wES aE bE rE pE aS rS c1 c2 c3 cs res.2.1 b res.2.2.1 res.2.2.2 sv sr) s.heap.size res.1) args s 0 0 (va_A w0 s.heap.size)) 2 (wES aE bE rE pE aS rS c1 c2 c3 cs v b rw pw sv sr) [(0, .ref aE), (1, .ref aS)] 79 [.ref aE] := by
  intro v rw pw hm H locs ls hP hD hS hl
  unfold m_E_fits_79 at hm
  have G0 := G
  obtain ⟨hx, hb, hr, hml, hown, hw, hlk⟩ := G
  have hA : ∀ q, s.heap.size ≤ q → va_A w0 s.heap.size q := fun q h => Or.inr h
  refine lv_iconst (v := 1) hx hb dX0_fits_79 (by decide) ?_
  refine lv_goto (tgt := 84) hx hb dX0_fits_80 rfl ?_
  exact b_E_fits_84 G0 hK hX _ _ _ _ hm H _ _ hP hD hS hl
end
set_option maxRecDepth 100000 in
set_option maxHeartbeats 4000000 in
theorem k_E_fits (l : Launch) (D : va_G) (aE bE rE pE aS rS : Nat) (c1 c2 c3 cs : ClassId) (sz : Nat)  (v : Nat → Int32) (b : Nat → Int32) (rw : Nat → Int32) (pw : Nat → Int32) (sv : Nat → Int32) (sr : Nat → Int32) (res : (Int32) × (Nat → Int32) × (Nat → Int32) × (Nat → Int32)) (hm : m_E_fits  v b rw pw sv sr  = some res) : Met l yX0_fits (Cond.code yX0_fits cX0_fits 2 (some .boolean) :: zBIG) (zR 4 84) (va_Pc [.ref aE, .ref aS] (zP zC D vwCl (wES_t c1 c2 c3 cs) (wES aE bE rE pE aS rS c1 c2 c3 cs v b rw pw sv sr) sz)) (zQi D vwCl (wES aE bE rE pE aS rS c1 c2 c3 cs v b rw pw sv sr) (wES aE bE rE pE aS rS c1 c2 c3 cs res.2.1 b res.2.2.1 res.2.2.2 sv sr) sz res.1) 0 0 (va_A (wES aE bE rE pE aS rS c1 c2 c3 cs v b rw pw sv sr) sz) := by
  refine zEnter RX0 [.ref aE, .ref aS] (by decide) rfl (Nat.le_of_ble_eq_true rfl) (fun p e s m below meth c ls G hK hX hP hD hsz hl => ?_)
  subst hsz
  unfold m_E_fits at hm
  have hl : lv_has ls 2 [(0, .ref aE), (1, .ref aS)] := hl
  have hS : va_S (va_A (wES aE bE rE pE aS rS c1 c2 c3 cs v b rw pw sv sr) s.heap.size) s.heap s.heap [] := va_S.rf
  have hA : ∀ q, s.heap.size ≤ q → va_A (wES aE bE rE pE aS rS c1 c2 c3 cs v b rw pw sv sr) s.heap.size q := fun q h => Or.inr h
  have G0 := G
  obtain ⟨hx, hb, hr, hml, hown, hw, hlk⟩ := G
  refine lv_aload_n hx hb dX0_fits_0 rfl (lv_at hl 1 rfl) ?_
  refine va_getN (D := D) (ci := 2) (v := .ref rS) (C := RX3) (T := TX3) (N := 2) hx hb hw zinX3 hown hK hP 4 rfl rfl 0 (by decide) (va_Nw.use rfl (hX.1 _ zn8)) (fun _ h9 => h9) rfl dX0_fits_1 ?_
  refine lv_iconst (v := 0) hx hb dX0_fits_4 (by decide) ?_
  refine lv_aload_n hx hb dX0_fits_5 rfl (lv_at hl 0 rfl) ?_
  refine va_get (D := D) (ci := 0) (v := .ref rE) (C := RX0) (T := TX0) (N := 16) hx hb hw zinX0 hown hK hP 0 rfl rfl 5 (by decide) (hw _ zw256) (fun _ h9 => h9) rfl dX0_fits_6 ?_
  refine lv_iconst (v := 0) hx hb dX0_fits_9 (by decide) ?_
  refine lv_aload_n hx hb dX0_fits_10 rfl (lv_at hl 1 rfl) ?_
  refine va_getN (D := D) (ci := 2) (v := .int (sv 1)) (C := RX3) (T := TX3) (N := 2) hx hb hw zinX3 hown hK hP 4 rfl rfl 1 (by decide) (va_Nw.use rfl (hX.1 _ zn9)) (fun _ h9 => h9) rfl dX0_fits_11 ?_
  obtain ⟨hn1, hl1, hm⟩ := zcp_s hm
  refine va_copyi (sp := 0) (dp := 0) (n := (sv 1)) (f := sr) (g := rw) (ty := .int) hx hb (hml.trans hl.1.symm) hown (hw _ zw329) (hw _ zw330) (hw _ zw331) (hw _ zw332) hK hP hD hS 5 2 3 1 rfl rfl rfl rfl rfl (by decide) (by decide) hn1 hl1 hl1 (fun _ _ => rfl) (Nat.le_of_ble_eq_true rfl) (Nat.le_of_ble_eq_true rfl) dX0_fits_14 (fun H locs hP hD hS => ?_)
  have hP : va_P D vwCl (wES aE bE rE pE aS rS c1 c2 c3 cs v b (va_cpy sr rw 0 0 (sv 1).toNatClampNeg) pw sv sr) H := hP
  have hD : va_D _ (wES aE bE rE pE aS rS c1 c2 c3 cs v b (va_cpy sr rw 0 0 (sv 1).toNatClampNeg) pw sv sr) := hD
  refine lv_aload_n hx hb dX0_fits_17 rfl (lv_at hl 0 rfl) ?_
  refine lv_aload_n hx hb dX0_fits_18 rfl (lv_at hl 1 rfl) ?_
  refine va_getN (D := D) (ci := 2) (v := .int (sv 1)) (C := RX3) (T := TX3) (N := 2) hx hb hw zinX3 hown hK hP 4 rfl rfl 1 (by decide) (va_Nw.use rfl (hX.1 _ zn9)) (fun _ h9 => h9) rfl dX0_fits_19 ?_
  obtain ⟨q2, hq2, hm⟩ := zbind hm
  have hPc := hP.sub (ws' := (wE aE bE rE pE c1 c2 c3 v b (va_cpy sr rw 0 0 (sv 1).toNatClampNeg) pw)) [0, 1, 2, 3] rfl
  have hDc := hD.sub (ws' := (wE aE bE rE pE c1 c2 c3 v b (va_cpy sr rw 0 0 (sv 1).toNatClampNeg) pw)) [0, 1, 2, 3] (by decide) rfl
  have hKc := hK.sub (tys' := wE_t c1 c2 c3) [0, 1, 2] rfl
  have hFc := va_free (wc := (wE aE bE rE pE c1 c2 c3 v b (va_cpy sr rw 0 0 (sv 1).toNatClampNeg) pw)) hD hS hA [0, 1, 2, 3] rfl
  refine zbSv (wr := [(aS, .inr (2, [.ref rS, .int (sv 1)])), (rS, .inl (cs, 24, .inl sr))]) (w1 := (wE aE bE rE pE c1 c2 c3 q2 b (va_cpy sr rw 0 0 (sv 1).toNatClampNeg) pw)) (w' := (wES aE bE rE pE aS rS c1 c2 c3 cs q2 b (va_cpy sr rw 0 0 (sv 1).toNatClampNeg) pw sv sr)) (va_runV (As := [.int (sv 1)]) (rest := []) ⟨hx, hb, hml, hown, hw⟩ (k_E_takeApart l D aE bE rE pE c1 c2 c3 _ (sv 1) v b (va_cpy sr rw 0 0 (sv 1).toNatClampNeg) pw  q2 hq2) (zcV (C := RX0) 1 hw (zgood zw333) rfl rfl rfl zw259 zw335 zw334 zw336 hdX0_takeApart ⟨Nat.le_of_ble_eq_true rfl, Nat.le_of_ble_eq_true rfl⟩) (zpreV (zpre zC_ok hX hS hFc hPc hKc hDc) (va_recv hK hP rfl (q0 := 0) rfl)) rfl rfl hl.1 rfl (lv_room (Nat.le_of_ble_eq_true rfl)) dX0_fits_22 ⟨Nat.zero_le _, Nat.zero_le _⟩) hP hD hS hFc [0, 1, 2, 3] [4, 5] [2, 3, 4, 5, 0, 1] rfl rfl (by decide) (by decide) rfl (by decide) (fun H locs hP hD hS => ?_)
  refine lv_aload_n hx hb dX0_fits_25 rfl (lv_at hl 0 rfl) ?_
  obtain ⟨q3, hq3, hm⟩ := zbind hm
  have hPc := hP.sub (ws' := (wE aE bE rE pE c1 c2 c3 q2 b (va_cpy sr rw 0 0 (sv 1).toNatClampNeg) pw)) [0, 1, 2, 3] rfl
  have hDc := hD.sub (ws' := (wE aE bE rE pE c1 c2 c3 q2 b (va_cpy sr rw 0 0 (sv 1).toNatClampNeg) pw)) [0, 1, 2, 3] (by decide) rfl
  have hKc := hK.sub (tys' := wE_t c1 c2 c3) [0, 1, 2] rfl
  have hFc := va_free (wc := (wE aE bE rE pE c1 c2 c3 q2 b (va_cpy sr rw 0 0 (sv 1).toNatClampNeg) pw)) hD hS hA [0, 1, 2, 3] rfl
  refine zbSi (wr := [(aS, .inr (2, [.ref rS, .int (sv 1)])), (rS, .inl (cs, 24, .inl sr))]) (w1 := (wE aE bE rE pE c1 c2 c3 q3.2 b (va_cpy sr rw 0 0 (sv 1).toNatClampNeg) pw)) (w' := (wES aE bE rE pE aS rS c1 c2 c3 cs q3.2 b (va_cpy sr rw 0 0 (sv 1).toNatClampNeg) pw sv sr)) (va_runV (As := []) (rest := []) ⟨hx, hb, hml, hown, hw⟩ (k_E_countBody l D aE bE rE pE c1 c2 c3 _ q2 b (va_cpy sr rw 0 0 (sv 1).toNatClampNeg) pw  q3 hq3) (zcV (C := RX0) 0 hw (zgood zw337) rfl rfl rfl zw259 zw339 zw338 zw340 hdX0_countBody ⟨Nat.le_of_ble_eq_true rfl, Nat.le_of_ble_eq_true rfl⟩) (zpreV (zpre zC_ok hX hS hFc hPc hKc hDc) (va_recv hK hP rfl (q0 := 0) rfl)) rfl rfl hl.1 rfl (lv_room (Nat.le_of_ble_eq_true rfl)) dX0_fits_26 ⟨Nat.zero_le _, Nat.zero_le _⟩) hP hD hS hFc [0, 1, 2, 3] [4, 5] [2, 3, 4, 5, 0, 1] rfl rfl (by decide) (by decide) rfl (by decide) (fun H locs hP hD hS => ?_)
  refine lv_if_eq (tgt := 46) hx hb dX0_fits_29 rfl (fun cd4 => ?_) (fun cd4 => ?_)
  · replace hm := zt cd4 hm
    refine lv_iconst (v := 0) hx hb dX0_fits_46 (by decide) ?_
    obtain ⟨hz5, -, hm⟩ := zbo_s hm
    cases hm
    exact zretz hx hb hr hlk hz5 hP hD hS dX0_fits_47
  · replace hm := zf cd4 hm
    refine lv_aload_n hx hb dX0_fits_32 rfl (lv_at hl 0 rfl) ?_
    obtain ⟨q6, hq6, hm⟩ := zbind hm
    have hPc := hP.sub (ws' := (wE aE bE rE pE c1 c2 c3 q3.2 b (va_cpy sr rw 0 0 (sv 1).toNatClampNeg) pw)) [0, 1, 2, 3] rfl
    have hDc := hD.sub (ws' := (wE aE bE rE pE c1 c2 c3 q3.2 b (va_cpy sr rw 0 0 (sv 1).toNatClampNeg) pw)) [0, 1, 2, 3] (by decide) rfl
    have hKc := hK.sub (tys' := wE_t c1 c2 c3) [0, 1, 2] rfl
    have hFc := va_free (wc := (wE aE bE rE pE c1 c2 c3 q3.2 b (va_cpy sr rw 0 0 (sv 1).toNatClampNeg) pw)) hD hS hA [0, 1, 2, 3] rfl
    refine zbSi (wr := [(aS, .inr (2, [.ref rS, .int (sv 1)])), (rS, .inl (cs, 24, .inl sr))]) (w1 := (wE aE bE rE pE c1 c2 c3 q3.2 b (va_cpy sr rw 0 0 (sv 1).toNatClampNeg) pw)) (w' := (wES aE bE rE pE aS rS c1 c2 c3 cs q3.2 b (va_cpy sr rw 0 0 (sv 1).toNatClampNeg) pw sv sr)) (va_runV (As := []) (rest := []) ⟨hx, hb, hml, hown, hw⟩ (k_E_signsAgree l D aE bE rE pE c1 c2 c3 _ q3.2 b (va_cpy sr rw 0 0 (sv 1).toNatClampNeg) pw  q6 hq6) (zcV (C := RX0) 0 hw (zgood zw341) rfl rfl rfl zw259 zw343 zw342 zw344 hdX0_signsAgree ⟨Nat.le_of_ble_eq_true rfl, Nat.le_of_ble_eq_true rfl⟩) (zpreV (zpre zC_ok hX hS hFc hPc hKc hDc) (va_recv hK hP rfl (q0 := 0) rfl)) rfl rfl hl.1 rfl (lv_room (Nat.le_of_ble_eq_true rfl)) dX0_fits_33 ⟨Nat.zero_le _, Nat.zero_le _⟩) hP hD hS hFc [0, 1, 2, 3] [4, 5] [2, 3, 4, 5, 0, 1] rfl rfl (by decide) (by decide) rfl (by decide) (fun H locs hP hD hS => ?_)
    refine lv_if_eq (tgt := 46) hx hb dX0_fits_36 rfl (fun cd7 => ?_) (fun cd7 => ?_)
    · replace hm := zt cd7 hm
      refine lv_iconst (v := 0) hx hb dX0_fits_46 (by decide) ?_
      obtain ⟨hz8, -, hm⟩ := zbo_s hm
      cases hm
      exact zretz hx hb hr hlk hz8 hP hD hS dX0_fits_47
    · replace hm := zf cd7 hm
      refine lv_aload_n hx hb dX0_fits_39 rfl (lv_at hl 0 rfl) ?_
      obtain ⟨q9, hq9, hm⟩ := zbind hm
      have hPc := hP.sub (ws' := (wE aE bE rE pE c1 c2 c3 q3.2 b (va_cpy sr rw 0 0 (sv 1).toNatClampNeg) pw)) [0, 1, 2, 3] rfl
      have hDc := hD.sub (ws' := (wE aE bE rE pE c1 c2 c3 q3.2 b (va_cpy sr rw 0 0 (sv 1).toNatClampNeg) pw)) [0, 1, 2, 3] (by decide) rfl
      have hKc := hK.sub (tys' := wE_t c1 c2 c3) [0, 1, 2] rfl
      have hFc := va_free (wc := (wE aE bE rE pE c1 c2 c3 q3.2 b (va_cpy sr rw 0 0 (sv 1).toNatClampNeg) pw)) hD hS hA [0, 1, 2, 3] rfl
      refine zbSi (wr := [(aS, .inr (2, [.ref rS, .int (sv 1)])), (rS, .inl (cs, 24, .inl sr))]) (w1 := (wE aE bE rE pE c1 c2 c3 q3.2 b (va_cpy sr rw 0 0 (sv 1).toNatClampNeg) pw)) (w' := (wES aE bE rE pE aS rS c1 c2 c3 cs q3.2 b (va_cpy sr rw 0 0 (sv 1).toNatClampNeg) pw sv sr)) (va_runV (As := []) (rest := []) ⟨hx, hb, hml, hown, hw⟩ (k_E_fillsStandRight l D aE bE rE pE c1 c2 c3 _ q3.2 b (va_cpy sr rw 0 0 (sv 1).toNatClampNeg) pw  q9 hq9) (zcV (C := RX0) 0 hw (zgood zw345) rfl rfl rfl zw259 zw347 zw346 zw348 hdX0_fillsStandRight ⟨Nat.le_of_ble_eq_true rfl, Nat.le_of_ble_eq_true rfl⟩) (zpreV (zpre zC_ok hX hS hFc hPc hKc hDc) (va_recv hK hP rfl (q0 := 0) rfl)) rfl rfl hl.1 rfl (lv_room (Nat.le_of_ble_eq_true rfl)) dX0_fits_40 ⟨Nat.zero_le _, Nat.zero_le _⟩) hP hD hS hFc [0, 1, 2, 3] [4, 5] [2, 3, 4, 5, 0, 1] rfl rfl (by decide) (by decide) rfl (by decide) (fun H locs hP hD hS => ?_)
      refine lv_if_ne (tgt := 48) hx hb dX0_fits_43 rfl (fun cd10 => ?_) (fun cd10 => ?_)
      · replace hm := zf cd10 hm
        refine lv_aload_n hx hb dX0_fits_48 rfl (lv_at hl 0 rfl) ?_
        obtain ⟨q11, hq11, hm⟩ := zbind hm
        have hPc := hP.sub (ws' := (wE aE bE rE pE c1 c2 c3 q3.2 b (va_cpy sr rw 0 0 (sv 1).toNatClampNeg) pw)) [0, 1, 2, 3] rfl
        have hDc := hD.sub (ws' := (wE aE bE rE pE c1 c2 c3 q3.2 b (va_cpy sr rw 0 0 (sv 1).toNatClampNeg) pw)) [0, 1, 2, 3] (by decide) rfl
        have hKc := hK.sub (tys' := wE_t c1 c2 c3) [0, 1, 2] rfl
        have hFc := va_free (wc := (wE aE bE rE pE c1 c2 c3 q3.2 b (va_cpy sr rw 0 0 (sv 1).toNatClampNeg) pw)) hD hS hA [0, 1, 2, 3] rfl
        refine zbSv (wr := [(aS, .inr (2, [.ref rS, .int (sv 1)])), (rS, .inl (cs, 24, .inl sr))]) (w1 := (wE aE bE rE pE c1 c2 c3 q11.1 b (va_cpy sr rw 0 0 (sv 1).toNatClampNeg) q11.2)) (w' := (wES aE bE rE pE aS rS c1 c2 c3 cs q11.1 b (va_cpy sr rw 0 0 (sv 1).toNatClampNeg) q11.2 sv sr)) (va_runV (As := []) (rest := []) ⟨hx, hb, hml, hown, hw⟩ (k_E_placeDigits l D aE bE rE pE c1 c2 c3 _ q3.2 b (va_cpy sr rw 0 0 (sv 1).toNatClampNeg) pw  q11 hq11) (zcV (C := RX0) 0 hw (zgood zw349) rfl rfl rfl zw259 zw351 zw350 zw352 hdX0_placeDigits ⟨Nat.le_of_ble_eq_true rfl, Nat.le_of_ble_eq_true rfl⟩) (zpreV (zpre zC_ok hX hS hFc hPc hKc hDc) (va_recv hK hP rfl (q0 := 0) rfl)) rfl rfl hl.1 rfl (lv_room (Nat.le_of_ble_eq_true rfl)) dX0_fits_49 ⟨Nat.zero_le _, Nat.zero_le _⟩) hP hD hS hFc [0, 1, 2, 3] [4, 5] [2, 3, 4, 5, 0, 1] rfl rfl (by decide) (by decide) rfl (by decide) (fun H locs hP hD hS => ?_)
        refine lv_aload_n hx hb dX0_fits_52 rfl (lv_at hl 0 rfl) ?_
        refine lv_aload_n hx hb dX0_fits_53 rfl (lv_at hl 0 rfl) ?_
        refine va_get (D := D) (ci := 0) (v := .int (q11.1 7)) (C := RX0) (T := TX0) (N := 16) hx hb hw zinX0 hown hK hP 0 rfl rfl 7 (by decide) (hw _ zw266) (fun _ h9 => h9) rfl dX0_fits_54 ?_
        refine lv_iconst (v := (-1)) hx hb dX0_fits_57 (by decide) ?_
        refine lv_icmp_ne (tgt := 79) hx hb dX0_fits_58 rfl (fun cd12 => ?_) (fun cd12 => ?_)
        · replace hm := zf cd12 hm
          exact b_E_fits_79 G0 hK hX _ _ _ hm _ _ _ hP hD hS hl
        · replace hm := zt cd12 hm
          refine lv_aload_n hx hb dX0_fits_61 rfl (lv_at hl 0 rfl) ?_
          refine va_get (D := D) (ci := 0) (v := .int (q11.1 8)) (C := RX0) (T := TX0) (N := 16) hx hb hw zinX0 hown hK hP 0 rfl rfl 8 (by decide) (hw _ zw257) (fun _ h9 => h9) rfl dX0_fits_62 ?_
          refine lv_iconst (v := (-1)) hx hb dX0_fits_65 (by decide) ?_
          refine lv_icmp_ne (tgt := 79) hx hb dX0_fits_66 rfl (fun cd24 => ?_) (fun cd24 => ?_)
          · replace hm := zf cd24 hm
            exact b_E_fits_79 G0 hK hX _ _ _ hm _ _ _ hP hD hS hl
          · replace hm := zt cd24 hm
            refine lv_aload_n hx hb dX0_fits_69 rfl (lv_at hl 0 rfl) ?_
            refine va_get (D := D) (ci := 0) (v := .int (q11.1 11)) (C := RX0) (T := TX0) (N := 16) hx hb hw zinX0 hown hK hP 0 rfl rfl 11 (by decide) (hw _ zw272) (fun _ h9 => h9) rfl dX0_fits_70 ?_
            obtain ⟨q25, hq25, hm⟩ := zbind hm
            refine zb0i (va_runS (As := [.int (q11.1 11)]) (rest := [.ref aE]) ⟨hx, hb, hml, hown, hw⟩ (k_E_isSign l D  _ (q11.1 11)  q25 hq25) ⟨zcB 1 hw (zgood zw263) rfl rfl rfl zw259 zw265 hdX0_isSign ⟨Nat.le_of_ble_eq_true rfl, Nat.le_of_ble_eq_true rfl⟩, hw _ zw264⟩ (zpre zN_ok trivial hS (zfree0 hS hA) zP0 (hK.sub (tys' := []) [] rfl) zD0) rfl rfl hl.1 rfl (lv_room (Nat.le_of_ble_eq_true rfl)) dX0_fits_73 ⟨Nat.zero_le _, Nat.zero_le _⟩) hP hD hS (zfree0 hS hA) (fun H locs hP hD hS => ?_)
            refine lv_if_eq (tgt := 83) hx hb dX0_fits_76 rfl (fun cd26 => ?_) (fun cd26 => ?_)
            · replace hm := zt cd26 hm
              refine lv_iconst (v := 0) hx hb dX0_fits_83 (by decide) ?_
              exact b_E_fits_84 G0 hK hX _ _ _ _ hm _ _ _ hP hD hS hl
            · replace hm := zf cd26 hm
              exact b_E_fits_79 G0 hK hX _ _ _ hm _ _ _ hP hD hS hl
      · replace hm := zt cd10 hm
        refine lv_iconst (v := 0) hx hb dX0_fits_46 (by decide) ?_
        obtain ⟨hz27, -, hm⟩ := zbo_s hm
        cases hm
        exact zretz hx hb hr hlk hz27 hP hD hS dX0_fits_47

theorem dX0_standsForMore_0 : decode cX0_standsForMore 0 = .ok (.aload_n 0, 1) := by decide +kernel
theorem dX0_standsForMore_1 : decode cX0_standsForMore 1 = .ok (.getfield 15, 3) := by decide +kernel
theorem dX0_standsForMore_4 : decode cX0_standsForMore 4 = .ok (.iload_n 1, 1) := by decide +kernel
theorem dX0_standsForMore_5 : decode cX0_standsForMore 5 = .ok (.iaload, 1) := by decide +kernel
theorem dX0_standsForMore_6 : decode cX0_standsForMore 6 = .ok (.bipush 99, 2) := by decide +kernel
theorem dX0_standsForMore_8 : decode cX0_standsForMore 8 = .ok (.if_icmp .eq 22, 3) := by decide +kernel
theorem dX0_standsForMore_11 : decode cX0_standsForMore 11 = .ok (.lload_n 2, 1) := by decide +kernel
theorem dX0_standsForMore_12 : decode cX0_standsForMore 12 = .ok (.iload 4, 2) := by decide +kernel
theorem dX0_standsForMore_14 : decode cX0_standsForMore 14 = .ok (.aload_n 0, 1) := by decide +kernel
theorem dX0_standsForMore_15 : decode cX0_standsForMore 15 = .ok (.getfield 15, 3) := by decide +kernel
theorem dX0_standsForMore_18 : decode cX0_standsForMore 18 = .ok (.iload_n 1, 1) := by decide +kernel
theorem dX0_standsForMore_19 : decode cX0_standsForMore 19 = .ok (.iaload, 1) := by decide +kernel
theorem dX0_standsForMore_20 : decode cX0_standsForMore 20 = .ok (.invokestatic 166, 3) := by decide +kernel
theorem dX0_standsForMore_23 : decode cX0_standsForMore 23 = .ok (.ifCond .eq 7, 3) := by decide +kernel
theorem dX0_standsForMore_26 : decode cX0_standsForMore 26 = .ok (.iconst 1, 1) := by decide +kernel
theorem dX0_standsForMore_27 : decode cX0_standsForMore 27 = .ok (.goto 4, 3) := by decide +kernel
theorem dX0_standsForMore_30 : decode cX0_standsForMore 30 = .ok (.iconst 0, 1) := by decide +kernel
theorem dX0_standsForMore_31 : decode cX0_standsForMore 31 = .ok (.ireturn, 1) := by decide +kernel
def m_E_standsForMore (a0 : Int32) (a1 : Int64) (a2 : Int32) (v : Nat → Int32) (b : Nat → Int32) (rw : Nat → Int32) (pw : Nat → Int32)  : Option ((Int32)) := zix a0 24 ((if (pw a0.toNatClampNeg) = 99 then (zbo 0 (some 0)) else zix a0 24 ((m_P_digitAt a1 a2 (pw a0.toNatClampNeg)).bind (fun q5 => (if q5 = 0 then (zbo 0 (some 0)) else (zbo 1 (some 1)))))))
section
variable {p : Program} {l : Launch} {e : Env} {s : State} {m : MethodId} {args : Array Value} {below : List Frame} {meth : Method} {c : Code} {D : va_G} {w0 : va_W} {aE bE rE pE : Nat} {c1 c2 c3 : ClassId} {v : Nat → Int32} {b : Nat → Int32} {rw : Nat → Int32} {pw : Nat → Int32}
end
set_option maxRecDepth 100000 in
set_option maxHeartbeats 4000000 in
theorem k_E_standsForMore (l : Launch) (D : va_G) (aE bE rE pE : Nat) (c1 c2 c3 : ClassId) (sz : Nat) (a0 : Int32) (a1 : Int64) (a2 : Int32) (v : Nat → Int32) (b : Nat → Int32) (rw : Nat → Int32) (pw : Nat → Int32) (res : (Int32)) (hm : m_E_standsForMore a0 a1 a2 v b rw pw  = some res) : Met l yX0_standsForMore (Cond.code yX0_standsForMore cX0_standsForMore 5 (some .boolean) :: zBIG) (zR 2 45) (va_Pc [.ref aE, .int a0, .long a1, .int a2] (zP zC D vwCl (wE_t c1 c2 c3) (wE aE bE rE pE c1 c2 c3 v b rw pw) sz)) (zQi D vwCl (wE aE bE rE pE c1 c2 c3 v b rw pw) (wE aE bE rE pE c1 c2 c3 v b rw pw) sz res) 0 0 (va_A (wE aE bE rE pE c1 c2 c3 v b rw pw) sz) := by
  refine zEnter RX0 [.ref aE, .int a0, .long a1, .int a2] (by decide) rfl (Nat.le_of_ble_eq_true rfl) (fun p e s m below meth c ls G hK hX hP hD hsz hl => ?_)
  subst hsz
  unfold m_E_standsForMore at hm
  have hl : lv_has ls 5 [(0, .ref aE), (1, .int a0), (2, .long a1), (4, .int a2)] := hl
  have hS : va_S (va_A (wE aE bE rE pE c1 c2 c3 v b rw pw) s.heap.size) s.heap s.heap [] := va_S.rf
  have hA : ∀ q, s.heap.size ≤ q → va_A (wE aE bE rE pE c1 c2 c3 v b rw pw) s.heap.size q := fun q h => Or.inr h
  have G0 := G
  obtain ⟨hx, hb, hr, hml, hown, hw, hlk⟩ := G
  refine lv_aload_n hx hb dX0_standsForMore_0 rfl (lv_at hl 0 rfl) ?_
  refine va_get (D := D) (ci := 0) (v := .ref pE) (C := RX0) (T := TX0) (N := 16) hx hb hw zinX0 hown hK hP 0 rfl rfl 6 (by decide) (hw _ zw296) (fun _ h9 => h9) rfl dX0_standsForMore_1 ?_
  refine lv_iload_n hx hb dX0_standsForMore_4 rfl (lv_at hl 1 rfl) ?_
  obtain ⟨hi1, hm⟩ := zix_s hm
  refine va_iald (i := a0) (f := pw) (n := 24) hx hb hK hP 3 2 rfl rfl hi1 dX0_standsForMore_5 ?_
  refine lv_bipush (v := 99) hx hb dX0_standsForMore_6 (by decide) ?_
  refine lv_icmp_eq (tgt := 30) hx hb dX0_standsForMore_8 rfl (fun cd2 => ?_) (fun cd2 => ?_)
  · replace hm := zt cd2 hm
    refine lv_iconst (v := 0) hx hb dX0_standsForMore_30 (by decide) ?_
    obtain ⟨hz3, -, hm⟩ := zbo_s hm
    cases hm
    exact zretz hx hb hr hlk hz3 hP hD hS dX0_standsForMore_31
  · replace hm := zf cd2 hm
    refine lv_lload_n hx hb dX0_standsForMore_11 rfl (lv_at hl 2 rfl) ?_
    refine lv_iload hx hb dX0_standsForMore_12 (lv_at hl 3 rfl) ?_
    refine lv_aload_n hx hb dX0_standsForMore_14 rfl (lv_at hl 0 rfl) ?_
    refine va_get (D := D) (ci := 0) (v := .ref pE) (C := RX0) (T := TX0) (N := 16) hx hb hw zinX0 hown hK hP 0 rfl rfl 6 (by decide) (hw _ zw296) (fun _ h9 => h9) rfl dX0_standsForMore_15 ?_
    refine lv_iload_n hx hb dX0_standsForMore_18 rfl (lv_at hl 1 rfl) ?_
    obtain ⟨hi4, hm⟩ := zix_s hm
    refine va_iald (i := a0) (f := pw) (n := 24) hx hb hK hP 3 2 rfl rfl hi4 dX0_standsForMore_19 ?_
    obtain ⟨q5, hq5, hm⟩ := zbind hm
    refine zb0i (va_runSN (As := [.long a1, .int a2, .int (pw a0.toNatClampNeg)]) (rest := []) ⟨hx, hb, hml, hown, hw⟩ (k_P_digitAt l D  _ a1 a2 (pw a0.toNatClampNeg)  q5 hq5) ⟨va_cnB 3 hw (zgood zw244) rfl rfl rfl (hX.1 _ zn10) (hw _ zw176) hdX5_digitAt ⟨Nat.le_of_ble_eq_true rfl, Nat.le_of_ble_eq_true rfl⟩, hw _ zw245, trivial⟩ (zpre zC_ok hX hS (zfree0 hS hA) zP0 (hK.sub (tys' := []) [] rfl) zD0) rfl rfl hl.1 rfl (lv_room (Nat.le_of_ble_eq_true rfl)) dX0_standsForMore_20 ⟨Nat.zero_le _, Nat.zero_le _⟩) hP hD hS (zfree0 hS hA) (fun H locs hP hD hS => ?_)
    refine lv_if_eq (tgt := 30) hx hb dX0_standsForMore_23 rfl (fun cd6 => ?_) (fun cd6 => ?_)
    · replace hm := zt cd6 hm
      refine lv_iconst (v := 0) hx hb dX0_standsForMore_30 (by decide) ?_
      obtain ⟨hz7, -, hm⟩ := zbo_s hm
      cases hm
      exact zretz hx hb hr hlk hz7 hP hD hS dX0_standsForMore_31
    · replace hm := zf cd6 hm
      refine lv_iconst (v := 1) hx hb dX0_standsForMore_26 (by decide) ?_
      refine lv_goto (tgt := 31) hx hb dX0_standsForMore_27 rfl ?_
      obtain ⟨hz8, -, hm⟩ := zbo_s hm
      cases hm
      exact zretz hx hb hr hlk hz8 hP hD hS dX0_standsForMore_31

theorem dX0_leavesDigit_0 : decode cX0_leavesDigit 0 = .ok (.aload_n 0, 1) := by decide +kernel
theorem dX0_leavesDigit_1 : decode cX0_leavesDigit 1 = .ok (.getfield 80, 3) := by decide +kernel
theorem dX0_leavesDigit_4 : decode cX0_leavesDigit 4 = .ok (.istore 4, 2) := by decide +kernel
theorem dX0_leavesDigit_6 : decode cX0_leavesDigit 6 = .ok (.iload 4, 2) := by decide +kernel
theorem dX0_leavesDigit_8 : decode cX0_leavesDigit 8 = .ok (.aload_n 0, 1) := by decide +kernel
theorem dX0_leavesDigit_9 : decode cX0_leavesDigit 9 = .ok (.getfield 83, 3) := by decide +kernel
theorem dX0_leavesDigit_12 : decode cX0_leavesDigit 12 = .ok (.if_icmp .ge 22, 3) := by decide +kernel
theorem dX0_leavesDigit_15 : decode cX0_leavesDigit 15 = .ok (.aload_n 0, 1) := by decide +kernel
theorem dX0_leavesDigit_16 : decode cX0_leavesDigit 16 = .ok (.iload 4, 2) := by decide +kernel
theorem dX0_leavesDigit_18 : decode cX0_leavesDigit 18 = .ok (.lload_n 1, 1) := by decide +kernel
theorem dX0_leavesDigit_19 : decode cX0_leavesDigit 19 = .ok (.iload_n 3, 1) := by decide +kernel
theorem dX0_leavesDigit_20 : decode cX0_leavesDigit 20 = .ok (.invokevirtual 162, 3) := by decide +kernel
theorem dX0_leavesDigit_23 : decode cX0_leavesDigit 23 = .ok (.ifCond .eq 5, 3) := by decide +kernel
theorem dX0_leavesDigit_26 : decode cX0_leavesDigit 26 = .ok (.iconst 1, 1) := by decide +kernel
theorem dX0_leavesDigit_27 : decode cX0_leavesDigit 27 = .ok (.ireturn, 1) := by decide +kernel
theorem dX0_leavesDigit_28 : decode cX0_leavesDigit 28 = .ok (.iinc 4 1, 3) := by decide +kernel
theorem dX0_leavesDigit_31 : decode cX0_leavesDigit 31 = .ok (.goto (-25), 3) := by decide +kernel
theorem dX0_leavesDigit_34 : decode cX0_leavesDigit 34 = .ok (.iconst 0, 1) := by decide +kernel
theorem dX0_leavesDigit_35 : decode cX0_leavesDigit 35 = .ok (.ireturn, 1) := by decide +kernel
def m_E_leavesDigit_6b (v : Nat → Int32) (b : Nat → Int32) (rw : Nat → Int32) (pw : Nat → Int32) (rec : Int64 → Int32 → Int32 → Option ((Int32))) (x1 : Int64) (x3 : Int32) (x4 : Int32)  : Option ((Int32)) := (if (v 10) ≤ x4 then (zbo 0 (some 0)) else (m_E_standsForMore x4 x1 x3 v b rw pw).bind (fun q3 => (if q3 = 0 then rec x1 x3 (x4 + 1) else (zbo 1 (some 1)))))
def m_E_leavesDigit_6 (v : Nat → Int32) (b : Nat → Int32) (rw : Nat → Int32) (pw : Nat → Int32) : Nat → Int64 → Int32 → Int32 → Option ((Int32))
  | 0 => fun _ _ _ => none
  | n + 1 => fun x1 x3 x4 => m_E_leavesDigit_6b v b rw pw (m_E_leavesDigit_6 v b rw pw n) x1 x3 x4
def m_E_leavesDigit (a0 : Int64) (a1 : Int32) (v : Nat → Int32) (b : Nat → Int32) (rw : Nat → Int32) (pw : Nat → Int32)  : Option ((Int32)) := m_E_leavesDigit_6 v b rw pw 64 a0 a1 (v 9)
section
variable {p : Program} {l : Launch} {e : Env} {s : State} {m : MethodId} {args : Array Value} {below : List Frame} {meth : Method} {c : Code} {D : va_G} {w0 : va_W} {aE bE rE pE : Nat} {c1 c2 c3 : ClassId} {v : Nat → Int32} {b : Nat → Int32} {rw : Nat → Int32} {pw : Nat → Int32}
set_option maxRecDepth 100000 in
set_option maxHeartbeats 4000000 in
theorem b_E_leavesDigit_6 (G : zG p s m args meth c cX0_leavesDigit RX0 5 (some .boolean)) (hK : va_K D vwCl (wE_t c1 c2 c3) s) (hX : zC (va_A w0 s.heap.size) s) {res : (Int32)} : ∀ n : Nat, ∀ (x1 : Int64) (x3 : Int32) (x4 : Int32), m_E_leavesDigit_6 v b rw pw n x1 x3 x4 = some res → zB p l e (zR 3 69) s m args below meth c D vwCl (va_A w0 s.heap.size) (MQ below (zQi D vwCl w0 (wE aE bE rE pE c1 c2 c3 v b rw pw) s.heap.size res) args s 0 0 (va_A w0 s.heap.size)) 5 (wE aE bE rE pE c1 c2 c3 v b rw pw) [(0, .ref aE), (1, .long x1), (3, .int x3), (4, .int x4)] 6 [] := by
  intro n
  induction n with
  | zero => intro x1 x3 x4 hm; cases hm
  | succ n ih =>
  have hrec := ih
  intro x1 x3 x4 hm H locs ls hP hD hS hl
  replace hm : m_E_leavesDigit_6b v b rw pw (m_E_leavesDigit_6 v b rw pw n) x1 x3 x4 = some res := hm
  generalize m_E_leavesDigit_6 v b rw pw n = rec at hm hrec
  unfold m_E_leavesDigit_6b at hm
  clear ih
  have G0 := G
  obtain ⟨hx, hb, hr, hml, hown, hw, hlk⟩ := G
  have hA : ∀ q, s.heap.size ≤ q → va_A w0 s.heap.size q := fun q h => Or.inr h
  refine lv_iload hx hb dX0_leavesDigit_6 (lv_at hl 3 rfl) ?_
  refine lv_aload_n hx hb dX0_leavesDigit_8 rfl (lv_at hl 0 rfl) ?_
  refine va_get (D := D) (ci := 0) (v := .int (v 10)) (C := RX0) (T := TX0) (N := 16) hx hb hw zinX0 hown hK hP 0 rfl rfl 10 (by decide) (hw _ zw255) (fun _ h9 => h9) rfl dX0_leavesDigit_9 ?_
  refine lv_icmp_ge (tgt := 34) hx hb dX0_leavesDigit_12 rfl (fun cd1 => ?_) (fun cd1 => ?_)
  · replace hm := zt cd1 hm
    refine lv_iconst (v := 0) hx hb dX0_leavesDigit_34 (by decide) ?_
    obtain ⟨hz2, -, hm⟩ := zbo_s hm
    cases hm
    exact zretz hx hb hr hlk hz2 hP hD hS dX0_leavesDigit_35
  · replace hm := zf cd1 hm
    refine lv_aload_n hx hb dX0_leavesDigit_15 rfl (lv_at hl 0 rfl) ?_
    refine lv_iload hx hb dX0_leavesDigit_16 (lv_at hl 3 rfl) ?_
    refine lv_lload_n hx hb dX0_leavesDigit_18 rfl (lv_at hl 1 rfl) ?_
    refine lv_iload_n hx hb dX0_leavesDigit_19 rfl (lv_at hl 2 rfl) ?_
    obtain ⟨q3, hq3, hm⟩ := zbind hm
    refine zbWi (va_runV (As := [.int x4, .long x1, .int x3]) (rest := []) ⟨hx, hb, hml, hown, hw⟩ (k_E_standsForMore l D aE bE rE pE c1 c2 c3 _ x4 x1 x3 v b rw pw  q3 hq3) (zcV (C := RX0) 3 hw (zgood zw355) rfl rfl rfl zw259 zw357 zw356 zw358 hdX0_standsForMore ⟨Nat.le_of_ble_eq_true rfl, Nat.le_of_ble_eq_true rfl⟩) (zpreV (zpre zC_ok hX hS (zfree hD hS hA) hP hK hD) (va_recv hK hP rfl (q0 := 0) rfl)) rfl rfl hl.1 rfl (lv_room (Nat.le_of_ble_eq_true rfl)) dX0_leavesDigit_20 ⟨Nat.zero_le _, Nat.zero_le _⟩) hS (zfree hD hS hA) (fun H locs hP hD hS => ?_)
    refine lv_if_eq (tgt := 28) hx hb dX0_leavesDigit_23 rfl (fun cd4 => ?_) (fun cd4 => ?_)
    · replace hm := zt cd4 hm
      refine lv_iinc (k := 3) (v := (x4 + 1)) (lv' := [(4, .int (x4 + 1)), (0, .ref aE), (1, .long x1), (3, .int x3)]) hx hb dX0_leavesDigit_28 hl rfl rfl (by decide) rfl (fun ls hl => ?_)
      refine lv_goto (tgt := 6) hx hb dX0_leavesDigit_31 rfl ?_
      exact hrec _ _ _ hm H _ _ hP hD hS (lv_sub hl [1, 2, 3, 0] rfl)
    · replace hm := zf cd4 hm
      refine lv_iconst (v := 1) hx hb dX0_leavesDigit_26 (by decide) ?_
      obtain ⟨hz5, -, hm⟩ := zbo_s hm
      cases hm
      exact zretz hx hb hr hlk hz5 hP hD hS dX0_leavesDigit_27
end
set_option maxRecDepth 100000 in
set_option maxHeartbeats 4000000 in
theorem k_E_leavesDigit (l : Launch) (D : va_G) (aE bE rE pE : Nat) (c1 c2 c3 : ClassId) (sz : Nat) (a0 : Int64) (a1 : Int32) (v : Nat → Int32) (b : Nat → Int32) (rw : Nat → Int32) (pw : Nat → Int32) (res : (Int32)) (hm : m_E_leavesDigit a0 a1 v b rw pw  = some res) : Met l yX0_leavesDigit (Cond.code yX0_leavesDigit cX0_leavesDigit 5 (some .boolean) :: zBIG) (zR 3 69) (va_Pc [.ref aE, .long a0, .int a1] (zP zC D vwCl (wE_t c1 c2 c3) (wE aE bE rE pE c1 c2 c3 v b rw pw) sz)) (zQi D vwCl (wE aE bE rE pE c1 c2 c3 v b rw pw) (wE aE bE rE pE c1 c2 c3 v b rw pw) sz res) 0 0 (va_A (wE aE bE rE pE c1 c2 c3 v b rw pw) sz) := by
  refine zEnter RX0 [.ref aE, .long a0, .int a1] (by decide) rfl (Nat.le_of_ble_eq_true rfl) (fun p e s m below meth c ls G hK hX hP hD hsz hl => ?_)
  subst hsz
  unfold m_E_leavesDigit at hm
  have hl : lv_has ls 5 [(0, .ref aE), (1, .long a0), (3, .int a1)] := hl
  have hS : va_S (va_A (wE aE bE rE pE c1 c2 c3 v b rw pw) s.heap.size) s.heap s.heap [] := va_S.rf
  have hA : ∀ q, s.heap.size ≤ q → va_A (wE aE bE rE pE c1 c2 c3 v b rw pw) s.heap.size q := fun q h => Or.inr h
  have G0 := G
  obtain ⟨hx, hb, hr, hml, hown, hw, hlk⟩ := G
  refine lv_aload_n hx hb dX0_leavesDigit_0 rfl (lv_at hl 0 rfl) ?_
  refine va_get (D := D) (ci := 0) (v := .int (v 9)) (C := RX0) (T := TX0) (N := 16) hx hb hw zinX0 hown hK hP 0 rfl rfl 9 (by decide) (hw _ zw254) (fun _ h9 => h9) rfl dX0_leavesDigit_1 ?_
  refine lv_istore (lv' := [(4, .int (v 9)), (0, .ref aE), (1, .long a0), (3, .int a1)]) hx hb dX0_leavesDigit_4 hl (by decide) rfl (fun ls hl => ?_)
  exact b_E_leavesDigit_6 G0 hK hX 64 _ _ _ hm _ _ _ hP hD hS (lv_sub hl [1, 2, 3, 0] rfl)

theorem dX0_writeBody_0 : decode cX0_writeBody 0 = .ok (.aload_n 0, 1) := by decide +kernel
theorem dX0_writeBody_1 : decode cX0_writeBody 1 = .ok (.getfield 80, 3) := by decide +kernel
theorem dX0_writeBody_4 : decode cX0_writeBody 4 = .ok (.istore 4, 2) := by decide +kernel
theorem dX0_writeBody_6 : decode cX0_writeBody 6 = .ok (.iload 4, 2) := by decide +kernel
theorem dX0_writeBody_8 : decode cX0_writeBody 8 = .ok (.aload_n 0, 1) := by decide +kernel
theorem dX0_writeBody_9 : decode cX0_writeBody 9 = .ok (.getfield 83, 3) := by decide +kernel
theorem dX0_writeBody_12 : decode cX0_writeBody 12 = .ok (.if_icmp .ge 97, 3) := by decide +kernel
theorem dX0_writeBody_15 : decode cX0_writeBody 15 = .ok (.aload_n 0, 1) := by decide +kernel
theorem dX0_writeBody_16 : decode cX0_writeBody 16 = .ok (.getfield 15, 3) := by decide +kernel
theorem dX0_writeBody_19 : decode cX0_writeBody 19 = .ok (.iload 4, 2) := by decide +kernel
theorem dX0_writeBody_21 : decode cX0_writeBody 21 = .ok (.iaload, 1) := by decide +kernel
theorem dX0_writeBody_22 : decode cX0_writeBody 22 = .ok (.bipush 99, 2) := by decide +kernel
theorem dX0_writeBody_24 : decode cX0_writeBody 24 = .ok (.if_icmp .eq 32, 3) := by decide +kernel
theorem dX0_writeBody_27 : decode cX0_writeBody 27 = .ok (.aload_n 0, 1) := by decide +kernel
theorem dX0_writeBody_28 : decode cX0_writeBody 28 = .ok (.getfield 117, 3) := by decide +kernel
theorem dX0_writeBody_31 : decode cX0_writeBody 31 = .ok (.aload_n 0, 1) := by decide +kernel
theorem dX0_writeBody_32 : decode cX0_writeBody 32 = .ok (.iload 4, 2) := by decide +kernel
theorem dX0_writeBody_34 : decode cX0_writeBody 34 = .ok (.invokevirtual 120, 3) := by decide +kernel
theorem dX0_writeBody_37 : decode cX0_writeBody 37 = .ok (.bipush 48, 2) := by decide +kernel
theorem dX0_writeBody_39 : decode cX0_writeBody 39 = .ok (.lload_n 1, 1) := by decide +kernel
theorem dX0_writeBody_40 : decode cX0_writeBody 40 = .ok (.iload_n 3, 1) := by decide +kernel
theorem dX0_writeBody_41 : decode cX0_writeBody 41 = .ok (.aload_n 0, 1) := by decide +kernel
theorem dX0_writeBody_42 : decode cX0_writeBody 42 = .ok (.getfield 15, 3) := by decide +kernel
theorem dX0_writeBody_45 : decode cX0_writeBody 45 = .ok (.iload 4, 2) := by decide +kernel
theorem dX0_writeBody_47 : decode cX0_writeBody 47 = .ok (.iaload, 1) := by decide +kernel
theorem dX0_writeBody_48 : decode cX0_writeBody 48 = .ok (.invokestatic 166, 3) := by decide +kernel
theorem dX0_writeBody_51 : decode cX0_writeBody 51 = .ok (.iadd, 1) := by decide +kernel
theorem dX0_writeBody_52 : decode cX0_writeBody 52 = .ok (.iastore, 1) := by decide +kernel
theorem dX0_writeBody_53 : decode cX0_writeBody 53 = .ok (.goto 50, 3) := by decide +kernel
theorem dX0_writeBody_56 : decode cX0_writeBody 56 = .ok (.aload_n 0, 1) := by decide +kernel
theorem dX0_writeBody_57 : decode cX0_writeBody 57 = .ok (.getfield 9, 3) := by decide +kernel
theorem dX0_writeBody_60 : decode cX0_writeBody 60 = .ok (.iload 4, 2) := by decide +kernel
theorem dX0_writeBody_62 : decode cX0_writeBody 62 = .ok (.iaload, 1) := by decide +kernel
theorem dX0_writeBody_63 : decode cX0_writeBody 63 = .ok (.bipush 86, 2) := by decide +kernel
theorem dX0_writeBody_65 : decode cX0_writeBody 65 = .ok (.if_icmp .eq 38, 3) := by decide +kernel
theorem dX0_writeBody_68 : decode cX0_writeBody 68 = .ok (.aload_n 0, 1) := by decide +kernel
theorem dX0_writeBody_69 : decode cX0_writeBody 69 = .ok (.getfield 117, 3) := by decide +kernel
theorem dX0_writeBody_72 : decode cX0_writeBody 72 = .ok (.aload_n 0, 1) := by decide +kernel
theorem dX0_writeBody_73 : decode cX0_writeBody 73 = .ok (.iload 4, 2) := by decide +kernel
theorem dX0_writeBody_75 : decode cX0_writeBody 75 = .ok (.invokevirtual 120, 3) := by decide +kernel
theorem dX0_writeBody_78 : decode cX0_writeBody 78 = .ok (.aload_n 0, 1) := by decide +kernel
theorem dX0_writeBody_79 : decode cX0_writeBody 79 = .ok (.getfield 9, 3) := by decide +kernel
theorem dX0_writeBody_82 : decode cX0_writeBody 82 = .ok (.iload 4, 2) := by decide +kernel
theorem dX0_writeBody_84 : decode cX0_writeBody 84 = .ok (.iaload, 1) := by decide +kernel
theorem dX0_writeBody_85 : decode cX0_writeBody 85 = .ok (.bipush 66, 2) := by decide +kernel
theorem dX0_writeBody_87 : decode cX0_writeBody 87 = .ok (.if_icmp .ne 8, 3) := by decide +kernel
theorem dX0_writeBody_90 : decode cX0_writeBody 90 = .ok (.bipush 32, 2) := by decide +kernel
theorem dX0_writeBody_92 : decode cX0_writeBody 92 = .ok (.goto 10, 3) := by decide +kernel
theorem dX0_writeBody_95 : decode cX0_writeBody 95 = .ok (.aload_n 0, 1) := by decide +kernel
theorem dX0_writeBody_96 : decode cX0_writeBody 96 = .ok (.getfield 9, 3) := by decide +kernel
theorem dX0_writeBody_99 : decode cX0_writeBody 99 = .ok (.iload 4, 2) := by decide +kernel
theorem dX0_writeBody_101 : decode cX0_writeBody 101 = .ok (.iaload, 1) := by decide +kernel
theorem dX0_writeBody_102 : decode cX0_writeBody 102 = .ok (.iastore, 1) := by decide +kernel
theorem dX0_writeBody_103 : decode cX0_writeBody 103 = .ok (.iinc 4 1, 3) := by decide +kernel
theorem dX0_writeBody_106 : decode cX0_writeBody 106 = .ok (.goto (-100), 3) := by decide +kernel
theorem dX0_writeBody_109 : decode cX0_writeBody 109 = .ok (.return_, 1) := by decide +kernel
def m_E_writeBody_103 (v : Nat → Int32) (rw : Nat → Int32) (pw : Nat → Int32) (rec : Int64 → Int32 → Int32 → (Nat → Int32) → Option ((Nat → Int32))) (x1 : Int64) (x3 : Int32) (x4 : Int32) (b : Nat → Int32) : Option ((Nat → Int32)) := rec x1 x3 (x4 + 1) b
def m_E_writeBody_102 (v : Nat → Int32) (rw : Nat → Int32) (pw : Nat → Int32) (rec : Int64 → Int32 → Int32 → (Nat → Int32) → Option ((Nat → Int32))) (x1 : Int64) (x3 : Int32) (x4 : Int32) (t0 : Int32) (t1 : Int32) (b : Nat → Int32) : Option ((Nat → Int32)) := zix t1 25 (m_E_writeBody_103 v rw pw rec x1 x3 x4 (upd b t1.toNatClampNeg t0))
def m_E_writeBody_6b (v : Nat → Int32) (rw : Nat → Int32) (pw : Nat → Int32) (rec : Int64 → Int32 → Int32 → (Nat → Int32) → Option ((Nat → Int32))) (x1 : Int64) (x3 : Int32) (x4 : Int32) (b : Nat → Int32) : Option ((Nat → Int32)) := (if (v 10) ≤ x4 then (some b) else zix x4 24 ((if (pw x4.toNatClampNeg) = 99 then zix x4 24 ((if (rw x4.toNatClampNeg) = 86 then m_E_writeBody_103 v rw pw rec x1 x3 x4 b else (m_E_byteOf x4 v b rw pw).bind (fun q6 => zix x4 24 ((if (rw x4.toNatClampNeg) = 66 then m_E_writeBody_102 v rw pw rec x1 x3 x4 32 q6 b else zix x4 24 (m_E_writeBody_102 v rw pw rec x1 x3 x4 (rw x4.toNatClampNeg) q6 b)))))) else (m_E_byteOf x4 v b rw pw).bind (fun q11 => zix x4 24 ((m_P_digitAt x1 x3 (pw x4.toNatClampNeg)).bind (fun q13 => zix q11 25 (m_E_writeBody_103 v rw pw rec x1 x3 x4 (upd b q11.toNatClampNeg (48 + q13)))))))))
def m_E_writeBody_6 (v : Nat → Int32) (rw : Nat → Int32) (pw : Nat → Int32) : Nat → Int64 → Int32 → Int32 → (Nat → Int32) → Option ((Nat → Int32))
  | 0 => fun _ _ _ _ => none
  | n + 1 => fun x1 x3 x4 b => m_E_writeBody_6b v rw pw (m_E_writeBody_6 v rw pw n) x1 x3 x4 b
def m_E_writeBody (a0 : Int64) (a1 : Int32) (v : Nat → Int32) (b : Nat → Int32) (rw : Nat → Int32) (pw : Nat → Int32)  : Option ((Nat → Int32)) := m_E_writeBody_6 v rw pw 64 a0 a1 (v 9) b
section
variable {p : Program} {l : Launch} {e : Env} {s : State} {m : MethodId} {args : Array Value} {below : List Frame} {meth : Method} {c : Code} {D : va_G} {w0 : va_W} {aE bE rE pE : Nat} {c1 c2 c3 : ClassId} {v : Nat → Int32} {rw : Nat → Int32} {pw : Nat → Int32}
set_option maxRecDepth 100000 in
set_option maxHeartbeats 4000000 in
theorem b_E_writeBody_103 (G : zG p s m args meth c cX0_writeBody RX0 5 none) (hK : va_K D vwCl (wE_t c1 c2 c3) s) (hX : zC (va_A w0 s.heap.size) s) {res : (Nat → Int32)} (rec : Int64 → Int32 → Int32 → (Nat → Int32) → Option ((Nat → Int32))) (hrec : ∀ (x1 : Int64) (x3 : Int32) (x4 : Int32) (b : Nat → Int32), rec x1 x3 x4 b = some res → zB p l e (zR 2 45) s m args below meth c D vwCl (va_A w0 s.heap.size) (MQ below (zQv D vwCl w0 (wE aE bE rE pE c1 c2 c3 v res rw pw) s.heap.size) args s 0 0 (va_A w0 s.heap.size)) 5 (wE aE bE rE pE c1 c2 c3 v b rw pw) [(0, .ref aE), (1, .long x1), (3, .int x3), (4, .int x4)] 6 []) : ∀ (x1 : Int64) (x3 : Int32) (x4 : Int32) (b : Nat → Int32), m_E_writeBody_103 v rw pw rec x1 x3 x4 b = some res → zB p l e (zR 2 45) s m args below meth c D vwCl (va_A w0 s.heap.size) (MQ below (zQv D vwCl w0 (wE aE bE rE pE c1 c2 c3 v res rw pw) s.heap.size) args s 0 0 (va_A w0 s.heap.size)) 5 (wE aE bE rE pE c1 c2 c3 v b rw pw) [(0, .ref aE), (1, .long x1), (3, .int x3), (4, .int x4)] 103 [] := by
  intro x1 x3 x4 b hm H locs ls hP hD hS hl
  unfold m_E_writeBody_103 at hm
  have G0 := G
  obtain ⟨hx, hb, hr, hml, hown, hw, hlk⟩ := G
  have hA : ∀ q, s.heap.size ≤ q → va_A w0 s.heap.size q := fun q h => Or.inr h
  refine lv_iinc (k := 3) (v := (x4 + 1)) (lv' := [(4, .int (x4 + 1)), (0, .ref aE), (1, .long x1), (3, .int x3)]) hx hb dX0_writeBody_103 hl rfl rfl (by decide) rfl (fun ls hl => ?_)
  refine lv_goto (tgt := 6) hx hb dX0_writeBody_106 rfl ?_
  exact hrec _ _ _ _ hm H _ _ hP hD hS (lv_sub hl [1, 2, 3, 0] rfl)
set_option maxRecDepth 100000 in
set_option maxHeartbeats 4000000 in
theorem b_E_writeBody_102 (G : zG p s m args meth c cX0_writeBody RX0 5 none) (hK : va_K D vwCl (wE_t c1 c2 c3) s) (hX : zC (va_A w0 s.heap.size) s) {res : (Nat → Int32)} (rec : Int64 → Int32 → Int32 → (Nat → Int32) → Option ((Nat → Int32))) (hrec : ∀ (x1 : Int64) (x3 : Int32) (x4 : Int32) (b : Nat → Int32), rec x1 x3 x4 b = some res → zB p l e (zR 2 45) s m args below meth c D vwCl (va_A w0 s.heap.size) (MQ below (zQv D vwCl w0 (wE aE bE rE pE c1 c2 c3 v res rw pw) s.heap.size) args s 0 0 (va_A w0 s.heap.size)) 5 (wE aE bE rE pE c1 c2 c3 v b rw pw) [(0, .ref aE), (1, .long x1), (3, .int x3), (4, .int x4)] 6 []) : ∀ (x1 : Int64) (x3 : Int32) (x4 : Int32) (t0 : Int32) (t1 : Int32) (b : Nat → Int32), m_E_writeBody_102 v rw pw rec x1 x3 x4 t0 t1 b = some res → zB p l e (zR 2 45) s m args below meth c D vwCl (va_A w0 s.heap.size) (MQ below (zQv D vwCl w0 (wE aE bE rE pE c1 c2 c3 v res rw pw) s.heap.size) args s 0 0 (va_A w0 s.heap.size)) 5 (wE aE bE rE pE c1 c2 c3 v b rw pw) [(0, .ref aE), (1, .long x1), (3, .int x3), (4, .int x4)] 102 [.int t0, .int t1, .ref bE] := by
  intro x1 x3 x4 t0 t1 b hm H locs ls hP hD hS hl
  unfold m_E_writeBody_102 at hm
  have G0 := G
  obtain ⟨hx, hb, hr, hml, hown, hw, hlk⟩ := G
  have hA : ∀ q, s.heap.size ≤ q → va_A w0 s.heap.size q := fun q h => Or.inr h
  obtain ⟨hi10, hm⟩ := zix_s hm
  refine va_iast (i := t1) (x := t0) (f := b) (n := 25) hx hb hK hP hD hS 1 0 rfl rfl hi10 dX0_writeBody_102 (fun H locs hP hD hS => ?_)
  have hP : va_P D vwCl (wE aE bE rE pE c1 c2 c3 v (upd b t1.toNatClampNeg t0) rw pw) H := hP
  have hD : va_D _ (wE aE bE rE pE c1 c2 c3 v (upd b t1.toNatClampNeg t0) rw pw) := hD
  exact b_E_writeBody_103 G0 hK hX rec hrec _ _ _ _ hm H _ _ hP hD hS hl
set_option maxRecDepth 100000 in
set_option maxHeartbeats 4000000 in
theorem b_E_writeBody_6 (G : zG p s m args meth c cX0_writeBody RX0 5 none) (hK : va_K D vwCl (wE_t c1 c2 c3) s) (hX : zC (va_A w0 s.heap.size) s) {res : (Nat → Int32)} : ∀ n : Nat, ∀ (x1 : Int64) (x3 : Int32) (x4 : Int32) (b : Nat → Int32), m_E_writeBody_6 v rw pw n x1 x3 x4 b = some res → zB p l e (zR 2 45) s m args below meth c D vwCl (va_A w0 s.heap.size) (MQ below (zQv D vwCl w0 (wE aE bE rE pE c1 c2 c3 v res rw pw) s.heap.size) args s 0 0 (va_A w0 s.heap.size)) 5 (wE aE bE rE pE c1 c2 c3 v b rw pw) [(0, .ref aE), (1, .long x1), (3, .int x3), (4, .int x4)] 6 [] := by
  intro n
  induction n with
  | zero => intro x1 x3 x4 b hm; cases hm
  | succ n ih =>
  have hrec := ih
  intro x1 x3 x4 b hm H locs ls hP hD hS hl
  replace hm : m_E_writeBody_6b v rw pw (m_E_writeBody_6 v rw pw n) x1 x3 x4 b = some res := hm
  generalize m_E_writeBody_6 v rw pw n = rec at hm hrec
  unfold m_E_writeBody_6b at hm
  clear ih
  have G0 := G
  obtain ⟨hx, hb, hr, hml, hown, hw, hlk⟩ := G
  have hA : ∀ q, s.heap.size ≤ q → va_A w0 s.heap.size q := fun q h => Or.inr h
  refine lv_iload hx hb dX0_writeBody_6 (lv_at hl 3 rfl) ?_
  refine lv_aload_n hx hb dX0_writeBody_8 rfl (lv_at hl 0 rfl) ?_
  refine va_get (D := D) (ci := 0) (v := .int (v 10)) (C := RX0) (T := TX0) (N := 16) hx hb hw zinX0 hown hK hP 0 rfl rfl 10 (by decide) (hw _ zw255) (fun _ h9 => h9) rfl dX0_writeBody_9 ?_
  refine lv_icmp_ge (tgt := 109) hx hb dX0_writeBody_12 rfl (fun cd1 => ?_) (fun cd1 => ?_)
  · replace hm := zt cd1 hm
    cases hm
    exact zretv hx hb hr hlk hP hD hS dX0_writeBody_109
  · replace hm := zf cd1 hm
    refine lv_aload_n hx hb dX0_writeBody_15 rfl (lv_at hl 0 rfl) ?_
    refine va_get (D := D) (ci := 0) (v := .ref pE) (C := RX0) (T := TX0) (N := 16) hx hb hw zinX0 hown hK hP 0 rfl rfl 6 (by decide) (hw _ zw296) (fun _ h9 => h9) rfl dX0_writeBody_16 ?_
    refine lv_iload hx hb dX0_writeBody_19 (lv_at hl 3 rfl) ?_
    obtain ⟨hi2, hm⟩ := zix_s hm
    refine va_iald (i := x4) (f := pw) (n := 24) hx hb hK hP 3 2 rfl rfl hi2 dX0_writeBody_21 ?_
    refine lv_bipush (v := 99) hx hb dX0_writeBody_22 (by decide) ?_
    refine lv_icmp_eq (tgt := 56) hx hb dX0_writeBody_24 rfl (fun cd3 => ?_) (fun cd3 => ?_)
    · replace hm := zt cd3 hm
      refine lv_aload_n hx hb dX0_writeBody_56 rfl (lv_at hl 0 rfl) ?_
      refine va_get (D := D) (ci := 0) (v := .ref rE) (C := RX0) (T := TX0) (N := 16) hx hb hw zinX0 hown hK hP 0 rfl rfl 5 (by decide) (hw _ zw256) (fun _ h9 => h9) rfl dX0_writeBody_57 ?_
      refine lv_iload hx hb dX0_writeBody_60 (lv_at hl 3 rfl) ?_
      obtain ⟨hi4, hm⟩ := zix_s hm
      refine va_iald (i := x4) (f := rw) (n := 24) hx hb hK hP 2 1 rfl rfl hi4 dX0_writeBody_62 ?_
      refine lv_bipush (v := 86) hx hb dX0_writeBody_63 (by decide) ?_
      refine lv_icmp_eq (tgt := 103) hx hb dX0_writeBody_65 rfl (fun cd5 => ?_) (fun cd5 => ?_)
      · replace hm := zt cd5 hm
        exact b_E_writeBody_103 G0 hK hX rec hrec _ _ _ _ hm H _ _ hP hD hS hl
      · replace hm := zf cd5 hm
        refine lv_aload_n hx hb dX0_writeBody_68 rfl (lv_at hl 0 rfl) ?_
        refine va_get (D := D) (ci := 0) (v := .ref bE) (C := RX0) (T := TX0) (N := 16) hx hb hw zinX0 hown hK hP 0 rfl rfl 0 (by decide) (hw _ zw308) (fun x9 h9 => u_same (hw _ zw307) x9 h9) rfl dX0_writeBody_69 ?_
        refine lv_aload_n hx hb dX0_writeBody_72 rfl (lv_at hl 0 rfl) ?_
        refine lv_iload hx hb dX0_writeBody_73 (lv_at hl 3 rfl) ?_
        obtain ⟨q6, hq6, hm⟩ := zbind hm
        refine zbWi (va_runV (As := [.int x4]) (rest := [.ref bE]) ⟨hx, hb, hml, hown, hw⟩ (k_E_byteOf l D aE bE rE pE c1 c2 c3 _ x4 v b rw pw  q6 hq6) (zcV (C := RX0) 1 hw (zgood zw317) rfl rfl rfl zw259 zw319 zw318 zw320 hdX0_byteOf ⟨Nat.le_of_ble_eq_true rfl, Nat.le_of_ble_eq_true rfl⟩) (zpreV (zpre zC_ok hX hS (zfree hD hS hA) hP hK hD) (va_recv hK hP rfl (q0 := 0) rfl)) rfl rfl hl.1 rfl (lv_room (Nat.le_of_ble_eq_true rfl)) dX0_writeBody_75 ⟨Nat.zero_le _, Nat.zero_le _⟩) hS (zfree hD hS hA) (fun H locs hP hD hS => ?_)
        refine lv_aload_n hx hb dX0_writeBody_78 rfl (lv_at hl 0 rfl) ?_
        refine va_get (D := D) (ci := 0) (v := .ref rE) (C := RX0) (T := TX0) (N := 16) hx hb hw zinX0 hown hK hP 0 rfl rfl 5 (by decide) (hw _ zw256) (fun _ h9 => h9) rfl dX0_writeBody_79 ?_
        refine lv_iload hx hb dX0_writeBody_82 (lv_at hl 3 rfl) ?_
        obtain ⟨hi7, hm⟩ := zix_s hm
        refine va_iald (i := x4) (f := rw) (n := 24) hx hb hK hP 2 1 rfl rfl hi7 dX0_writeBody_84 ?_
        refine lv_bipush (v := 66) hx hb dX0_writeBody_85 (by decide) ?_
        refine lv_icmp_ne (tgt := 95) hx hb dX0_writeBody_87 rfl (fun cd8 => ?_) (fun cd8 => ?_)
        · replace hm := zf cd8 hm
          refine lv_aload_n hx hb dX0_writeBody_95 rfl (lv_at hl 0 rfl) ?_
          refine va_get (D := D) (ci := 0) (v := .ref rE) (C := RX0) (T := TX0) (N := 16) hx hb hw zinX0 hown hK hP 0 rfl rfl 5 (by decide) (hw _ zw256) (fun _ h9 => h9) rfl dX0_writeBody_96 ?_
          refine lv_iload hx hb dX0_writeBody_99 (lv_at hl 3 rfl) ?_
          obtain ⟨hi9, hm⟩ := zix_s hm
          refine va_iald (i := x4) (f := rw) (n := 24) hx hb hK hP 2 1 rfl rfl hi9 dX0_writeBody_101 ?_
          exact b_E_writeBody_102 G0 hK hX rec hrec _ _ _ _ _ _ hm H _ _ hP hD hS hl
        · replace hm := zt cd8 hm
          refine lv_bipush (v := 32) hx hb dX0_writeBody_90 (by decide) ?_
          refine lv_goto (tgt := 102) hx hb dX0_writeBody_92 rfl ?_
          exact b_E_writeBody_102 G0 hK hX rec hrec _ _ _ _ _ _ hm H _ _ hP hD hS hl
    · replace hm := zf cd3 hm
      refine lv_aload_n hx hb dX0_writeBody_27 rfl (lv_at hl 0 rfl) ?_
      refine va_get (D := D) (ci := 0) (v := .ref bE) (C := RX0) (T := TX0) (N := 16) hx hb hw zinX0 hown hK hP 0 rfl rfl 0 (by decide) (hw _ zw308) (fun x9 h9 => u_same (hw _ zw307) x9 h9) rfl dX0_writeBody_28 ?_
      refine lv_aload_n hx hb dX0_writeBody_31 rfl (lv_at hl 0 rfl) ?_
      refine lv_iload hx hb dX0_writeBody_32 (lv_at hl 3 rfl) ?_
      obtain ⟨q11, hq11, hm⟩ := zbind hm
      refine zbWi (va_runV (As := [.int x4]) (rest := [.ref bE]) ⟨hx, hb, hml, hown, hw⟩ (k_E_byteOf l D aE bE rE pE c1 c2 c3 _ x4 v b rw pw  q11 hq11) (zcV (C := RX0) 1 hw (zgood zw317) rfl rfl rfl zw259 zw319 zw318 zw320 hdX0_byteOf ⟨Nat.le_of_ble_eq_true rfl, Nat.le_of_ble_eq_true rfl⟩) (zpreV (zpre zC_ok hX hS (zfree hD hS hA) hP hK hD) (va_recv hK hP rfl (q0 := 0) rfl)) rfl rfl hl.1 rfl (lv_room (Nat.le_of_ble_eq_true rfl)) dX0_writeBody_34 ⟨Nat.zero_le _, Nat.zero_le _⟩) hS (zfree hD hS hA) (fun H locs hP hD hS => ?_)
      refine lv_bipush (v := 48) hx hb dX0_writeBody_37 (by decide) ?_
      refine lv_lload_n hx hb dX0_writeBody_39 rfl (lv_at hl 1 rfl) ?_
      refine lv_iload_n hx hb dX0_writeBody_40 rfl (lv_at hl 2 rfl) ?_
      refine lv_aload_n hx hb dX0_writeBody_41 rfl (lv_at hl 0 rfl) ?_
      refine va_get (D := D) (ci := 0) (v := .ref pE) (C := RX0) (T := TX0) (N := 16) hx hb hw zinX0 hown hK hP 0 rfl rfl 6 (by decide) (hw _ zw296) (fun _ h9 => h9) rfl dX0_writeBody_42 ?_
      refine lv_iload hx hb dX0_writeBody_45 (lv_at hl 3 rfl) ?_
      obtain ⟨hi12, hm⟩ := zix_s hm
      refine va_iald (i := x4) (f := pw) (n := 24) hx hb hK hP 3 2 rfl rfl hi12 dX0_writeBody_47 ?_
      obtain ⟨q13, hq13, hm⟩ := zbind hm
      refine zb0i (va_runSN (As := [.long x1, .int x3, .int (pw x4.toNatClampNeg)]) (rest := [.int 48, .int q11, .ref bE]) ⟨hx, hb, hml, hown, hw⟩ (k_P_digitAt l D  _ x1 x3 (pw x4.toNatClampNeg)  q13 hq13) ⟨va_cnB 3 hw (zgood zw244) rfl rfl rfl (hX.1 _ zn10) (hw _ zw176) hdX5_digitAt ⟨Nat.le_of_ble_eq_true rfl, Nat.le_of_ble_eq_true rfl⟩, hw _ zw245, trivial⟩ (zpre zC_ok hX hS (zfree0 hS hA) zP0 (hK.sub (tys' := []) [] rfl) zD0) rfl rfl hl.1 rfl (lv_room (Nat.le_of_ble_eq_true rfl)) dX0_writeBody_48 ⟨Nat.zero_le _, Nat.zero_le _⟩) hP hD hS (zfree0 hS hA) (fun H locs hP hD hS => ?_)
      refine lv_iadd hx hb dX0_writeBody_51 ?_
      obtain ⟨hi14, hm⟩ := zix_s hm
      refine va_iast (i := q11) (x := (48 + q13)) (f := b) (n := 25) hx hb hK hP hD hS 1 0 rfl rfl hi14 dX0_writeBody_52 (fun H locs hP hD hS => ?_)
      have hP : va_P D vwCl (wE aE bE rE pE c1 c2 c3 v (upd b q11.toNatClampNeg (48 + q13)) rw pw) H := hP
      have hD : va_D _ (wE aE bE rE pE c1 c2 c3 v (upd b q11.toNatClampNeg (48 + q13)) rw pw) := hD
      refine lv_goto (tgt := 103) hx hb dX0_writeBody_53 rfl ?_
      exact b_E_writeBody_103 G0 hK hX rec hrec _ _ _ _ hm H _ _ hP hD hS hl
end
set_option maxRecDepth 100000 in
set_option maxHeartbeats 4000000 in
theorem k_E_writeBody (l : Launch) (D : va_G) (aE bE rE pE : Nat) (c1 c2 c3 : ClassId) (sz : Nat) (a0 : Int64) (a1 : Int32) (v : Nat → Int32) (b : Nat → Int32) (rw : Nat → Int32) (pw : Nat → Int32) (res : (Nat → Int32)) (hm : m_E_writeBody a0 a1 v b rw pw  = some res) : Met l yX0_writeBody (Cond.code yX0_writeBody cX0_writeBody 5 none :: zBIG) (zR 2 45) (va_Pc [.ref aE, .long a0, .int a1] (zP zC D vwCl (wE_t c1 c2 c3) (wE aE bE rE pE c1 c2 c3 v b rw pw) sz)) (zQv D vwCl (wE aE bE rE pE c1 c2 c3 v b rw pw) (wE aE bE rE pE c1 c2 c3 v res rw pw) sz) 0 0 (va_A (wE aE bE rE pE c1 c2 c3 v b rw pw) sz) := by
  refine zEnter RX0 [.ref aE, .long a0, .int a1] (by decide) rfl (Nat.le_of_ble_eq_true rfl) (fun p e s m below meth c ls G hK hX hP hD hsz hl => ?_)
  subst hsz
  unfold m_E_writeBody at hm
  have hl : lv_has ls 5 [(0, .ref aE), (1, .long a0), (3, .int a1)] := hl
  have hS : va_S (va_A (wE aE bE rE pE c1 c2 c3 v b rw pw) s.heap.size) s.heap s.heap [] := va_S.rf
  have hA : ∀ q, s.heap.size ≤ q → va_A (wE aE bE rE pE c1 c2 c3 v b rw pw) s.heap.size q := fun q h => Or.inr h
  have G0 := G
  obtain ⟨hx, hb, hr, hml, hown, hw, hlk⟩ := G
  refine lv_aload_n hx hb dX0_writeBody_0 rfl (lv_at hl 0 rfl) ?_
  refine va_get (D := D) (ci := 0) (v := .int (v 9)) (C := RX0) (T := TX0) (N := 16) hx hb hw zinX0 hown hK hP 0 rfl rfl 9 (by decide) (hw _ zw254) (fun _ h9 => h9) rfl dX0_writeBody_1 ?_
  refine lv_istore (lv' := [(4, .int (v 9)), (0, .ref aE), (1, .long a0), (3, .int a1)]) hx hb dX0_writeBody_4 hl (by decide) rfl (fun ls hl => ?_)
  exact b_E_writeBody_6 G0 hK hX 64 _ _ _ _ hm _ _ _ hP hD hS (lv_sub hl [1, 2, 3, 0] rfl)

theorem dX0_zoneEnd_0 : decode cX0_zoneEnd 0 = .ok (.aload_n 0, 1) := by decide +kernel
theorem dX0_zoneEnd_1 : decode cX0_zoneEnd 1 = .ok (.getfield 96, 3) := by decide +kernel
theorem dX0_zoneEnd_4 : decode cX0_zoneEnd 4 = .ok (.istore 4, 2) := by decide +kernel
theorem dX0_zoneEnd_6 : decode cX0_zoneEnd 6 = .ok (.iload 4, 2) := by decide +kernel
theorem dX0_zoneEnd_8 : decode cX0_zoneEnd 8 = .ok (.aload_n 0, 1) := by decide +kernel
theorem dX0_zoneEnd_9 : decode cX0_zoneEnd 9 = .ok (.getfield 83, 3) := by decide +kernel
theorem dX0_zoneEnd_12 : decode cX0_zoneEnd 12 = .ok (.if_icmp .ge 44, 3) := by decide +kernel
theorem dX0_zoneEnd_15 : decode cX0_zoneEnd 15 = .ok (.iload 4, 2) := by decide +kernel
theorem dX0_zoneEnd_17 : decode cX0_zoneEnd 17 = .ok (.aload_n 0, 1) := by decide +kernel
theorem dX0_zoneEnd_18 : decode cX0_zoneEnd 18 = .ok (.getfield 102, 3) := by decide +kernel
theorem dX0_zoneEnd_21 : decode cX0_zoneEnd 21 = .ok (.if_icmp .eq 26, 3) := by decide +kernel
theorem dX0_zoneEnd_24 : decode cX0_zoneEnd 24 = .ok (.aload_n 0, 1) := by decide +kernel
theorem dX0_zoneEnd_25 : decode cX0_zoneEnd 25 = .ok (.getfield 9, 3) := by decide +kernel
theorem dX0_zoneEnd_28 : decode cX0_zoneEnd 28 = .ok (.iload 4, 2) := by decide +kernel
theorem dX0_zoneEnd_30 : decode cX0_zoneEnd 30 = .ok (.iaload, 1) := by decide +kernel
theorem dX0_zoneEnd_31 : decode cX0_zoneEnd 31 = .ok (.bipush 57, 2) := by decide +kernel
theorem dX0_zoneEnd_33 : decode cX0_zoneEnd 33 = .ok (.if_icmp .eq 14, 3) := by decide +kernel
theorem dX0_zoneEnd_36 : decode cX0_zoneEnd 36 = .ok (.aload_n 0, 1) := by decide +kernel
theorem dX0_zoneEnd_37 : decode cX0_zoneEnd 37 = .ok (.iload 4, 2) := by decide +kernel
theorem dX0_zoneEnd_39 : decode cX0_zoneEnd 39 = .ok (.lload_n 1, 1) := by decide +kernel
theorem dX0_zoneEnd_40 : decode cX0_zoneEnd 40 = .ok (.iload_n 3, 1) := by decide +kernel
theorem dX0_zoneEnd_41 : decode cX0_zoneEnd 41 = .ok (.invokevirtual 162, 3) := by decide +kernel
theorem dX0_zoneEnd_44 : decode cX0_zoneEnd 44 = .ok (.ifCond .eq 6, 3) := by decide +kernel
theorem dX0_zoneEnd_47 : decode cX0_zoneEnd 47 = .ok (.iload 4, 2) := by decide +kernel
theorem dX0_zoneEnd_49 : decode cX0_zoneEnd 49 = .ok (.ireturn, 1) := by decide +kernel
theorem dX0_zoneEnd_50 : decode cX0_zoneEnd 50 = .ok (.iinc 4 1, 3) := by decide +kernel
theorem dX0_zoneEnd_53 : decode cX0_zoneEnd 53 = .ok (.goto (-47), 3) := by decide +kernel
theorem dX0_zoneEnd_56 : decode cX0_zoneEnd 56 = .ok (.aload_n 0, 1) := by decide +kernel
theorem dX0_zoneEnd_57 : decode cX0_zoneEnd 57 = .ok (.getfield 83, 3) := by decide +kernel
theorem dX0_zoneEnd_60 : decode cX0_zoneEnd 60 = .ok (.ireturn, 1) := by decide +kernel
def m_E_zoneEnd_6b (v : Nat → Int32) (b : Nat → Int32) (rw : Nat → Int32) (pw : Nat → Int32) (rec : Int64 → Int32 → Int32 → Option ((Int32))) (x1 : Int64) (x3 : Int32) (x4 : Int32)  : Option ((Int32)) := (if (v 10) ≤ x4 then (some (v 10)) else (if x4 = (v 15) then (some x4) else zix x4 24 ((if (rw x4.toNatClampNeg) = 57 then (some x4) else (m_E_standsForMore x4 x1 x3 v b rw pw).bind (fun q5 => (if q5 = 0 then rec x1 x3 (x4 + 1) else (some x4)))))))
def m_E_zoneEnd_6 (v : Nat → Int32) (b : Nat → Int32) (rw : Nat → Int32) (pw : Nat → Int32) : Nat → Int64 → Int32 → Int32 → Option ((Int32))
  | 0 => fun _ _ _ => none
  | n + 1 => fun x1 x3 x4 => m_E_zoneEnd_6b v b rw pw (m_E_zoneEnd_6 v b rw pw n) x1 x3 x4
def m_E_zoneEnd (a0 : Int64) (a1 : Int32) (v : Nat → Int32) (b : Nat → Int32) (rw : Nat → Int32) (pw : Nat → Int32)  : Option ((Int32)) := m_E_zoneEnd_6 v b rw pw 64 a0 a1 (v 13)
section
variable {p : Program} {l : Launch} {e : Env} {s : State} {m : MethodId} {args : Array Value} {below : List Frame} {meth : Method} {c : Code} {D : va_G} {w0 : va_W} {aE bE rE pE : Nat} {c1 c2 c3 : ClassId} {v : Nat → Int32} {b : Nat → Int32} {rw : Nat → Int32} {pw : Nat → Int32}
set_option maxRecDepth 100000 in
set_option maxHeartbeats 4000000 in
theorem b_E_zoneEnd_6 (G : zG p s m args meth c cX0_zoneEnd RX0 5 (some .int)) (hK : va_K D vwCl (wE_t c1 c2 c3) s) (hX : zC (va_A w0 s.heap.size) s) {res : (Int32)} : ∀ n : Nat, ∀ (x1 : Int64) (x3 : Int32) (x4 : Int32), m_E_zoneEnd_6 v b rw pw n x1 x3 x4 = some res → zB p l e (zR 3 69) s m args below meth c D vwCl (va_A w0 s.heap.size) (MQ below (zQi D vwCl w0 (wE aE bE rE pE c1 c2 c3 v b rw pw) s.heap.size res) args s 0 0 (va_A w0 s.heap.size)) 5 (wE aE bE rE pE c1 c2 c3 v b rw pw) [(0, .ref aE), (1, .long x1), (3, .int x3), (4, .int x4)] 6 [] := by
  intro n
  induction n with
  | zero => intro x1 x3 x4 hm; cases hm
  | succ n ih =>
  have hrec := ih
  intro x1 x3 x4 hm H locs ls hP hD hS hl
  replace hm : m_E_zoneEnd_6b v b rw pw (m_E_zoneEnd_6 v b rw pw n) x1 x3 x4 = some res := hm
  generalize m_E_zoneEnd_6 v b rw pw n = rec at hm hrec
  unfold m_E_zoneEnd_6b at hm
  clear ih
  have G0 := G
  obtain ⟨hx, hb, hr, hml, hown, hw, hlk⟩ := G
  have hA : ∀ q, s.heap.size ≤ q → va_A w0 s.heap.size q := fun q h => Or.inr h
  refine lv_iload hx hb dX0_zoneEnd_6 (lv_at hl 3 rfl) ?_
  refine lv_aload_n hx hb dX0_zoneEnd_8 rfl (lv_at hl 0 rfl) ?_
  refine va_get (D := D) (ci := 0) (v := .int (v 10)) (C := RX0) (T := TX0) (N := 16) hx hb hw zinX0 hown hK hP 0 rfl rfl 10 (by decide) (hw _ zw255) (fun _ h9 => h9) rfl dX0_zoneEnd_9 ?_
  refine lv_icmp_ge (tgt := 56) hx hb dX0_zoneEnd_12 rfl (fun cd1 => ?_) (fun cd1 => ?_)
  · replace hm := zt cd1 hm
    refine lv_aload_n hx hb dX0_zoneEnd_56 rfl (lv_at hl 0 rfl) ?_
    refine va_get (D := D) (ci := 0) (v := .int (v 10)) (C := RX0) (T := TX0) (N := 16) hx hb hw zinX0 hown hK hP 0 rfl rfl 10 (by decide) (hw _ zw255) (fun _ h9 => h9) rfl dX0_zoneEnd_57 ?_
    cases hm
    exact zreti hx hb hr hlk hP hD hS dX0_zoneEnd_60
  · replace hm := zf cd1 hm
    refine lv_iload hx hb dX0_zoneEnd_15 (lv_at hl 3 rfl) ?_
    refine lv_aload_n hx hb dX0_zoneEnd_17 rfl (lv_at hl 0 rfl) ?_
    refine va_get (D := D) (ci := 0) (v := .int (v 15)) (C := RX0) (T := TX0) (N := 16) hx hb hw zinX0 hown hK hP 0 rfl rfl 15 (by decide) (hw _ zw278) (fun _ h9 => h9) rfl dX0_zoneEnd_18 ?_
    refine lv_icmp_eq (tgt := 47) hx hb dX0_zoneEnd_21 rfl (fun cd2 => ?_) (fun cd2 => ?_)
    · replace hm := zt cd2 hm
      refine lv_iload hx hb dX0_zoneEnd_47 (lv_at hl 3 rfl) ?_
      cases hm
      exact zreti hx hb hr hlk hP hD hS dX0_zoneEnd_49
    · replace hm := zf cd2 hm
      refine lv_aload_n hx hb dX0_zoneEnd_24 rfl (lv_at hl 0 rfl) ?_
      refine va_get (D := D) (ci := 0) (v := .ref rE) (C := RX0) (T := TX0) (N := 16) hx hb hw zinX0 hown hK hP 0 rfl rfl 5 (by decide) (hw _ zw256) (fun _ h9 => h9) rfl dX0_zoneEnd_25 ?_
      refine lv_iload hx hb dX0_zoneEnd_28 (lv_at hl 3 rfl) ?_
      obtain ⟨hi3, hm⟩ := zix_s hm
      refine va_iald (i := x4) (f := rw) (n := 24) hx hb hK hP 2 1 rfl rfl hi3 dX0_zoneEnd_30 ?_
      refine lv_bipush (v := 57) hx hb dX0_zoneEnd_31 (by decide) ?_
      refine lv_icmp_eq (tgt := 47) hx hb dX0_zoneEnd_33 rfl (fun cd4 => ?_) (fun cd4 => ?_)
      · replace hm := zt cd4 hm
        refine lv_iload hx hb dX0_zoneEnd_47 (lv_at hl 3 rfl) ?_
        cases hm
        exact zreti hx hb hr hlk hP hD hS dX0_zoneEnd_49
      · replace hm := zf cd4 hm
        refine lv_aload_n hx hb dX0_zoneEnd_36 rfl (lv_at hl 0 rfl) ?_
        refine lv_iload hx hb dX0_zoneEnd_37 (lv_at hl 3 rfl) ?_
        refine lv_lload_n hx hb dX0_zoneEnd_39 rfl (lv_at hl 1 rfl) ?_
        refine lv_iload_n hx hb dX0_zoneEnd_40 rfl (lv_at hl 2 rfl) ?_
        obtain ⟨q5, hq5, hm⟩ := zbind hm
        refine zbWi (va_runV (As := [.int x4, .long x1, .int x3]) (rest := []) ⟨hx, hb, hml, hown, hw⟩ (k_E_standsForMore l D aE bE rE pE c1 c2 c3 _ x4 x1 x3 v b rw pw  q5 hq5) (zcV (C := RX0) 3 hw (zgood zw355) rfl rfl rfl zw259 zw357 zw356 zw358 hdX0_standsForMore ⟨Nat.le_of_ble_eq_true rfl, Nat.le_of_ble_eq_true rfl⟩) (zpreV (zpre zC_ok hX hS (zfree hD hS hA) hP hK hD) (va_recv hK hP rfl (q0 := 0) rfl)) rfl rfl hl.1 rfl (lv_room (Nat.le_of_ble_eq_true rfl)) dX0_zoneEnd_41 ⟨Nat.zero_le _, Nat.zero_le _⟩) hS (zfree hD hS hA) (fun H locs hP hD hS => ?_)
        refine lv_if_eq (tgt := 50) hx hb dX0_zoneEnd_44 rfl (fun cd6 => ?_) (fun cd6 => ?_)
        · replace hm := zt cd6 hm
          refine lv_iinc (k := 3) (v := (x4 + 1)) (lv' := [(4, .int (x4 + 1)), (0, .ref aE), (1, .long x1), (3, .int x3)]) hx hb dX0_zoneEnd_50 hl rfl rfl (by decide) rfl (fun ls hl => ?_)
          refine lv_goto (tgt := 6) hx hb dX0_zoneEnd_53 rfl ?_
          exact hrec _ _ _ hm H _ _ hP hD hS (lv_sub hl [1, 2, 3, 0] rfl)
        · replace hm := zf cd6 hm
          refine lv_iload hx hb dX0_zoneEnd_47 (lv_at hl 3 rfl) ?_
          cases hm
          exact zreti hx hb hr hlk hP hD hS dX0_zoneEnd_49
end
set_option maxRecDepth 100000 in
set_option maxHeartbeats 4000000 in
theorem k_E_zoneEnd (l : Launch) (D : va_G) (aE bE rE pE : Nat) (c1 c2 c3 : ClassId) (sz : Nat) (a0 : Int64) (a1 : Int32) (v : Nat → Int32) (b : Nat → Int32) (rw : Nat → Int32) (pw : Nat → Int32) (res : (Int32)) (hm : m_E_zoneEnd a0 a1 v b rw pw  = some res) : Met l yX0_zoneEnd (Cond.code yX0_zoneEnd cX0_zoneEnd 5 (some .int) :: zBIG) (zR 3 69) (va_Pc [.ref aE, .long a0, .int a1] (zP zC D vwCl (wE_t c1 c2 c3) (wE aE bE rE pE c1 c2 c3 v b rw pw) sz)) (zQi D vwCl (wE aE bE rE pE c1 c2 c3 v b rw pw) (wE aE bE rE pE c1 c2 c3 v b rw pw) sz res) 0 0 (va_A (wE aE bE rE pE c1 c2 c3 v b rw pw) sz) := by
  refine zEnter RX0 [.ref aE, .long a0, .int a1] (by decide) rfl (Nat.le_of_ble_eq_true rfl) (fun p e s m below meth c ls G hK hX hP hD hsz hl => ?_)
  subst hsz
  unfold m_E_zoneEnd at hm
  have hl : lv_has ls 5 [(0, .ref aE), (1, .long a0), (3, .int a1)] := hl
  have hS : va_S (va_A (wE aE bE rE pE c1 c2 c3 v b rw pw) s.heap.size) s.heap s.heap [] := va_S.rf
  have hA : ∀ q, s.heap.size ≤ q → va_A (wE aE bE rE pE c1 c2 c3 v b rw pw) s.heap.size q := fun q h => Or.inr h
  have G0 := G
  obtain ⟨hx, hb, hr, hml, hown, hw, hlk⟩ := G
  refine lv_aload_n hx hb dX0_zoneEnd_0 rfl (lv_at hl 0 rfl) ?_
  refine va_get (D := D) (ci := 0) (v := .int (v 13)) (C := RX0) (T := TX0) (N := 16) hx hb hw zinX0 hown hK hP 0 rfl rfl 13 (by decide) (hw _ zw273) (fun _ h9 => h9) rfl dX0_zoneEnd_1 ?_
  refine lv_istore (lv' := [(4, .int (v 13)), (0, .ref aE), (1, .long a0), (3, .int a1)]) hx hb dX0_zoneEnd_4 hl (by decide) rfl (fun ls hl => ?_)
  exact b_E_zoneEnd_6 G0 hK hX 64 _ _ _ hm _ _ _ hP hD hS (lv_sub hl [1, 2, 3, 0] rfl)

theorem dX0_takeNumber_0 : decode cX0_takeNumber 0 = .ok (.aload_n 0, 1) := by decide +kernel
theorem dX0_takeNumber_1 : decode cX0_takeNumber 1 = .ok (.lload_n 1, 1) := by decide +kernel
theorem dX0_takeNumber_2 : decode cX0_takeNumber 2 = .ok (.iload_n 3, 1) := by decide +kernel
theorem dX0_takeNumber_3 : decode cX0_takeNumber 3 = .ok (.invokevirtual 135, 3) := by decide +kernel
theorem dX0_takeNumber_6 : decode cX0_takeNumber 6 = .ok (.istore 4, 2) := by decide +kernel
theorem dX0_takeNumber_8 : decode cX0_takeNumber 8 = .ok (.aload_n 0, 1) := by decide +kernel
theorem dX0_takeNumber_9 : decode cX0_takeNumber 9 = .ok (.getfield 99, 3) := by decide +kernel
theorem dX0_takeNumber_12 : decode cX0_takeNumber 12 = .ok (.ifCond .ne 14, 3) := by decide +kernel
theorem dX0_takeNumber_15 : decode cX0_takeNumber 15 = .ok (.iload 4, 2) := by decide +kernel
theorem dX0_takeNumber_17 : decode cX0_takeNumber 17 = .ok (.ifCond .ne 9, 3) := by decide +kernel
theorem dX0_takeNumber_20 : decode cX0_takeNumber 20 = .ok (.aload_n 0, 1) := by decide +kernel
theorem dX0_takeNumber_21 : decode cX0_takeNumber 21 = .ok (.invokevirtual 139, 3) := by decide +kernel
theorem dX0_takeNumber_24 : decode cX0_takeNumber 24 = .ok (.iconst 1, 1) := by decide +kernel
theorem dX0_takeNumber_25 : decode cX0_takeNumber 25 = .ok (.ireturn, 1) := by decide +kernel
theorem dX0_takeNumber_26 : decode cX0_takeNumber 26 = .ok (.aload_n 0, 1) := by decide +kernel
theorem dX0_takeNumber_27 : decode cX0_takeNumber 27 = .ok (.getfield 61, 3) := by decide +kernel
theorem dX0_takeNumber_30 : decode cX0_takeNumber 30 = .ok (.ifCond .eq 18, 3) := by decide +kernel
theorem dX0_takeNumber_33 : decode cX0_takeNumber 33 = .ok (.iload 4, 2) := by decide +kernel
theorem dX0_takeNumber_35 : decode cX0_takeNumber 35 = .ok (.ifCond .eq 13, 3) := by decide +kernel
theorem dX0_takeNumber_38 : decode cX0_takeNumber 38 = .ok (.lload_n 1, 1) := by decide +kernel
theorem dX0_takeNumber_39 : decode cX0_takeNumber 39 = .ok (.lconst 0, 1) := by decide +kernel
theorem dX0_takeNumber_40 : decode cX0_takeNumber 40 = .ok (.lcmp, 1) := by decide +kernel
theorem dX0_takeNumber_41 : decode cX0_takeNumber 41 = .ok (.ifCond .ge 7, 3) := by decide +kernel
theorem dX0_takeNumber_44 : decode cX0_takeNumber 44 = .ok (.iconst 1, 1) := by decide +kernel
theorem dX0_takeNumber_45 : decode cX0_takeNumber 45 = .ok (.goto 4, 3) := by decide +kernel
theorem dX0_takeNumber_48 : decode cX0_takeNumber 48 = .ok (.iconst 0, 1) := by decide +kernel
theorem dX0_takeNumber_49 : decode cX0_takeNumber 49 = .ok (.istore 5, 2) := by decide +kernel
theorem dX0_takeNumber_51 : decode cX0_takeNumber 51 = .ok (.iconst 0, 1) := by decide +kernel
theorem dX0_takeNumber_52 : decode cX0_takeNumber 52 = .ok (.istore 6, 2) := by decide +kernel
theorem dX0_takeNumber_54 : decode cX0_takeNumber 54 = .ok (.iload 6, 2) := by decide +kernel
theorem dX0_takeNumber_56 : decode cX0_takeNumber 56 = .ok (.aload_n 0, 1) := by decide +kernel
theorem dX0_takeNumber_57 : decode cX0_takeNumber 57 = .ok (.getfield 80, 3) := by decide +kernel
theorem dX0_takeNumber_60 : decode cX0_takeNumber 60 = .ok (.if_icmp .ge 28, 3) := by decide +kernel
theorem dX0_takeNumber_63 : decode cX0_takeNumber 63 = .ok (.aload_n 0, 1) := by decide +kernel
theorem dX0_takeNumber_64 : decode cX0_takeNumber 64 = .ok (.getfield 117, 3) := by decide +kernel
theorem dX0_takeNumber_67 : decode cX0_takeNumber 67 = .ok (.iload 6, 2) := by decide +kernel
theorem dX0_takeNumber_69 : decode cX0_takeNumber 69 = .ok (.aload_n 0, 1) := by decide +kernel
theorem dX0_takeNumber_70 : decode cX0_takeNumber 70 = .ok (.getfield 9, 3) := by decide +kernel
theorem dX0_takeNumber_73 : decode cX0_takeNumber 73 = .ok (.iload 6, 2) := by decide +kernel
theorem dX0_takeNumber_75 : decode cX0_takeNumber 75 = .ok (.iaload, 1) := by decide +kernel
theorem dX0_takeNumber_76 : decode cX0_takeNumber 76 = .ok (.iload 5, 2) := by decide +kernel
theorem dX0_takeNumber_78 : decode cX0_takeNumber 78 = .ok (.invokestatic 142, 3) := by decide +kernel
theorem dX0_takeNumber_81 : decode cX0_takeNumber 81 = .ok (.iastore, 1) := by decide +kernel
theorem dX0_takeNumber_82 : decode cX0_takeNumber 82 = .ok (.iinc 6 1, 3) := by decide +kernel
theorem dX0_takeNumber_85 : decode cX0_takeNumber 85 = .ok (.goto (-31), 3) := by decide +kernel
theorem dX0_takeNumber_88 : decode cX0_takeNumber 88 = .ok (.aload_n 0, 1) := by decide +kernel
theorem dX0_takeNumber_89 : decode cX0_takeNumber 89 = .ok (.lload_n 1, 1) := by decide +kernel
theorem dX0_takeNumber_90 : decode cX0_takeNumber 90 = .ok (.iload_n 3, 1) := by decide +kernel
theorem dX0_takeNumber_91 : decode cX0_takeNumber 91 = .ok (.invokevirtual 146, 3) := by decide +kernel
theorem dX0_takeNumber_94 : decode cX0_takeNumber 94 = .ok (.aload_n 0, 1) := by decide +kernel
theorem dX0_takeNumber_95 : decode cX0_takeNumber 95 = .ok (.aload_n 0, 1) := by decide +kernel
theorem dX0_takeNumber_96 : decode cX0_takeNumber 96 = .ok (.lload_n 1, 1) := by decide +kernel
theorem dX0_takeNumber_97 : decode cX0_takeNumber 97 = .ok (.iload_n 3, 1) := by decide +kernel
theorem dX0_takeNumber_98 : decode cX0_takeNumber 98 = .ok (.invokevirtual 150, 3) := by decide +kernel
theorem dX0_takeNumber_101 : decode cX0_takeNumber 101 = .ok (.iload 5, 2) := by decide +kernel
theorem dX0_takeNumber_103 : decode cX0_takeNumber 103 = .ok (.invokevirtual 154, 3) := by decide +kernel
theorem dX0_takeNumber_106 : decode cX0_takeNumber 106 = .ok (.aload_n 0, 1) := by decide +kernel
theorem dX0_takeNumber_107 : decode cX0_takeNumber 107 = .ok (.iload 5, 2) := by decide +kernel
theorem dX0_takeNumber_109 : decode cX0_takeNumber 109 = .ok (.invokevirtual 158, 3) := by decide +kernel
theorem dX0_takeNumber_112 : decode cX0_takeNumber 112 = .ok (.iconst 1, 1) := by decide +kernel
theorem dX0_takeNumber_113 : decode cX0_takeNumber 113 = .ok (.ireturn, 1) := by decide +kernel
def m_E_takeNumber_54b (v : Nat → Int32) (rw : Nat → Int32) (pw : Nat → Int32) (rec : Int64 → Int32 → Int32 → Int32 → (Nat → Int32) → Option ((Int32) × (Nat → Int32))) (x1 : Int64) (x3 : Int32) (x5 : Int32) (x6 : Int32) (b : Nat → Int32) : Option ((Int32) × (Nat → Int32)) := (if (v 9) ≤ x6 then (m_E_writeBody x1 x3 v b rw pw).bind (fun q5 => (m_E_zoneEnd x1 x3 v q5 rw pw).bind (fun q6 => (m_E_suppressZone q6 x5 v q5 rw pw).bind (fun q7 => (m_E_writeTrailing x5 v q7 rw pw).bind (fun q8 => (zbo 1 (some (1, q8))))))) else zix x6 24 ((m_E_fixedCharacter (rw x6.toNatClampNeg) x5).bind (fun q11 => zix x6 25 (rec x1 x3 x5 (x6 + 1) (upd b x6.toNatClampNeg q11)))))
def m_E_takeNumber_54 (v : Nat → Int32) (rw : Nat → Int32) (pw : Nat → Int32) : Nat → Int64 → Int32 → Int32 → Int32 → (Nat → Int32) → Option ((Int32) × (Nat → Int32))
  | 0 => fun _ _ _ _ _ => none
  | n + 1 => fun x1 x3 x5 x6 b => m_E_takeNumber_54b v rw pw (m_E_takeNumber_54 v rw pw n) x1 x3 x5 x6 b
def m_E_takeNumber_49 (v : Nat → Int32) (rw : Nat → Int32) (pw : Nat → Int32) (x1 : Int64) (x3 : Int32) (t0 : Int32) (b : Nat → Int32) : Option ((Int32) × (Nat → Int32)) := m_E_takeNumber_54 v rw pw 64 x1 x3 t0 0 b
def m_E_takeNumber_48 (v : Nat → Int32) (rw : Nat → Int32) (pw : Nat → Int32) (x1 : Int64) (x3 : Int32) (b : Nat → Int32) : Option ((Int32) × (Nat → Int32)) := m_E_takeNumber_49 v rw pw x1 x3 0 b
def m_E_takeNumber_26 (v : Nat → Int32) (rw : Nat → Int32) (pw : Nat → Int32) (x1 : Int64) (x3 : Int32) (x4 : Int32) (b : Nat → Int32) : Option ((Int32) × (Nat → Int32)) := (if (v 4) = 0 then m_E_takeNumber_48 v rw pw x1 x3 b else (if x4 = 0 then m_E_takeNumber_48 v rw pw x1 x3 b else (if 0 ≤ (lg_cmp x1 0) then m_E_takeNumber_48 v rw pw x1 x3 b else m_E_takeNumber_49 v rw pw x1 x3 1 b)))
def m_E_takeNumber (a0 : Int64) (a1 : Int32) (v : Nat → Int32) (b : Nat → Int32) (rw : Nat → Int32) (pw : Nat → Int32)  : Option ((Int32) × (Nat → Int32)) := (m_E_leavesDigit a0 a1 v b rw pw).bind (fun q1 => (if (v 14) = 0 then (if q1 = 0 then (m_E_suppressAll v b rw pw).bind (fun q16 => (zbo 1 (some (1, q16)))) else m_E_takeNumber_26 v rw pw a0 a1 q1 b) else m_E_takeNumber_26 v rw pw a0 a1 q1 b))
section
variable {p : Program} {l : Launch} {e : Env} {s : State} {m : MethodId} {args : Array Value} {below : List Frame} {meth : Method} {c : Code} {D : va_G} {w0 : va_W} {aE bE rE pE : Nat} {c1 c2 c3 : ClassId} {v : Nat → Int32} {rw : Nat → Int32} {pw : Nat → Int32}
set_option maxRecDepth 100000 in
set_option maxHeartbeats 4000000 in
theorem b_E_takeNumber_54 (G : zG p s m args meth c cX0_takeNumber RX0 7 (some .boolean)) (hK : va_K D vwCl (wE_t c1 c2 c3) s) (hX : zC (va_A w0 s.heap.size) s) {res : (Int32) × (Nat → Int32)} : ∀ n : Nat, ∀ (x1 : Int64) (x3 : Int32) (x5 : Int32) (x6 : Int32) (b : Nat → Int32), m_E_takeNumber_54 v rw pw n x1 x3 x5 x6 b = some res → zB p l e (zR 4 93) s m args below meth c D vwCl (va_A w0 s.heap.size) (MQ below (zQi D vwCl w0 (wE aE bE rE pE c1 c2 c3 v res.2 rw pw) s.heap.size res.1) args s 0 0 (va_A w0 s.heap.size)) 7 (wE aE bE rE pE c1 c2 c3 v b rw pw) [(0, .ref aE), (1, .long x1), (3, .int x3), (5, .int x5), (6, .int x6)] 54 [] := by
  intro n
  induction n with
  | zero => intro x1 x3 x5 x6 b hm; cases hm
  | succ n ih =>
  have hrec := ih
  intro x1 x3 x5 x6 b hm H locs ls hP hD hS hl
  replace hm : m_E_takeNumber_54b v rw pw (m_E_takeNumber_54 v rw pw n) x1 x3 x5 x6 b = some res := hm
  generalize m_E_takeNumber_54 v rw pw n = rec at hm hrec
  unfold m_E_takeNumber_54b at hm
  clear ih
  have G0 := G
  obtain ⟨hx, hb, hr, hml, hown, hw, hlk⟩ := G
  have hA : ∀ q, s.heap.size ≤ q → va_A w0 s.heap.size q := fun q h => Or.inr h
  refine lv_iload hx hb dX0_takeNumber_54 (lv_at hl 4 rfl) ?_
  refine lv_aload_n hx hb dX0_takeNumber_56 rfl (lv_at hl 0 rfl) ?_
  refine va_get (D := D) (ci := 0) (v := .int (v 9)) (C := RX0) (T := TX0) (N := 16) hx hb hw zinX0 hown hK hP 0 rfl rfl 9 (by decide) (hw _ zw254) (fun _ h9 => h9) rfl dX0_takeNumber_57 ?_
  refine lv_icmp_ge (tgt := 88) hx hb dX0_takeNumber_60 rfl (fun cd4 => ?_) (fun cd4 => ?_)
  · replace hm := zt cd4 hm
    refine lv_aload_n hx hb dX0_takeNumber_88 rfl (lv_at hl 0 rfl) ?_
    refine lv_lload_n hx hb dX0_takeNumber_89 rfl (lv_at hl 1 rfl) ?_
    refine lv_iload_n hx hb dX0_takeNumber_90 rfl (lv_at hl 2 rfl) ?_
    obtain ⟨q5, hq5, hm⟩ := zbind hm
    refine zbWv (va_runV (As := [.long x1, .int x3]) (rest := []) ⟨hx, hb, hml, hown, hw⟩ (k_E_writeBody l D aE bE rE pE c1 c2 c3 _ x1 x3 v b rw pw  q5 hq5) (zcV (C := RX0) 2 hw (zgood zw363) rfl rfl rfl zw259 zw365 zw364 zw366 hdX0_writeBody ⟨Nat.le_of_ble_eq_true rfl, Nat.le_of_ble_eq_true rfl⟩) (zpreV (zpre zC_ok hX hS (zfree hD hS hA) hP hK hD) (va_recv hK hP rfl (q0 := 0) rfl)) rfl rfl hl.1 rfl (lv_room (Nat.le_of_ble_eq_true rfl)) dX0_takeNumber_91 ⟨Nat.zero_le _, Nat.zero_le _⟩) hS (zfree hD hS hA) (fun H locs hP hD hS => ?_)
    have hP : va_P D vwCl (wE aE bE rE pE c1 c2 c3 v q5 rw pw) H := hP
    have hD : va_D _ (wE aE bE rE pE c1 c2 c3 v q5 rw pw) := hD
    refine lv_aload_n hx hb dX0_takeNumber_94 rfl (lv_at hl 0 rfl) ?_
    refine lv_aload_n hx hb dX0_takeNumber_95 rfl (lv_at hl 0 rfl) ?_
    refine lv_lload_n hx hb dX0_takeNumber_96 rfl (lv_at hl 1 rfl) ?_
    refine lv_iload_n hx hb dX0_takeNumber_97 rfl (lv_at hl 2 rfl) ?_
    obtain ⟨q6, hq6, hm⟩ := zbind hm
    refine zbWi (va_runV (As := [.long x1, .int x3]) (rest := [.ref aE]) ⟨hx, hb, hml, hown, hw⟩ (k_E_zoneEnd l D aE bE rE pE c1 c2 c3 _ x1 x3 v q5 rw pw  q6 hq6) (zcV (C := RX0) 2 hw (zgood zw367) rfl rfl rfl zw259 zw369 zw368 zw370 hdX0_zoneEnd ⟨Nat.le_of_ble_eq_true rfl, Nat.le_of_ble_eq_true rfl⟩) (zpreV (zpre zC_ok hX hS (zfree hD hS hA) hP hK hD) (va_recv hK hP rfl (q0 := 0) rfl)) rfl rfl hl.1 rfl (lv_room (Nat.le_of_ble_eq_true rfl)) dX0_takeNumber_98 ⟨Nat.zero_le _, Nat.zero_le _⟩) hS (zfree hD hS hA) (fun H locs hP hD hS => ?_)
    refine lv_iload hx hb dX0_takeNumber_101 (lv_at hl 3 rfl) ?_
    obtain ⟨q7, hq7, hm⟩ := zbind hm
    refine zbWv (va_runV (As := [.int q6, .int x5]) (rest := []) ⟨hx, hb, hml, hown, hw⟩ (k_E_suppressZone l D aE bE rE pE c1 c2 c3 _ q6 x5 v q5 rw pw  q7 hq7) (zcV (C := RX0) 2 hw (zgood zw371) rfl rfl rfl zw259 zw373 zw372 zw374 hdX0_suppressZone ⟨Nat.le_of_ble_eq_true rfl, Nat.le_of_ble_eq_true rfl⟩) (zpreV (zpre zC_ok hX hS (zfree hD hS hA) hP hK hD) (va_recv hK hP rfl (q0 := 0) rfl)) rfl rfl hl.1 rfl (lv_room (Nat.le_of_ble_eq_true rfl)) dX0_takeNumber_103 ⟨Nat.zero_le _, Nat.zero_le _⟩) hS (zfree hD hS hA) (fun H locs hP hD hS => ?_)
    have hP : va_P D vwCl (wE aE bE rE pE c1 c2 c3 v q7 rw pw) H := hP
    have hD : va_D _ (wE aE bE rE pE c1 c2 c3 v q7 rw pw) := hD
    refine lv_aload_n hx hb dX0_takeNumber_106 rfl (lv_at hl 0 rfl) ?_
    refine lv_iload hx hb dX0_takeNumber_107 (lv_at hl 3 rfl) ?_
    obtain ⟨q8, hq8, hm⟩ := zbind hm
    refine zbWv (va_runV (As := [.int x5]) (rest := []) ⟨hx, hb, hml, hown, hw⟩ (k_E_writeTrailing l D aE bE rE pE c1 c2 c3 _ x5 v q7 rw pw  q8 hq8) (zcV (C := RX0) 1 hw (zgood zw375) rfl rfl rfl zw259 zw377 zw376 zw378 hdX0_writeTrailing ⟨Nat.le_of_ble_eq_true rfl, Nat.le_of_ble_eq_true rfl⟩) (zpreV (zpre zC_ok hX hS (zfree hD hS hA) hP hK hD) (va_recv hK hP rfl (q0 := 0) rfl)) rfl rfl hl.1 rfl (lv_room (Nat.le_of_ble_eq_true rfl)) dX0_takeNumber_109 ⟨Nat.zero_le _, Nat.zero_le _⟩) hS (zfree hD hS hA) (fun H locs hP hD hS => ?_)
    have hP : va_P D vwCl (wE aE bE rE pE c1 c2 c3 v q8 rw pw) H := hP
    have hD : va_D _ (wE aE bE rE pE c1 c2 c3 v q8 rw pw) := hD
    refine lv_iconst (v := 1) hx hb dX0_takeNumber_112 (by decide) ?_
    obtain ⟨hz9, -, hm⟩ := zbo_s hm
    cases hm
    exact zretz hx hb hr hlk hz9 hP hD hS dX0_takeNumber_113
  · replace hm := zf cd4 hm
    refine lv_aload_n hx hb dX0_takeNumber_63 rfl (lv_at hl 0 rfl) ?_
    refine va_get (D := D) (ci := 0) (v := .ref bE) (C := RX0) (T := TX0) (N := 16) hx hb hw zinX0 hown hK hP 0 rfl rfl 0 (by decide) (hw _ zw308) (fun x9 h9 => u_same (hw _ zw307) x9 h9) rfl dX0_takeNumber_64 ?_
    refine lv_iload hx hb dX0_takeNumber_67 (lv_at hl 4 rfl) ?_
    refine lv_aload_n hx hb dX0_takeNumber_69 rfl (lv_at hl 0 rfl) ?_
    refine va_get (D := D) (ci := 0) (v := .ref rE) (C := RX0) (T := TX0) (N := 16) hx hb hw zinX0 hown hK hP 0 rfl rfl 5 (by decide) (hw _ zw256) (fun _ h9 => h9) rfl dX0_takeNumber_70 ?_
    refine lv_iload hx hb dX0_takeNumber_73 (lv_at hl 4 rfl) ?_
    obtain ⟨hi10, hm⟩ := zix_s hm
    refine va_iald (i := x6) (f := rw) (n := 24) hx hb hK hP 2 1 rfl rfl hi10 dX0_takeNumber_75 ?_
    refine lv_iload hx hb dX0_takeNumber_76 (lv_at hl 3 rfl) ?_
    obtain ⟨q11, hq11, hm⟩ := zbind hm
    refine zb0i (va_runS (As := [.int (rw x6.toNatClampNeg), .int x5]) (rest := [.int x6, .ref bE]) ⟨hx, hb, hml, hown, hw⟩ (k_E_fixedCharacter l D  _ (rw x6.toNatClampNeg) x5  q11 hq11) ⟨zcB 2 hw (zgood zw326) rfl rfl rfl zw259 zw328 hdX0_fixedCharacter ⟨Nat.le_of_ble_eq_true rfl, Nat.le_of_ble_eq_true rfl⟩, hw _ zw327⟩ (zpre zN_ok trivial hS (zfree0 hS hA) zP0 (hK.sub (tys' := []) [] rfl) zD0) rfl rfl hl.1 rfl (lv_room (Nat.le_of_ble_eq_true rfl)) dX0_takeNumber_78 ⟨Nat.zero_le _, Nat.zero_le _⟩) hP hD hS (zfree0 hS hA) (fun H locs hP hD hS => ?_)
    obtain ⟨hi12, hm⟩ := zix_s hm
    refine va_iast (i := x6) (x := q11) (f := b) (n := 25) hx hb hK hP hD hS 1 0 rfl rfl hi12 dX0_takeNumber_81 (fun H locs hP hD hS => ?_)
    have hP : va_P D vwCl (wE aE bE rE pE c1 c2 c3 v (upd b x6.toNatClampNeg q11) rw pw) H := hP
    have hD : va_D _ (wE aE bE rE pE c1 c2 c3 v (upd b x6.toNatClampNeg q11) rw pw) := hD
    refine lv_iinc (k := 4) (v := (x6 + 1)) (lv' := [(6, .int (x6 + 1)), (0, .ref aE), (1, .long x1), (3, .int x3), (5, .int x5)]) hx hb dX0_takeNumber_82 hl rfl rfl (by decide) rfl (fun ls hl => ?_)
    refine lv_goto (tgt := 54) hx hb dX0_takeNumber_85 rfl ?_
    exact hrec _ _ _ _ _ hm H _ _ hP hD hS (lv_sub hl [1, 2, 3, 4, 0] rfl)
set_option maxRecDepth 100000 in
set_option maxHeartbeats 4000000 in
theorem b_E_takeNumber_49 (G : zG p s m args meth c cX0_takeNumber RX0 7 (some .boolean)) (hK : va_K D vwCl (wE_t c1 c2 c3) s) (hX : zC (va_A w0 s.heap.size) s) {res : (Int32) × (Nat → Int32)} : ∀ (x1 : Int64) (x3 : Int32) (t0 : Int32) (b : Nat → Int32), m_E_takeNumber_49 v rw pw x1 x3 t0 b = some res → zB p l e (zR 4 93) s m args below meth c D vwCl (va_A w0 s.heap.size) (MQ below (zQi D vwCl w0 (wE aE bE rE pE c1 c2 c3 v res.2 rw pw) s.heap.size res.1) args s 0 0 (va_A w0 s.heap.size)) 7 (wE aE bE rE pE c1 c2 c3 v b rw pw) [(0, .ref aE), (1, .long x1), (3, .int x3)] 49 [.int t0] := by
  intro x1 x3 t0 b hm H locs ls hP hD hS hl
  unfold m_E_takeNumber_49 at hm
  have G0 := G
  obtain ⟨hx, hb, hr, hml, hown, hw, hlk⟩ := G
  have hA : ∀ q, s.heap.size ≤ q → va_A w0 s.heap.size q := fun q h => Or.inr h
  refine lv_istore (lv' := [(5, .int t0), (0, .ref aE), (1, .long x1), (3, .int x3)]) hx hb dX0_takeNumber_49 hl (by decide) rfl (fun ls hl => ?_)
  refine lv_iconst (v := 0) hx hb dX0_takeNumber_51 (by decide) ?_
  refine lv_istore (lv' := [(6, .int 0), (5, .int t0), (0, .ref aE), (1, .long x1), (3, .int x3)]) hx hb dX0_takeNumber_52 hl (by decide) rfl (fun ls hl => ?_)
  exact b_E_takeNumber_54 G0 hK hX 64 _ _ _ _ _ hm H _ _ hP hD hS (lv_sub hl [2, 3, 4, 1, 0] rfl)
set_option maxRecDepth 100000 in
set_option maxHeartbeats 4000000 in
theorem b_E_takeNumber_48 (G : zG p s m args meth c cX0_takeNumber RX0 7 (some .boolean)) (hK : va_K D vwCl (wE_t c1 c2 c3) s) (hX : zC (va_A w0 s.heap.size) s) {res : (Int32) × (Nat → Int32)} : ∀ (x1 : Int64) (x3 : Int32) (b : Nat → Int32), m_E_takeNumber_48 v rw pw x1 x3 b = some res → zB p l e (zR 4 93) s m args below meth c D vwCl (va_A w0 s.heap.size) (MQ below (zQi D vwCl w0 (wE aE bE rE pE c1 c2 c3 v res.2 rw pw) s.heap.size res.1) args s 0 0 (va_A w0 s.heap.size)) 7 (wE aE bE rE pE c1 c2 c3 v b rw pw) [(0, .ref aE), (1, .long x1), (3, .int x3)] 48 [] := by
  intro x1 x3 b hm H locs ls hP hD hS hl
  unfold m_E_takeNumber_48 at hm
  have G0 := G
  obtain ⟨hx, hb, hr, hml, hown, hw, hlk⟩ := G
  have hA : ∀ q, s.heap.size ≤ q → va_A w0 s.heap.size q := fun q h => Or.inr h
  refine lv_iconst (v := 0) hx hb dX0_takeNumber_48 (by decide) ?_
  exact b_E_takeNumber_49 G0 hK hX _ _ _ _ hm H _ _ hP hD hS hl
set_option maxRecDepth 100000 in
set_option maxHeartbeats 4000000 in
theorem b_E_takeNumber_26 (G : zG p s m args meth c cX0_takeNumber RX0 7 (some .boolean)) (hK : va_K D vwCl (wE_t c1 c2 c3) s) (hX : zC (va_A w0 s.heap.size) s) {res : (Int32) × (Nat → Int32)} : ∀ (x1 : Int64) (x3 : Int32) (x4 : Int32) (b : Nat → Int32), m_E_takeNumber_26 v rw pw x1 x3 x4 b = some res → zB p l e (zR 4 93) s m args below meth c D vwCl (va_A w0 s.heap.size) (MQ below (zQi D vwCl w0 (wE aE bE rE pE c1 c2 c3 v res.2 rw pw) s.heap.size res.1) args s 0 0 (va_A w0 s.heap.size)) 7 (wE aE bE rE pE c1 c2 c3 v b rw pw) [(0, .ref aE), (1, .long x1), (3, .int x3), (4, .int x4)] 26 [] := by
  intro x1 x3 x4 b hm H locs ls hP hD hS hl
  unfold m_E_takeNumber_26 at hm
  have G0 := G
  obtain ⟨hx, hb, hr, hml, hown, hw, hlk⟩ := G
  have hA : ∀ q, s.heap.size ≤ q → va_A w0 s.heap.size q := fun q h => Or.inr h
  refine lv_aload_n hx hb dX0_takeNumber_26 rfl (lv_at hl 0 rfl) ?_
  refine va_get (D := D) (ci := 0) (v := .int (v 4)) (C := RX0) (T := TX0) (N := 16) hx hb hw zinX0 hown hK hP 0 rfl rfl 4 (by decide) (hw _ zw354) (fun x9 h9 => u_same (hw _ zw353) x9 h9) rfl dX0_takeNumber_27 ?_
  refine lv_if_eq (tgt := 48) hx hb dX0_takeNumber_30 rfl (fun cd3 => ?_) (fun cd3 => ?_)
  · replace hm := zt cd3 hm
    exact b_E_takeNumber_48 G0 hK hX _ _ _ hm H _ _ hP hD hS (lv_sub hl [0, 1, 2] rfl)
  · replace hm := zf cd3 hm
    refine lv_iload hx hb dX0_takeNumber_33 (lv_at hl 3 rfl) ?_
    refine lv_if_eq (tgt := 48) hx hb dX0_takeNumber_35 rfl (fun cd13 => ?_) (fun cd13 => ?_)
    · replace hm := zt cd13 hm
      exact b_E_takeNumber_48 G0 hK hX _ _ _ hm H _ _ hP hD hS (lv_sub hl [0, 1, 2] rfl)
    · replace hm := zf cd13 hm
      refine lv_lload_n hx hb dX0_takeNumber_38 rfl (lv_at hl 1 rfl) ?_
      refine lv_lconst (v := 0) hx hb dX0_takeNumber_39 (by decide) ?_
      refine W.lcmp (x := x1) (y := 0) hx hb dX0_takeNumber_40 ?_
      refine lv_if_ge (tgt := 48) hx hb dX0_takeNumber_41 rfl (fun cd14 => ?_) (fun cd14 => ?_)
      · replace hm := zt cd14 hm
        exact b_E_takeNumber_48 G0 hK hX _ _ _ hm H _ _ hP hD hS (lv_sub hl [0, 1, 2] rfl)
      · replace hm := zf cd14 hm
        refine lv_iconst (v := 1) hx hb dX0_takeNumber_44 (by decide) ?_
        refine lv_goto (tgt := 49) hx hb dX0_takeNumber_45 rfl ?_
        exact b_E_takeNumber_49 G0 hK hX _ _ _ _ hm H _ _ hP hD hS (lv_sub hl [0, 1, 2] rfl)
end
set_option maxRecDepth 100000 in
set_option maxHeartbeats 4000000 in
theorem k_E_takeNumber (l : Launch) (D : va_G) (aE bE rE pE : Nat) (c1 c2 c3 : ClassId) (sz : Nat) (a0 : Int64) (a1 : Int32) (v : Nat → Int32) (b : Nat → Int32) (rw : Nat → Int32) (pw : Nat → Int32) (res : (Int32) × (Nat → Int32)) (hm : m_E_takeNumber a0 a1 v b rw pw  = some res) : Met l yX0_takeNumber (Cond.code yX0_takeNumber cX0_takeNumber 7 (some .boolean) :: zBIG) (zR 4 93) (va_Pc [.ref aE, .long a0, .int a1] (zP zC D vwCl (wE_t c1 c2 c3) (wE aE bE rE pE c1 c2 c3 v b rw pw) sz)) (zQi D vwCl (wE aE bE rE pE c1 c2 c3 v b rw pw) (wE aE bE rE pE c1 c2 c3 v res.2 rw pw) sz res.1) 0 0 (va_A (wE aE bE rE pE c1 c2 c3 v b rw pw) sz) := by
  refine zEnter RX0 [.ref aE, .long a0, .int a1] (by decide) rfl (Nat.le_of_ble_eq_true rfl) (fun p e s m below meth c ls G hK hX hP hD hsz hl => ?_)
  subst hsz
  unfold m_E_takeNumber at hm
  have hl : lv_has ls 7 [(0, .ref aE), (1, .long a0), (3, .int a1)] := hl
  have hS : va_S (va_A (wE aE bE rE pE c1 c2 c3 v b rw pw) s.heap.size) s.heap s.heap [] := va_S.rf
  have hA : ∀ q, s.heap.size ≤ q → va_A (wE aE bE rE pE c1 c2 c3 v b rw pw) s.heap.size q := fun q h => Or.inr h
  have G0 := G
  obtain ⟨hx, hb, hr, hml, hown, hw, hlk⟩ := G
  refine lv_aload_n hx hb dX0_takeNumber_0 rfl (lv_at hl 0 rfl) ?_
  refine lv_lload_n hx hb dX0_takeNumber_1 rfl (lv_at hl 1 rfl) ?_
  refine lv_iload_n hx hb dX0_takeNumber_2 rfl (lv_at hl 2 rfl) ?_
  obtain ⟨q1, hq1, hm⟩ := zbind hm
  refine zbWi (va_runV (As := [.long a0, .int a1]) (rest := []) ⟨hx, hb, hml, hown, hw⟩ (k_E_leavesDigit l D aE bE rE pE c1 c2 c3 _ a0 a1 v b rw pw  q1 hq1) (zcV (C := RX0) 2 hw (zgood zw359) rfl rfl rfl zw259 zw361 zw360 zw362 hdX0_leavesDigit ⟨Nat.le_of_ble_eq_true rfl, Nat.le_of_ble_eq_true rfl⟩) (zpreV (zpre zC_ok hX hS (zfree hD hS hA) hP hK hD) (va_recv hK hP rfl (q0 := 0) rfl)) rfl rfl hl.1 rfl (lv_room (Nat.le_of_ble_eq_true rfl)) dX0_takeNumber_3 ⟨Nat.zero_le _, Nat.zero_le _⟩) hS (zfree hD hS hA) (fun H locs hP hD hS => ?_)
  refine lv_istore (lv' := [(4, .int q1), (0, .ref aE), (1, .long a0), (3, .int a1)]) hx hb dX0_takeNumber_6 hl (by decide) rfl (fun ls hl => ?_)
  refine lv_aload_n hx hb dX0_takeNumber_8 rfl (lv_at hl 1 rfl) ?_
  refine va_get (D := D) (ci := 0) (v := .int (v 14)) (C := RX0) (T := TX0) (N := 16) hx hb hw zinX0 hown hK hP 0 rfl rfl 14 (by decide) (hw _ zw279) (fun _ h9 => h9) rfl dX0_takeNumber_9 ?_
  refine lv_if_ne (tgt := 26) hx hb dX0_takeNumber_12 rfl (fun cd2 => ?_) (fun cd2 => ?_)
  · replace hm := zf cd2 hm
    exact b_E_takeNumber_26 G0 hK hX _ _ _ _ hm _ _ _ hP hD hS (lv_sub hl [1, 2, 3, 0] rfl)
  · replace hm := zt cd2 hm
    refine lv_iload hx hb dX0_takeNumber_15 (lv_at hl 0 rfl) ?_
    refine lv_if_ne (tgt := 26) hx hb dX0_takeNumber_17 rfl (fun cd15 => ?_) (fun cd15 => ?_)
    · replace hm := zf cd15 hm
      exact b_E_takeNumber_26 G0 hK hX _ _ _ _ hm _ _ _ hP hD hS (lv_sub hl [1, 2, 3, 0] rfl)
    · replace hm := zt cd15 hm
      refine lv_aload_n hx hb dX0_takeNumber_20 rfl (lv_at hl 1 rfl) ?_
      obtain ⟨q16, hq16, hm⟩ := zbind hm
      refine zbWv (va_runV (As := []) (rest := []) ⟨hx, hb, hml, hown, hw⟩ (k_E_suppressAll l D aE bE rE pE c1 c2 c3 _ v b rw pw  q16 hq16) (zcV (C := RX0) 0 hw (zgood zw379) rfl rfl rfl zw259 zw381 zw380 zw382 hdX0_suppressAll ⟨Nat.le_of_ble_eq_true rfl, Nat.le_of_ble_eq_true rfl⟩) (zpreV (zpre zC_ok hX hS (zfree hD hS hA) hP hK hD) (va_recv hK hP rfl (q0 := 0) rfl)) rfl rfl hl.1 rfl (lv_room (Nat.le_of_ble_eq_true rfl)) dX0_takeNumber_21 ⟨Nat.zero_le _, Nat.zero_le _⟩) hS (zfree hD hS hA) (fun H locs hP hD hS => ?_)
      have hP : va_P D vwCl (wE aE bE rE pE c1 c2 c3 v q16 rw pw) H := hP
      have hD : va_D _ (wE aE bE rE pE c1 c2 c3 v q16 rw pw) := hD
      refine lv_iconst (v := 1) hx hb dX0_takeNumber_24 (by decide) ?_
      obtain ⟨hz17, -, hm⟩ := zbo_s hm
      cases hm
      exact zretz hx hb hr hlk hz17 hP hD hS dX0_takeNumber_25

