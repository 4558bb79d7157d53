theorem dX6_isText_0 : decode cX6_isText 0 = .ok (.aload_n 0, 1) := by decide +kernel
theorem dX6_isText_1 : decode cX6_isText 1 = .ok (.getfield 13, 3) := by decide +kernel
theorem dX6_isText_4 : decode cX6_isText 4 = .ok (.bipush 8, 2) := by decide +kernel
theorem dX6_isText_6 : decode cX6_isText 6 = .ok (.iaload, 1) := by decide +kernel
theorem dX6_isText_7 : decode cX6_isText 7 = .ok (.istore_n 1, 1) := by decide +kernel
theorem dX6_isText_8 : decode cX6_isText 8 = .ok (.aload_n 0, 1) := by decide +kernel
theorem dX6_isText_9 : decode cX6_isText 9 = .ok (.bipush 88, 2) := by decide +kernel
theorem dX6_isText_11 : decode cX6_isText 11 = .ok (.iconst 0, 1) := by decide +kernel
theorem dX6_isText_12 : decode cX6_isText 12 = .ok (.iload_n 1, 1) := by decide +kernel
theorem dX6_isText_13 : decode cX6_isText 13 = .ok (.invokevirtual 97, 3) := by decide +kernel
theorem dX6_isText_16 : decode cX6_isText 16 = .ok (.aload_n 0, 1) := by decide +kernel
theorem dX6_isText_17 : decode cX6_isText 17 = .ok (.bipush 65, 2) := by decide +kernel
theorem dX6_isText_19 : decode cX6_isText 19 = .ok (.iconst 0, 1) := by decide +kernel
theorem dX6_isText_20 : decode cX6_isText 20 = .ok (.iload_n 1, 1) := by decide +kernel
theorem dX6_isText_21 : decode cX6_isText 21 = .ok (.invokevirtual 97, 3) := by decide +kernel
theorem dX6_isText_24 : decode cX6_isText 24 = .ok (.iadd, 1) := by decide +kernel
theorem dX6_isText_25 : decode cX6_isText 25 = .ok (.istore_n 2, 1) := by decide +kernel
theorem dX6_isText_26 : decode cX6_isText 26 = .ok (.iload_n 2, 1) := by decide +kernel
theorem dX6_isText_27 : decode cX6_isText 27 = .ok (.ifCond .eq 17, 3) := by decide +kernel
theorem dX6_isText_30 : decode cX6_isText 30 = .ok (.iload_n 2, 1) := by decide +kernel
theorem dX6_isText_31 : decode cX6_isText 31 = .ok (.aload_n 0, 1) := by decide +kernel
theorem dX6_isText_32 : decode cX6_isText 32 = .ok (.bipush 57, 2) := by decide +kernel
theorem dX6_isText_34 : decode cX6_isText 34 = .ok (.iconst 0, 1) := by decide +kernel
theorem dX6_isText_35 : decode cX6_isText 35 = .ok (.iload_n 1, 1) := by decide +kernel
theorem dX6_isText_36 : decode cX6_isText 36 = .ok (.invokevirtual 97, 3) := by decide +kernel
theorem dX6_isText_39 : decode cX6_isText 39 = .ok (.iadd, 1) := by decide +kernel
theorem dX6_isText_40 : decode cX6_isText 40 = .ok (.iload_n 1, 1) := by decide +kernel
theorem dX6_isText_41 : decode cX6_isText 41 = .ok (.if_icmp .eq 5, 3) := by decide +kernel
theorem dX6_isText_44 : decode cX6_isText 44 = .ok (.iconst 0, 1) := by decide +kernel
theorem dX6_isText_45 : decode cX6_isText 45 = .ok (.ireturn, 1) := by decide +kernel
theorem dX6_isText_46 : decode cX6_isText 46 = .ok (.aload_n 0, 1) := by decide +kernel
theorem dX6_isText_47 : decode cX6_isText 47 = .ok (.getfield 22, 3) := by decide +kernel
theorem dX6_isText_50 : decode cX6_isText 50 = .ok (.bipush 8, 2) := by decide +kernel
theorem dX6_isText_52 : decode cX6_isText 52 = .ok (.iconst 1, 1) := by decide +kernel
theorem dX6_isText_53 : decode cX6_isText 53 = .ok (.iastore, 1) := by decide +kernel
theorem dX6_isText_54 : decode cX6_isText 54 = .ok (.aload_n 0, 1) := by decide +kernel
theorem dX6_isText_55 : decode cX6_isText 55 = .ok (.getfield 34, 3) := by decide +kernel
theorem dX6_isText_58 : decode cX6_isText 58 = .ok (.bipush 8, 2) := by decide +kernel
theorem dX6_isText_60 : decode cX6_isText 60 = .ok (.iconst 0, 1) := by decide +kernel
theorem dX6_isText_61 : decode cX6_isText 61 = .ok (.bastore, 1) := by decide +kernel
theorem dX6_isText_62 : decode cX6_isText 62 = .ok (.aload_n 0, 1) := by decide +kernel
theorem dX6_isText_63 : decode cX6_isText 63 = .ok (.getfield 28, 3) := by decide +kernel
theorem dX6_isText_66 : decode cX6_isText 66 = .ok (.bipush 8, 2) := by decide +kernel
theorem dX6_isText_68 : decode cX6_isText 68 = .ok (.iconst 0, 1) := by decide +kernel
theorem dX6_isText_69 : decode cX6_isText 69 = .ok (.iastore, 1) := by decide +kernel
theorem dX6_isText_70 : decode cX6_isText 70 = .ok (.aload_n 0, 1) := by decide +kernel
theorem dX6_isText_71 : decode cX6_isText 71 = .ok (.getfield 31, 3) := by decide +kernel
theorem dX6_isText_74 : decode cX6_isText 74 = .ok (.bipush 8, 2) := by decide +kernel
theorem dX6_isText_76 : decode cX6_isText 76 = .ok (.iconst 0, 1) := by decide +kernel
theorem dX6_isText_77 : decode cX6_isText 77 = .ok (.iastore, 1) := by decide +kernel
theorem dX6_isText_78 : decode cX6_isText 78 = .ok (.aload_n 0, 1) := by decide +kernel
theorem dX6_isText_79 : decode cX6_isText 79 = .ok (.getfield 53, 3) := by decide +kernel
theorem dX6_isText_82 : decode cX6_isText 82 = .ok (.bipush 8, 2) := by decide +kernel
theorem dX6_isText_84 : decode cX6_isText 84 = .ok (.iload_n 1, 1) := by decide +kernel
theorem dX6_isText_85 : decode cX6_isText 85 = .ok (.iastore, 1) := by decide +kernel
theorem dX6_isText_86 : decode cX6_isText 86 = .ok (.iconst 1, 1) := by decide +kernel
theorem dX6_isText_87 : decode cX6_isText 87 = .ok (.ireturn, 1) := by decide +kernel
def m_M_isText  (v : Nat → Int32) (u : Nat → Nat → Int32)  : Option ((Int32) × (Nat → Nat → Int32)) := zix 8 9 ((m_M_countOf 88 0 ((u 2) (8 : Int32).toNatClampNeg) v u).bind (fun q2 => (m_M_countOf 65 0 ((u 2) (8 : Int32).toNatClampNeg) v u).bind (fun q3 => (if (q2 + q3) = 0 then (zbo 0 (some (0, u))) else (m_M_countOf 57 0 ((u 2) (8 : Int32).toNatClampNeg) v u).bind (fun q6 => (if ((q2 + q3) + q6) = ((u 2) (8 : Int32).toNatClampNeg) then zix 8 9 (zix 8 9 (zix 8 9 (zix 8 9 (zix 8 9 ((zbo 1 (some (1, (zau (zau (zau (zau (zau u 5 8 1) 9 8 (vp_nar .boolean 0)) 7 8 0) 8 8 0) 15 8 ((u 2) (8 : Int32).toNatClampNeg)))))))))) else (zbo 0 (some (0, u)))))))))
section
variable {p : Program} {l : Launch} {e : Env} {s : State} {m : MethodId} {args : Array Value} {below : List Frame} {meth : Method} {c : Code} {D : va_G} {w0 : va_W} {ad : Nat → Nat} {ca : Nat → ClassId} {v : Nat → Int32}
end
set_option maxRecDepth 100000 in
set_option maxHeartbeats 4000000 in
theorem k_M_isText (l : Launch) (D : va_G) (ad : Nat → Nat) (ca : Nat → ClassId) (sz : Nat)  (v : Nat → Int32) (u : Nat → Nat → Int32) (res : (Int32) × (Nat → Nat → Int32)) (hm : m_M_isText  v u  = some res) : Met l yX6_isText (Cond.code yX6_isText cX6_isText 3 (some .boolean) :: zBIG) (zR 2 47) (va_Pc [.ref (ad 0)] (zP zN D vwCl (wM_t ca) (wM ad ca v u) sz)) (zQi D vwCl (wM ad ca v u) (wM ad ca v res.2) sz res.1) 0 0 (va_A (wM ad ca v u) sz) := by
  refine zEnter RX6 [.ref (ad 0)] (by decide) rfl (Nat.le_of_ble_eq_true rfl) (fun p e s m below meth c ls G hK hX hP hD hsz hl => ?_)
  subst hsz
  unfold m_M_isText at hm
  have hl : lv_has ls 3 [(0, .ref (ad 0))] := hl
  have hS : va_S (va_A (wM ad ca v u) s.heap.size) s.heap s.heap [] := va_S.rf
  have hA : ∀ q, s.heap.size ≤ q → va_A (wM ad ca v u) s.heap.size q := fun q h => Or.inr h
  have G0 := G
  obtain ⟨hx, hb, hr, hml, hown, hw, hlk⟩ := G
  refine lv_aload_n hx hb dX6_isText_0 rfl (lv_at hl 0 rfl) ?_
  refine va_get (D := D) (ci := 5) (v := .ref (ad 2)) (C := RX6) (T := TX6) (N := 24) hx hb hw zinX6 hown hK hP 0 rfl rfl 4 (by decide) (hw _ zw5) (fun _ h9 => h9) rfl dX6_isText_1 ?_
  refine lv_bipush (v := 8) hx hb dX6_isText_4 (by decide) ?_
  obtain ⟨hi1, hm⟩ := zix_s hm
  refine va_iald (i := 8) (f := (u 2)) (n := 9) hx hb hK hP 2 1 rfl rfl hi1 dX6_isText_6 ?_
  refine lv_istore_n (lv' := [(1, .int ((u 2) (8 : Int32).toNatClampNeg)), (0, .ref (ad 0))]) hx hb dX6_isText_7 rfl hl (by decide) rfl (fun ls hl => ?_)
  refine lv_aload_n hx hb dX6_isText_8 rfl (lv_at hl 1 rfl) ?_
  refine lv_bipush (v := 88) hx hb dX6_isText_9 (by decide) ?_
  refine lv_iconst (v := 0) hx hb dX6_isText_11 (by decide) ?_
  refine lv_iload_n hx hb dX6_isText_12 rfl (lv_at hl 0 rfl) ?_
  obtain ⟨q2, hq2, hm⟩ := zbind hm
  refine zbWi (va_runV (As := [.int 88, .int 0, .int ((u 2) (8 : Int32).toNatClampNeg)]) (rest := []) ⟨hx, hb, hml, hown, hw⟩ (k_M_countOf l D ad ca _ 88 0 ((u 2) (8 : Int32).toNatClampNeg) v u  q2 hq2) (zcV (C := RX6) 3 hw (zgood zw38) rfl rfl rfl zw7 zw40 zw39 zw41 hdX6_countOf ⟨Nat.le_of_ble_eq_true rfl, Nat.le_of_ble_eq_true rfl⟩) (zpreV (zpre zN_ok trivial hS (zfree hD hS hA) hP hK hD) (va_recv hK hP rfl (q0 := 0) rfl)) rfl rfl hl.1 rfl (lv_room (Nat.le_of_ble_eq_true rfl)) dX6_isText_13 ⟨Nat.zero_le _, Nat.zero_le _⟩) hS (zfree hD hS hA) (fun H locs hP hD hS => ?_)
  refine lv_aload_n hx hb dX6_isText_16 rfl (lv_at hl 1 rfl) ?_
  refine lv_bipush (v := 65) hx hb dX6_isText_17 (by decide) ?_
  refine lv_iconst (v := 0) hx hb dX6_isText_19 (by decide) ?_
  refine lv_iload_n hx hb dX6_isText_20 rfl (lv_at hl 0 rfl) ?_
  obtain ⟨q3, hq3, hm⟩ := zbind hm
  refine zbWi (va_runV (As := [.int 65, .int 0, .int ((u 2) (8 : Int32).toNatClampNeg)]) (rest := [.int q2]) ⟨hx, hb, hml, hown, hw⟩ (k_M_countOf l D ad ca _ 65 0 ((u 2) (8 : Int32).toNatClampNeg) v u  q3 hq3) (zcV (C := RX6) 3 hw (zgood zw38) rfl rfl rfl zw7 zw40 zw39 zw41 hdX6_countOf ⟨Nat.le_of_ble_eq_true rfl, Nat.le_of_ble_eq_true rfl⟩) (zpreV (zpre zN_ok trivial hS (zfree hD hS hA) hP hK hD) (va_recv hK hP rfl (q0 := 0) rfl)) rfl rfl hl.1 rfl (lv_room (Nat.le_of_ble_eq_true rfl)) dX6_isText_21 ⟨Nat.zero_le _, Nat.zero_le _⟩) hS (zfree hD hS hA) (fun H locs hP hD hS => ?_)
  refine lv_iadd hx hb dX6_isText_24 ?_
  refine lv_istore_n (lv' := [(2, .int (q2 + q3)), (1, .int ((u 2) (8 : Int32).toNatClampNeg)), (0, .ref (ad 0))]) hx hb dX6_isText_25 rfl hl (by decide) rfl (fun ls hl => ?_)
  refine lv_iload_n hx hb dX6_isText_26 rfl (lv_at hl 0 rfl) ?_
  refine lv_if_eq (tgt := 44) hx hb dX6_isText_27 rfl (fun cd4 => ?_) (fun cd4 => ?_)
  · replace hm := zt cd4 hm
    refine lv_iconst (v := 0) hx hb dX6_isText_44 (by decide) ?_
    obtain ⟨hz5, -, hm⟩ := zbo_s hm
    cases hm
    exact zretz hx hb hr hlk hz5 hP hD hS dX6_isText_45
  · replace hm := zf cd4 hm
    refine lv_iload_n hx hb dX6_isText_30 rfl (lv_at hl 0 rfl) ?_
    refine lv_aload_n hx hb dX6_isText_31 rfl (lv_at hl 2 rfl) ?_
    refine lv_bipush (v := 57) hx hb dX6_isText_32 (by decide) ?_
    refine lv_iconst (v := 0) hx hb dX6_isText_34 (by decide) ?_
    refine lv_iload_n hx hb dX6_isText_35 rfl (lv_at hl 1 rfl) ?_
    obtain ⟨q6, hq6, hm⟩ := zbind hm
    refine zbWi (va_runV (As := [.int 57, .int 0, .int ((u 2) (8 : Int32).toNatClampNeg)]) (rest := [.int (q2 + q3)]) ⟨hx, hb, hml, hown, hw⟩ (k_M_countOf l D ad ca _ 57 0 ((u 2) (8 : Int32).toNatClampNeg) v u  q6 hq6) (zcV (C := RX6) 3 hw (zgood zw38) rfl rfl rfl zw7 zw40 zw39 zw41 hdX6_countOf ⟨Nat.le_of_ble_eq_true rfl, Nat.le_of_ble_eq_true rfl⟩) (zpreV (zpre zN_ok trivial hS (zfree hD hS hA) hP hK hD) (va_recv hK hP rfl (q0 := 0) rfl)) rfl rfl hl.1 rfl (lv_room (Nat.le_of_ble_eq_true rfl)) dX6_isText_36 ⟨Nat.zero_le _, Nat.zero_le _⟩) hS (zfree hD hS hA) (fun H locs hP hD hS => ?_)
    refine lv_iadd hx hb dX6_isText_39 ?_
    refine lv_iload_n hx hb dX6_isText_40 rfl (lv_at hl 1 rfl) ?_
    refine lv_icmp_eq (tgt := 46) hx hb dX6_isText_41 rfl (fun cd7 => ?_) (fun cd7 => ?_)
    · replace hm := zt cd7 hm
      refine lv_aload_n hx hb dX6_isText_46 rfl (lv_at hl 2 rfl) ?_
      refine va_get (D := D) (ci := 5) (v := .ref (ad 5)) (C := RX6) (T := TX6) (N := 24) hx hb hw zinX6 hown hK hP 0 rfl rfl 7 (by decide) (hw _ zw46) (fun _ h9 => h9) rfl dX6_isText_47 ?_
      refine lv_bipush (v := 8) hx hb dX6_isText_50 (by decide) ?_
      refine lv_iconst (v := 1) hx hb dX6_isText_52 (by decide) ?_
      obtain ⟨hi8, hm⟩ := zix_s hm
      refine va_iast (i := 8) (x := 1) (f := (u 5)) (n := 9) hx hb hK hP hD hS 5 4 rfl rfl hi8 dX6_isText_53 (fun H locs hP hD hS => ?_)
      have hP : va_P D vwCl (wM ad ca v (zau u 5 8 1)) H := hP
      have hD : va_D _ (wM ad ca v (zau u 5 8 1)) := hD
      refine lv_aload_n hx hb dX6_isText_54 rfl (lv_at hl 2 rfl) ?_
      refine va_get (D := D) (ci := 5) (v := .ref (ad 9)) (C := RX6) (T := TX6) (N := 24) hx hb hw zinX6 hown hK hP 0 rfl rfl 11 (by decide) (hw _ zw47) (fun _ h9 => h9) rfl dX6_isText_55 ?_
      refine lv_bipush (v := 8) hx hb dX6_isText_58 (by decide) ?_
      refine lv_iconst (v := 0) hx hb dX6_isText_60 (by decide) ?_
      obtain ⟨hi9, hm⟩ := zix_s hm
      refine va_zast (i := 8) (x := 0) (f := ((zau u 5 8 1) 9)) (n := 9) hx hb hK hP hD hS 9 8 rfl rfl hi9 dX6_isText_61 (fun H locs hP hD hS => ?_)
      have hP : va_P D vwCl (wM ad ca v (zau (zau u 5 8 1) 9 8 (vp_nar .boolean 0))) H := hP
      have hD : va_D _ (wM ad ca v (zau (zau u 5 8 1) 9 8 (vp_nar .boolean 0))) := hD
      refine lv_aload_n hx hb dX6_isText_62 rfl (lv_at hl 2 rfl) ?_
      refine va_get (D := D) (ci := 5) (v := .ref (ad 7)) (C := RX6) (T := TX6) (N := 24) hx hb hw zinX6 hown hK hP 0 rfl rfl 9 (by decide) (hw _ zw49) (fun _ h9 => h9) rfl dX6_isText_63 ?_
      refine lv_bipush (v := 8) hx hb dX6_isText_66 (by decide) ?_
      refine lv_iconst (v := 0) hx hb dX6_isText_68 (by decide) ?_
      obtain ⟨hi10, hm⟩ := zix_s hm
      refine va_iast (i := 8) (x := 0) (f := ((zau (zau u 5 8 1) 9 8 (vp_nar .boolean 0)) 7)) (n := 9) hx hb hK hP hD hS 7 6 rfl rfl hi10 dX6_isText_69 (fun H locs hP hD hS => ?_)
      have hP : va_P D vwCl (wM ad ca v (zau (zau (zau u 5 8 1) 9 8 (vp_nar .boolean 0)) 7 8 0)) H := hP
      have hD : va_D _ (wM ad ca v (zau (zau (zau u 5 8 1) 9 8 (vp_nar .boolean 0)) 7 8 0)) := hD
      refine lv_aload_n hx hb dX6_isText_70 rfl (lv_at hl 2 rfl) ?_
      refine va_get (D := D) (ci := 5) (v := .ref (ad 8)) (C := RX6) (T := TX6) (N := 24) hx hb hw zinX6 hown hK hP 0 rfl rfl 10 (by decide) (hw _ zw22) (fun _ h9 => h9) rfl dX6_isText_71 ?_
      refine lv_bipush (v := 8) hx hb dX6_isText_74 (by decide) ?_
      refine lv_iconst (v := 0) hx hb dX6_isText_76 (by decide) ?_
      obtain ⟨hi11, hm⟩ := zix_s hm
      refine va_iast (i := 8) (x := 0) (f := ((zau (zau (zau u 5 8 1) 9 8 (vp_nar .boolean 0)) 7 8 0) 8)) (n := 9) hx hb hK hP hD hS 8 7 rfl rfl hi11 dX6_isText_77 (fun H locs hP hD hS => ?_)
      have hP : va_P D vwCl (wM ad ca v (zau (zau (zau (zau u 5 8 1) 9 8 (vp_nar .boolean 0)) 7 8 0) 8 8 0)) H := hP
      have hD : va_D _ (wM ad ca v (zau (zau (zau (zau u 5 8 1) 9 8 (vp_nar .boolean 0)) 7 8 0) 8 8 0)) := hD
      refine lv_aload_n hx hb dX6_isText_78 rfl (lv_at hl 2 rfl) ?_
      refine va_get (D := D) (ci := 5) (v := .ref (ad 15)) (C := RX6) (T := TX6) (N := 24) hx hb hw zinX6 hown hK hP 0 rfl rfl 17 (by decide) (hw _ zw50) (fun _ h9 => h9) rfl dX6_isText_79 ?_
      refine lv_bipush (v := 8) hx hb dX6_isText_82 (by decide) ?_
      refine lv_iload_n hx hb dX6_isText_84 rfl (lv_at hl 1 rfl) ?_
      obtain ⟨hi12, hm⟩ := zix_s hm
      refine va_iast (i := 8) (x := ((u 2) (8 : Int32).toNatClampNeg)) (f := ((zau (zau (zau (zau u 5 8 1) 9 8 (vp_nar .boolean 0)) 7 8 0) 8 8 0) 15)) (n := 9) hx hb hK hP hD hS 15 14 rfl rfl hi12 dX6_isText_85 (fun H locs hP hD hS => ?_)
      have hP : va_P D vwCl (wM ad ca v (zau (zau (zau (zau (zau u 5 8 1) 9 8 (vp_nar .boolean 0)) 7 8 0) 8 8 0) 15 8 ((u 2) (8 : Int32).toNatClampNeg))) H := hP
      have hD : va_D _ (wM ad ca v (zau (zau (zau (zau (zau u 5 8 1) 9 8 (vp_nar .boolean 0)) 7 8 0) 8 8 0) 15 8 ((u 2) (8 : Int32).toNatClampNeg))) := hD
      refine lv_iconst (v := 1) hx hb dX6_isText_86 (by decide) ?_
      obtain ⟨hz13, -, hm⟩ := zbo_s hm
      cases hm
      exact zretz hx hb hr hlk hz13 hP hD hS dX6_isText_87
    · replace hm := zf cd7 hm
      refine lv_iconst (v := 0) hx hb dX6_isText_44 (by decide) ?_
      obtain ⟨hz14, -, hm⟩ := zbo_s hm
      cases hm
      exact zretz hx hb hr hlk hz14 hP hD hS dX6_isText_45

theorem dX6_body_0 : decode cX6_body 0 = .ok (.iconst 0, 1) := by decide +kernel
theorem dX6_body_1 : decode cX6_body 1 = .ok (.istore_n 3, 1) := by decide +kernel
theorem dX6_body_2 : decode cX6_body 2 = .ok (.iconst (-1), 1) := by decide +kernel
theorem dX6_body_3 : decode cX6_body 3 = .ok (.istore 4, 2) := by decide +kernel
theorem dX6_body_5 : decode cX6_body 5 = .ok (.iload_n 1, 1) := by decide +kernel
theorem dX6_body_6 : decode cX6_body 6 = .ok (.istore 5, 2) := by decide +kernel
theorem dX6_body_8 : decode cX6_body 8 = .ok (.iload 5, 2) := by decide +kernel
theorem dX6_body_10 : decode cX6_body 10 = .ok (.iload_n 2, 1) := by decide +kernel
theorem dX6_body_11 : decode cX6_body 11 = .ok (.if_icmp .ge 90, 3) := by decide +kernel
theorem dX6_body_14 : decode cX6_body 14 = .ok (.aload_n 0, 1) := by decide +kernel
theorem dX6_body_15 : decode cX6_body 15 = .ok (.bipush 8, 2) := by decide +kernel
theorem dX6_body_17 : decode cX6_body 17 = .ok (.iload 5, 2) := by decide +kernel
theorem dX6_body_19 : decode cX6_body 19 = .ok (.invokevirtual 93, 3) := by decide +kernel
theorem dX6_body_22 : decode cX6_body 22 = .ok (.istore 6, 2) := by decide +kernel
theorem dX6_body_24 : decode cX6_body 24 = .ok (.iload 6, 2) := by decide +kernel
theorem dX6_body_26 : decode cX6_body 26 = .ok (.invokestatic 104, 3) := by decide +kernel
theorem dX6_body_29 : decode cX6_body 29 = .ok (.ifCond .eq 21, 3) := by decide +kernel
theorem dX6_body_32 : decode cX6_body 32 = .ok (.iload_n 3, 1) := by decide +kernel
theorem dX6_body_33 : decode cX6_body 33 = .ok (.ifCond .eq 11, 3) := by decide +kernel
theorem dX6_body_36 : decode cX6_body 36 = .ok (.iload_n 3, 1) := by decide +kernel
theorem dX6_body_37 : decode cX6_body 37 = .ok (.iload 6, 2) := by decide +kernel
theorem dX6_body_39 : decode cX6_body 39 = .ok (.if_icmp .eq 5, 3) := by decide +kernel
theorem dX6_body_42 : decode cX6_body 42 = .ok (.iconst 0, 1) := by decide +kernel
theorem dX6_body_43 : decode cX6_body 43 = .ok (.ireturn, 1) := by decide +kernel
theorem dX6_body_44 : decode cX6_body 44 = .ok (.iload 6, 2) := by decide +kernel
theorem dX6_body_46 : decode cX6_body 46 = .ok (.istore_n 3, 1) := by decide +kernel
theorem dX6_body_47 : decode cX6_body 47 = .ok (.goto 48, 3) := by decide +kernel
theorem dX6_body_50 : decode cX6_body 50 = .ok (.iload 6, 2) := by decide +kernel
theorem dX6_body_52 : decode cX6_body 52 = .ok (.bipush 46, 2) := by decide +kernel
theorem dX6_body_54 : decode cX6_body 54 = .ok (.if_icmp .eq 10, 3) := by decide +kernel
theorem dX6_body_57 : decode cX6_body 57 = .ok (.iload 6, 2) := by decide +kernel
theorem dX6_body_59 : decode cX6_body 59 = .ok (.bipush 86, 2) := by decide +kernel
theorem dX6_body_61 : decode cX6_body 61 = .ok (.if_icmp .ne 17, 3) := by decide +kernel
theorem dX6_body_64 : decode cX6_body 64 = .ok (.iload 4, 2) := by decide +kernel
theorem dX6_body_66 : decode cX6_body 66 = .ok (.ifCond .lt 5, 3) := by decide +kernel
theorem dX6_body_69 : decode cX6_body 69 = .ok (.iconst 0, 1) := by decide +kernel
theorem dX6_body_70 : decode cX6_body 70 = .ok (.ireturn, 1) := by decide +kernel
theorem dX6_body_71 : decode cX6_body 71 = .ok (.iload 5, 2) := by decide +kernel
theorem dX6_body_73 : decode cX6_body 73 = .ok (.istore 4, 2) := by decide +kernel
theorem dX6_body_75 : decode cX6_body 75 = .ok (.goto 20, 3) := by decide +kernel
theorem dX6_body_78 : decode cX6_body 78 = .ok (.iload 6, 2) := by decide +kernel
theorem dX6_body_80 : decode cX6_body 80 = .ok (.bipush 57, 2) := by decide +kernel
theorem dX6_body_82 : decode cX6_body 82 = .ok (.if_icmp .eq 13, 3) := by decide +kernel
theorem dX6_body_85 : decode cX6_body 85 = .ok (.iload 6, 2) := by decide +kernel
theorem dX6_body_87 : decode cX6_body 87 = .ok (.invokestatic 107, 3) := by decide +kernel
theorem dX6_body_90 : decode cX6_body 90 = .ok (.ifCond .ne 5, 3) := by decide +kernel
theorem dX6_body_93 : decode cX6_body 93 = .ok (.iconst 0, 1) := by decide +kernel
theorem dX6_body_94 : decode cX6_body 94 = .ok (.ireturn, 1) := by decide +kernel
theorem dX6_body_95 : decode cX6_body 95 = .ok (.iinc 5 1, 3) := by decide +kernel
theorem dX6_body_98 : decode cX6_body 98 = .ok (.goto (-90), 3) := by decide +kernel
theorem dX6_body_101 : decode cX6_body 101 = .ok (.aload_n 0, 1) := by decide +kernel
theorem dX6_body_102 : decode cX6_body 102 = .ok (.getfield 41, 3) := by decide +kernel
theorem dX6_body_105 : decode cX6_body 105 = .ok (.bipush 8, 2) := by decide +kernel
theorem dX6_body_107 : decode cX6_body 107 = .ok (.iload_n 3, 1) := by decide +kernel
theorem dX6_body_108 : decode cX6_body 108 = .ok (.iastore, 1) := by decide +kernel
theorem dX6_body_109 : decode cX6_body 109 = .ok (.aload_n 0, 1) := by decide +kernel
theorem dX6_body_110 : decode cX6_body 110 = .ok (.getfield 50, 3) := by decide +kernel
theorem dX6_body_113 : decode cX6_body 113 = .ok (.bipush 8, 2) := by decide +kernel
theorem dX6_body_115 : decode cX6_body 115 = .ok (.iload 4, 2) := by decide +kernel
theorem dX6_body_117 : decode cX6_body 117 = .ok (.iastore, 1) := by decide +kernel
theorem dX6_body_118 : decode cX6_body 118 = .ok (.aload_n 0, 1) := by decide +kernel
theorem dX6_body_119 : decode cX6_body 119 = .ok (.getfield 44, 3) := by decide +kernel
theorem dX6_body_122 : decode cX6_body 122 = .ok (.bipush 8, 2) := by decide +kernel
theorem dX6_body_124 : decode cX6_body 124 = .ok (.iload_n 1, 1) := by decide +kernel
theorem dX6_body_125 : decode cX6_body 125 = .ok (.iastore, 1) := by decide +kernel
theorem dX6_body_126 : decode cX6_body 126 = .ok (.aload_n 0, 1) := by decide +kernel
theorem dX6_body_127 : decode cX6_body 127 = .ok (.getfield 47, 3) := by decide +kernel
theorem dX6_body_130 : decode cX6_body 130 = .ok (.bipush 8, 2) := by decide +kernel
theorem dX6_body_132 : decode cX6_body 132 = .ok (.iload_n 2, 1) := by decide +kernel
theorem dX6_body_133 : decode cX6_body 133 = .ok (.iastore, 1) := by decide +kernel
theorem dX6_body_134 : decode cX6_body 134 = .ok (.iconst 1, 1) := by decide +kernel
theorem dX6_body_135 : decode cX6_body 135 = .ok (.ireturn, 1) := by decide +kernel
def m_M_body_95 (v : Nat → Int32) (rec : Int32 → Int32 → Int32 → Int32 → Int32 → (Nat → Nat → Int32) → Option ((Int32) × (Nat → Nat → Int32))) (x1 : Int32) (x2 : Int32) (x3 : Int32) (x4 : Int32) (x5 : Int32) (u : Nat → Nat → Int32) : Option ((Int32) × (Nat → Nat → Int32)) := rec x1 x2 x3 x4 (x5 + 1) u
def m_M_body_64 (v : Nat → Int32) (rec : Int32 → Int32 → Int32 → Int32 → Int32 → (Nat → Nat → Int32) → Option ((Int32) × (Nat → Nat → Int32))) (x1 : Int32) (x2 : Int32) (x3 : Int32) (x4 : Int32) (x5 : Int32) (u : Nat → Nat → Int32) : Option ((Int32) × (Nat → Nat → Int32)) := (if x4 < 0 then m_M_body_95 v rec x1 x2 x3 x5 x5 u else (zbo 0 (some (0, u))))
def m_M_body_44 (v : Nat → Int32) (rec : Int32 → Int32 → Int32 → Int32 → Int32 → (Nat → Nat → Int32) → Option ((Int32) × (Nat → Nat → Int32))) (x1 : Int32) (x2 : Int32) (x4 : Int32) (x5 : Int32) (x6 : Int32) (u : Nat → Nat → Int32) : Option ((Int32) × (Nat → Nat → Int32)) := m_M_body_95 v rec x1 x2 x6 x4 x5 u
def m_M_body_8b (v : Nat → Int32) (rec : Int32 → Int32 → Int32 → Int32 → Int32 → (Nat → Nat → Int32) → Option ((Int32) × (Nat → Nat → Int32))) (x1 : Int32) (x2 : Int32) (x3 : Int32) (x4 : Int32) (x5 : Int32) (u : Nat → Nat → Int32) : Option ((Int32) × (Nat → Nat → Int32)) := (if x2 ≤ x5 then zix 8 9 (zix 8 9 (zix 8 9 (zix 8 9 ((zbo 1 (some (1, (zau (zau (zau (zau u 11 8 x3) 14 8 x4) 12 8 x1) 13 8 x2)))))))) else (m_M_sym 8 x5 v u).bind (fun q7 => (m_M_isFill q7).bind (fun q8 => (if q8 = 0 then (if q7 = 46 then m_M_body_64 v rec x1 x2 x3 x4 x5 u else (if q7 = 86 then m_M_body_64 v rec x1 x2 x3 x4 x5 u else (if q7 = 57 then m_M_body_95 v rec x1 x2 x3 x4 x5 u else (m_M_isInsertion q7).bind (fun q15 => (if q15 = 0 then (zbo 0 (some (0, u))) else m_M_body_95 v rec x1 x2 x3 x4 x5 u))))) else (if x3 = 0 then m_M_body_44 v rec x1 x2 x4 x5 q7 u else (if x3 = q7 then m_M_body_44 v rec x1 x2 x4 x5 q7 u else (zbo 0 (some (0, u)))))))))
def m_M_body_8 (v : Nat → Int32) : Nat → Int32 → Int32 → Int32 → Int32 → Int32 → (Nat → Nat → Int32) → Option ((Int32) × (Nat → Nat → Int32))
  | 0 => fun _ _ _ _ _ _ => none
  | n + 1 => fun x1 x2 x3 x4 x5 u => m_M_body_8b v (m_M_body_8 v n) x1 x2 x3 x4 x5 u
def m_M_body (a0 : Int32) (a1 : Int32) (v : Nat → Int32) (u : Nat → Nat → Int32)  : Option ((Int32) × (Nat → Nat → Int32)) := m_M_body_8 v 64 a0 a1 0 (-1) a0 u
section
variable {p : Program} {l : Launch} {e : Env} {s : State} {m : MethodId} {args : Array Value} {below : List Frame} {meth : Method} {c : Code} {D : va_G} {w0 : va_W} {ad : Nat → Nat} {ca : Nat → ClassId} {v : Nat → Int32}
set_option maxRecDepth 100000 in
set_option maxHeartbeats 4000000 in
theorem b_M_body_95 (G : zG p s m args meth c cX6_body RX6 7 (some .boolean)) (hK : va_K D vwCl (wM_t ca) s) (hX : zN (va_A w0 s.heap.size) s) {res : (Int32) × (Nat → Nat → Int32)} (rec : Int32 → Int32 → Int32 → Int32 → Int32 → (Nat → Nat → Int32) → Option ((Int32) × (Nat → Nat → Int32))) (hrec : ∀ (x1 : Int32) (x2 : Int32) (x3 : Int32) (x4 : Int32) (x5 : Int32) (u : Nat → Nat → Int32), rec x1 x2 x3 x4 x5 u = some res → zB p l e (zR 1 22) s m args below meth c D vwCl (va_A w0 s.heap.size) (MQ below (zQi D vwCl w0 (wM ad ca v res.2) s.heap.size res.1) args s 0 0 (va_A w0 s.heap.size)) 7 (wM ad ca v u) [(0, .ref (ad 0)), (1, .int x1), (2, .int x2), (3, .int x3), (4, .int x4), (5, .int x5)] 8 []) : ∀ (x1 : Int32) (x2 : Int32) (x3 : Int32) (x4 : Int32) (x5 : Int32) (u : Nat → Nat → Int32), m_M_body_95 v rec x1 x2 x3 x4 x5 u = some res → zB p l e (zR 1 22) s m args below meth c D vwCl (va_A w0 s.heap.size) (MQ below (zQi D vwCl w0 (wM ad ca v res.2) s.heap.size res.1) args s 0 0 (va_A w0 s.heap.size)) 7 (wM ad ca v u) [(0, .ref (ad 0)), (1, .int x1), (2, .int x2), (3, .int x3), (4, .int x4), (5, .int x5)] 95 [] := by
  intro x1 x2 x3 x4 x5 u hm H locs ls hP hD hS hl
  unfold m_M_body_95 at hm
  have G0 := G
  obtain ⟨hx, hb, hr, hml, hown, hw, hlk⟩ := G
  have hA : ∀ q, s.heap.size ≤ q → va_A w0 s.heap.size q := fun q h => Or.inr h
  refine lv_iinc (k := 5) (v := (x5 + 1)) (lv' := [(5, .int (x5 + 1)), (0, .ref (ad 0)), (1, .int x1), (2, .int x2), (3, .int x3), (4, .int x4)]) hx hb dX6_body_95 hl rfl rfl (by decide) rfl (fun ls hl => ?_)
  refine lv_goto (tgt := 8) hx hb dX6_body_98 rfl ?_
  exact hrec _ _ _ _ _ _ hm H _ _ hP hD hS (lv_sub hl [1, 2, 3, 4, 5, 0] rfl)
set_option maxRecDepth 100000 in
set_option maxHeartbeats 4000000 in
theorem b_M_body_64 (G : zG p s m args meth c cX6_body RX6 7 (some .boolean)) (hK : va_K D vwCl (wM_t ca) s) (hX : zN (va_A w0 s.heap.size) s) {res : (Int32) × (Nat → Nat → Int32)} (rec : Int32 → Int32 → Int32 → Int32 → Int32 → (Nat → Nat → Int32) → Option ((Int32) × (Nat → Nat → Int32))) (hrec : ∀ (x1 : Int32) (x2 : Int32) (x3 : Int32) (x4 : Int32) (x5 : Int32) (u : Nat → Nat → Int32), rec x1 x2 x3 x4 x5 u = some res → zB p l e (zR 1 22) s m args below meth c D vwCl (va_A w0 s.heap.size) (MQ below (zQi D vwCl w0 (wM ad ca v res.2) s.heap.size res.1) args s 0 0 (va_A w0 s.heap.size)) 7 (wM ad ca v u) [(0, .ref (ad 0)), (1, .int x1), (2, .int x2), (3, .int x3), (4, .int x4), (5, .int x5)] 8 []) : ∀ (x1 : Int32) (x2 : Int32) (x3 : Int32) (x4 : Int32) (x5 : Int32) (u : Nat → Nat → Int32), m_M_body_64 v rec x1 x2 x3 x4 x5 u = some res → zB p l e (zR 1 22) s m args below meth c D vwCl (va_A w0 s.heap.size) (MQ below (zQi D vwCl w0 (wM ad ca v res.2) s.heap.size res.1) args s 0 0 (va_A w0 s.heap.size)) 7 (wM ad ca v u) [(0, .ref (ad 0)), (1, .int x1), (2, .int x2), (3, .int x3), (4, .int x4), (5, .int x5)] 64 [] := by
  intro x1 x2 x3 x4 x5 u hm H locs ls hP hD hS hl
  unfold m_M_body_64 at hm
  have G0 := G
  obtain ⟨hx, hb, hr, hml, hown, hw, hlk⟩ := G
  have hA : ∀ q, s.heap.size ≤ q → va_A w0 s.heap.size q := fun q h => Or.inr h
  refine lv_iload hx hb dX6_body_64 (lv_at hl 4 rfl) ?_
  refine lv_if_lt (tgt := 71) hx hb dX6_body_66 rfl (fun cd11 => ?_) (fun cd11 => ?_)
  · replace hm := zt cd11 hm
    refine lv_iload hx hb dX6_body_71 (lv_at hl 5 rfl) ?_
    refine lv_istore (lv' := [(4, .int x5), (0, .ref (ad 0)), (1, .int x1), (2, .int x2), (3, .int x3), (5, .int x5)]) hx hb dX6_body_73 hl (by decide) rfl (fun ls hl => ?_)
    refine lv_goto (tgt := 95) hx hb dX6_body_75 rfl ?_
    exact b_M_body_95 G0 hK hX rec hrec _ _ _ _ _ _ hm H _ _ hP hD hS (lv_sub hl [1, 2, 3, 4, 0, 5] rfl)
  · replace hm := zf cd11 hm
    refine lv_iconst (v := 0) hx hb dX6_body_69 (by decide) ?_
    obtain ⟨hz12, -, hm⟩ := zbo_s hm
    cases hm
    exact zretz hx hb hr hlk hz12 hP hD hS dX6_body_70
set_option maxRecDepth 100000 in
set_option maxHeartbeats 4000000 in
theorem b_M_body_44 (G : zG p s m args meth c cX6_body RX6 7 (some .boolean)) (hK : va_K D vwCl (wM_t ca) s) (hX : zN (va_A w0 s.heap.size) s) {res : (Int32) × (Nat → Nat → Int32)} (rec : Int32 → Int32 → Int32 → Int32 → Int32 → (Nat → Nat → Int32) → Option ((Int32) × (Nat → Nat → Int32))) (hrec : ∀ (x1 : Int32) (x2 : Int32) (x3 : Int32) (x4 : Int32) (x5 : Int32) (u : Nat → Nat → Int32), rec x1 x2 x3 x4 x5 u = some res → zB p l e (zR 1 22) s m args below meth c D vwCl (va_A w0 s.heap.size) (MQ below (zQi D vwCl w0 (wM ad ca v res.2) s.heap.size res.1) args s 0 0 (va_A w0 s.heap.size)) 7 (wM ad ca v u) [(0, .ref (ad 0)), (1, .int x1), (2, .int x2), (3, .int x3), (4, .int x4), (5, .int x5)] 8 []) : ∀ (x1 : Int32) (x2 : Int32) (x4 : Int32) (x5 : Int32) (x6 : Int32) (u : Nat → Nat → Int32), m_M_body_44 v rec x1 x2 x4 x5 x6 u = some res → zB p l e (zR 1 22) s m args below meth c D vwCl (va_A w0 s.heap.size) (MQ below (zQi D vwCl w0 (wM ad ca v res.2) s.heap.size res.1) args s 0 0 (va_A w0 s.heap.size)) 7 (wM ad ca v u) [(0, .ref (ad 0)), (1, .int x1), (2, .int x2), (4, .int x4), (5, .int x5), (6, .int x6)] 44 [] := by
  intro x1 x2 x4 x5 x6 u hm H locs ls hP hD hS hl
  unfold m_M_body_44 at hm
  have G0 := G
  obtain ⟨hx, hb, hr, hml, hown, hw, hlk⟩ := G
  have hA : ∀ q, s.heap.size ≤ q → va_A w0 s.heap.size q := fun q h => Or.inr h
  refine lv_iload hx hb dX6_body_44 (lv_at hl 5 rfl) ?_
  refine lv_istore_n (lv' := [(3, .int x6), (0, .ref (ad 0)), (1, .int x1), (2, .int x2), (4, .int x4), (5, .int x5), (6, .int x6)]) hx hb dX6_body_46 rfl hl (by decide) rfl (fun ls hl => ?_)
  refine lv_goto (tgt := 95) hx hb dX6_body_47 rfl ?_
  exact b_M_body_95 G0 hK hX rec hrec _ _ _ _ _ _ hm H _ _ hP hD hS (lv_sub hl [1, 2, 3, 0, 4, 5] rfl)
set_option maxRecDepth 100000 in
set_option maxHeartbeats 4000000 in
theorem b_M_body_8 (G : zG p s m args meth c cX6_body RX6 7 (some .boolean)) (hK : va_K D vwCl (wM_t ca) s) (hX : zN (va_A w0 s.heap.size) s) {res : (Int32) × (Nat → Nat → Int32)} : ∀ n : Nat, ∀ (x1 : Int32) (x2 : Int32) (x3 : Int32) (x4 : Int32) (x5 : Int32) (u : Nat → Nat → Int32), m_M_body_8 v n x1 x2 x3 x4 x5 u = some res → zB p l e (zR 1 22) s m args below meth c D vwCl (va_A w0 s.heap.size) (MQ below (zQi D vwCl w0 (wM ad ca v res.2) s.heap.size res.1) args s 0 0 (va_A w0 s.heap.size)) 7 (wM ad ca v u) [(0, .ref (ad 0)), (1, .int x1), (2, .int x2), (3, .int x3), (4, .int x4), (5, .int x5)] 8 [] := by
  intro n
  induction n with
  | zero => intro x1 x2 x3 x4 x5 u hm; cases hm
  | succ n ih =>
  have hrec := ih
  intro x1 x2 x3 x4 x5 u hm H locs ls hP hD hS hl
  replace hm : m_M_body_8b v (m_M_body_8 v n) x1 x2 x3 x4 x5 u = some res := hm
  generalize m_M_body_8 v n = rec at hm hrec
  unfold m_M_body_8b at hm
  clear ih
  have G0 := G
  obtain ⟨hx, hb, hr, hml, hown, hw, hlk⟩ := G
  have hA : ∀ q, s.heap.size ≤ q → va_A w0 s.heap.size q := fun q h => Or.inr h
  refine lv_iload hx hb dX6_body_8 (lv_at hl 5 rfl) ?_
  refine lv_iload_n hx hb dX6_body_10 rfl (lv_at hl 2 rfl) ?_
  refine lv_icmp_ge (tgt := 101) hx hb dX6_body_11 rfl (fun cd1 => ?_) (fun cd1 => ?_)
  · replace hm := zt cd1 hm
    refine lv_aload_n hx hb dX6_body_101 rfl (lv_at hl 0 rfl) ?_
    refine va_get (D := D) (ci := 5) (v := .ref (ad 11)) (C := RX6) (T := TX6) (N := 24) hx hb hw zinX6 hown hK hP 0 rfl rfl 13 (by decide) (hw _ zw51) (fun _ h9 => h9) rfl dX6_body_102 ?_
    refine lv_bipush (v := 8) hx hb dX6_body_105 (by decide) ?_
    refine lv_iload_n hx hb dX6_body_107 rfl (lv_at hl 3 rfl) ?_
    obtain ⟨hi2, hm⟩ := zix_s hm
    refine va_iast (i := 8) (x := x3) (f := (u 11)) (n := 9) hx hb hK hP hD hS 11 10 rfl rfl hi2 dX6_body_108 (fun H locs hP hD hS => ?_)
    have hP : va_P D vwCl (wM ad ca v (zau u 11 8 x3)) H := hP
    have hD : va_D _ (wM ad ca v (zau u 11 8 x3)) := hD
    refine lv_aload_n hx hb dX6_body_109 rfl (lv_at hl 0 rfl) ?_
    refine va_get (D := D) (ci := 5) (v := .ref (ad 14)) (C := RX6) (T := TX6) (N := 24) hx hb hw zinX6 hown hK hP 0 rfl rfl 16 (by decide) (hw _ zw52) (fun _ h9 => h9) rfl dX6_body_110 ?_
    refine lv_bipush (v := 8) hx hb dX6_body_113 (by decide) ?_
    refine lv_iload hx hb dX6_body_115 (lv_at hl 4 rfl) ?_
    obtain ⟨hi3, hm⟩ := zix_s hm
    refine va_iast (i := 8) (x := x4) (f := ((zau u 11 8 x3) 14)) (n := 9) hx hb hK hP hD hS 14 13 rfl rfl hi3 dX6_body_117 (fun H locs hP hD hS => ?_)
    have hP : va_P D vwCl (wM ad ca v (zau (zau u 11 8 x3) 14 8 x4)) H := hP
    have hD : va_D _ (wM ad ca v (zau (zau u 11 8 x3) 14 8 x4)) := hD
    refine lv_aload_n hx hb dX6_body_118 rfl (lv_at hl 0 rfl) ?_
    refine va_get (D := D) (ci := 5) (v := .ref (ad 12)) (C := RX6) (T := TX6) (N := 24) hx hb hw zinX6 hown hK hP 0 rfl rfl 14 (by decide) (hw _ zw53) (fun _ h9 => h9) rfl dX6_body_119 ?_
    refine lv_bipush (v := 8) hx hb dX6_body_122 (by decide) ?_
    refine lv_iload_n hx hb dX6_body_124 rfl (lv_at hl 1 rfl) ?_
    obtain ⟨hi4, hm⟩ := zix_s hm
    refine va_iast (i := 8) (x := x1) (f := ((zau (zau u 11 8 x3) 14 8 x4) 12)) (n := 9) hx hb hK hP hD hS 12 11 rfl rfl hi4 dX6_body_125 (fun H locs hP hD hS => ?_)
    have hP : va_P D vwCl (wM ad ca v (zau (zau (zau u 11 8 x3) 14 8 x4) 12 8 x1)) H := hP
    have hD : va_D _ (wM ad ca v (zau (zau (zau u 11 8 x3) 14 8 x4) 12 8 x1)) := hD
    refine lv_aload_n hx hb dX6_body_126 rfl (lv_at hl 0 rfl) ?_
    refine va_get (D := D) (ci := 5) (v := .ref (ad 13)) (C := RX6) (T := TX6) (N := 24) hx hb hw zinX6 hown hK hP 0 rfl rfl 15 (by decide) (hw _ zw54) (fun _ h9 => h9) rfl dX6_body_127 ?_
    refine lv_bipush (v := 8) hx hb dX6_body_130 (by decide) ?_
    refine lv_iload_n hx hb dX6_body_132 rfl (lv_at hl 2 rfl) ?_
    obtain ⟨hi5, hm⟩ := zix_s hm
    refine va_iast (i := 8) (x := x2) (f := ((zau (zau (zau u 11 8 x3) 14 8 x4) 12 8 x1) 13)) (n := 9) hx hb hK hP hD hS 13 12 rfl rfl hi5 dX6_body_133 (fun H locs hP hD hS => ?_)
    have hP : va_P D vwCl (wM ad ca v (zau (zau (zau (zau u 11 8 x3) 14 8 x4) 12 8 x1) 13 8 x2)) H := hP
    have hD : va_D _ (wM ad ca v (zau (zau (zau (zau u 11 8 x3) 14 8 x4) 12 8 x1) 13 8 x2)) := hD
    refine lv_iconst (v := 1) hx hb dX6_body_134 (by decide) ?_
    obtain ⟨hz6, -, hm⟩ := zbo_s hm
    cases hm
    exact zretz hx hb hr hlk hz6 hP hD hS dX6_body_135
  · replace hm := zf cd1 hm
    refine lv_aload_n hx hb dX6_body_14 rfl (lv_at hl 0 rfl) ?_
    refine lv_bipush (v := 8) hx hb dX6_body_15 (by decide) ?_
    refine lv_iload hx hb dX6_body_17 (lv_at hl 5 rfl) ?_
    obtain ⟨q7, hq7, hm⟩ := zbind hm
    refine zbWi (va_runV (As := [.int 8, .int x5]) (rest := []) ⟨hx, hb, hml, hown, hw⟩ (k_M_sym l D ad ca _ 8 x5 v u  q7 hq7) (zcV (C := RX6) 2 hw (zgood zw14) rfl rfl rfl zw7 zw16 zw15 zw17 hdX6_sym ⟨Nat.le_of_ble_eq_true rfl, Nat.le_of_ble_eq_true rfl⟩) (zpreV (zpre zN_ok trivial hS (zfree hD hS hA) hP hK hD) (va_recv hK hP rfl (q0 := 0) rfl)) rfl rfl hl.1 rfl (lv_room (Nat.le_of_ble_eq_true rfl)) dX6_body_19 ⟨Nat.zero_le _, Nat.zero_le _⟩) hS (zfree hD hS hA) (fun H locs hP hD hS => ?_)
    refine lv_istore (lv' := [(6, .int q7), (0, .ref (ad 0)), (1, .int x1), (2, .int x2), (3, .int x3), (4, .int x4), (5, .int x5)]) hx hb dX6_body_22 hl (by decide) rfl (fun ls hl => ?_)
    refine lv_iload hx hb dX6_body_24 (lv_at hl 0 rfl) ?_
    obtain ⟨q8, hq8, hm⟩ := zbind hm
    refine zb0i (va_runS (As := [.int q7]) (rest := []) ⟨hx, hb, hml, hown, hw⟩ (k_M_isFill l D  _ q7  q8 hq8) ⟨zcB 1 hw (zgood zw55) rfl rfl rfl zw7 zw57 hdX6_isFill ⟨Nat.le_of_ble_eq_true rfl, Nat.le_of_ble_eq_true rfl⟩, hw _ zw56⟩ (zpre zN_ok trivial hS (zfree0 hS hA) zP0 (hK.sub (tys' := []) [] rfl) zD0) rfl rfl hl.1 rfl (lv_room (Nat.le_of_ble_eq_true rfl)) dX6_body_26 ⟨Nat.zero_le _, Nat.zero_le _⟩) hP hD hS (zfree0 hS hA) (fun H locs hP hD hS => ?_)
    refine lv_if_eq (tgt := 50) hx hb dX6_body_29 rfl (fun cd9 => ?_) (fun cd9 => ?_)
    · replace hm := zt cd9 hm
      refine lv_iload hx hb dX6_body_50 (lv_at hl 0 rfl) ?_
      refine lv_bipush (v := 46) hx hb dX6_body_52 (by decide) ?_
      refine lv_icmp_eq (tgt := 64) hx hb dX6_body_54 rfl (fun cd10 => ?_) (fun cd10 => ?_)
      · replace hm := zt cd10 hm
        exact b_M_body_64 G0 hK hX rec hrec _ _ _ _ _ _ hm H _ _ hP hD hS (lv_sub hl [1, 2, 3, 4, 5, 6] rfl)
      · replace hm := zf cd10 hm
        refine lv_iload hx hb dX6_body_57 (lv_at hl 0 rfl) ?_
        refine lv_bipush (v := 86) hx hb dX6_body_59 (by decide) ?_
        refine lv_icmp_ne (tgt := 78) hx hb dX6_body_61 rfl (fun cd13 => ?_) (fun cd13 => ?_)
        · replace hm := zf cd13 hm
          refine lv_iload hx hb dX6_body_78 (lv_at hl 0 rfl) ?_
          refine lv_bipush (v := 57) hx hb dX6_body_80 (by decide) ?_
          refine lv_icmp_eq (tgt := 95) hx hb dX6_body_82 rfl (fun cd14 => ?_) (fun cd14 => ?_)
          · replace hm := zt cd14 hm
            exact b_M_body_95 G0 hK hX rec hrec _ _ _ _ _ _ hm H _ _ hP hD hS (lv_sub hl [1, 2, 3, 4, 5, 6] rfl)
          · replace hm := zf cd14 hm
            refine lv_iload hx hb dX6_body_85 (lv_at hl 0 rfl) ?_
            obtain ⟨q15, hq15, hm⟩ := zbind hm
            refine zb0i (va_runS (As := [.int q7]) (rest := []) ⟨hx, hb, hml, hown, hw⟩ (k_M_isInsertion l D  _ q7  q15 hq15) ⟨zcB 1 hw (zgood zw58) rfl rfl rfl zw7 zw60 hdX6_isInsertion ⟨Nat.le_of_ble_eq_true rfl, Nat.le_of_ble_eq_true rfl⟩, hw _ zw59⟩ (zpre zN_ok trivial hS (zfree0 hS hA) zP0 (hK.sub (tys' := []) [] rfl) zD0) rfl rfl hl.1 rfl (lv_room (Nat.le_of_ble_eq_true rfl)) dX6_body_87 ⟨Nat.zero_le _, Nat.zero_le _⟩) hP hD hS (zfree0 hS hA) (fun H locs hP hD hS => ?_)
            refine lv_if_ne (tgt := 95) hx hb dX6_body_90 rfl (fun cd16 => ?_) (fun cd16 => ?_)
            · replace hm := zf cd16 hm
              exact b_M_body_95 G0 hK hX rec hrec _ _ _ _ _ _ hm H _ _ hP hD hS (lv_sub hl [1, 2, 3, 4, 5, 6] rfl)
            · replace hm := zt cd16 hm
              refine lv_iconst (v := 0) hx hb dX6_body_93 (by decide) ?_
              obtain ⟨hz17, -, hm⟩ := zbo_s hm
              cases hm
              exact zretz hx hb hr hlk hz17 hP hD hS dX6_body_94
        · replace hm := zt cd13 hm
          exact b_M_body_64 G0 hK hX rec hrec _ _ _ _ _ _ hm H _ _ hP hD hS (lv_sub hl [1, 2, 3, 4, 5, 6] rfl)
    · replace hm := zf cd9 hm
      refine lv_iload_n hx hb dX6_body_32 rfl (lv_at hl 4 rfl) ?_
      refine lv_if_eq (tgt := 44) hx hb dX6_body_33 rfl (fun cd18 => ?_) (fun cd18 => ?_)
      · replace hm := zt cd18 hm
        exact b_M_body_44 G0 hK hX rec hrec _ _ _ _ _ _ hm H _ _ hP hD hS (lv_sub hl [1, 2, 3, 5, 6, 0] rfl)
      · replace hm := zf cd18 hm
        refine lv_iload_n hx hb dX6_body_36 rfl (lv_at hl 4 rfl) ?_
        refine lv_iload hx hb dX6_body_37 (lv_at hl 0 rfl) ?_
        refine lv_icmp_eq (tgt := 44) hx hb dX6_body_39 rfl (fun cd19 => ?_) (fun cd19 => ?_)
        · replace hm := zt cd19 hm
          exact b_M_body_44 G0 hK hX rec hrec _ _ _ _ _ _ hm H _ _ hP hD hS (lv_sub hl [1, 2, 3, 5, 6, 0] rfl)
        · replace hm := zf cd19 hm
          refine lv_iconst (v := 0) hx hb dX6_body_42 (by decide) ?_
          obtain ⟨hz20, -, hm⟩ := zbo_s hm
          cases hm
          exact zretz hx hb hr hlk hz20 hP hD hS dX6_body_43
end
set_option maxRecDepth 100000 in
set_option maxHeartbeats 4000000 in
theorem k_M_body (l : Launch) (D : va_G) (ad : Nat → Nat) (ca : Nat → ClassId) (sz : Nat) (a0 : Int32) (a1 : Int32) (v : Nat → Int32) (u : Nat → Nat → Int32) (res : (Int32) × (Nat → Nat → Int32)) (hm : m_M_body a0 a1 v u  = some res) : Met l yX6_body (Cond.code yX6_body cX6_body 7 (some .boolean) :: zBIG) (zR 1 22) (va_Pc [.ref (ad 0), .int a0, .int a1] (zP zN D vwCl (wM_t ca) (wM ad ca v u) sz)) (zQi D vwCl (wM ad ca v u) (wM ad ca v res.2) sz res.1) 0 0 (va_A (wM ad ca v u) sz) := by
  refine zEnter RX6 [.ref (ad 0), .int a0, .int a1] (by decide) rfl (Nat.le_of_ble_eq_true rfl) (fun p e s m below meth c ls G hK hX hP hD hsz hl => ?_)
  subst hsz
  unfold m_M_body at hm
  have hl : lv_has ls 7 [(0, .ref (ad 0)), (1, .int a0), (2, .int a1)] := hl
  have hS : va_S (va_A (wM ad ca v u) s.heap.size) s.heap s.heap [] := va_S.rf
  have hA : ∀ q, s.heap.size ≤ q → va_A (wM ad ca v u) s.heap.size q := fun q h => Or.inr h
  have G0 := G
  obtain ⟨hx, hb, hr, hml, hown, hw, hlk⟩ := G
  refine lv_iconst (v := 0) hx hb dX6_body_0 (by decide) ?_
  refine lv_istore_n (lv' := [(3, .int 0), (0, .ref (ad 0)), (1, .int a0), (2, .int a1)]) hx hb dX6_body_1 rfl hl (by decide) rfl (fun ls hl => ?_)
  refine lv_iconst (v := (-1)) hx hb dX6_body_2 (by decide) ?_
  refine lv_istore (lv' := [(4, .int (-1)), (3, .int 0), (0, .ref (ad 0)), (1, .int a0), (2, .int a1)]) hx hb dX6_body_3 hl (by decide) rfl (fun ls hl => ?_)
  refine lv_iload_n hx hb dX6_body_5 rfl (lv_at hl 3 rfl) ?_
  refine lv_istore (lv' := [(5, .int a0), (4, .int (-1)), (3, .int 0), (0, .ref (ad 0)), (1, .int a0), (2, .int a1)]) hx hb dX6_body_6 hl (by decide) rfl (fun ls hl => ?_)
  exact b_M_body_8 G0 hK hX 64 _ _ _ _ _ _ hm _ _ _ hP hD hS (lv_sub hl [3, 4, 5, 2, 1, 0] rfl)

theorem dX6_ordered_0 : decode cX6_ordered 0 = .ok (.aload_n 0, 1) := by decide +kernel
theorem dX6_ordered_1 : decode cX6_ordered 1 = .ok (.getfield 41, 3) := by decide +kernel
theorem dX6_ordered_4 : decode cX6_ordered 4 = .ok (.bipush 8, 2) := by decide +kernel
theorem dX6_ordered_6 : decode cX6_ordered 6 = .ok (.iaload, 1) := by decide +kernel
theorem dX6_ordered_7 : decode cX6_ordered 7 = .ok (.istore_n 3, 1) := by decide +kernel
theorem dX6_ordered_8 : decode cX6_ordered 8 = .ok (.iload_n 3, 1) := by decide +kernel
theorem dX6_ordered_9 : decode cX6_ordered 9 = .ok (.ifCond .ne 5, 3) := by decide +kernel
theorem dX6_ordered_12 : decode cX6_ordered 12 = .ok (.iconst 1, 1) := by decide +kernel
theorem dX6_ordered_13 : decode cX6_ordered 13 = .ok (.ireturn, 1) := by decide +kernel
theorem dX6_ordered_14 : decode cX6_ordered 14 = .ok (.aload_n 0, 1) := by decide +kernel
theorem dX6_ordered_15 : decode cX6_ordered 15 = .ok (.getfield 50, 3) := by decide +kernel
theorem dX6_ordered_18 : decode cX6_ordered 18 = .ok (.bipush 8, 2) := by decide +kernel
theorem dX6_ordered_20 : decode cX6_ordered 20 = .ok (.iaload, 1) := by decide +kernel
theorem dX6_ordered_21 : decode cX6_ordered 21 = .ok (.ifCond .ge 7, 3) := by decide +kernel
theorem dX6_ordered_24 : decode cX6_ordered 24 = .ok (.iload_n 2, 1) := by decide +kernel
theorem dX6_ordered_25 : decode cX6_ordered 25 = .ok (.goto 10, 3) := by decide +kernel
theorem dX6_ordered_28 : decode cX6_ordered 28 = .ok (.aload_n 0, 1) := by decide +kernel
theorem dX6_ordered_29 : decode cX6_ordered 29 = .ok (.getfield 50, 3) := by decide +kernel
theorem dX6_ordered_32 : decode cX6_ordered 32 = .ok (.bipush 8, 2) := by decide +kernel
theorem dX6_ordered_34 : decode cX6_ordered 34 = .ok (.iaload, 1) := by decide +kernel
theorem dX6_ordered_35 : decode cX6_ordered 35 = .ok (.istore 4, 2) := by decide +kernel
theorem dX6_ordered_37 : decode cX6_ordered 37 = .ok (.aload_n 0, 1) := by decide +kernel
theorem dX6_ordered_38 : decode cX6_ordered 38 = .ok (.iload_n 3, 1) := by decide +kernel
theorem dX6_ordered_39 : decode cX6_ordered 39 = .ok (.iload_n 1, 1) := by decide +kernel
theorem dX6_ordered_40 : decode cX6_ordered 40 = .ok (.iload 4, 2) := by decide +kernel
theorem dX6_ordered_42 : decode cX6_ordered 42 = .ok (.invokevirtual 97, 3) := by decide +kernel
theorem dX6_ordered_45 : decode cX6_ordered 45 = .ok (.ifCond .ne 5, 3) := by decide +kernel
theorem dX6_ordered_48 : decode cX6_ordered 48 = .ok (.iconst 0, 1) := by decide +kernel
theorem dX6_ordered_49 : decode cX6_ordered 49 = .ok (.ireturn, 1) := by decide +kernel
theorem dX6_ordered_50 : decode cX6_ordered 50 = .ok (.aload_n 0, 1) := by decide +kernel
theorem dX6_ordered_51 : decode cX6_ordered 51 = .ok (.iload_n 3, 1) := by decide +kernel
theorem dX6_ordered_52 : decode cX6_ordered 52 = .ok (.iload_n 1, 1) := by decide +kernel
theorem dX6_ordered_53 : decode cX6_ordered 53 = .ok (.iload_n 2, 1) := by decide +kernel
theorem dX6_ordered_54 : decode cX6_ordered 54 = .ok (.invokevirtual 101, 3) := by decide +kernel
theorem dX6_ordered_57 : decode cX6_ordered 57 = .ok (.istore 5, 2) := by decide +kernel
theorem dX6_ordered_59 : decode cX6_ordered 59 = .ok (.iload_n 1, 1) := by decide +kernel
theorem dX6_ordered_60 : decode cX6_ordered 60 = .ok (.istore 6, 2) := by decide +kernel
theorem dX6_ordered_62 : decode cX6_ordered 62 = .ok (.iload 6, 2) := by decide +kernel
theorem dX6_ordered_64 : decode cX6_ordered 64 = .ok (.iload 4, 2) := by decide +kernel
theorem dX6_ordered_66 : decode cX6_ordered 66 = .ok (.if_icmp .ge 30, 3) := by decide +kernel
theorem dX6_ordered_69 : decode cX6_ordered 69 = .ok (.aload_n 0, 1) := by decide +kernel
theorem dX6_ordered_70 : decode cX6_ordered 70 = .ok (.bipush 8, 2) := by decide +kernel
theorem dX6_ordered_72 : decode cX6_ordered 72 = .ok (.iload 6, 2) := by decide +kernel
theorem dX6_ordered_74 : decode cX6_ordered 74 = .ok (.invokevirtual 93, 3) := by decide +kernel
theorem dX6_ordered_77 : decode cX6_ordered 77 = .ok (.iload_n 3, 1) := by decide +kernel
theorem dX6_ordered_78 : decode cX6_ordered 78 = .ok (.if_icmp .ne 8, 3) := by decide +kernel
theorem dX6_ordered_81 : decode cX6_ordered 81 = .ok (.iload 6, 2) := by decide +kernel
theorem dX6_ordered_83 : decode cX6_ordered 83 = .ok (.goto 5, 3) := by decide +kernel
theorem dX6_ordered_86 : decode cX6_ordered 86 = .ok (.iload 5, 2) := by decide +kernel
theorem dX6_ordered_88 : decode cX6_ordered 88 = .ok (.istore 5, 2) := by decide +kernel
theorem dX6_ordered_90 : decode cX6_ordered 90 = .ok (.iinc 6 1, 3) := by decide +kernel
theorem dX6_ordered_93 : decode cX6_ordered 93 = .ok (.goto (-31), 3) := by decide +kernel
theorem dX6_ordered_96 : decode cX6_ordered 96 = .ok (.aload_n 0, 1) := by decide +kernel
theorem dX6_ordered_97 : decode cX6_ordered 97 = .ok (.bipush 57, 2) := by decide +kernel
theorem dX6_ordered_99 : decode cX6_ordered 99 = .ok (.iload_n 1, 1) := by decide +kernel
theorem dX6_ordered_100 : decode cX6_ordered 100 = .ok (.iload 5, 2) := by decide +kernel
theorem dX6_ordered_102 : decode cX6_ordered 102 = .ok (.invokevirtual 97, 3) := by decide +kernel
theorem dX6_ordered_105 : decode cX6_ordered 105 = .ok (.ifCond .le 5, 3) := by decide +kernel
theorem dX6_ordered_108 : decode cX6_ordered 108 = .ok (.iconst 0, 1) := by decide +kernel
theorem dX6_ordered_109 : decode cX6_ordered 109 = .ok (.ireturn, 1) := by decide +kernel
theorem dX6_ordered_110 : decode cX6_ordered 110 = .ok (.aload_n 0, 1) := by decide +kernel
theorem dX6_ordered_111 : decode cX6_ordered 111 = .ok (.iload_n 3, 1) := by decide +kernel
theorem dX6_ordered_112 : decode cX6_ordered 112 = .ok (.iload 4, 2) := by decide +kernel
theorem dX6_ordered_114 : decode cX6_ordered 114 = .ok (.iload_n 2, 1) := by decide +kernel
theorem dX6_ordered_115 : decode cX6_ordered 115 = .ok (.invokevirtual 97, 3) := by decide +kernel
theorem dX6_ordered_118 : decode cX6_ordered 118 = .ok (.istore 6, 2) := by decide +kernel
theorem dX6_ordered_120 : decode cX6_ordered 120 = .ok (.iload 6, 2) := by decide +kernel
theorem dX6_ordered_122 : decode cX6_ordered 122 = .ok (.ifCond .eq 14, 3) := by decide +kernel
theorem dX6_ordered_125 : decode cX6_ordered 125 = .ok (.aload_n 0, 1) := by decide +kernel
theorem dX6_ordered_126 : decode cX6_ordered 126 = .ok (.bipush 57, 2) := by decide +kernel
theorem dX6_ordered_128 : decode cX6_ordered 128 = .ok (.iload_n 1, 1) := by decide +kernel
theorem dX6_ordered_129 : decode cX6_ordered 129 = .ok (.iload_n 2, 1) := by decide +kernel
theorem dX6_ordered_130 : decode cX6_ordered 130 = .ok (.invokevirtual 97, 3) := by decide +kernel
theorem dX6_ordered_133 : decode cX6_ordered 133 = .ok (.ifCond .ne 7, 3) := by decide +kernel
theorem dX6_ordered_136 : decode cX6_ordered 136 = .ok (.iconst 1, 1) := by decide +kernel
theorem dX6_ordered_137 : decode cX6_ordered 137 = .ok (.goto 4, 3) := by decide +kernel
theorem dX6_ordered_140 : decode cX6_ordered 140 = .ok (.iconst 0, 1) := by decide +kernel
theorem dX6_ordered_141 : decode cX6_ordered 141 = .ok (.ireturn, 1) := by decide +kernel
def m_M_ordered_136 (v : Nat → Int32) (u : Nat → Nat → Int32)   : Option ((Int32)) := (zbo 1 (some 1))
def m_M_ordered_88 (v : Nat → Int32) (u : Nat → Nat → Int32) (rec : Int32 → Int32 → Int32 → Int32 → Int32 → Int32 → Option ((Int32))) (x1 : Int32) (x2 : Int32) (x3 : Int32) (x4 : Int32) (x6 : Int32) (t0 : Int32)  : Option ((Int32)) := rec x1 x2 x3 x4 t0 (x6 + 1)
def m_M_ordered_62b (v : Nat → Int32) (u : Nat → Nat → Int32) (rec : Int32 → Int32 → Int32 → Int32 → Int32 → Int32 → Option ((Int32))) (x1 : Int32) (x2 : Int32) (x3 : Int32) (x4 : Int32) (x5 : Int32) (x6 : Int32)  : Option ((Int32)) := (if x4 ≤ x6 then (m_M_countOf 57 x1 x5 v u).bind (fun q10 => (if q10 ≤ 0 then (m_M_countOf x3 x4 x2 v u).bind (fun q12 => (if q12 = 0 then m_M_ordered_136 v u  else (m_M_countOf 57 x1 x2 v u).bind (fun q15 => (if q15 = 0 then m_M_ordered_136 v u  else (zbo 0 (some 0)))))) else (zbo 0 (some 0)))) else (m_M_sym 8 x6 v u).bind (fun q19 => (if q19 = x3 then m_M_ordered_88 v u rec x1 x2 x3 x4 x6 x6 else m_M_ordered_88 v u rec x1 x2 x3 x4 x6 x5)))
def m_M_ordered_62 (v : Nat → Int32) (u : Nat → Nat → Int32) : Nat → Int32 → Int32 → Int32 → Int32 → Int32 → Int32 → Option ((Int32))
  | 0 => fun _ _ _ _ _ _ => none
  | n + 1 => fun x1 x2 x3 x4 x5 x6 => m_M_ordered_62b v u (m_M_ordered_62 v u n) x1 x2 x3 x4 x5 x6
def m_M_ordered_35 (v : Nat → Int32) (u : Nat → Nat → Int32) (x1 : Int32) (x2 : Int32) (x3 : Int32) (t0 : Int32)  : Option ((Int32)) := (m_M_countOf x3 x1 t0 v u).bind (fun q6 => (if q6 = 0 then (zbo 0 (some 0)) else (m_M_firstOf x3 x1 x2 v u).bind (fun q8 => m_M_ordered_62 v u 64 x1 x2 x3 t0 q8 x1)))
def m_M_ordered (a0 : Int32) (a1 : Int32) (v : Nat → Int32) (u : Nat → Nat → Int32)  : Option ((Int32)) := zix 8 9 ((if ((u 11) (8 : Int32).toNatClampNeg) = 0 then (zbo 1 (some 1)) else zix 8 9 ((if 0 ≤ ((u 14) (8 : Int32).toNatClampNeg) then zix 8 9 (m_M_ordered_35 v u a0 a1 ((u 11) (8 : Int32).toNatClampNeg) ((u 14) (8 : Int32).toNatClampNeg)) else m_M_ordered_35 v u a0 a1 ((u 11) (8 : Int32).toNatClampNeg) a1))))
section
variable {p : Program} {l : Launch} {e : Env} {s : State} {m : MethodId} {args : Array Value} {below : List Frame} {meth : Method} {c : Code} {D : va_G} {w0 : va_W} {ad : Nat → Nat} {ca : Nat → ClassId} {v : Nat → Int32} {u : Nat → Nat → Int32}
set_option maxRecDepth 100000 in
set_option maxHeartbeats 4000000 in
theorem b_M_ordered_136 (G : zG p s m args meth c cX6_ordered RX6 7 (some .boolean)) (hK : va_K D vwCl (wM_t ca) s) (hX : zN (va_A w0 s.heap.size) s) {res : (Int32)} : m_M_ordered_136 v u  = some res → zB p l e (zR 2 47) s m args below meth c D vwCl (va_A w0 s.heap.size) (MQ below (zQi D vwCl w0 (wM ad ca v u) s.heap.size res) args s 0 0 (va_A w0 s.heap.size)) 7 (wM ad ca v u) [] 136 [] := by
  intro  hm H locs ls hP hD hS hl
  unfold m_M_ordered_136 at hm
  have G0 := G
  obtain ⟨hx, hb, hr, hml, hown, hw, hlk⟩ := G
  have hA : ∀ q, s.heap.size ≤ q → va_A w0 s.heap.size q := fun q h => Or.inr h
  refine lv_iconst (v := 1) hx hb dX6_ordered_136 (by decide) ?_
  refine lv_goto (tgt := 141) hx hb dX6_ordered_137 rfl ?_
  obtain ⟨hz14, -, hm⟩ := zbo_s hm
  cases hm
  exact zretz hx hb hr hlk hz14 hP hD hS dX6_ordered_141
set_option maxRecDepth 100000 in
set_option maxHeartbeats 4000000 in
theorem b_M_ordered_88 (G : zG p s m args meth c cX6_ordered RX6 7 (some .boolean)) (hK : va_K D vwCl (wM_t ca) s) (hX : zN (va_A w0 s.heap.size) s) {res : (Int32)} (rec : Int32 → Int32 → Int32 → Int32 → Int32 → Int32 → Option ((Int32))) (hrec : ∀ (x1 : Int32) (x2 : Int32) (x3 : Int32) (x4 : Int32) (x5 : Int32) (x6 : Int32), rec x1 x2 x3 x4 x5 x6 = some res → zB p l e (zR 2 47) s m args below meth c D vwCl (va_A w0 s.heap.size) (MQ below (zQi D vwCl w0 (wM ad ca v u) s.heap.size res) args s 0 0 (va_A w0 s.heap.size)) 7 (wM ad ca v u) [(0, .ref (ad 0)), (1, .int x1), (2, .int x2), (3, .int x3), (4, .int x4), (5, .int x5), (6, .int x6)] 62 []) : ∀ (x1 : Int32) (x2 : Int32) (x3 : Int32) (x4 : Int32) (x6 : Int32) (t0 : Int32), m_M_ordered_88 v u rec x1 x2 x3 x4 x6 t0 = some res → zB p l e (zR 2 47) s m args below meth c D vwCl (va_A w0 s.heap.size) (MQ below (zQi D vwCl w0 (wM ad ca v u) s.heap.size res) args s 0 0 (va_A w0 s.heap.size)) 7 (wM ad ca v u) [(0, .ref (ad 0)), (1, .int x1), (2, .int x2), (3, .int x3), (4, .int x4), (6, .int x6)] 88 [.int t0] := by
  intro x1 x2 x3 x4 x6 t0 hm H locs ls hP hD hS hl
  unfold m_M_ordered_88 at hm
  have G0 := G
  obtain ⟨hx, hb, hr, hml, hown, hw, hlk⟩ := G
  have hA : ∀ q, s.heap.size ≤ q → va_A w0 s.heap.size q := fun q h => Or.inr h
  refine lv_istore (lv' := [(5, .int t0), (0, .ref (ad 0)), (1, .int x1), (2, .int x2), (3, .int x3), (4, .int x4), (6, .int x6)]) hx hb dX6_ordered_88 hl (by decide) rfl (fun ls hl => ?_)
  refine lv_iinc (k := 6) (v := (x6 + 1)) (lv' := [(6, .int (x6 + 1)), (5, .int t0), (0, .ref (ad 0)), (1, .int x1), (2, .int x2), (3, .int x3), (4, .int x4)]) hx hb dX6_ordered_90 hl rfl rfl (by decide) rfl (fun ls hl => ?_)
  refine lv_goto (tgt := 62) hx hb dX6_ordered_93 rfl ?_
  exact hrec _ _ _ _ _ _ hm H _ _ hP hD hS (lv_sub hl [2, 3, 4, 5, 6, 1, 0] rfl)
set_option maxRecDepth 100000 in
set_option maxHeartbeats 4000000 in
theorem b_M_ordered_62 (G : zG p s m args meth c cX6_ordered RX6 7 (some .boolean)) (hK : va_K D vwCl (wM_t ca) s) (hX : zN (va_A w0 s.heap.size) s) {res : (Int32)} : ∀ n : Nat, ∀ (x1 : Int32) (x2 : Int32) (x3 : Int32) (x4 : Int32) (x5 : Int32) (x6 : Int32), m_M_ordered_62 v u n x1 x2 x3 x4 x5 x6 = some res → zB p l e (zR 2 47) s m args below meth c D vwCl (va_A w0 s.heap.size) (MQ below (zQi D vwCl w0 (wM ad ca v u) s.heap.size res) args s 0 0 (va_A w0 s.heap.size)) 7 (wM ad ca v u) [(0, .ref (ad 0)), (1, .int x1), (2, .int x2), (3, .int x3), (4, .int x4), (5, .int x5), (6, .int x6)] 62 [] := by
  intro n
  induction n with
  | zero => intro x1 x2 x3 x4 x5 x6 hm; cases hm
  | succ n ih =>
  have hrec := ih
  intro x1 x2 x3 x4 x5 x6 hm H locs ls hP hD hS hl
  replace hm : m_M_ordered_62b v u (m_M_ordered_62 v u n) x1 x2 x3 x4 x5 x6 = some res := hm
  generalize m_M_ordered_62 v u n = rec at hm hrec
  unfold m_M_ordered_62b at hm
  clear ih
  have G0 := G
  obtain ⟨hx, hb, hr, hml, hown, hw, hlk⟩ := G
  have hA : ∀ q, s.heap.size ≤ q → va_A w0 s.heap.size q := fun q h => Or.inr h
  refine lv_iload hx hb dX6_ordered_62 (lv_at hl 6 rfl) ?_
  refine lv_iload hx hb dX6_ordered_64 (lv_at hl 4 rfl) ?_
  refine lv_icmp_ge (tgt := 96) hx hb dX6_ordered_66 rfl (fun cd9 => ?_) (fun cd9 => ?_)
  · replace hm := zt cd9 hm
    refine lv_aload_n hx hb dX6_ordered_96 rfl (lv_at hl 0 rfl) ?_
    refine lv_bipush (v := 57) hx hb dX6_ordered_97 (by decide) ?_
    refine lv_iload_n hx hb dX6_ordered_99 rfl (lv_at hl 1 rfl) ?_
    refine lv_iload hx hb dX6_ordered_100 (lv_at hl 5 rfl) ?_
    obtain ⟨q10, hq10, hm⟩ := zbind hm
    refine zbWi (va_runV (As := [.int 57, .int x1, .int x5]) (rest := []) ⟨hx, hb, hml, hown, hw⟩ (k_M_countOf l D ad ca _ 57 x1 x5 v u  q10 hq10) (zcV (C := RX6) 3 hw (zgood zw38) rfl rfl rfl zw7 zw40 zw39 zw41 hdX6_countOf ⟨Nat.le_of_ble_eq_true rfl, Nat.le_of_ble_eq_true rfl⟩) (zpreV (zpre zN_ok trivial hS (zfree hD hS hA) hP hK hD) (va_recv hK hP rfl (q0 := 0) rfl)) rfl rfl hl.1 rfl (lv_room (Nat.le_of_ble_eq_true rfl)) dX6_ordered_102 ⟨Nat.zero_le _, Nat.zero_le _⟩) hS (zfree hD hS hA) (fun H locs hP hD hS => ?_)
    refine lv_if_le (tgt := 110) hx hb dX6_ordered_105 rfl (fun cd11 => ?_) (fun cd11 => ?_)
    · replace hm := zt cd11 hm
      refine lv_aload_n hx hb dX6_ordered_110 rfl (lv_at hl 0 rfl) ?_
      refine lv_iload_n hx hb dX6_ordered_111 rfl (lv_at hl 3 rfl) ?_
      refine lv_iload hx hb dX6_ordered_112 (lv_at hl 4 rfl) ?_
      refine lv_iload_n hx hb dX6_ordered_114 rfl (lv_at hl 2 rfl) ?_
      obtain ⟨q12, hq12, hm⟩ := zbind hm
      refine zbWi (va_runV (As := [.int x3, .int x4, .int x2]) (rest := []) ⟨hx, hb, hml, hown, hw⟩ (k_M_countOf l D ad ca _ x3 x4 x2 v u  q12 hq12) (zcV (C := RX6) 3 hw (zgood zw38) rfl rfl rfl zw7 zw40 zw39 zw41 hdX6_countOf ⟨Nat.le_of_ble_eq_true rfl, Nat.le_of_ble_eq_true rfl⟩) (zpreV (zpre zN_ok trivial hS (zfree hD hS hA) hP hK hD) (va_recv hK hP rfl (q0 := 0) rfl)) rfl rfl hl.1 rfl (lv_room (Nat.le_of_ble_eq_true rfl)) dX6_ordered_115 ⟨Nat.zero_le _, Nat.zero_le _⟩) hS (zfree hD hS hA) (fun H locs hP hD hS => ?_)
      refine lv_istore (lv' := [(6, .int q12), (0, .ref (ad 0)), (1, .int x1), (2, .int x2), (3, .int x3), (4, .int x4), (5, .int x5)]) hx hb dX6_ordered_118 hl (by decide) rfl (fun ls hl => ?_)
      refine lv_iload hx hb dX6_ordered_120 (lv_at hl 0 rfl) ?_
      refine lv_if_eq (tgt := 136) hx hb dX6_ordered_122 rfl (fun cd13 => ?_) (fun cd13 => ?_)
      · replace hm := zt cd13 hm
        exact b_M_ordered_136 G0 hK hX  hm H _ _ hP hD hS (lv_sub hl [] rfl)
      · replace hm := zf cd13 hm
        refine lv_aload_n hx hb dX6_ordered_125 rfl (lv_at hl 1 rfl) ?_
        refine lv_bipush (v := 57) hx hb dX6_ordered_126 (by decide) ?_
        refine lv_iload_n hx hb dX6_ordered_128 rfl (lv_at hl 2 rfl) ?_
        refine lv_iload_n hx hb dX6_ordered_129 rfl (lv_at hl 3 rfl) ?_
        obtain ⟨q15, hq15, hm⟩ := zbind hm
        refine zbWi (va_runV (As := [.int 57, .int x1, .int x2]) (rest := []) ⟨hx, hb, hml, hown, hw⟩ (k_M_countOf l D ad ca _ 57 x1 x2 v u  q15 hq15) (zcV (C := RX6) 3 hw (zgood zw38) rfl rfl rfl zw7 zw40 zw39 zw41 hdX6_countOf ⟨Nat.le_of_ble_eq_true rfl, Nat.le_of_ble_eq_true rfl⟩) (zpreV (zpre zN_ok trivial hS (zfree hD hS hA) hP hK hD) (va_recv hK hP rfl (q0 := 0) rfl)) rfl rfl hl.1 rfl (lv_room (Nat.le_of_ble_eq_true rfl)) dX6_ordered_130 ⟨Nat.zero_le _, Nat.zero_le _⟩) hS (zfree hD hS hA) (fun H locs hP hD hS => ?_)
        refine lv_if_ne (tgt := 140) hx hb dX6_ordered_133 rfl (fun cd16 => ?_) (fun cd16 => ?_)
        · replace hm := zf cd16 hm
          refine lv_iconst (v := 0) hx hb dX6_ordered_140 (by decide) ?_
          obtain ⟨hz17, -, hm⟩ := zbo_s hm
          cases hm
          exact zretz hx hb hr hlk hz17 hP hD hS dX6_ordered_141
        · replace hm := zt cd16 hm
          exact b_M_ordered_136 G0 hK hX  hm H _ _ hP hD hS (lv_sub hl [] rfl)
    · replace hm := zf cd11 hm
      refine lv_iconst (v := 0) hx hb dX6_ordered_108 (by decide) ?_
      obtain ⟨hz18, -, hm⟩ := zbo_s hm
      cases hm
      exact zretz hx hb hr hlk hz18 hP hD hS dX6_ordered_109
  · replace hm := zf cd9 hm
    refine lv_aload_n hx hb dX6_ordered_69 rfl (lv_at hl 0 rfl) ?_
    refine lv_bipush (v := 8) hx hb dX6_ordered_70 (by decide) ?_
    refine lv_iload hx hb dX6_ordered_72 (lv_at hl 6 rfl) ?_
    obtain ⟨q19, hq19, hm⟩ := zbind hm
    refine zbWi (va_runV (As := [.int 8, .int x6]) (rest := []) ⟨hx, hb, hml, hown, hw⟩ (k_M_sym l D ad ca _ 8 x6 v u  q19 hq19) (zcV (C := RX6) 2 hw (zgood zw14) rfl rfl rfl zw7 zw16 zw15 zw17 hdX6_sym ⟨Nat.le_of_ble_eq_true rfl, Nat.le_of_ble_eq_true rfl⟩) (zpreV (zpre zN_ok trivial hS (zfree hD hS hA) hP hK hD) (va_recv hK hP rfl (q0 := 0) rfl)) rfl rfl hl.1 rfl (lv_room (Nat.le_of_ble_eq_true rfl)) dX6_ordered_74 ⟨Nat.zero_le _, Nat.zero_le _⟩) hS (zfree hD hS hA) (fun H locs hP hD hS => ?_)
    refine lv_iload_n hx hb dX6_ordered_77 rfl (lv_at hl 3 rfl) ?_
    refine lv_icmp_ne (tgt := 86) hx hb dX6_ordered_78 rfl (fun cd20 => ?_) (fun cd20 => ?_)
    · replace hm := zf cd20 hm
      refine lv_iload hx hb dX6_ordered_86 (lv_at hl 5 rfl) ?_
      exact b_M_ordered_88 G0 hK hX rec hrec _ _ _ _ _ _ hm H _ _ hP hD hS (lv_sub hl [0, 1, 2, 3, 4, 6] rfl)
    · replace hm := zt cd20 hm
      refine lv_iload hx hb dX6_ordered_81 (lv_at hl 6 rfl) ?_
      refine lv_goto (tgt := 88) hx hb dX6_ordered_83 rfl ?_
      exact b_M_ordered_88 G0 hK hX rec hrec _ _ _ _ _ _ hm H _ _ hP hD hS (lv_sub hl [0, 1, 2, 3, 4, 6] rfl)
set_option maxRecDepth 100000 in
set_option maxHeartbeats 4000000 in
theorem b_M_ordered_35 (G : zG p s m args meth c cX6_ordered RX6 7 (some .boolean)) (hK : va_K D vwCl (wM_t ca) s) (hX : zN (va_A w0 s.heap.size) s) {res : (Int32)} : ∀ (x1 : Int32) (x2 : Int32) (x3 : Int32) (t0 : Int32), m_M_ordered_35 v u x1 x2 x3 t0 = some res → zB p l e (zR 2 47) s m args below meth c D vwCl (va_A w0 s.heap.size) (MQ below (zQi D vwCl w0 (wM ad ca v u) s.heap.size res) args s 0 0 (va_A w0 s.heap.size)) 7 (wM ad ca v u) [(0, .ref (ad 0)), (1, .int x1), (2, .int x2), (3, .int x3)] 35 [.int t0] := by
  intro x1 x2 x3 t0 hm H locs ls hP hD hS hl
  unfold m_M_ordered_35 at hm
  have G0 := G
  obtain ⟨hx, hb, hr, hml, hown, hw, hlk⟩ := G
  have hA : ∀ q, s.heap.size ≤ q → va_A w0 s.heap.size q := fun q h => Or.inr h
  refine lv_istore (lv' := [(4, .int t0), (0, .ref (ad 0)), (1, .int x1), (2, .int x2), (3, .int x3)]) hx hb dX6_ordered_35 hl (by decide) rfl (fun ls hl => ?_)
  refine lv_aload_n hx hb dX6_ordered_37 rfl (lv_at hl 1 rfl) ?_
  refine lv_iload_n hx hb dX6_ordered_38 rfl (lv_at hl 4 rfl) ?_
  refine lv_iload_n hx hb dX6_ordered_39 rfl (lv_at hl 2 rfl) ?_
  refine lv_iload hx hb dX6_ordered_40 (lv_at hl 0 rfl) ?_
  obtain ⟨q6, hq6, hm⟩ := zbind hm
  refine zbWi (va_runV (As := [.int x3, .int x1, .int t0]) (rest := []) ⟨hx, hb, hml, hown, hw⟩ (k_M_countOf l D ad ca _ x3 x1 t0 v u  q6 hq6) (zcV (C := RX6) 3 hw (zgood zw38) rfl rfl rfl zw7 zw40 zw39 zw41 hdX6_countOf ⟨Nat.le_of_ble_eq_true rfl, Nat.le_of_ble_eq_true rfl⟩) (zpreV (zpre zN_ok trivial hS (zfree hD hS hA) hP hK hD) (va_recv hK hP rfl (q0 := 0) rfl)) rfl rfl hl.1 rfl (lv_room (Nat.le_of_ble_eq_true rfl)) dX6_ordered_42 ⟨Nat.zero_le _, Nat.zero_le _⟩) hS (zfree hD hS hA) (fun H locs hP hD hS => ?_)
  refine lv_if_ne (tgt := 50) hx hb dX6_ordered_45 rfl (fun cd7 => ?_) (fun cd7 => ?_)
  · replace hm := zf cd7 hm
    refine lv_aload_n hx hb dX6_ordered_50 rfl (lv_at hl 1 rfl) ?_
    refine lv_iload_n hx hb dX6_ordered_51 rfl (lv_at hl 4 rfl) ?_
    refine lv_iload_n hx hb dX6_ordered_52 rfl (lv_at hl 2 rfl) ?_
    refine lv_iload_n hx hb dX6_ordered_53 rfl (lv_at hl 3 rfl) ?_
    obtain ⟨q8, hq8, hm⟩ := zbind hm
    refine zbWi (va_runV (As := [.int x3, .int x1, .int x2]) (rest := []) ⟨hx, hb, hml, hown, hw⟩ (k_M_firstOf l D ad ca _ x3 x1 x2 v u  q8 hq8) (zcV (C := RX6) 3 hw (zgood zw42) rfl rfl rfl zw7 zw44 zw43 zw45 hdX6_firstOf ⟨Nat.le_of_ble_eq_true rfl, Nat.le_of_ble_eq_true rfl⟩) (zpreV (zpre zN_ok trivial hS (zfree hD hS hA) hP hK hD) (va_recv hK hP rfl (q0 := 0) rfl)) rfl rfl hl.1 rfl (lv_room (Nat.le_of_ble_eq_true rfl)) dX6_ordered_54 ⟨Nat.zero_le _, Nat.zero_le _⟩) hS (zfree hD hS hA) (fun H locs hP hD hS => ?_)
    refine lv_istore (lv' := [(5, .int q8), (4, .int t0), (0, .ref (ad 0)), (1, .int x1), (2, .int x2), (3, .int x3)]) hx hb dX6_ordered_57 hl (by decide) rfl (fun ls hl => ?_)
    refine lv_iload_n hx hb dX6_ordered_59 rfl (lv_at hl 3 rfl) ?_
    refine lv_istore (lv' := [(6, .int x1), (5, .int q8), (4, .int t0), (0, .ref (ad 0)), (1, .int x1), (2, .int x2), (3, .int x3)]) hx hb dX6_ordered_60 hl (by decide) rfl (fun ls hl => ?_)
    exact b_M_ordered_62 G0 hK hX 64 _ _ _ _ _ _ hm H _ _ hP hD hS (lv_sub hl [3, 4, 5, 6, 2, 1, 0] rfl)
  · replace hm := zt cd7 hm
    refine lv_iconst (v := 0) hx hb dX6_ordered_48 (by decide) ?_
    obtain ⟨hz21, -, hm⟩ := zbo_s hm
    cases hm
    exact zretz hx hb hr hlk hz21 hP hD hS dX6_ordered_49
end
set_option maxRecDepth 100000 in
set_option maxHeartbeats 4000000 in
theorem k_M_ordered (l : Launch) (D : va_G) (ad : Nat → Nat) (ca : Nat → ClassId) (sz : Nat) (a0 : Int32) (a1 : Int32) (v : Nat → Int32) (u : Nat → Nat → Int32) (res : (Int32)) (hm : m_M_ordered a0 a1 v u  = some res) : Met l yX6_ordered (Cond.code yX6_ordered cX6_ordered 7 (some .boolean) :: zBIG) (zR 2 47) (va_Pc [.ref (ad 0), .int a0, .int a1] (zP zN D vwCl (wM_t ca) (wM ad ca v u) sz)) (zQi D vwCl (wM ad ca v u) (wM ad ca v u) sz res) 0 0 (va_A (wM ad ca v u) sz) := by
  refine zEnter RX6 [.ref (ad 0), .int a0, .int a1] (by decide) rfl (Nat.le_of_ble_eq_true rfl) (fun p e s m below meth c ls G hK hX hP hD hsz hl => ?_)
  subst hsz
  unfold m_M_ordered at hm
  have hl : lv_has ls 7 [(0, .ref (ad 0)), (1, .int a0), (2, .int a1)] := hl
  have hS : va_S (va_A (wM ad ca v u) s.heap.size) s.heap s.heap [] := va_S.rf
  have hA : ∀ q, s.heap.size ≤ q → va_A (wM ad ca v u) s.heap.size q := fun q h => Or.inr h
  have G0 := G
  obtain ⟨hx, hb, hr, hml, hown, hw, hlk⟩ := G
  refine lv_aload_n hx hb dX6_ordered_0 rfl (lv_at hl 0 rfl) ?_
  refine va_get (D := D) (ci := 5) (v := .ref (ad 11)) (C := RX6) (T := TX6) (N := 24) hx hb hw zinX6 hown hK hP 0 rfl rfl 13 (by decide) (hw _ zw51) (fun _ h9 => h9) rfl dX6_ordered_1 ?_
  refine lv_bipush (v := 8) hx hb dX6_ordered_4 (by decide) ?_
  obtain ⟨hi1, hm⟩ := zix_s hm
  refine va_iald (i := 8) (f := (u 11)) (n := 9) hx hb hK hP 11 10 rfl rfl hi1 dX6_ordered_6 ?_
  refine lv_istore_n (lv' := [(3, .int ((u 11) (8 : Int32).toNatClampNeg)), (0, .ref (ad 0)), (1, .int a0), (2, .int a1)]) hx hb dX6_ordered_7 rfl hl (by decide) rfl (fun ls hl => ?_)
  refine lv_iload_n hx hb dX6_ordered_8 rfl (lv_at hl 0 rfl) ?_
  refine lv_if_ne (tgt := 14) hx hb dX6_ordered_9 rfl (fun cd2 => ?_) (fun cd2 => ?_)
  · replace hm := zf cd2 hm
    refine lv_aload_n hx hb dX6_ordered_14 rfl (lv_at hl 1 rfl) ?_
    refine va_get (D := D) (ci := 5) (v := .ref (ad 14)) (C := RX6) (T := TX6) (N := 24) hx hb hw zinX6 hown hK hP 0 rfl rfl 16 (by decide) (hw _ zw52) (fun _ h9 => h9) rfl dX6_ordered_15 ?_
    refine lv_bipush (v := 8) hx hb dX6_ordered_18 (by decide) ?_
    obtain ⟨hi3, hm⟩ := zix_s hm
    refine va_iald (i := 8) (f := (u 14)) (n := 9) hx hb hK hP 14 13 rfl rfl hi3 dX6_ordered_20 ?_
    refine lv_if_ge (tgt := 28) hx hb dX6_ordered_21 rfl (fun cd4 => ?_) (fun cd4 => ?_)
    · replace hm := zt cd4 hm
      refine lv_aload_n hx hb dX6_ordered_28 rfl (lv_at hl 1 rfl) ?_
      refine va_get (D := D) (ci := 5) (v := .ref (ad 14)) (C := RX6) (T := TX6) (N := 24) hx hb hw zinX6 hown hK hP 0 rfl rfl 16 (by decide) (hw _ zw52) (fun _ h9 => h9) rfl dX6_ordered_29 ?_
      refine lv_bipush (v := 8) hx hb dX6_ordered_32 (by decide) ?_
      obtain ⟨hi5, hm⟩ := zix_s hm
      refine va_iald (i := 8) (f := (u 14)) (n := 9) hx hb hK hP 14 13 rfl rfl hi5 dX6_ordered_34 ?_
      exact b_M_ordered_35 G0 hK hX _ _ _ _ hm _ _ _ hP hD hS (lv_sub hl [1, 2, 3, 0] rfl)
    · replace hm := zf cd4 hm
      refine lv_iload_n hx hb dX6_ordered_24 rfl (lv_at hl 3 rfl) ?_
      refine lv_goto (tgt := 35) hx hb dX6_ordered_25 rfl ?_
      exact b_M_ordered_35 G0 hK hX _ _ _ _ hm _ _ _ hP hD hS (lv_sub hl [1, 2, 3, 0] rfl)
  · replace hm := zt cd2 hm
    refine lv_iconst (v := 1) hx hb dX6_ordered_12 (by decide) ?_
    obtain ⟨hz22, -, hm⟩ := zbo_s hm
    cases hm
    exact zretz hx hb hr hlk hz22 hP hD hS dX6_ordered_13

theorem dX6_isEdited_0 : decode cX6_isEdited 0 = .ok (.aload_n 0, 1) := by decide +kernel
theorem dX6_isEdited_1 : decode cX6_isEdited 1 = .ok (.getfield 13, 3) := by decide +kernel
theorem dX6_isEdited_4 : decode cX6_isEdited 4 = .ok (.bipush 8, 2) := by decide +kernel
theorem dX6_isEdited_6 : decode cX6_isEdited 6 = .ok (.iaload, 1) := by decide +kernel
theorem dX6_isEdited_7 : decode cX6_isEdited 7 = .ok (.istore_n 1, 1) := by decide +kernel
theorem dX6_isEdited_8 : decode cX6_isEdited 8 = .ok (.iload_n 1, 1) := by decide +kernel
theorem dX6_isEdited_9 : decode cX6_isEdited 9 = .ok (.istore_n 2, 1) := by decide +kernel
theorem dX6_isEdited_10 : decode cX6_isEdited 10 = .ok (.iconst 0, 1) := by decide +kernel
theorem dX6_isEdited_11 : decode cX6_isEdited 11 = .ok (.istore_n 3, 1) := by decide +kernel
theorem dX6_isEdited_12 : decode cX6_isEdited 12 = .ok (.aload_n 0, 1) := by decide +kernel
theorem dX6_isEdited_13 : decode cX6_isEdited 13 = .ok (.bipush 8, 2) := by decide +kernel
theorem dX6_isEdited_15 : decode cX6_isEdited 15 = .ok (.iload_n 1, 1) := by decide +kernel
theorem dX6_isEdited_16 : decode cX6_isEdited 16 = .ok (.iconst 1, 1) := by decide +kernel
theorem dX6_isEdited_17 : decode cX6_isEdited 17 = .ok (.isub, 1) := by decide +kernel
theorem dX6_isEdited_18 : decode cX6_isEdited 18 = .ok (.invokevirtual 93, 3) := by decide +kernel
theorem dX6_isEdited_21 : decode cX6_isEdited 21 = .ok (.istore 4, 2) := by decide +kernel
theorem dX6_isEdited_23 : decode cX6_isEdited 23 = .ok (.iload 4, 2) := by decide +kernel
theorem dX6_isEdited_25 : decode cX6_isEdited 25 = .ok (.bipush 67, 2) := by decide +kernel
theorem dX6_isEdited_27 : decode cX6_isEdited 27 = .ok (.if_icmp .eq 30, 3) := by decide +kernel
theorem dX6_isEdited_30 : decode cX6_isEdited 30 = .ok (.iload 4, 2) := by decide +kernel
theorem dX6_isEdited_32 : decode cX6_isEdited 32 = .ok (.bipush 68, 2) := by decide +kernel
theorem dX6_isEdited_34 : decode cX6_isEdited 34 = .ok (.if_icmp .eq 23, 3) := by decide +kernel
theorem dX6_isEdited_37 : decode cX6_isEdited 37 = .ok (.iload 4, 2) := by decide +kernel
theorem dX6_isEdited_39 : decode cX6_isEdited 39 = .ok (.invokestatic 110, 3) := by decide +kernel
theorem dX6_isEdited_42 : decode cX6_isEdited 42 = .ok (.ifCond .eq 19, 3) := by decide +kernel
theorem dX6_isEdited_45 : decode cX6_isEdited 45 = .ok (.aload_n 0, 1) := by decide +kernel
theorem dX6_isEdited_46 : decode cX6_isEdited 46 = .ok (.iload 4, 2) := by decide +kernel
theorem dX6_isEdited_48 : decode cX6_isEdited 48 = .ok (.iconst 0, 1) := by decide +kernel
theorem dX6_isEdited_49 : decode cX6_isEdited 49 = .ok (.iload_n 1, 1) := by decide +kernel
theorem dX6_isEdited_50 : decode cX6_isEdited 50 = .ok (.invokevirtual 97, 3) := by decide +kernel
theorem dX6_isEdited_53 : decode cX6_isEdited 53 = .ok (.iconst 1, 1) := by decide +kernel
theorem dX6_isEdited_54 : decode cX6_isEdited 54 = .ok (.if_icmp .ne 7, 3) := by decide +kernel
theorem dX6_isEdited_57 : decode cX6_isEdited 57 = .ok (.iconst 1, 1) := by decide +kernel
theorem dX6_isEdited_58 : decode cX6_isEdited 58 = .ok (.goto 4, 3) := by decide +kernel
theorem dX6_isEdited_61 : decode cX6_isEdited 61 = .ok (.iconst 0, 1) := by decide +kernel
theorem dX6_isEdited_62 : decode cX6_isEdited 62 = .ok (.istore 5, 2) := by decide +kernel
theorem dX6_isEdited_64 : decode cX6_isEdited 64 = .ok (.iload 5, 2) := by decide +kernel
theorem dX6_isEdited_66 : decode cX6_isEdited 66 = .ok (.ifCond .eq 6, 3) := by decide +kernel
theorem dX6_isEdited_69 : decode cX6_isEdited 69 = .ok (.iinc 2 (-1), 3) := by decide +kernel
theorem dX6_isEdited_72 : decode cX6_isEdited 72 = .ok (.iload_n 2, 1) := by decide +kernel
theorem dX6_isEdited_73 : decode cX6_isEdited 73 = .ok (.iload_n 3, 1) := by decide +kernel
theorem dX6_isEdited_74 : decode cX6_isEdited 74 = .ok (.if_icmp .le 37, 3) := by decide +kernel
theorem dX6_isEdited_77 : decode cX6_isEdited 77 = .ok (.aload_n 0, 1) := by decide +kernel
theorem dX6_isEdited_78 : decode cX6_isEdited 78 = .ok (.bipush 8, 2) := by decide +kernel
theorem dX6_isEdited_80 : decode cX6_isEdited 80 = .ok (.iload_n 3, 1) := by decide +kernel
theorem dX6_isEdited_81 : decode cX6_isEdited 81 = .ok (.invokevirtual 93, 3) := by decide +kernel
theorem dX6_isEdited_84 : decode cX6_isEdited 84 = .ok (.invokestatic 110, 3) := by decide +kernel
theorem dX6_isEdited_87 : decode cX6_isEdited 87 = .ok (.ifCond .eq 24, 3) := by decide +kernel
theorem dX6_isEdited_90 : decode cX6_isEdited 90 = .ok (.aload_n 0, 1) := by decide +kernel
theorem dX6_isEdited_91 : decode cX6_isEdited 91 = .ok (.aload_n 0, 1) := by decide +kernel
theorem dX6_isEdited_92 : decode cX6_isEdited 92 = .ok (.bipush 8, 2) := by decide +kernel
theorem dX6_isEdited_94 : decode cX6_isEdited 94 = .ok (.iload_n 3, 1) := by decide +kernel
theorem dX6_isEdited_95 : decode cX6_isEdited 95 = .ok (.invokevirtual 93, 3) := by decide +kernel
theorem dX6_isEdited_98 : decode cX6_isEdited 98 = .ok (.iload_n 3, 1) := by decide +kernel
theorem dX6_isEdited_99 : decode cX6_isEdited 99 = .ok (.iload_n 2, 1) := by decide +kernel
theorem dX6_isEdited_100 : decode cX6_isEdited 100 = .ok (.invokevirtual 97, 3) := by decide +kernel
theorem dX6_isEdited_103 : decode cX6_isEdited 103 = .ok (.iconst 1, 1) := by decide +kernel
theorem dX6_isEdited_104 : decode cX6_isEdited 104 = .ok (.if_icmp .ne 7, 3) := by decide +kernel
theorem dX6_isEdited_107 : decode cX6_isEdited 107 = .ok (.iconst 1, 1) := by decide +kernel
theorem dX6_isEdited_108 : decode cX6_isEdited 108 = .ok (.goto 4, 3) := by decide +kernel
theorem dX6_isEdited_111 : decode cX6_isEdited 111 = .ok (.iconst 0, 1) := by decide +kernel
theorem dX6_isEdited_112 : decode cX6_isEdited 112 = .ok (.istore 6, 2) := by decide +kernel
theorem dX6_isEdited_114 : decode cX6_isEdited 114 = .ok (.iload 6, 2) := by decide +kernel
theorem dX6_isEdited_116 : decode cX6_isEdited 116 = .ok (.ifCond .eq 6, 3) := by decide +kernel
theorem dX6_isEdited_119 : decode cX6_isEdited 119 = .ok (.iinc 3 1, 3) := by decide +kernel
theorem dX6_isEdited_122 : decode cX6_isEdited 122 = .ok (.iload_n 2, 1) := by decide +kernel
theorem dX6_isEdited_123 : decode cX6_isEdited 123 = .ok (.iload_n 3, 1) := by decide +kernel
theorem dX6_isEdited_124 : decode cX6_isEdited 124 = .ok (.if_icmp .le 30, 3) := by decide +kernel
theorem dX6_isEdited_127 : decode cX6_isEdited 127 = .ok (.aload_n 0, 1) := by decide +kernel
theorem dX6_isEdited_128 : decode cX6_isEdited 128 = .ok (.bipush 8, 2) := by decide +kernel
theorem dX6_isEdited_130 : decode cX6_isEdited 130 = .ok (.iload_n 3, 1) := by decide +kernel
theorem dX6_isEdited_131 : decode cX6_isEdited 131 = .ok (.invokevirtual 93, 3) := by decide +kernel
theorem dX6_isEdited_134 : decode cX6_isEdited 134 = .ok (.bipush 36, 2) := by decide +kernel
theorem dX6_isEdited_136 : decode cX6_isEdited 136 = .ok (.if_icmp .ne 18, 3) := by decide +kernel
theorem dX6_isEdited_139 : decode cX6_isEdited 139 = .ok (.aload_n 0, 1) := by decide +kernel
theorem dX6_isEdited_140 : decode cX6_isEdited 140 = .ok (.bipush 36, 2) := by decide +kernel
theorem dX6_isEdited_142 : decode cX6_isEdited 142 = .ok (.iload_n 3, 1) := by decide +kernel
theorem dX6_isEdited_143 : decode cX6_isEdited 143 = .ok (.iload_n 2, 1) := by decide +kernel
theorem dX6_isEdited_144 : decode cX6_isEdited 144 = .ok (.invokevirtual 97, 3) := by decide +kernel
theorem dX6_isEdited_147 : decode cX6_isEdited 147 = .ok (.iconst 1, 1) := by decide +kernel
theorem dX6_isEdited_148 : decode cX6_isEdited 148 = .ok (.if_icmp .ne 6, 3) := by decide +kernel
theorem dX6_isEdited_151 : decode cX6_isEdited 151 = .ok (.iinc 3 1, 3) := by decide +kernel
theorem dX6_isEdited_154 : decode cX6_isEdited 154 = .ok (.aload_n 0, 1) := by decide +kernel
theorem dX6_isEdited_155 : decode cX6_isEdited 155 = .ok (.iload_n 3, 1) := by decide +kernel
theorem dX6_isEdited_156 : decode cX6_isEdited 156 = .ok (.iload_n 2, 1) := by decide +kernel
theorem dX6_isEdited_157 : decode cX6_isEdited 157 = .ok (.invokevirtual 113, 3) := by decide +kernel
theorem dX6_isEdited_160 : decode cX6_isEdited 160 = .ok (.ifCond .ne 5, 3) := by decide +kernel
theorem dX6_isEdited_163 : decode cX6_isEdited 163 = .ok (.iconst 0, 1) := by decide +kernel
theorem dX6_isEdited_164 : decode cX6_isEdited 164 = .ok (.ireturn, 1) := by decide +kernel
theorem dX6_isEdited_165 : decode cX6_isEdited 165 = .ok (.aload_n 0, 1) := by decide +kernel
theorem dX6_isEdited_166 : decode cX6_isEdited 166 = .ok (.getfield 41, 3) := by decide +kernel
theorem dX6_isEdited_169 : decode cX6_isEdited 169 = .ok (.bipush 8, 2) := by decide +kernel
theorem dX6_isEdited_171 : decode cX6_isEdited 171 = .ok (.iaload, 1) := by decide +kernel
theorem dX6_isEdited_172 : decode cX6_isEdited 172 = .ok (.istore 7, 2) := by decide +kernel
theorem dX6_isEdited_174 : decode cX6_isEdited 174 = .ok (.iload 7, 2) := by decide +kernel
theorem dX6_isEdited_176 : decode cX6_isEdited 176 = .ok (.bipush 43, 2) := by decide +kernel
theorem dX6_isEdited_178 : decode cX6_isEdited 178 = .ok (.if_icmp .eq 17, 3) := by decide +kernel
theorem dX6_isEdited_181 : decode cX6_isEdited 181 = .ok (.iload 7, 2) := by decide +kernel
theorem dX6_isEdited_183 : decode cX6_isEdited 183 = .ok (.bipush 45, 2) := by decide +kernel
theorem dX6_isEdited_185 : decode cX6_isEdited 185 = .ok (.if_icmp .eq 10, 3) := by decide +kernel
theorem dX6_isEdited_188 : decode cX6_isEdited 188 = .ok (.iload 7, 2) := by decide +kernel
theorem dX6_isEdited_190 : decode cX6_isEdited 190 = .ok (.bipush 36, 2) := by decide +kernel
theorem dX6_isEdited_192 : decode cX6_isEdited 192 = .ok (.if_icmp .ne 7, 3) := by decide +kernel
theorem dX6_isEdited_195 : decode cX6_isEdited 195 = .ok (.iconst 1, 1) := by decide +kernel
theorem dX6_isEdited_196 : decode cX6_isEdited 196 = .ok (.goto 4, 3) := by decide +kernel
theorem dX6_isEdited_199 : decode cX6_isEdited 199 = .ok (.iconst 0, 1) := by decide +kernel
theorem dX6_isEdited_200 : decode cX6_isEdited 200 = .ok (.istore 8, 2) := by decide +kernel
theorem dX6_isEdited_202 : decode cX6_isEdited 202 = .ok (.iload 5, 2) := by decide +kernel
theorem dX6_isEdited_204 : decode cX6_isEdited 204 = .ok (.ifCond .eq 8, 3) := by decide +kernel
theorem dX6_isEdited_207 : decode cX6_isEdited 207 = .ok (.iload 6, 2) := by decide +kernel
theorem dX6_isEdited_209 : decode cX6_isEdited 209 = .ok (.ifCond .ne 21, 3) := by decide +kernel
theorem dX6_isEdited_212 : decode cX6_isEdited 212 = .ok (.iload 7, 2) := by decide +kernel
theorem dX6_isEdited_214 : decode cX6_isEdited 214 = .ok (.invokestatic 110, 3) := by decide +kernel
theorem dX6_isEdited_217 : decode cX6_isEdited 217 = .ok (.ifCond .eq 15, 3) := by decide +kernel
theorem dX6_isEdited_220 : decode cX6_isEdited 220 = .ok (.iload 5, 2) := by decide +kernel
theorem dX6_isEdited_222 : decode cX6_isEdited 222 = .ok (.ifCond .ne 8, 3) := by decide +kernel
theorem dX6_isEdited_225 : decode cX6_isEdited 225 = .ok (.iload 6, 2) := by decide +kernel
theorem dX6_isEdited_227 : decode cX6_isEdited 227 = .ok (.ifCond .eq 5, 3) := by decide +kernel
theorem dX6_isEdited_230 : decode cX6_isEdited 230 = .ok (.iconst 0, 1) := by decide +kernel
theorem dX6_isEdited_231 : decode cX6_isEdited 231 = .ok (.ireturn, 1) := by decide +kernel
theorem dX6_isEdited_232 : decode cX6_isEdited 232 = .ok (.iload 7, 2) := by decide +kernel
theorem dX6_isEdited_234 : decode cX6_isEdited 234 = .ok (.ifCond .ne 7, 3) := by decide +kernel
theorem dX6_isEdited_237 : decode cX6_isEdited 237 = .ok (.iconst 0, 1) := by decide +kernel
theorem dX6_isEdited_238 : decode cX6_isEdited 238 = .ok (.goto 11, 3) := by decide +kernel
theorem dX6_isEdited_241 : decode cX6_isEdited 241 = .ok (.aload_n 0, 1) := by decide +kernel
theorem dX6_isEdited_242 : decode cX6_isEdited 242 = .ok (.iload 7, 2) := by decide +kernel
theorem dX6_isEdited_244 : decode cX6_isEdited 244 = .ok (.iload_n 3, 1) := by decide +kernel
theorem dX6_isEdited_245 : decode cX6_isEdited 245 = .ok (.iload_n 2, 1) := by decide +kernel
theorem dX6_isEdited_246 : decode cX6_isEdited 246 = .ok (.invokevirtual 97, 3) := by decide +kernel
theorem dX6_isEdited_249 : decode cX6_isEdited 249 = .ok (.istore 9, 2) := by decide +kernel
theorem dX6_isEdited_251 : decode cX6_isEdited 251 = .ok (.iload 8, 2) := by decide +kernel
theorem dX6_isEdited_253 : decode cX6_isEdited 253 = .ok (.ifCond .eq 9, 3) := by decide +kernel
theorem dX6_isEdited_256 : decode cX6_isEdited 256 = .ok (.iload 9, 2) := by decide +kernel
theorem dX6_isEdited_258 : decode cX6_isEdited 258 = .ok (.iconst 2, 1) := by decide +kernel
theorem dX6_isEdited_259 : decode cX6_isEdited 259 = .ok (.if_icmp .lt 12, 3) := by decide +kernel
theorem dX6_isEdited_262 : decode cX6_isEdited 262 = .ok (.aload_n 0, 1) := by decide +kernel
theorem dX6_isEdited_263 : decode cX6_isEdited 263 = .ok (.iload_n 3, 1) := by decide +kernel
theorem dX6_isEdited_264 : decode cX6_isEdited 264 = .ok (.iload_n 2, 1) := by decide +kernel
theorem dX6_isEdited_265 : decode cX6_isEdited 265 = .ok (.invokevirtual 116, 3) := by decide +kernel
theorem dX6_isEdited_268 : decode cX6_isEdited 268 = .ok (.ifCond .ne 5, 3) := by decide +kernel
theorem dX6_isEdited_271 : decode cX6_isEdited 271 = .ok (.iconst 0, 1) := by decide +kernel
theorem dX6_isEdited_272 : decode cX6_isEdited 272 = .ok (.ireturn, 1) := by decide +kernel
theorem dX6_isEdited_273 : decode cX6_isEdited 273 = .ok (.aload_n 0, 1) := by decide +kernel
theorem dX6_isEdited_274 : decode cX6_isEdited 274 = .ok (.bipush 57, 2) := by decide +kernel
theorem dX6_isEdited_276 : decode cX6_isEdited 276 = .ok (.iload_n 3, 1) := by decide +kernel
theorem dX6_isEdited_277 : decode cX6_isEdited 277 = .ok (.iload_n 2, 1) := by decide +kernel
theorem dX6_isEdited_278 : decode cX6_isEdited 278 = .ok (.invokevirtual 97, 3) := by decide +kernel
theorem dX6_isEdited_281 : decode cX6_isEdited 281 = .ok (.iload 9, 2) := by decide +kernel
theorem dX6_isEdited_283 : decode cX6_isEdited 283 = .ok (.iadd, 1) := by decide +kernel
theorem dX6_isEdited_284 : decode cX6_isEdited 284 = .ok (.iload 8, 2) := by decide +kernel
theorem dX6_isEdited_286 : decode cX6_isEdited 286 = .ok (.ifCond .eq 7, 3) := by decide +kernel
theorem dX6_isEdited_289 : decode cX6_isEdited 289 = .ok (.iconst 1, 1) := by decide +kernel
theorem dX6_isEdited_290 : decode cX6_isEdited 290 = .ok (.goto 4, 3) := by decide +kernel
theorem dX6_isEdited_293 : decode cX6_isEdited 293 = .ok (.iconst 0, 1) := by decide +kernel
theorem dX6_isEdited_294 : decode cX6_isEdited 294 = .ok (.isub, 1) := by decide +kernel
theorem dX6_isEdited_295 : decode cX6_isEdited 295 = .ok (.istore 10, 2) := by decide +kernel
theorem dX6_isEdited_297 : decode cX6_isEdited 297 = .ok (.iload 10, 2) := by decide +kernel
theorem dX6_isEdited_299 : decode cX6_isEdited 299 = .ok (.iconst 1, 1) := by decide +kernel
theorem dX6_isEdited_300 : decode cX6_isEdited 300 = .ok (.if_icmp .lt 10, 3) := by decide +kernel
theorem dX6_isEdited_303 : decode cX6_isEdited 303 = .ok (.iload 10, 2) := by decide +kernel
theorem dX6_isEdited_305 : decode cX6_isEdited 305 = .ok (.bipush 12, 2) := by decide +kernel
theorem dX6_isEdited_307 : decode cX6_isEdited 307 = .ok (.if_icmp .le 5, 3) := by decide +kernel
theorem dX6_isEdited_310 : decode cX6_isEdited 310 = .ok (.iconst 0, 1) := by decide +kernel
theorem dX6_isEdited_311 : decode cX6_isEdited 311 = .ok (.ireturn, 1) := by decide +kernel
theorem dX6_isEdited_312 : decode cX6_isEdited 312 = .ok (.aload_n 0, 1) := by decide +kernel
theorem dX6_isEdited_313 : decode cX6_isEdited 313 = .ok (.getfield 22, 3) := by decide +kernel
theorem dX6_isEdited_316 : decode cX6_isEdited 316 = .ok (.bipush 8, 2) := by decide +kernel
theorem dX6_isEdited_318 : decode cX6_isEdited 318 = .ok (.iconst 2, 1) := by decide +kernel
theorem dX6_isEdited_319 : decode cX6_isEdited 319 = .ok (.iastore, 1) := by decide +kernel
theorem dX6_isEdited_320 : decode cX6_isEdited 320 = .ok (.aload_n 0, 1) := by decide +kernel
theorem dX6_isEdited_321 : decode cX6_isEdited 321 = .ok (.getfield 34, 3) := by decide +kernel
theorem dX6_isEdited_324 : decode cX6_isEdited 324 = .ok (.bipush 8, 2) := by decide +kernel
theorem dX6_isEdited_326 : decode cX6_isEdited 326 = .ok (.iload 5, 2) := by decide +kernel
theorem dX6_isEdited_328 : decode cX6_isEdited 328 = .ok (.ifCond .ne 16, 3) := by decide +kernel
theorem dX6_isEdited_331 : decode cX6_isEdited 331 = .ok (.iload 6, 2) := by decide +kernel
theorem dX6_isEdited_333 : decode cX6_isEdited 333 = .ok (.ifCond .ne 11, 3) := by decide +kernel
theorem dX6_isEdited_336 : decode cX6_isEdited 336 = .ok (.iload 7, 2) := by decide +kernel
theorem dX6_isEdited_338 : decode cX6_isEdited 338 = .ok (.invokestatic 110, 3) := by decide +kernel
theorem dX6_isEdited_341 : decode cX6_isEdited 341 = .ok (.ifCond .eq 7, 3) := by decide +kernel
theorem dX6_isEdited_344 : decode cX6_isEdited 344 = .ok (.iconst 1, 1) := by decide +kernel
theorem dX6_isEdited_345 : decode cX6_isEdited 345 = .ok (.goto 4, 3) := by decide +kernel
theorem dX6_isEdited_348 : decode cX6_isEdited 348 = .ok (.iconst 0, 1) := by decide +kernel
theorem dX6_isEdited_349 : decode cX6_isEdited 349 = .ok (.bastore, 1) := by decide +kernel
theorem dX6_isEdited_350 : decode cX6_isEdited 350 = .ok (.iload 10, 2) := by decide +kernel
theorem dX6_isEdited_352 : decode cX6_isEdited 352 = .ok (.istore 11, 2) := by decide +kernel
theorem dX6_isEdited_354 : decode cX6_isEdited 354 = .ok (.iconst 0, 1) := by decide +kernel
theorem dX6_isEdited_355 : decode cX6_isEdited 355 = .ok (.istore 12, 2) := by decide +kernel
theorem dX6_isEdited_357 : decode cX6_isEdited 357 = .ok (.iload 8, 2) := by decide +kernel
theorem dX6_isEdited_359 : decode cX6_isEdited 359 = .ok (.istore 13, 2) := by decide +kernel
theorem dX6_isEdited_361 : decode cX6_isEdited 361 = .ok (.aload_n 0, 1) := by decide +kernel
theorem dX6_isEdited_362 : decode cX6_isEdited 362 = .ok (.getfield 53, 3) := by decide +kernel
theorem dX6_isEdited_365 : decode cX6_isEdited 365 = .ok (.bipush 8, 2) := by decide +kernel
theorem dX6_isEdited_367 : decode cX6_isEdited 367 = .ok (.iconst 0, 1) := by decide +kernel
theorem dX6_isEdited_368 : decode cX6_isEdited 368 = .ok (.iastore, 1) := by decide +kernel
theorem dX6_isEdited_369 : decode cX6_isEdited 369 = .ok (.iconst 0, 1) := by decide +kernel
theorem dX6_isEdited_370 : decode cX6_isEdited 370 = .ok (.istore 14, 2) := by decide +kernel
theorem dX6_isEdited_372 : decode cX6_isEdited 372 = .ok (.iload 14, 2) := by decide +kernel
theorem dX6_isEdited_374 : decode cX6_isEdited 374 = .ok (.iload_n 1, 1) := by decide +kernel
theorem dX6_isEdited_375 : decode cX6_isEdited 375 = .ok (.if_icmp .ge 185, 3) := by decide +kernel
theorem dX6_isEdited_378 : decode cX6_isEdited 378 = .ok (.aload_n 0, 1) := by decide +kernel
theorem dX6_isEdited_379 : decode cX6_isEdited 379 = .ok (.bipush 8, 2) := by decide +kernel
theorem dX6_isEdited_381 : decode cX6_isEdited 381 = .ok (.iload 14, 2) := by decide +kernel
theorem dX6_isEdited_383 : decode cX6_isEdited 383 = .ok (.invokevirtual 93, 3) := by decide +kernel
theorem dX6_isEdited_386 : decode cX6_isEdited 386 = .ok (.istore 15, 2) := by decide +kernel
theorem dX6_isEdited_388 : decode cX6_isEdited 388 = .ok (.iload 14, 2) := by decide +kernel
theorem dX6_isEdited_390 : decode cX6_isEdited 390 = .ok (.iload_n 3, 1) := by decide +kernel
theorem dX6_isEdited_391 : decode cX6_isEdited 391 = .ok (.if_icmp .lt 32, 3) := by decide +kernel
theorem dX6_isEdited_394 : decode cX6_isEdited 394 = .ok (.iload 14, 2) := by decide +kernel
theorem dX6_isEdited_396 : decode cX6_isEdited 396 = .ok (.iload_n 2, 1) := by decide +kernel
theorem dX6_isEdited_397 : decode cX6_isEdited 397 = .ok (.if_icmp .ge 26, 3) := by decide +kernel
theorem dX6_isEdited_400 : decode cX6_isEdited 400 = .ok (.iload 15, 2) := by decide +kernel
theorem dX6_isEdited_402 : decode cX6_isEdited 402 = .ok (.bipush 57, 2) := by decide +kernel
theorem dX6_isEdited_404 : decode cX6_isEdited 404 = .ok (.if_icmp .eq 15, 3) := by decide +kernel
theorem dX6_isEdited_407 : decode cX6_isEdited 407 = .ok (.iload 7, 2) := by decide +kernel
theorem dX6_isEdited_409 : decode cX6_isEdited 409 = .ok (.ifCond .eq 14, 3) := by decide +kernel
theorem dX6_isEdited_412 : decode cX6_isEdited 412 = .ok (.iload 15, 2) := by decide +kernel
theorem dX6_isEdited_414 : decode cX6_isEdited 414 = .ok (.iload 7, 2) := by decide +kernel
theorem dX6_isEdited_416 : decode cX6_isEdited 416 = .ok (.if_icmp .ne 7, 3) := by decide +kernel
theorem dX6_isEdited_419 : decode cX6_isEdited 419 = .ok (.iconst 1, 1) := by decide +kernel
theorem dX6_isEdited_420 : decode cX6_isEdited 420 = .ok (.goto 4, 3) := by decide +kernel
theorem dX6_isEdited_423 : decode cX6_isEdited 423 = .ok (.iconst 0, 1) := by decide +kernel
theorem dX6_isEdited_424 : decode cX6_isEdited 424 = .ok (.istore 16, 2) := by decide +kernel
theorem dX6_isEdited_426 : decode cX6_isEdited 426 = .ok (.iload 16, 2) := by decide +kernel
theorem dX6_isEdited_428 : decode cX6_isEdited 428 = .ok (.ifCond .eq 19, 3) := by decide +kernel
theorem dX6_isEdited_431 : decode cX6_isEdited 431 = .ok (.iload 13, 2) := by decide +kernel
theorem dX6_isEdited_433 : decode cX6_isEdited 433 = .ok (.ifCond .eq 10, 3) := by decide +kernel
theorem dX6_isEdited_436 : decode cX6_isEdited 436 = .ok (.iload 15, 2) := by decide +kernel
theorem dX6_isEdited_438 : decode cX6_isEdited 438 = .ok (.iload 7, 2) := by decide +kernel
theorem dX6_isEdited_440 : decode cX6_isEdited 440 = .ok (.if_icmp .eq 7, 3) := by decide +kernel
theorem dX6_isEdited_443 : decode cX6_isEdited 443 = .ok (.iconst 1, 1) := by decide +kernel
theorem dX6_isEdited_444 : decode cX6_isEdited 444 = .ok (.goto 4, 3) := by decide +kernel
theorem dX6_isEdited_447 : decode cX6_isEdited 447 = .ok (.iconst 0, 1) := by decide +kernel
theorem dX6_isEdited_448 : decode cX6_isEdited 448 = .ok (.istore 17, 2) := by decide +kernel
theorem dX6_isEdited_450 : decode cX6_isEdited 450 = .ok (.iload 16, 2) := by decide +kernel
theorem dX6_isEdited_452 : decode cX6_isEdited 452 = .ok (.ifCond .eq 13, 3) := by decide +kernel
theorem dX6_isEdited_455 : decode cX6_isEdited 455 = .ok (.iload 15, 2) := by decide +kernel
theorem dX6_isEdited_457 : decode cX6_isEdited 457 = .ok (.iload 7, 2) := by decide +kernel
theorem dX6_isEdited_459 : decode cX6_isEdited 459 = .ok (.if_icmp .ne 6, 3) := by decide +kernel
theorem dX6_isEdited_462 : decode cX6_isEdited 462 = .ok (.iconst 0, 1) := by decide +kernel
theorem dX6_isEdited_463 : decode cX6_isEdited 463 = .ok (.istore 13, 2) := by decide +kernel
theorem dX6_isEdited_465 : decode cX6_isEdited 465 = .ok (.aload_n 0, 1) := by decide +kernel
theorem dX6_isEdited_466 : decode cX6_isEdited 466 = .ok (.getfield 19, 3) := by decide +kernel
theorem dX6_isEdited_469 : decode cX6_isEdited 469 = .ok (.sipush 192, 3) := by decide +kernel
theorem dX6_isEdited_472 : decode cX6_isEdited 472 = .ok (.iload 14, 2) := by decide +kernel
theorem dX6_isEdited_474 : decode cX6_isEdited 474 = .ok (.iadd, 1) := by decide +kernel
theorem dX6_isEdited_475 : decode cX6_isEdited 475 = .ok (.iload 17, 2) := by decide +kernel
theorem dX6_isEdited_477 : decode cX6_isEdited 477 = .ok (.ifCond .eq 8, 3) := by decide +kernel
theorem dX6_isEdited_480 : decode cX6_isEdited 480 = .ok (.iload 11, 2) := by decide +kernel
theorem dX6_isEdited_482 : decode cX6_isEdited 482 = .ok (.goto 4, 3) := by decide +kernel
theorem dX6_isEdited_485 : decode cX6_isEdited 485 = .ok (.iconst 0, 1) := by decide +kernel
theorem dX6_isEdited_486 : decode cX6_isEdited 486 = .ok (.iastore, 1) := by decide +kernel
theorem dX6_isEdited_487 : decode cX6_isEdited 487 = .ok (.iload 11, 2) := by decide +kernel
theorem dX6_isEdited_489 : decode cX6_isEdited 489 = .ok (.iload 17, 2) := by decide +kernel
theorem dX6_isEdited_491 : decode cX6_isEdited 491 = .ok (.ifCond .eq 7, 3) := by decide +kernel
theorem dX6_isEdited_494 : decode cX6_isEdited 494 = .ok (.iconst 1, 1) := by decide +kernel
theorem dX6_isEdited_495 : decode cX6_isEdited 495 = .ok (.goto 4, 3) := by decide +kernel
theorem dX6_isEdited_498 : decode cX6_isEdited 498 = .ok (.iconst 0, 1) := by decide +kernel
theorem dX6_isEdited_499 : decode cX6_isEdited 499 = .ok (.isub, 1) := by decide +kernel
theorem dX6_isEdited_500 : decode cX6_isEdited 500 = .ok (.istore 11, 2) := by decide +kernel
theorem dX6_isEdited_502 : decode cX6_isEdited 502 = .ok (.iload 12, 2) := by decide +kernel
theorem dX6_isEdited_504 : decode cX6_isEdited 504 = .ok (.iload 17, 2) := by decide +kernel
theorem dX6_isEdited_506 : decode cX6_isEdited 506 = .ok (.ifCond .eq 29, 3) := by decide +kernel
theorem dX6_isEdited_509 : decode cX6_isEdited 509 = .ok (.aload_n 0, 1) := by decide +kernel
theorem dX6_isEdited_510 : decode cX6_isEdited 510 = .ok (.getfield 50, 3) := by decide +kernel
theorem dX6_isEdited_513 : decode cX6_isEdited 513 = .ok (.bipush 8, 2) := by decide +kernel
theorem dX6_isEdited_515 : decode cX6_isEdited 515 = .ok (.iaload, 1) := by decide +kernel
theorem dX6_isEdited_516 : decode cX6_isEdited 516 = .ok (.ifCond .lt 19, 3) := by decide +kernel
theorem dX6_isEdited_519 : decode cX6_isEdited 519 = .ok (.iload 14, 2) := by decide +kernel
theorem dX6_isEdited_521 : decode cX6_isEdited 521 = .ok (.aload_n 0, 1) := by decide +kernel
theorem dX6_isEdited_522 : decode cX6_isEdited 522 = .ok (.getfield 50, 3) := by decide +kernel
theorem dX6_isEdited_525 : decode cX6_isEdited 525 = .ok (.bipush 8, 2) := by decide +kernel
theorem dX6_isEdited_527 : decode cX6_isEdited 527 = .ok (.iaload, 1) := by decide +kernel
theorem dX6_isEdited_528 : decode cX6_isEdited 528 = .ok (.if_icmp .le 7, 3) := by decide +kernel
theorem dX6_isEdited_531 : decode cX6_isEdited 531 = .ok (.iconst 1, 1) := by decide +kernel
theorem dX6_isEdited_532 : decode cX6_isEdited 532 = .ok (.goto 4, 3) := by decide +kernel
theorem dX6_isEdited_535 : decode cX6_isEdited 535 = .ok (.iconst 0, 1) := by decide +kernel
theorem dX6_isEdited_536 : decode cX6_isEdited 536 = .ok (.iadd, 1) := by decide +kernel
theorem dX6_isEdited_537 : decode cX6_isEdited 537 = .ok (.istore 12, 2) := by decide +kernel
theorem dX6_isEdited_539 : decode cX6_isEdited 539 = .ok (.aload_n 0, 1) := by decide +kernel
theorem dX6_isEdited_540 : decode cX6_isEdited 540 = .ok (.getfield 53, 3) := by decide +kernel
theorem dX6_isEdited_543 : decode cX6_isEdited 543 = .ok (.bipush 8, 2) := by decide +kernel
theorem dX6_isEdited_545 : decode cX6_isEdited 545 = .ok (.dup2, 1) := by decide +kernel
theorem dX6_isEdited_546 : decode cX6_isEdited 546 = .ok (.iaload, 1) := by decide +kernel
theorem dX6_isEdited_547 : decode cX6_isEdited 547 = .ok (.iload 15, 2) := by decide +kernel
theorem dX6_isEdited_549 : decode cX6_isEdited 549 = .ok (.invokestatic 119, 3) := by decide +kernel
theorem dX6_isEdited_552 : decode cX6_isEdited 552 = .ok (.iadd, 1) := by decide +kernel
theorem dX6_isEdited_553 : decode cX6_isEdited 553 = .ok (.iastore, 1) := by decide +kernel
theorem dX6_isEdited_554 : decode cX6_isEdited 554 = .ok (.iinc 14 1, 3) := by decide +kernel
theorem dX6_isEdited_557 : decode cX6_isEdited 557 = .ok (.goto (-185), 3) := by decide +kernel
theorem dX6_isEdited_560 : decode cX6_isEdited 560 = .ok (.aload_n 0, 1) := by decide +kernel
theorem dX6_isEdited_561 : decode cX6_isEdited 561 = .ok (.getfield 28, 3) := by decide +kernel
theorem dX6_isEdited_564 : decode cX6_isEdited 564 = .ok (.bipush 8, 2) := by decide +kernel
theorem dX6_isEdited_566 : decode cX6_isEdited 566 = .ok (.iload 10, 2) := by decide +kernel
theorem dX6_isEdited_568 : decode cX6_isEdited 568 = .ok (.iload 12, 2) := by decide +kernel
theorem dX6_isEdited_570 : decode cX6_isEdited 570 = .ok (.isub, 1) := by decide +kernel
theorem dX6_isEdited_571 : decode cX6_isEdited 571 = .ok (.iastore, 1) := by decide +kernel
theorem dX6_isEdited_572 : decode cX6_isEdited 572 = .ok (.aload_n 0, 1) := by decide +kernel
theorem dX6_isEdited_573 : decode cX6_isEdited 573 = .ok (.getfield 31, 3) := by decide +kernel
theorem dX6_isEdited_576 : decode cX6_isEdited 576 = .ok (.bipush 8, 2) := by decide +kernel
theorem dX6_isEdited_578 : decode cX6_isEdited 578 = .ok (.iload 12, 2) := by decide +kernel
theorem dX6_isEdited_580 : decode cX6_isEdited 580 = .ok (.iastore, 1) := by decide +kernel
theorem dX6_isEdited_581 : decode cX6_isEdited 581 = .ok (.iconst 1, 1) := by decide +kernel
theorem dX6_isEdited_582 : decode cX6_isEdited 582 = .ok (.ireturn, 1) := by decide +kernel
def m_M_isEdited_536 (v : Nat → Int32) (rec : Int32 → Int32 → Int32 → Int32 → Int32 → Int32 → Int32 → Int32 → Int32 → (Nat → Nat → Int32) → Option ((Int32) × (Nat → Nat → Int32))) (x1 : Int32) (x2 : Int32) (x3 : Int32) (x7 : Int32) (x10 : Int32) (x11 : Int32) (x13 : Int32) (x14 : Int32) (x15 : Int32) (t0 : Int32) (t1 : Int32) (u : Nat → Nat → Int32) : Option ((Int32) × (Nat → Nat → Int32)) := zix 8 9 ((m_M_width x15).bind (fun q42 => zix 8 9 (rec x1 x2 x3 x7 x10 x11 (t1 + t0) x13 (x14 + 1) (zau u 15 8 (((u 15) (8 : Int32).toNatClampNeg) + q42)))))
def m_M_isEdited_535 (v : Nat → Int32) (rec : Int32 → Int32 → Int32 → Int32 → Int32 → Int32 → Int32 → Int32 → Int32 → (Nat → Nat → Int32) → Option ((Int32) × (Nat → Nat → Int32))) (x1 : Int32) (x2 : Int32) (x3 : Int32) (x7 : Int32) (x10 : Int32) (x11 : Int32) (x13 : Int32) (x14 : Int32) (x15 : Int32) (t0 : Int32) (u : Nat → Nat → Int32) : Option ((Int32) × (Nat → Nat → Int32)) := m_M_isEdited_536 v rec x1 x2 x3 x7 x10 x11 x13 x14 x15 0 t0 u
def m_M_isEdited_499 (v : Nat → Int32) (rec : Int32 → Int32 → Int32 → Int32 → Int32 → Int32 → Int32 → Int32 → Int32 → (Nat → Nat → Int32) → Option ((Int32) × (Nat → Nat → Int32))) (x1 : Int32) (x2 : Int32) (x3 : Int32) (x7 : Int32) (x10 : Int32) (x12 : Int32) (x13 : Int32) (x14 : Int32) (x15 : Int32) (x17 : Int32) (t0 : Int32) (t1 : Int32) (u : Nat → Nat → Int32) : Option ((Int32) × (Nat → Nat → Int32)) := (if x17 = 0 then m_M_isEdited_535 v rec x1 x2 x3 x7 x10 (t1 - t0) x13 x14 x15 x12 u else zix 8 9 ((if ((u 14) (8 : Int32).toNatClampNeg) < 0 then m_M_isEdited_535 v rec x1 x2 x3 x7 x10 (t1 - t0) x13 x14 x15 x12 u else zix 8 9 ((if x14 ≤ ((u 14) (8 : Int32).toNatClampNeg) then m_M_isEdited_535 v rec x1 x2 x3 x7 x10 (t1 - t0) x13 x14 x15 x12 u else m_M_isEdited_536 v rec x1 x2 x3 x7 x10 (t1 - t0) x13 x14 x15 1 x12 u)))))
def m_M_isEdited_486 (v : Nat → Int32) (rec : Int32 → Int32 → Int32 → Int32 → Int32 → Int32 → Int32 → Int32 → Int32 → (Nat → Nat → Int32) → Option ((Int32) × (Nat → Nat → Int32))) (x1 : Int32) (x2 : Int32) (x3 : Int32) (x7 : Int32) (x10 : Int32) (x11 : Int32) (x12 : Int32) (x13 : Int32) (x14 : Int32) (x15 : Int32) (x17 : Int32) (t0 : Int32) (t1 : Int32) (u : Nat → Nat → Int32) : Option ((Int32) × (Nat → Nat → Int32)) := zix t1 216 ((if x17 = 0 then m_M_isEdited_499 v rec x1 x2 x3 x7 x10 x12 x13 x14 x15 x17 0 x11 (zau u 4 t1 t0) else m_M_isEdited_499 v rec x1 x2 x3 x7 x10 x12 x13 x14 x15 x17 1 x11 (zau u 4 t1 t0)))
def m_M_isEdited_465 (v : Nat → Int32) (rec : Int32 → Int32 → Int32 → Int32 → Int32 → Int32 → Int32 → Int32 → Int32 → (Nat → Nat → Int32) → Option ((Int32) × (Nat → Nat → Int32))) (x1 : Int32) (x2 : Int32) (x3 : Int32) (x7 : Int32) (x10 : Int32) (x11 : Int32) (x12 : Int32) (x13 : Int32) (x14 : Int32) (x15 : Int32) (x17 : Int32) (u : Nat → Nat → Int32) : Option ((Int32) × (Nat → Nat → Int32)) := (if x17 = 0 then m_M_isEdited_486 v rec x1 x2 x3 x7 x10 x11 x12 x13 x14 x15 x17 0 (192 + x14) u else m_M_isEdited_486 v rec x1 x2 x3 x7 x10 x11 x12 x13 x14 x15 x17 x11 (192 + x14) u)
def m_M_isEdited_448 (v : Nat → Int32) (rec : Int32 → Int32 → Int32 → Int32 → Int32 → Int32 → Int32 → Int32 → Int32 → (Nat → Nat → Int32) → Option ((Int32) × (Nat → Nat → Int32))) (x1 : Int32) (x2 : Int32) (x3 : Int32) (x7 : Int32) (x10 : Int32) (x11 : Int32) (x12 : Int32) (x13 : Int32) (x14 : Int32) (x15 : Int32) (x16 : Int32) (t0 : Int32) (u : Nat → Nat → Int32) : Option ((Int32) × (Nat → Nat → Int32)) := (if x16 = 0 then m_M_isEdited_465 v rec x1 x2 x3 x7 x10 x11 x12 x13 x14 x15 t0 u else (if x15 = x7 then m_M_isEdited_465 v rec x1 x2 x3 x7 x10 x11 x12 0 x14 x15 t0 u else m_M_isEdited_465 v rec x1 x2 x3 x7 x10 x11 x12 x13 x14 x15 t0 u))
def m_M_isEdited_447 (v : Nat → Int32) (rec : Int32 → Int32 → Int32 → Int32 → Int32 → Int32 → Int32 → Int32 → Int32 → (Nat → Nat → Int32) → Option ((Int32) × (Nat → Nat → Int32))) (x1 : Int32) (x2 : Int32) (x3 : Int32) (x7 : Int32) (x10 : Int32) (x11 : Int32) (x12 : Int32) (x13 : Int32) (x14 : Int32) (x15 : Int32) (x16 : Int32) (u : Nat → Nat → Int32) : Option ((Int32) × (Nat → Nat → Int32)) := m_M_isEdited_448 v rec x1 x2 x3 x7 x10 x11 x12 x13 x14 x15 x16 0 u
def m_M_isEdited_443 (v : Nat → Int32) (rec : Int32 → Int32 → Int32 → Int32 → Int32 → Int32 → Int32 → Int32 → Int32 → (Nat → Nat → Int32) → Option ((Int32) × (Nat → Nat → Int32))) (x1 : Int32) (x2 : Int32) (x3 : Int32) (x7 : Int32) (x10 : Int32) (x11 : Int32) (x12 : Int32) (x13 : Int32) (x14 : Int32) (x15 : Int32) (x16 : Int32) (u : Nat → Nat → Int32) : Option ((Int32) × (Nat → Nat → Int32)) := m_M_isEdited_448 v rec x1 x2 x3 x7 x10 x11 x12 x13 x14 x15 x16 1 u
def m_M_isEdited_424 (v : Nat → Int32) (rec : Int32 → Int32 → Int32 → Int32 → Int32 → Int32 → Int32 → Int32 → Int32 → (Nat → Nat → Int32) → Option ((Int32) × (Nat → Nat → Int32))) (x1 : Int32) (x2 : Int32) (x3 : Int32) (x7 : Int32) (x10 : Int32) (x11 : Int32) (x12 : Int32) (x13 : Int32) (x14 : Int32) (x15 : Int32) (t0 : Int32) (u : Nat → Nat → Int32) : Option ((Int32) × (Nat → Nat → Int32)) := (if t0 = 0 then m_M_isEdited_447 v rec x1 x2 x3 x7 x10 x11 x12 x13 x14 x15 t0 u else (if x13 = 0 then m_M_isEdited_443 v rec x1 x2 x3 x7 x10 x11 x12 x13 x14 x15 t0 u else (if x15 = x7 then m_M_isEdited_447 v rec x1 x2 x3 x7 x10 x11 x12 x13 x14 x15 t0 u else m_M_isEdited_443 v rec x1 x2 x3 x7 x10 x11 x12 x13 x14 x15 t0 u)))
def m_M_isEdited_423 (v : Nat → Int32) (rec : Int32 → Int32 → Int32 → Int32 → Int32 → Int32 → Int32 → Int32 → Int32 → (Nat → Nat → Int32) → Option ((Int32) × (Nat → Nat → Int32))) (x1 : Int32) (x2 : Int32) (x3 : Int32) (x7 : Int32) (x10 : Int32) (x11 : Int32) (x12 : Int32) (x13 : Int32) (x14 : Int32) (x15 : Int32) (u : Nat → Nat → Int32) : Option ((Int32) × (Nat → Nat → Int32)) := m_M_isEdited_424 v rec x1 x2 x3 x7 x10 x11 x12 x13 x14 x15 0 u
def m_M_isEdited_419 (v : Nat → Int32) (rec : Int32 → Int32 → Int32 → Int32 → Int32 → Int32 → Int32 → Int32 → Int32 → (Nat → Nat → Int32) → Option ((Int32) × (Nat → Nat → Int32))) (x1 : Int32) (x2 : Int32) (x3 : Int32) (x7 : Int32) (x10 : Int32) (x11 : Int32) (x12 : Int32) (x13 : Int32) (x14 : Int32) (x15 : Int32) (u : Nat → Nat → Int32) : Option ((Int32) × (Nat → Nat → Int32)) := m_M_isEdited_424 v rec x1 x2 x3 x7 x10 x11 x12 x13 x14 x15 1 u
def m_M_isEdited_372b (v : Nat → Int32) (rec : Int32 → Int32 → Int32 → Int32 → Int32 → Int32 → Int32 → Int32 → Int32 → (Nat → Nat → Int32) → Option ((Int32) × (Nat → Nat → Int32))) (x1 : Int32) (x2 : Int32) (x3 : Int32) (x7 : Int32) (x10 : Int32) (x11 : Int32) (x12 : Int32) (x13 : Int32) (x14 : Int32) (u : Nat → Nat → Int32) : Option ((Int32) × (Nat → Nat → Int32)) := (if x1 ≤ x14 then zix 8 9 (zix 8 9 ((zbo 1 (some (1, (zau (zau u 7 8 (x10 - x12)) 8 8 x12)))))) else (m_M_sym 8 x14 v u).bind (fun q33 => (if x14 < x3 then m_M_isEdited_423 v rec x1 x2 x3 x7 x10 x11 x12 x13 x14 q33 u else (if x2 ≤ x14 then m_M_isEdited_423 v rec x1 x2 x3 x7 x10 x11 x12 x13 x14 q33 u else (if q33 = 57 then m_M_isEdited_419 v rec x1 x2 x3 x7 x10 x11 x12 x13 x14 q33 u else (if x7 = 0 then m_M_isEdited_423 v rec x1 x2 x3 x7 x10 x11 x12 x13 x14 q33 u else (if q33 = x7 then m_M_isEdited_419 v rec x1 x2 x3 x7 x10 x11 x12 x13 x14 q33 u else m_M_isEdited_423 v rec x1 x2 x3 x7 x10 x11 x12 x13 x14 q33 u)))))))
def m_M_isEdited_372 (v : Nat → Int32) : Nat → Int32 → Int32 → Int32 → Int32 → Int32 → Int32 → Int32 → Int32 → Int32 → (Nat → Nat → Int32) → Option ((Int32) × (Nat → Nat → Int32))
  | 0 => fun _ _ _ _ _ _ _ _ _ _ => none
  | n + 1 => fun x1 x2 x3 x7 x10 x11 x12 x13 x14 u => m_M_isEdited_372b v (m_M_isEdited_372 v n) x1 x2 x3 x7 x10 x11 x12 x13 x14 u
def m_M_isEdited_349 (v : Nat → Int32) (x1 : Int32) (x2 : Int32) (x3 : Int32) (x7 : Int32) (x8 : Int32) (x10 : Int32) (t0 : Int32) (t1 : Int32) (u : Nat → Nat → Int32) : Option ((Int32) × (Nat → Nat → Int32)) := zix t1 9 (zix 8 9 (m_M_isEdited_372 v 64 x1 x2 x3 x7 x10 x10 0 x8 0 (zau (zau u 9 t1 (vp_nar .boolean t0)) 15 8 0)))
def m_M_isEdited_344 (v : Nat → Int32) (x1 : Int32) (x2 : Int32) (x3 : Int32) (x7 : Int32) (x8 : Int32) (x10 : Int32) (t0 : Int32) (u : Nat → Nat → Int32) : Option ((Int32) × (Nat → Nat → Int32)) := m_M_isEdited_349 v x1 x2 x3 x7 x8 x10 1 t0 u
def m_M_isEdited_294 (v : Nat → Int32) (x1 : Int32) (x2 : Int32) (x3 : Int32) (x5 : Int32) (x6 : Int32) (x7 : Int32) (x8 : Int32) (t0 : Int32) (t1 : Int32) (u : Nat → Nat → Int32) : Option ((Int32) × (Nat → Nat → Int32)) := (if (t1 - t0) < 1 then (zbo 0 (some (0, u))) else (if (t1 - t0) ≤ 12 then zix 8 9 ((if x5 = 0 then (if x6 = 0 then (m_M_isSign x7).bind (fun q56 => (if q56 = 0 then m_M_isEdited_349 v x1 x2 x3 x7 x8 (t1 - t0) 0 8 (zau u 5 8 2) else m_M_isEdited_344 v x1 x2 x3 x7 x8 (t1 - t0) 8 (zau u 5 8 2))) else m_M_isEdited_344 v x1 x2 x3 x7 x8 (t1 - t0) 8 (zau u 5 8 2)) else m_M_isEdited_344 v x1 x2 x3 x7 x8 (t1 - t0) 8 (zau u 5 8 2))) else (zbo 0 (some (0, u)))))
def m_M_isEdited_262 (v : Nat → Int32) (x1 : Int32) (x2 : Int32) (x3 : Int32) (x5 : Int32) (x6 : Int32) (x7 : Int32) (x8 : Int32) (x9 : Int32) (u : Nat → Nat → Int32) : Option ((Int32) × (Nat → Nat → Int32)) := (m_M_ordered x3 x2 v u).bind (fun q18 => (if q18 = 0 then (zbo 0 (some (0, u))) else (m_M_countOf 57 x3 x2 v u).bind (fun q20 => (if x8 = 0 then m_M_isEdited_294 v x1 x2 x3 x5 x6 x7 x8 0 (q20 + x9) u else m_M_isEdited_294 v x1 x2 x3 x5 x6 x7 x8 1 (q20 + x9) u))))
def m_M_isEdited_249 (v : Nat → Int32) (x1 : Int32) (x2 : Int32) (x3 : Int32) (x5 : Int32) (x6 : Int32) (x7 : Int32) (x8 : Int32) (t0 : Int32) (u : Nat → Nat → Int32) : Option ((Int32) × (Nat → Nat → Int32)) := (if x8 = 0 then m_M_isEdited_262 v x1 x2 x3 x5 x6 x7 x8 t0 u else (if t0 < 2 then (zbo 0 (some (0, u))) else m_M_isEdited_262 v x1 x2 x3 x5 x6 x7 x8 t0 u))
def m_M_isEdited_232 (v : Nat → Int32) (x1 : Int32) (x2 : Int32) (x3 : Int32) (x5 : Int32) (x6 : Int32) (x7 : Int32) (x8 : Int32) (u : Nat → Nat → Int32) : Option ((Int32) × (Nat → Nat → Int32)) := (if x7 = 0 then m_M_isEdited_249 v x1 x2 x3 x5 x6 x7 x8 0 u else (m_M_countOf x7 x3 x2 v u).bind (fun q16 => m_M_isEdited_249 v x1 x2 x3 x5 x6 x7 x8 q16 u))
def m_M_isEdited_212 (v : Nat → Int32) (x1 : Int32) (x2 : Int32) (x3 : Int32) (x5 : Int32) (x6 : Int32) (x7 : Int32) (x8 : Int32) (u : Nat → Nat → Int32) : Option ((Int32) × (Nat → Nat → Int32)) := (m_M_isSign x7).bind (fun q13 => (if q13 = 0 then m_M_isEdited_232 v x1 x2 x3 x5 x6 x7 x8 u else (if x5 = 0 then (if x6 = 0 then m_M_isEdited_232 v x1 x2 x3 x5 x6 x7 x8 u else (zbo 0 (some (0, u)))) else (zbo 0 (some (0, u))))))
def m_M_isEdited_200 (v : Nat → Int32) (x1 : Int32) (x2 : Int32) (x3 : Int32) (x5 : Int32) (x6 : Int32) (x7 : Int32) (t0 : Int32) (u : Nat → Nat → Int32) : Option ((Int32) × (Nat → Nat → Int32)) := (if x5 = 0 then m_M_isEdited_212 v x1 x2 x3 x5 x6 x7 t0 u else (if x6 = 0 then m_M_isEdited_212 v x1 x2 x3 x5 x6 x7 t0 u else (zbo 0 (some (0, u)))))
def m_M_isEdited_195 (v : Nat → Int32) (x1 : Int32) (x2 : Int32) (x3 : Int32) (x5 : Int32) (x6 : Int32) (x7 : Int32) (u : Nat → Nat → Int32) : Option ((Int32) × (Nat → Nat → Int32)) := m_M_isEdited_200 v x1 x2 x3 x5 x6 x7 1 u
def m_M_isEdited_154 (v : Nat → Int32) (x1 : Int32) (x2 : Int32) (x3 : Int32) (x5 : Int32) (x6 : Int32) (u : Nat → Nat → Int32) : Option ((Int32) × (Nat → Nat → Int32)) := (m_M_body x3 x2 v u).bind (fun q8 => (if q8.1 = 0 then (zbo 0 (some (0, q8.2))) else zix 8 9 ((if ((q8.2 11) (8 : Int32).toNatClampNeg) = 43 then m_M_isEdited_195 v x1 x2 x3 x5 x6 ((q8.2 11) (8 : Int32).toNatClampNeg) q8.2 else (if ((q8.2 11) (8 : Int32).toNatClampNeg) = 45 then m_M_isEdited_195 v x1 x2 x3 x5 x6 ((q8.2 11) (8 : Int32).toNatClampNeg) q8.2 else (if ((q8.2 11) (8 : Int32).toNatClampNeg) = 36 then m_M_isEdited_195 v x1 x2 x3 x5 x6 ((q8.2 11) (8 : Int32).toNatClampNeg) q8.2 else m_M_isEdited_200 v x1 x2 x3 x5 x6 ((q8.2 11) (8 : Int32).toNatClampNeg) 0 q8.2))))))
def m_M_isEdited_122 (v : Nat → Int32) (x1 : Int32) (x2 : Int32) (x3 : Int32) (x5 : Int32) (x6 : Int32) (u : Nat → Nat → Int32) : Option ((Int32) × (Nat → Nat → Int32)) := (if x2 ≤ x3 then m_M_isEdited_154 v x1 x2 x3 x5 x6 u else (m_M_sym 8 x3 v u).bind (fun q71 => (if q71 = 36 then (m_M_countOf 36 x3 x2 v u).bind (fun q73 => (if q73 = 1 then m_M_isEdited_154 v x1 x2 (x3 + 1) x5 x6 u else m_M_isEdited_154 v x1 x2 x3 x5 x6 u)) else m_M_isEdited_154 v x1 x2 x3 x5 x6 u)))
def m_M_isEdited_112 (v : Nat → Int32) (x1 : Int32) (x2 : Int32) (x3 : Int32) (x5 : Int32) (t0 : Int32) (u : Nat → Nat → Int32) : Option ((Int32) × (Nat → Nat → Int32)) := (if t0 = 0 then m_M_isEdited_122 v x1 x2 x3 x5 t0 u else m_M_isEdited_122 v x1 x2 (x3 + 1) x5 t0 u)
def m_M_isEdited_111 (v : Nat → Int32) (x1 : Int32) (x2 : Int32) (x3 : Int32) (x5 : Int32) (u : Nat → Nat → Int32) : Option ((Int32) × (Nat → Nat → Int32)) := m_M_isEdited_112 v x1 x2 x3 x5 0 u
def m_M_isEdited_72 (v : Nat → Int32) (x1 : Int32) (x2 : Int32) (x3 : Int32) (x5 : Int32) (u : Nat → Nat → Int32) : Option ((Int32) × (Nat → Nat → Int32)) := (if x2 ≤ x3 then m_M_isEdited_111 v x1 x2 x3 x5 u else (m_M_sym 8 x3 v u).bind (fun q75 => (m_M_isSign q75).bind (fun q76 => (if q76 = 0 then m_M_isEdited_111 v x1 x2 x3 x5 u else (m_M_sym 8 x3 v u).bind (fun q78 => (m_M_countOf q78 x3 x2 v u).bind (fun q79 => (if q79 = 1 then m_M_isEdited_112 v x1 x2 x3 x5 1 u else m_M_isEdited_111 v x1 x2 x3 x5 u)))))))
def m_M_isEdited_62 (v : Nat → Int32) (x1 : Int32) (x2 : Int32) (x3 : Int32) (t0 : Int32) (u : Nat → Nat → Int32) : Option ((Int32) × (Nat → Nat → Int32)) := (if t0 = 0 then m_M_isEdited_72 v x1 x2 x3 t0 u else m_M_isEdited_72 v x1 (x2 + (-1)) x3 t0 u)
def m_M_isEdited_57 (v : Nat → Int32) (x1 : Int32) (x2 : Int32) (x3 : Int32) (u : Nat → Nat → Int32) : Option ((Int32) × (Nat → Nat → Int32)) := m_M_isEdited_62 v x1 x2 x3 1 u
def m_M_isEdited_61 (v : Nat → Int32) (x1 : Int32) (x2 : Int32) (x3 : Int32) (u : Nat → Nat → Int32) : Option ((Int32) × (Nat → Nat → Int32)) := m_M_isEdited_62 v x1 x2 x3 0 u
def m_M_isEdited  (v : Nat → Int32) (u : Nat → Nat → Int32)  : Option ((Int32) × (Nat → Nat → Int32)) := zix 8 9 ((m_M_sym 8 (((u 2) (8 : Int32).toNatClampNeg) - 1) v u).bind (fun q2 => (if q2 = 67 then m_M_isEdited_57 v ((u 2) (8 : Int32).toNatClampNeg) ((u 2) (8 : Int32).toNatClampNeg) 0 u else (if q2 = 68 then m_M_isEdited_57 v ((u 2) (8 : Int32).toNatClampNeg) ((u 2) (8 : Int32).toNatClampNeg) 0 u else (m_M_isSign q2).bind (fun q82 => (if q82 = 0 then m_M_isEdited_61 v ((u 2) (8 : Int32).toNatClampNeg) ((u 2) (8 : Int32).toNatClampNeg) 0 u else (m_M_countOf q2 0 ((u 2) (8 : Int32).toNatClampNeg) v u).bind (fun q84 => (if q84 = 1 then m_M_isEdited_57 v ((u 2) (8 : Int32).toNatClampNeg) ((u 2) (8 : Int32).toNatClampNeg) 0 u else m_M_isEdited_61 v ((u 2) (8 : Int32).toNatClampNeg) ((u 2) (8 : Int32).toNatClampNeg) 0 u))))))))
section
variable {p : Program} {l : Launch} {e : Env} {s : State} {m : MethodId} {args : Array Value} {below : List Frame} {meth : Method} {c : Code} {D : va_G} {w0 : va_W} {ad : Nat → Nat} {ca : Nat → ClassId} {v : Nat → Int32}
set_option maxRecDepth 100000 in
set_option maxHeartbeats 4000000 in
theorem b_M_isEdited_536 (G : zG p s m args meth c cX6_isEdited RX6 18 (some .boolean)) (hK : va_K D vwCl (wM_t ca) s) (hX : zN (va_A w0 s.heap.size) s) {res : (Int32) × (Nat → Nat → Int32)} (rec : Int32 → Int32 → Int32 → Int32 → Int32 → Int32 → Int32 → Int32 → Int32 → (Nat → Nat → Int32) → Option ((Int32) × (Nat → Nat → Int32))) (hrec : ∀ (x1 : Int32) (x2 : Int32) (x3 : Int32) (x7 : Int32) (x10 : Int32) (x11 : Int32) (x12 : Int32) (x13 : Int32) (x14 : Int32) (u : Nat → Nat → Int32), rec x1 x2 x3 x7 x10 x11 x12 x13 x14 u = some res → zB p l e (zR 3 73) s m args below meth c D vwCl (va_A w0 s.heap.size) (MQ below (zQi D vwCl w0 (wM ad ca v res.2) s.heap.size res.1) args s 0 0 (va_A w0 s.heap.size)) 18 (wM ad ca v u) [(0, .ref (ad 0)), (1, .int x1), (2, .int x2), (3, .int x3), (7, .int x7), (10, .int x10), (11, .int x11), (12, .int x12), (13, .int x13), (14, .int x14)] 372 []) : ∀ (x1 : Int32) (x2 : Int32) (x3 : Int32) (x7 : Int32) (x10 : Int32) (x11 : Int32) (x13 : Int32) (x14 : Int32) (x15 : Int32) (t0 : Int32) (t1 : Int32) (u : Nat → Nat → Int32), m_M_isEdited_536 v rec x1 x2 x3 x7 x10 x11 x13 x14 x15 t0 t1 u = some res → zB p l e (zR 3 73) s m args below meth c D vwCl (va_A w0 s.heap.size) (MQ below (zQi D vwCl w0 (wM ad ca v res.2) s.heap.size res.1) args s 0 0 (va_A w0 s.heap.size)) 18 (wM ad ca v u) [(0, .ref (ad 0)), (1, .int x1), (2, .int x2), (3, .int x3), (7, .int x7), (10, .int x10), (11, .int x11), (13, .int x13), (14, .int x14), (15, .int x15)] 536 [.int t0, .int t1] := by
  intro x1 x2 x3 x7 x10 x11 x13 x14 x15 t0 t1 u hm H locs ls hP hD hS hl
  unfold m_M_isEdited_536 at hm
  have G0 := G
  obtain ⟨hx, hb, hr, hml, hown, hw, hlk⟩ := G
  have hA : ∀ q, s.heap.size ≤ q → va_A w0 s.heap.size q := fun q h => Or.inr h
  refine lv_iadd hx hb dX6_isEdited_536 ?_
  refine lv_istore (lv' := [(12, .int (t1 + t0)), (0, .ref (ad 0)), (1, .int x1), (2, .int x2), (3, .int x3), (7, .int x7), (10, .int x10), (11, .int x11), (13, .int x13), (14, .int x14), (15, .int x15)]) hx hb dX6_isEdited_537 hl (by decide) rfl (fun ls hl => ?_)
  refine lv_aload_n hx hb dX6_isEdited_539 rfl (lv_at hl 1 rfl) ?_
  refine va_get (D := D) (ci := 5) (v := .ref (ad 15)) (C := RX6) (T := TX6) (N := 24) hx hb hw zinX6 hown hK hP 0 rfl rfl 17 (by decide) (hw _ zw50) (fun _ h9 => h9) rfl dX6_isEdited_540 ?_
  refine lv_bipush (v := 8) hx hb dX6_isEdited_543 (by decide) ?_
  refine lv_dup2_11 hx hb dX6_isEdited_545 rfl rfl ?_
  obtain ⟨hi41, hm⟩ := zix_s hm
  refine va_iald (i := 8) (f := (u 15)) (n := 9) hx hb hK hP 15 14 rfl rfl hi41 dX6_isEdited_546 ?_
  refine lv_iload hx hb dX6_isEdited_547 (lv_at hl 10 rfl) ?_
  obtain ⟨q42, hq42, hm⟩ := zbind hm
  refine zb0i (va_runS (As := [.int x15]) (rest := [.int ((u 15) (8 : Int32).toNatClampNeg), .int 8, .ref (ad 15)]) ⟨hx, hb, hml, hown, hw⟩ (k_M_width l D  _ x15  q42 hq42) ⟨zcB 1 hw (zgood zw72) rfl rfl rfl zw7 zw74 hdX6_width ⟨Nat.le_of_ble_eq_true rfl, Nat.le_of_ble_eq_true rfl⟩, hw _ zw73⟩ (zpre zN_ok trivial hS (zfree0 hS hA) zP0 (hK.sub (tys' := []) [] rfl) zD0) rfl rfl hl.1 rfl (lv_room (Nat.le_of_ble_eq_true rfl)) dX6_isEdited_549 ⟨Nat.zero_le _, Nat.zero_le _⟩) hP hD hS (zfree0 hS hA) (fun H locs hP hD hS => ?_)
  refine lv_iadd hx hb dX6_isEdited_552 ?_
  obtain ⟨hi43, hm⟩ := zix_s hm
  refine va_iast (i := 8) (x := (((u 15) (8 : Int32).toNatClampNeg) + q42)) (f := (u 15)) (n := 9) hx hb hK hP hD hS 15 14 rfl rfl hi43 dX6_isEdited_553 (fun H locs hP hD hS => ?_)
  have hP : va_P D vwCl (wM ad ca v (zau u 15 8 (((u 15) (8 : Int32).toNatClampNeg) + q42))) H := hP
  have hD : va_D _ (wM ad ca v (zau u 15 8 (((u 15) (8 : Int32).toNatClampNeg) + q42))) := hD
  refine lv_iinc (k := 9) (v := (x14 + 1)) (lv' := [(14, .int (x14 + 1)), (12, .int (t1 + t0)), (0, .ref (ad 0)), (1, .int x1), (2, .int x2), (3, .int x3), (7, .int x7), (10, .int x10), (11, .int x11), (13, .int x13), (15, .int x15)]) hx hb dX6_isEdited_554 hl rfl rfl (by decide) rfl (fun ls hl => ?_)
  refine lv_goto (tgt := 372) hx hb dX6_isEdited_557 rfl ?_
  exact hrec _ _ _ _ _ _ _ _ _ _ hm H _ _ hP hD hS (lv_sub hl [2, 3, 4, 5, 6, 7, 8, 1, 9, 0] rfl)
set_option maxRecDepth 100000 in
set_option maxHeartbeats 4000000 in
theorem b_M_isEdited_535 (G : zG p s m args meth c cX6_isEdited RX6 18 (some .boolean)) (hK : va_K D vwCl (wM_t ca) s) (hX : zN (va_A w0 s.heap.size) s) {res : (Int32) × (Nat → Nat → Int32)} (rec : Int32 → Int32 → Int32 → Int32 → Int32 → Int32 → Int32 → Int32 → Int32 → (Nat → Nat → Int32) → Option ((Int32) × (Nat → Nat → Int32))) (hrec : ∀ (x1 : Int32) (x2 : Int32) (x3 : Int32) (x7 : Int32) (x10 : Int32) (x11 : Int32) (x12 : Int32) (x13 : Int32) (x14 : Int32) (u : Nat → Nat → Int32), rec x1 x2 x3 x7 x10 x11 x12 x13 x14 u = some res → zB p l e (zR 3 73) s m args below meth c D vwCl (va_A w0 s.heap.size) (MQ below (zQi D vwCl w0 (wM ad ca v res.2) s.heap.size res.1) args s 0 0 (va_A w0 s.heap.size)) 18 (wM ad ca v u) [(0, .ref (ad 0)), (1, .int x1), (2, .int x2), (3, .int x3), (7, .int x7), (10, .int x10), (11, .int x11), (12, .int x12), (13, .int x13), (14, .int x14)] 372 []) : ∀ (x1 : Int32) (x2 : Int32) (x3 : Int32) (x7 : Int32) (x10 : Int32) (x11 : Int32) (x13 : Int32) (x14 : Int32) (x15 : Int32) (t0 : Int32) (u : Nat → Nat → Int32), m_M_isEdited_535 v rec x1 x2 x3 x7 x10 x11 x13 x14 x15 t0 u = some res → zB p l e (zR 3 73) s m args below meth c D vwCl (va_A w0 s.heap.size) (MQ below (zQi D vwCl w0 (wM ad ca v res.2) s.heap.size res.1) args s 0 0 (va_A w0 s.heap.size)) 18 (wM ad ca v u) [(0, .ref (ad 0)), (1, .int x1), (2, .int x2), (3, .int x3), (7, .int x7), (10, .int x10), (11, .int x11), (13, .int x13), (14, .int x14), (15, .int x15)] 535 [.int t0] := by
  intro x1 x2 x3 x7 x10 x11 x13 x14 x15 t0 u hm H locs ls hP hD hS hl
  unfold m_M_isEdited_535 at hm
  have G0 := G
  obtain ⟨hx, hb, hr, hml, hown, hw, hlk⟩ := G
  have hA : ∀ q, s.heap.size ≤ q → va_A w0 s.heap.size q := fun q h => Or.inr h
  refine lv_iconst (v := 0) hx hb dX6_isEdited_535 (by decide) ?_
  exact b_M_isEdited_536 G0 hK hX rec hrec _ _ _ _ _ _ _ _ _ _ _ _ hm H _ _ hP hD hS hl
set_option maxRecDepth 100000 in
set_option maxHeartbeats 4000000 in
theorem b_M_isEdited_499 (G : zG p s m args meth c cX6_isEdited RX6 18 (some .boolean)) (hK : va_K D vwCl (wM_t ca) s) (hX : zN (va_A w0 s.heap.size) s) {res : (Int32) × (Nat → Nat → Int32)} (rec : Int32 → Int32 → Int32 → Int32 → Int32 → Int32 → Int32 → Int32 → Int32 → (Nat → Nat → Int32) → Option ((Int32) × (Nat → Nat → Int32))) (hrec : ∀ (x1 : Int32) (x2 : Int32) (x3 : Int32) (x7 : Int32) (x10 : Int32) (x11 : Int32) (x12 : Int32) (x13 : Int32) (x14 : Int32) (u : Nat → Nat → Int32), rec x1 x2 x3 x7 x10 x11 x12 x13 x14 u = some res → zB p l e (zR 3 73) s m args below meth c D vwCl (va_A w0 s.heap.size) (MQ below (zQi D vwCl w0 (wM ad ca v res.2) s.heap.size res.1) args s 0 0 (va_A w0 s.heap.size)) 18 (wM ad ca v u) [(0, .ref (ad 0)), (1, .int x1), (2, .int x2), (3, .int x3), (7, .int x7), (10, .int x10), (11, .int x11), (12, .int x12), (13, .int x13), (14, .int x14)] 372 []) : ∀ (x1 : Int32) (x2 : Int32) (x3 : Int32) (x7 : Int32) (x10 : Int32) (x12 : Int32) (x13 : Int32) (x14 : Int32) (x15 : Int32) (x17 : Int32) (t0 : Int32) (t1 : Int32) (u : Nat → Nat → Int32), m_M_isEdited_499 v rec x1 x2 x3 x7 x10 x12 x13 x14 x15 x17 t0 t1 u = some res → zB p l e (zR 3 73) s m args below meth c D vwCl (va_A w0 s.heap.size) (MQ below (zQi D vwCl w0 (wM ad ca v res.2) s.heap.size res.1) args s 0 0 (va_A w0 s.heap.size)) 18 (wM ad ca v u) [(0, .ref (ad 0)), (1, .int x1), (2, .int x2), (3, .int x3), (7, .int x7), (10, .int x10), (12, .int x12), (13, .int x13), (14, .int x14), (15, .int x15), (17, .int x17)] 499 [.int t0, .int t1] := by
  intro x1 x2 x3 x7 x10 x12 x13 x14 x15 x17 t0 t1 u hm H locs ls hP hD hS hl
  unfold m_M_isEdited_499 at hm
  have G0 := G
  obtain ⟨hx, hb, hr, hml, hown, hw, hlk⟩ := G
  have hA : ∀ q, s.heap.size ≤ q → va_A w0 s.heap.size q := fun q h => Or.inr h
  refine lv_isub hx hb dX6_isEdited_499 ?_
  refine lv_istore (lv' := [(11, .int (t1 - t0)), (0, .ref (ad 0)), (1, .int x1), (2, .int x2), (3, .int x3), (7, .int x7), (10, .int x10), (12, .int x12), (13, .int x13), (14, .int x14), (15, .int x15), (17, .int x17)]) hx hb dX6_isEdited_500 hl (by decide) rfl (fun ls hl => ?_)
  refine lv_iload hx hb dX6_isEdited_502 (lv_at hl 7 rfl) ?_
  refine lv_iload hx hb dX6_isEdited_504 (lv_at hl 11 rfl) ?_
  refine lv_if_eq (tgt := 535) hx hb dX6_isEdited_506 rfl (fun cd40 => ?_) (fun cd40 => ?_)
  · replace hm := zt cd40 hm
    exact b_M_isEdited_535 G0 hK hX rec hrec _ _ _ _ _ _ _ _ _ _ _ hm H _ _ hP hD hS (lv_sub hl [1, 2, 3, 4, 5, 6, 0, 8, 9, 10] rfl)
  · replace hm := zf cd40 hm
    refine lv_aload_n hx hb dX6_isEdited_509 rfl (lv_at hl 1 rfl) ?_
    refine va_get (D := D) (ci := 5) (v := .ref (ad 14)) (C := RX6) (T := TX6) (N := 24) hx hb hw zinX6 hown hK hP 0 rfl rfl 16 (by decide) (hw _ zw52) (fun _ h9 => h9) rfl dX6_isEdited_510 ?_
    refine lv_bipush (v := 8) hx hb dX6_isEdited_513 (by decide) ?_
    obtain ⟨hi44, hm⟩ := zix_s hm
    refine va_iald (i := 8) (f := (u 14)) (n := 9) hx hb hK hP 14 13 rfl rfl hi44 dX6_isEdited_515 ?_
    refine lv_if_lt (tgt := 535) hx hb dX6_isEdited_516 rfl (fun cd45 => ?_) (fun cd45 => ?_)
    · replace hm := zt cd45 hm
      exact b_M_isEdited_535 G0 hK hX rec hrec _ _ _ _ _ _ _ _ _ _ _ hm H _ _ hP hD hS (lv_sub hl [1, 2, 3, 4, 5, 6, 0, 8, 9, 10] rfl)
    · replace hm := zf cd45 hm
      refine lv_iload hx hb dX6_isEdited_519 (lv_at hl 9 rfl) ?_
      refine lv_aload_n hx hb dX6_isEdited_521 rfl (lv_at hl 1 rfl) ?_
      refine va_get (D := D) (ci := 5) (v := .ref (ad 14)) (C := RX6) (T := TX6) (N := 24) hx hb hw zinX6 hown hK hP 0 rfl rfl 16 (by decide) (hw _ zw52) (fun _ h9 => h9) rfl dX6_isEdited_522 ?_
      refine lv_bipush (v := 8) hx hb dX6_isEdited_525 (by decide) ?_
      obtain ⟨hi46, hm⟩ := zix_s hm
      refine va_iald (i := 8) (f := (u 14)) (n := 9) hx hb hK hP 14 13 rfl rfl hi46 dX6_isEdited_527 ?_
      refine lv_icmp_le (tgt := 535) hx hb dX6_isEdited_528 rfl (fun cd47 => ?_) (fun cd47 => ?_)
      · replace hm := zt cd47 hm
        exact b_M_isEdited_535 G0 hK hX rec hrec _ _ _ _ _ _ _ _ _ _ _ hm H _ _ hP hD hS (lv_sub hl [1, 2, 3, 4, 5, 6, 0, 8, 9, 10] rfl)
      · replace hm := zf cd47 hm
        refine lv_iconst (v := 1) hx hb dX6_isEdited_531 (by decide) ?_
        refine lv_goto (tgt := 536) hx hb dX6_isEdited_532 rfl ?_
        exact b_M_isEdited_536 G0 hK hX rec hrec _ _ _ _ _ _ _ _ _ _ _ _ hm H _ _ hP hD hS (lv_sub hl [1, 2, 3, 4, 5, 6, 0, 8, 9, 10] rfl)
set_option maxRecDepth 100000 in
set_option maxHeartbeats 4000000 in
theorem b_M_isEdited_486 (G : zG p s m args meth c cX6_isEdited RX6 18 (some .boolean)) (hK : va_K D vwCl (wM_t ca) s) (hX : zN (va_A w0 s.heap.size) s) {res : (Int32) × (Nat → Nat → Int32)} (rec : Int32 → Int32 → Int32 → Int32 → Int32 → Int32 → Int32 → Int32 → Int32 → (Nat → Nat → Int32) → Option ((Int32) × (Nat → Nat → Int32))) (hrec : ∀ (x1 : Int32) (x2 : Int32) (x3 : Int32) (x7 : Int32) (x10 : Int32) (x11 : Int32) (x12 : Int32) (x13 : Int32) (x14 : Int32) (u : Nat → Nat → Int32), rec x1 x2 x3 x7 x10 x11 x12 x13 x14 u = some res → zB p l e (zR 3 73) s m args below meth c D vwCl (va_A w0 s.heap.size) (MQ below (zQi D vwCl w0 (wM ad ca v res.2) s.heap.size res.1) args s 0 0 (va_A w0 s.heap.size)) 18 (wM ad ca v u) [(0, .ref (ad 0)), (1, .int x1), (2, .int x2), (3, .int x3), (7, .int x7), (10, .int x10), (11, .int x11), (12, .int x12), (13, .int x13), (14, .int x14)] 372 []) : ∀ (x1 : Int32) (x2 : Int32) (x3 : Int32) (x7 : Int32) (x10 : Int32) (x11 : Int32) (x12 : Int32) (x13 : Int32) (x14 : Int32) (x15 : Int32) (x17 : Int32) (t0 : Int32) (t1 : Int32) (u : Nat → Nat → Int32), m_M_isEdited_486 v rec x1 x2 x3 x7 x10 x11 x12 x13 x14 x15 x17 t0 t1 u = some res → zB p l e (zR 3 73) s m args below meth c D vwCl (va_A w0 s.heap.size) (MQ below (zQi D vwCl w0 (wM ad ca v res.2) s.heap.size res.1) args s 0 0 (va_A w0 s.heap.size)) 18 (wM ad ca v u) [(0, .ref (ad 0)), (1, .int x1), (2, .int x2), (3, .int x3), (7, .int x7), (10, .int x10), (11, .int x11), (12, .int x12), (13, .int x13), (14, .int x14), (15, .int x15), (17, .int x17)] 486 [.int t0, .int t1, .ref (ad 4)] := by
  intro x1 x2 x3 x7 x10 x11 x12 x13 x14 x15 x17 t0 t1 u hm H locs ls hP hD hS hl
  unfold m_M_isEdited_486 at hm
  have G0 := G
  obtain ⟨hx, hb, hr, hml, hown, hw, hlk⟩ := G
  have hA : ∀ q, s.heap.size ≤ q → va_A w0 s.heap.size q := fun q h => Or.inr h
  obtain ⟨hi38, hm⟩ := zix_s hm
  refine va_iast (i := t1) (x := t0) (f := (u 4)) (n := 216) hx hb hK hP hD hS 4 3 rfl rfl hi38 dX6_isEdited_486 (fun H locs hP hD hS => ?_)
  have hP : va_P D vwCl (wM ad ca v (zau u 4 t1 t0)) H := hP
  have hD : va_D _ (wM ad ca v (zau u 4 t1 t0)) := hD
  refine lv_iload hx hb dX6_isEdited_487 (lv_at hl 6 rfl) ?_
  refine lv_iload hx hb dX6_isEdited_489 (lv_at hl 11 rfl) ?_
  refine lv_if_eq (tgt := 498) hx hb dX6_isEdited_491 rfl (fun cd39 => ?_) (fun cd39 => ?_)
  · replace hm := zt cd39 hm
    refine lv_iconst (v := 0) hx hb dX6_isEdited_498 (by decide) ?_
    exact b_M_isEdited_499 G0 hK hX rec hrec _ _ _ _ _ _ _ _ _ _ _ _ _ hm H _ _ hP hD hS (lv_sub hl [0, 1, 2, 3, 4, 5, 7, 8, 9, 10, 11] rfl)
  · replace hm := zf cd39 hm
    refine lv_iconst (v := 1) hx hb dX6_isEdited_494 (by decide) ?_
    refine lv_goto (tgt := 499) hx hb dX6_isEdited_495 rfl ?_
    exact b_M_isEdited_499 G0 hK hX rec hrec _ _ _ _ _ _ _ _ _ _ _ _ _ hm H _ _ hP hD hS (lv_sub hl [0, 1, 2, 3, 4, 5, 7, 8, 9, 10, 11] rfl)
set_option maxRecDepth 100000 in
set_option maxHeartbeats 4000000 in
theorem b_M_isEdited_465 (G : zG p s m args meth c cX6_isEdited RX6 18 (some .boolean)) (hK : va_K D vwCl (wM_t ca) s) (hX : zN (va_A w0 s.heap.size) s) {res : (Int32) × (Nat → Nat → Int32)} (rec : Int32 → Int32 → Int32 → Int32 → Int32 → Int32 → Int32 → Int32 → Int32 → (Nat → Nat → Int32) → Option ((Int32) × (Nat → Nat → Int32))) (hrec : ∀ (x1 : Int32) (x2 : Int32) (x3 : Int32) (x7 : Int32) (x10 : Int32) (x11 : Int32) (x12 : Int32) (x13 : Int32) (x14 : Int32) (u : Nat → Nat → Int32), rec x1 x2 x3 x7 x10 x11 x12 x13 x14 u = some res → zB p l e (zR 3 73) s m args below meth c D vwCl (va_A w0 s.heap.size) (MQ below (zQi D vwCl w0 (wM ad ca v res.2) s.heap.size res.1) args s 0 0 (va_A w0 s.heap.size)) 18 (wM ad ca v u) [(0, .ref (ad 0)), (1, .int x1), (2, .int x2), (3, .int x3), (7, .int x7), (10, .int x10), (11, .int x11), (12, .int x12), (13, .int x13), (14, .int x14)] 372 []) : ∀ (x1 : Int32) (x2 : Int32) (x3 : Int32) (x7 : Int32) (x10 : Int32) (x11 : Int32) (x12 : Int32) (x13 : Int32) (x14 : Int32) (x15 : Int32) (x17 : Int32) (u : Nat → Nat → Int32), m_M_isEdited_465 v rec x1 x2 x3 x7 x10 x11 x12 x13 x14 x15 x17 u = some res → zB p l e (zR 3 73) s m args below meth c D vwCl (va_A w0 s.heap.size) (MQ below (zQi D vwCl w0 (wM ad ca v res.2) s.heap.size res.1) args s 0 0 (va_A w0 s.heap.size)) 18 (wM ad ca v u) [(0, .ref (ad 0)), (1, .int x1), (2, .int x2), (3, .int x3), (7, .int x7), (10, .int x10), (11, .int x11), (12, .int x12), (13, .int x13), (14, .int x14), (15, .int x15), (17, .int x17)] 465 [] := by
  intro x1 x2 x3 x7 x10 x11 x12 x13 x14 x15 x17 u hm H locs ls hP hD hS hl
  unfold m_M_isEdited_465 at hm
  have G0 := G
  obtain ⟨hx, hb, hr, hml, hown, hw, hlk⟩ := G
  have hA : ∀ q, s.heap.size ≤ q → va_A w0 s.heap.size q := fun q h => Or.inr h
  refine lv_aload_n hx hb dX6_isEdited_465 rfl (lv_at hl 0 rfl) ?_
  refine va_get (D := D) (ci := 5) (v := .ref (ad 4)) (C := RX6) (T := TX6) (N := 24) hx hb hw zinX6 hown hK hP 0 rfl rfl 6 (by decide) (hw _ zw21) (fun _ h9 => h9) rfl dX6_isEdited_466 ?_
  refine lv_sipush (v := 192) hx hb dX6_isEdited_469 (by decide) ?_
  refine lv_iload hx hb dX6_isEdited_472 (lv_at hl 9 rfl) ?_
  refine lv_iadd hx hb dX6_isEdited_474 ?_
  refine lv_iload hx hb dX6_isEdited_475 (lv_at hl 11 rfl) ?_
  refine lv_if_eq (tgt := 485) hx hb dX6_isEdited_477 rfl (fun cd37 => ?_) (fun cd37 => ?_)
  · replace hm := zt cd37 hm
    refine lv_iconst (v := 0) hx hb dX6_isEdited_485 (by decide) ?_
    exact b_M_isEdited_486 G0 hK hX rec hrec _ _ _ _ _ _ _ _ _ _ _ _ _ _ hm H _ _ hP hD hS hl
  · replace hm := zf cd37 hm
    refine lv_iload hx hb dX6_isEdited_480 (lv_at hl 6 rfl) ?_
    refine lv_goto (tgt := 486) hx hb dX6_isEdited_482 rfl ?_
    exact b_M_isEdited_486 G0 hK hX rec hrec _ _ _ _ _ _ _ _ _ _ _ _ _ _ hm H _ _ hP hD hS hl
set_option maxRecDepth 100000 in
set_option maxHeartbeats 4000000 in
theorem b_M_isEdited_448 (G : zG p s m args meth c cX6_isEdited RX6 18 (some .boolean)) (hK : va_K D vwCl (wM_t ca) s) (hX : zN (va_A w0 s.heap.size) s) {res : (Int32) × (Nat → Nat → Int32)} (rec : Int32 → Int32 → Int32 → Int32 → Int32 → Int32 → Int32 → Int32 → Int32 → (Nat → Nat → Int32) → Option ((Int32) × (Nat → Nat → Int32))) (hrec : ∀ (x1 : Int32) (x2 : Int32) (x3 : Int32) (x7 : Int32) (x10 : Int32) (x11 : Int32) (x12 : Int32) (x13 : Int32) (x14 : Int32) (u : Nat → Nat → Int32), rec x1 x2 x3 x7 x10 x11 x12 x13 x14 u = some res → zB p l e (zR 3 73) s m args below meth c D vwCl (va_A w0 s.heap.size) (MQ below (zQi D vwCl w0 (wM ad ca v res.2) s.heap.size res.1) args s 0 0 (va_A w0 s.heap.size)) 18 (wM ad ca v u) [(0, .ref (ad 0)), (1, .int x1), (2, .int x2), (3, .int x3), (7, .int x7), (10, .int x10), (11, .int x11), (12, .int x12), (13, .int x13), (14, .int x14)] 372 []) : ∀ (x1 : Int32) (x2 : Int32) (x3 : Int32) (x7 : Int32) (x10 : Int32) (x11 : Int32) (x12 : Int32) (x13 : Int32) (x14 : Int32) (x15 : Int32) (x16 : Int32) (t0 : Int32) (u : Nat → Nat → Int32), m_M_isEdited_448 v rec x1 x2 x3 x7 x10 x11 x12 x13 x14 x15 x16 t0 u = some res → zB p l e (zR 3 73) s m args below meth c D vwCl (va_A w0 s.heap.size) (MQ below (zQi D vwCl w0 (wM ad ca v res.2) s.heap.size res.1) args s 0 0 (va_A w0 s.heap.size)) 18 (wM ad ca v u) [(0, .ref (ad 0)), (1, .int x1), (2, .int x2), (3, .int x3), (7, .int x7), (10, .int x10), (11, .int x11), (12, .int x12), (13, .int x13), (14, .int x14), (15, .int x15), (16, .int x16)] 448 [.int t0] := by
  intro x1 x2 x3 x7 x10 x11 x12 x13 x14 x15 x16 t0 u hm H locs ls hP hD hS hl
  unfold m_M_isEdited_448 at hm
  have G0 := G
  obtain ⟨hx, hb, hr, hml, hown, hw, hlk⟩ := G
  have hA : ∀ q, s.heap.size ≤ q → va_A w0 s.heap.size q := fun q h => Or.inr h
  refine lv_istore (lv' := [(17, .int t0), (0, .ref (ad 0)), (1, .int x1), (2, .int x2), (3, .int x3), (7, .int x7), (10, .int x10), (11, .int x11), (12, .int x12), (13, .int x13), (14, .int x14), (15, .int x15), (16, .int x16)]) hx hb dX6_isEdited_448 hl (by decide) rfl (fun ls hl => ?_)
  refine lv_iload hx hb dX6_isEdited_450 (lv_at hl 12 rfl) ?_
  refine lv_if_eq (tgt := 465) hx hb dX6_isEdited_452 rfl (fun cd36 => ?_) (fun cd36 => ?_)
  · replace hm := zt cd36 hm
    exact b_M_isEdited_465 G0 hK hX rec hrec _ _ _ _ _ _ _ _ _ _ _ _ hm H _ _ hP hD hS (lv_sub hl [1, 2, 3, 4, 5, 6, 7, 8, 9, 10, 11, 0] rfl)
  · replace hm := zf cd36 hm
    refine lv_iload hx hb dX6_isEdited_455 (lv_at hl 11 rfl) ?_
    refine lv_iload hx hb dX6_isEdited_457 (lv_at hl 5 rfl) ?_
    refine lv_icmp_ne (tgt := 465) hx hb dX6_isEdited_459 rfl (fun cd48 => ?_) (fun cd48 => ?_)
    · replace hm := zf cd48 hm
      exact b_M_isEdited_465 G0 hK hX rec hrec _ _ _ _ _ _ _ _ _ _ _ _ hm H _ _ hP hD hS (lv_sub hl [1, 2, 3, 4, 5, 6, 7, 8, 9, 10, 11, 0] rfl)
    · replace hm := zt cd48 hm
      refine lv_iconst (v := 0) hx hb dX6_isEdited_462 (by decide) ?_
      refine lv_istore (lv' := [(13, .int 0), (17, .int t0), (0, .ref (ad 0)), (1, .int x1), (2, .int x2), (3, .int x3), (7, .int x7), (10, .int x10), (11, .int x11), (12, .int x12), (14, .int x14), (15, .int x15), (16, .int x16)]) hx hb dX6_isEdited_463 hl (by decide) rfl (fun ls hl => ?_)
      exact b_M_isEdited_465 G0 hK hX rec hrec _ _ _ _ _ _ _ _ _ _ _ _ hm H _ _ hP hD hS (lv_sub hl [2, 3, 4, 5, 6, 7, 8, 9, 0, 10, 11, 1] rfl)
set_option maxRecDepth 100000 in
set_option maxHeartbeats 4000000 in
theorem b_M_isEdited_447 (G : zG p s m args meth c cX6_isEdited RX6 18 (some .boolean)) (hK : va_K D vwCl (wM_t ca) s) (hX : zN (va_A w0 s.heap.size) s) {res : (Int32) × (Nat → Nat → Int32)} (rec : Int32 → Int32 → Int32 → Int32 → Int32 → Int32 → Int32 → Int32 → Int32 → (Nat → Nat → Int32) → Option ((Int32) × (Nat → Nat → Int32))) (hrec : ∀ (x1 : Int32) (x2 : Int32) (x3 : Int32) (x7 : Int32) (x10 : Int32) (x11 : Int32) (x12 : Int32) (x13 : Int32) (x14 : Int32) (u : Nat → Nat → Int32), rec x1 x2 x3 x7 x10 x11 x12 x13 x14 u = some res → zB p l e (zR 3 73) s m args below meth c D vwCl (va_A w0 s.heap.size) (MQ below (zQi D vwCl w0 (wM ad ca v res.2) s.heap.size res.1) args s 0 0 (va_A w0 s.heap.size)) 18 (wM ad ca v u) [(0, .ref (ad 0)), (1, .int x1), (2, .int x2), (3, .int x3), (7, .int x7), (10, .int x10), (11, .int x11), (12, .int x12), (13, .int x13), (14, .int x14)] 372 []) : ∀ (x1 : Int32) (x2 : Int32) (x3 : Int32) (x7 : Int32) (x10 : Int32) (x11 : Int32) (x12 : Int32) (x13 : Int32) (x14 : Int32) (x15 : Int32) (x16 : Int32) (u : Nat → Nat → Int32), m_M_isEdited_447 v rec x1 x2 x3 x7 x10 x11 x12 x13 x14 x15 x16 u = some res → zB p l e (zR 3 73) s m args below meth c D vwCl (va_A w0 s.heap.size) (MQ below (zQi D vwCl w0 (wM ad ca v res.2) s.heap.size res.1) args s 0 0 (va_A w0 s.heap.size)) 18 (wM ad ca v u) [(0, .ref (ad 0)), (1, .int x1), (2, .int x2), (3, .int x3), (7, .int x7), (10, .int x10), (11, .int x11), (12, .int x12), (13, .int x13), (14, .int x14), (15, .int x15), (16, .int x16)] 447 [] := by
  intro x1 x2 x3 x7 x10 x11 x12 x13 x14 x15 x16 u hm H locs ls hP hD hS hl
  unfold m_M_isEdited_447 at hm
  have G0 := G
  obtain ⟨hx, hb, hr, hml, hown, hw, hlk⟩ := G
  have hA : ∀ q, s.heap.size ≤ q → va_A w0 s.heap.size q := fun q h => Or.inr h
  refine lv_iconst (v := 0) hx hb dX6_isEdited_447 (by decide) ?_
  exact b_M_isEdited_448 G0 hK hX rec hrec _ _ _ _ _ _ _ _ _ _ _ _ _ hm H _ _ hP hD hS hl
set_option maxRecDepth 100000 in
set_option maxHeartbeats 4000000 in
theorem b_M_isEdited_443 (G : zG p s m args meth c cX6_isEdited RX6 18 (some .boolean)) (hK : va_K D vwCl (wM_t ca) s) (hX : zN (va_A w0 s.heap.size) s) {res : (Int32) × (Nat → Nat → Int32)} (rec : Int32 → Int32 → Int32 → Int32 → Int32 → Int32 → Int32 → Int32 → Int32 → (Nat → Nat → Int32) → Option ((Int32) × (Nat → Nat → Int32))) (hrec : ∀ (x1 : Int32) (x2 : Int32) (x3 : Int32) (x7 : Int32) (x10 : Int32) (x11 : Int32) (x12 : Int32) (x13 : Int32) (x14 : Int32) (u : Nat → Nat → Int32), rec x1 x2 x3 x7 x10 x11 x12 x13 x14 u = some res → zB p l e (zR 3 73) s m args below meth c D vwCl (va_A w0 s.heap.size) (MQ below (zQi D vwCl w0 (wM ad ca v res.2) s.heap.size res.1) args s 0 0 (va_A w0 s.heap.size)) 18 (wM ad ca v u) [(0, .ref (ad 0)), (1, .int x1), (2, .int x2), (3, .int x3), (7, .int x7), (10, .int x10), (11, .int x11), (12, .int x12), (13, .int x13), (14, .int x14)] 372 []) : ∀ (x1 : Int32) (x2 : Int32) (x3 : Int32) (x7 : Int32) (x10 : Int32) (x11 : Int32) (x12 : Int32) (x13 : Int32) (x14 : Int32) (x15 : Int32) (x16 : Int32) (u : Nat → Nat → Int32), m_M_isEdited_443 v rec x1 x2 x3 x7 x10 x11 x12 x13 x14 x15 x16 u = some res → zB p l e (zR 3 73) s m args below meth c D vwCl (va_A w0 s.heap.size) (MQ below (zQi D vwCl w0 (wM ad ca v res.2) s.heap.size res.1) args s 0 0 (va_A w0 s.heap.size)) 18 (wM ad ca v u) [(0, .ref (ad 0)), (1, .int x1), (2, .int x2), (3, .int x3), (7, .int x7), (10, .int x10), (11, .int x11), (12, .int x12), (13, .int x13), (14, .int x14), (15, .int x15), (16, .int x16)] 443 [] := by
  intro x1 x2 x3 x7 x10 x11 x12 x13 x14 x15 x16 u hm H locs ls hP hD hS hl
  unfold m_M_isEdited_443 at hm
  have G0 := G
  obtain ⟨hx, hb, hr, hml, hown, hw, hlk⟩ := G
  have hA : ∀ q, s.heap.size ≤ q → va_A w0 s.heap.size q := fun q h => Or.inr h
  refine lv_iconst (v := 1) hx hb dX6_isEdited_443 (by decide) ?_
  refine lv_goto (tgt := 448) hx hb dX6_isEdited_444 rfl ?_
  exact b_M_isEdited_448 G0 hK hX rec hrec _ _ _ _ _ _ _ _ _ _ _ _ _ hm H _ _ hP hD hS hl
set_option maxRecDepth 100000 in
set_option maxHeartbeats 4000000 in
theorem b_M_isEdited_424 (G : zG p s m args meth c cX6_isEdited RX6 18 (some .boolean)) (hK : va_K D vwCl (wM_t ca) s) (hX : zN (va_A w0 s.heap.size) s) {res : (Int32) × (Nat → Nat → Int32)} (rec : Int32 → Int32 → Int32 → Int32 → Int32 → Int32 → Int32 → Int32 → Int32 → (Nat → Nat → Int32) → Option ((Int32) × (Nat → Nat → Int32))) (hrec : ∀ (x1 : Int32) (x2 : Int32) (x3 : Int32) (x7 : Int32) (x10 : Int32) (x11 : Int32) (x12 : Int32) (x13 : Int32) (x14 : Int32) (u : Nat → Nat → Int32), rec x1 x2 x3 x7 x10 x11 x12 x13 x14 u = some res → zB p l e (zR 3 73) s m args below meth c D vwCl (va_A w0 s.heap.size) (MQ below (zQi D vwCl w0 (wM ad ca v res.2) s.heap.size res.1) args s 0 0 (va_A w0 s.heap.size)) 18 (wM ad ca v u) [(0, .ref (ad 0)), (1, .int x1), (2, .int x2), (3, .int x3), (7, .int x7), (10, .int x10), (11, .int x11), (12, .int x12), (13, .int x13), (14, .int x14)] 372 []) : ∀ (x1 : Int32) (x2 : Int32) (x3 : Int32) (x7 : Int32) (x10 : Int32) (x11 : Int32) (x12 : Int32) (x13 : Int32) (x14 : Int32) (x15 : Int32) (t0 : Int32) (u : Nat → Nat → Int32), m_M_isEdited_424 v rec x1 x2 x3 x7 x10 x11 x12 x13 x14 x15 t0 u = some res → zB p l e (zR 3 73) s m args below meth c D vwCl (va_A w0 s.heap.size) (MQ below (zQi D vwCl w0 (wM ad ca v res.2) s.heap.size res.1) args s 0 0 (va_A w0 s.heap.size)) 18 (wM ad ca v u) [(0, .ref (ad 0)), (1, .int x1), (2, .int x2), (3, .int x3), (7, .int x7), (10, .int x10), (11, .int x11), (12, .int x12), (13, .int x13), (14, .int x14), (15, .int x15)] 424 [.int t0] := by
  intro x1 x2 x3 x7 x10 x11 x12 x13 x14 x15 t0 u hm H locs ls hP hD hS hl
  unfold m_M_isEdited_424 at hm
  have G0 := G
  obtain ⟨hx, hb, hr, hml, hown, hw, hlk⟩ := G
  have hA : ∀ q, s.heap.size ≤ q → va_A w0 s.heap.size q := fun q h => Or.inr h
  refine lv_istore (lv' := [(16, .int t0), (0, .ref (ad 0)), (1, .int x1), (2, .int x2), (3, .int x3), (7, .int x7), (10, .int x10), (11, .int x11), (12, .int x12), (13, .int x13), (14, .int x14), (15, .int x15)]) hx hb dX6_isEdited_424 hl (by decide) rfl (fun ls hl => ?_)
  refine lv_iload hx hb dX6_isEdited_426 (lv_at hl 0 rfl) ?_
  refine lv_if_eq (tgt := 447) hx hb dX6_isEdited_428 rfl (fun cd35 => ?_) (fun cd35 => ?_)
  · replace hm := zt cd35 hm
    exact b_M_isEdited_447 G0 hK hX rec hrec _ _ _ _ _ _ _ _ _ _ _ _ hm H _ _ hP hD hS (lv_sub hl [1, 2, 3, 4, 5, 6, 7, 8, 9, 10, 11, 0] rfl)
  · replace hm := zf cd35 hm
    refine lv_iload hx hb dX6_isEdited_431 (lv_at hl 9 rfl) ?_
    refine lv_if_eq (tgt := 443) hx hb dX6_isEdited_433 rfl (fun cd49 => ?_) (fun cd49 => ?_)
    · replace hm := zt cd49 hm
      exact b_M_isEdited_443 G0 hK hX rec hrec _ _ _ _ _ _ _ _ _ _ _ _ hm H _ _ hP hD hS (lv_sub hl [1, 2, 3, 4, 5, 6, 7, 8, 9, 10, 11, 0] rfl)
    · replace hm := zf cd49 hm
      refine lv_iload hx hb dX6_isEdited_436 (lv_at hl 11 rfl) ?_
      refine lv_iload hx hb dX6_isEdited_438 (lv_at hl 5 rfl) ?_
      refine lv_icmp_eq (tgt := 447) hx hb dX6_isEdited_440 rfl (fun cd50 => ?_) (fun cd50 => ?_)
      · replace hm := zt cd50 hm
        exact b_M_isEdited_447 G0 hK hX rec hrec _ _ _ _ _ _ _ _ _ _ _ _ hm H _ _ hP hD hS (lv_sub hl [1, 2, 3, 4, 5, 6, 7, 8, 9, 10, 11, 0] rfl)
      · replace hm := zf cd50 hm
        exact b_M_isEdited_443 G0 hK hX rec hrec _ _ _ _ _ _ _ _ _ _ _ _ hm H _ _ hP hD hS (lv_sub hl [1, 2, 3, 4, 5, 6, 7, 8, 9, 10, 11, 0] rfl)
set_option maxRecDepth 100000 in
set_option maxHeartbeats 4000000 in
theorem b_M_isEdited_423 (G : zG p s m args meth c cX6_isEdited RX6 18 (some .boolean)) (hK : va_K D vwCl (wM_t ca) s) (hX : zN (va_A w0 s.heap.size) s) {res : (Int32) × (Nat → Nat → Int32)} (rec : Int32 → Int32 → Int32 → Int32 → Int32 → Int32 → Int32 → Int32 → Int32 → (Nat → Nat → Int32) → Option ((Int32) × (Nat → Nat → Int32))) (hrec : ∀ (x1 : Int32) (x2 : Int32) (x3 : Int32) (x7 : Int32) (x10 : Int32) (x11 : Int32) (x12 : Int32) (x13 : Int32) (x14 : Int32) (u : Nat → Nat → Int32), rec x1 x2 x3 x7 x10 x11 x12 x13 x14 u = some res → zB p l e (zR 3 73) s m args below meth c D vwCl (va_A w0 s.heap.size) (MQ below (zQi D vwCl w0 (wM ad ca v res.2) s.heap.size res.1) args s 0 0 (va_A w0 s.heap.size)) 18 (wM ad ca v u) [(0, .ref (ad 0)), (1, .int x1), (2, .int x2), (3, .int x3), (7, .int x7), (10, .int x10), (11, .int x11), (12, .int x12), (13, .int x13), (14, .int x14)] 372 []) : ∀ (x1 : Int32) (x2 : Int32) (x3 : Int32) (x7 : Int32) (x10 : Int32) (x11 : Int32) (x12 : Int32) (x13 : Int32) (x14 : Int32) (x15 : Int32) (u : Nat → Nat → Int32), m_M_isEdited_423 v rec x1 x2 x3 x7 x10 x11 x12 x13 x14 x15 u = some res → zB p l e (zR 3 73) s m args below meth c D vwCl (va_A w0 s.heap.size) (MQ below (zQi D vwCl w0 (wM ad ca v res.2) s.heap.size res.1) args s 0 0 (va_A w0 s.heap.size)) 18 (wM ad ca v u) [(0, .ref (ad 0)), (1, .int x1), (2, .int x2), (3, .int x3), (7, .int x7), (10, .int x10), (11, .int x11), (12, .int x12), (13, .int x13), (14, .int x14), (15, .int x15)] 423 [] := by
  intro x1 x2 x3 x7 x10 x11 x12 x13 x14 x15 u hm H locs ls hP hD hS hl
  unfold m_M_isEdited_423 at hm
  have G0 := G
  obtain ⟨hx, hb, hr, hml, hown, hw, hlk⟩ := G
  have hA : ∀ q, s.heap.size ≤ q → va_A w0 s.heap.size q := fun q h => Or.inr h
  refine lv_iconst (v := 0) hx hb dX6_isEdited_423 (by decide) ?_
  exact b_M_isEdited_424 G0 hK hX rec hrec _ _ _ _ _ _ _ _ _ _ _ _ hm H _ _ hP hD hS hl
set_option maxRecDepth 100000 in
set_option maxHeartbeats 4000000 in
theorem b_M_isEdited_419 (G : zG p s m args meth c cX6_isEdited RX6 18 (some .boolean)) (hK : va_K D vwCl (wM_t ca) s) (hX : zN (va_A w0 s.heap.size) s) {res : (Int32) × (Nat → Nat → Int32)} (rec : Int32 → Int32 → Int32 → Int32 → Int32 → Int32 → Int32 → Int32 → Int32 → (Nat → Nat → Int32) → Option ((Int32) × (Nat → Nat → Int32))) (hrec : ∀ (x1 : Int32) (x2 : Int32) (x3 : Int32) (x7 : Int32) (x10 : Int32) (x11 : Int32) (x12 : Int32) (x13 : Int32) (x14 : Int32) (u : Nat → Nat → Int32), rec x1 x2 x3 x7 x10 x11 x12 x13 x14 u = some res → zB p l e (zR 3 73) s m args below meth c D vwCl (va_A w0 s.heap.size) (MQ below (zQi D vwCl w0 (wM ad ca v res.2) s.heap.size res.1) args s 0 0 (va_A w0 s.heap.size)) 18 (wM ad ca v u) [(0, .ref (ad 0)), (1, .int x1), (2, .int x2), (3, .int x3), (7, .int x7), (10, .int x10), (11, .int x11), (12, .int x12), (13, .int x13), (14, .int x14)] 372 []) : ∀ (x1 : Int32) (x2 : Int32) (x3 : Int32) (x7 : Int32) (x10 : Int32) (x11 : Int32) (x12 : Int32) (x13 : Int32) (x14 : Int32) (x15 : Int32) (u : Nat → Nat → Int32), m_M_isEdited_419 v rec x1 x2 x3 x7 x10 x11 x12 x13 x14 x15 u = some res → zB p l e (zR 3 73) s m args below meth c D vwCl (va_A w0 s.heap.size) (MQ below (zQi D vwCl w0 (wM ad ca v res.2) s.heap.size res.1) args s 0 0 (va_A w0 s.heap.size)) 18 (wM ad ca v u) [(0, .ref (ad 0)), (1, .int x1), (2, .int x2), (3, .int x3), (7, .int x7), (10, .int x10), (11, .int x11), (12, .int x12), (13, .int x13), (14, .int x14), (15, .int x15)] 419 [] := by
  intro x1 x2 x3 x7 x10 x11 x12 x13 x14 x15 u hm H locs ls hP hD hS hl
  unfold m_M_isEdited_419 at hm
  have G0 := G
  obtain ⟨hx, hb, hr, hml, hown, hw, hlk⟩ := G
  have hA : ∀ q, s.heap.size ≤ q → va_A w0 s.heap.size q := fun q h => Or.inr h
  refine lv_iconst (v := 1) hx hb dX6_isEdited_419 (by decide) ?_
  refine lv_goto (tgt := 424) hx hb dX6_isEdited_420 rfl ?_
  exact b_M_isEdited_424 G0 hK hX rec hrec _ _ _ _ _ _ _ _ _ _ _ _ hm H _ _ hP hD hS hl
set_option maxRecDepth 100000 in
set_option maxHeartbeats 4000000 in
theorem b_M_isEdited_372 (G : zG p s m args meth c cX6_isEdited RX6 18 (some .boolean)) (hK : va_K D vwCl (wM_t ca) s) (hX : zN (va_A w0 s.heap.size) s) {res : (Int32) × (Nat → Nat → Int32)} : ∀ n : Nat, ∀ (x1 : Int32) (x2 : Int32) (x3 : Int32) (x7 : Int32) (x10 : Int32) (x11 : Int32) (x12 : Int32) (x13 : Int32) (x14 : Int32) (u : Nat → Nat → Int32), m_M_isEdited_372 v n x1 x2 x3 x7 x10 x11 x12 x13 x14 u = some res → zB p l e (zR 3 73) s m args below meth c D vwCl (va_A w0 s.heap.size) (MQ below (zQi D vwCl w0 (wM ad ca v res.2) s.heap.size res.1) args s 0 0 (va_A w0 s.heap.size)) 18 (wM ad ca v u) [(0, .ref (ad 0)), (1, .int x1), (2, .int x2), (3, .int x3), (7, .int x7), (10, .int x10), (11, .int x11), (12, .int x12), (13, .int x13), (14, .int x14)] 372 [] := by
  intro n
  induction n with
  | zero => intro x1 x2 x3 x7 x10 x11 x12 x13 x14 u hm; cases hm
  | succ n ih =>
  have hrec := ih
  intro x1 x2 x3 x7 x10 x11 x12 x13 x14 u hm H locs ls hP hD hS hl
  replace hm : m_M_isEdited_372b v (m_M_isEdited_372 v n) x1 x2 x3 x7 x10 x11 x12 x13 x14 u = some res := hm
  generalize m_M_isEdited_372 v n = rec at hm hrec
  unfold m_M_isEdited_372b at hm
  clear ih
  have G0 := G
  obtain ⟨hx, hb, hr, hml, hown, hw, hlk⟩ := G
  have hA : ∀ q, s.heap.size ≤ q → va_A w0 s.heap.size q := fun q h => Or.inr h
  refine lv_iload hx hb dX6_isEdited_372 (lv_at hl 9 rfl) ?_
  refine lv_iload_n hx hb dX6_isEdited_374 rfl (lv_at hl 1 rfl) ?_
  refine lv_icmp_ge (tgt := 560) hx hb dX6_isEdited_375 rfl (fun cd29 => ?_) (fun cd29 => ?_)
  · replace hm := zt cd29 hm
    refine lv_aload_n hx hb dX6_isEdited_560 rfl (lv_at hl 0 rfl) ?_
    refine va_get (D := D) (ci := 5) (v := .ref (ad 7)) (C := RX6) (T := TX6) (N := 24) hx hb hw zinX6 hown hK hP 0 rfl rfl 9 (by decide) (hw _ zw49) (fun _ h9 => h9) rfl dX6_isEdited_561 ?_
    refine lv_bipush (v := 8) hx hb dX6_isEdited_564 (by decide) ?_
    refine lv_iload hx hb dX6_isEdited_566 (lv_at hl 5 rfl) ?_
    refine lv_iload hx hb dX6_isEdited_568 (lv_at hl 7 rfl) ?_
    refine lv_isub hx hb dX6_isEdited_570 ?_
    obtain ⟨hi30, hm⟩ := zix_s hm
    refine va_iast (i := 8) (x := (x10 - x12)) (f := (u 7)) (n := 9) hx hb hK hP hD hS 7 6 rfl rfl hi30 dX6_isEdited_571 (fun H locs hP hD hS => ?_)
    have hP : va_P D vwCl (wM ad ca v (zau u 7 8 (x10 - x12))) H := hP
    have hD : va_D _ (wM ad ca v (zau u 7 8 (x10 - x12))) := hD
    refine lv_aload_n hx hb dX6_isEdited_572 rfl (lv_at hl 0 rfl) ?_
    refine va_get (D := D) (ci := 5) (v := .ref (ad 8)) (C := RX6) (T := TX6) (N := 24) hx hb hw zinX6 hown hK hP 0 rfl rfl 10 (by decide) (hw _ zw22) (fun _ h9 => h9) rfl dX6_isEdited_573 ?_
    refine lv_bipush (v := 8) hx hb dX6_isEdited_576 (by decide) ?_
    refine lv_iload hx hb dX6_isEdited_578 (lv_at hl 7 rfl) ?_
    obtain ⟨hi31, hm⟩ := zix_s hm
    refine va_iast (i := 8) (x := x12) (f := ((zau u 7 8 (x10 - x12)) 8)) (n := 9) hx hb hK hP hD hS 8 7 rfl rfl hi31 dX6_isEdited_580 (fun H locs hP hD hS => ?_)
    have hP : va_P D vwCl (wM ad ca v (zau (zau u 7 8 (x10 - x12)) 8 8 x12)) H := hP
    have hD : va_D _ (wM ad ca v (zau (zau u 7 8 (x10 - x12)) 8 8 x12)) := hD
    refine lv_iconst (v := 1) hx hb dX6_isEdited_581 (by decide) ?_
    obtain ⟨hz32, -, hm⟩ := zbo_s hm
    cases hm
    exact zretz hx hb hr hlk hz32 hP hD hS dX6_isEdited_582
  · replace hm := zf cd29 hm
    refine lv_aload_n hx hb dX6_isEdited_378 rfl (lv_at hl 0 rfl) ?_
    refine lv_bipush (v := 8) hx hb dX6_isEdited_379 (by decide) ?_
    refine lv_iload hx hb dX6_isEdited_381 (lv_at hl 9 rfl) ?_
    obtain ⟨q33, hq33, hm⟩ := zbind hm
    refine zbWi (va_runV (As := [.int 8, .int x14]) (rest := []) ⟨hx, hb, hml, hown, hw⟩ (k_M_sym l D ad ca _ 8 x14 v u  q33 hq33) (zcV (C := RX6) 2 hw (zgood zw14) rfl rfl rfl zw7 zw16 zw15 zw17 hdX6_sym ⟨Nat.le_of_ble_eq_true rfl, Nat.le_of_ble_eq_true rfl⟩) (zpreV (zpre zN_ok trivial hS (zfree hD hS hA) hP hK hD) (va_recv hK hP rfl (q0 := 0) rfl)) rfl rfl hl.1 rfl (lv_room (Nat.le_of_ble_eq_true rfl)) dX6_isEdited_383 ⟨Nat.zero_le _, Nat.zero_le _⟩) hS (zfree hD hS hA) (fun H locs hP hD hS => ?_)
    refine lv_istore (lv' := [(15, .int q33), (0, .ref (ad 0)), (1, .int x1), (2, .int x2), (3, .int x3), (7, .int x7), (10, .int x10), (11, .int x11), (12, .int x12), (13, .int x13), (14, .int x14)]) hx hb dX6_isEdited_386 hl (by decide) rfl (fun ls hl => ?_)
    refine lv_iload hx hb dX6_isEdited_388 (lv_at hl 10 rfl) ?_
    refine lv_iload_n hx hb dX6_isEdited_390 rfl (lv_at hl 4 rfl) ?_
    refine lv_icmp_lt (tgt := 423) hx hb dX6_isEdited_391 rfl (fun cd34 => ?_) (fun cd34 => ?_)
    · replace hm := zt cd34 hm
      exact b_M_isEdited_423 G0 hK hX rec hrec _ _ _ _ _ _ _ _ _ _ _ hm H _ _ hP hD hS (lv_sub hl [1, 2, 3, 4, 5, 6, 7, 8, 9, 10, 0] rfl)
    · replace hm := zf cd34 hm
      refine lv_iload hx hb dX6_isEdited_394 (lv_at hl 10 rfl) ?_
      refine lv_iload_n hx hb dX6_isEdited_396 rfl (lv_at hl 3 rfl) ?_
      refine lv_icmp_ge (tgt := 423) hx hb dX6_isEdited_397 rfl (fun cd51 => ?_) (fun cd51 => ?_)
      · replace hm := zt cd51 hm
        exact b_M_isEdited_423 G0 hK hX rec hrec _ _ _ _ _ _ _ _ _ _ _ hm H _ _ hP hD hS (lv_sub hl [1, 2, 3, 4, 5, 6, 7, 8, 9, 10, 0] rfl)
      · replace hm := zf cd51 hm
        refine lv_iload hx hb dX6_isEdited_400 (lv_at hl 0 rfl) ?_
        refine lv_bipush (v := 57) hx hb dX6_isEdited_402 (by decide) ?_
        refine lv_icmp_eq (tgt := 419) hx hb dX6_isEdited_404 rfl (fun cd52 => ?_) (fun cd52 => ?_)
        · replace hm := zt cd52 hm
          exact b_M_isEdited_419 G0 hK hX rec hrec _ _ _ _ _ _ _ _ _ _ _ hm H _ _ hP hD hS (lv_sub hl [1, 2, 3, 4, 5, 6, 7, 8, 9, 10, 0] rfl)
        · replace hm := zf cd52 hm
          refine lv_iload hx hb dX6_isEdited_407 (lv_at hl 5 rfl) ?_
          refine lv_if_eq (tgt := 423) hx hb dX6_isEdited_409 rfl (fun cd53 => ?_) (fun cd53 => ?_)
          · replace hm := zt cd53 hm
            exact b_M_isEdited_423 G0 hK hX rec hrec _ _ _ _ _ _ _ _ _ _ _ hm H _ _ hP hD hS (lv_sub hl [1, 2, 3, 4, 5, 6, 7, 8, 9, 10, 0] rfl)
          · replace hm := zf cd53 hm
            refine lv_iload hx hb dX6_isEdited_412 (lv_at hl 0 rfl) ?_
            refine lv_iload hx hb dX6_isEdited_414 (lv_at hl 5 rfl) ?_
            refine lv_icmp_ne (tgt := 423) hx hb dX6_isEdited_416 rfl (fun cd54 => ?_) (fun cd54 => ?_)
            · replace hm := zf cd54 hm
              exact b_M_isEdited_423 G0 hK hX rec hrec _ _ _ _ _ _ _ _ _ _ _ hm H _ _ hP hD hS (lv_sub hl [1, 2, 3, 4, 5, 6, 7, 8, 9, 10, 0] rfl)
            · replace hm := zt cd54 hm
              exact b_M_isEdited_419 G0 hK hX rec hrec _ _ _ _ _ _ _ _ _ _ _ hm H _ _ hP hD hS (lv_sub hl [1, 2, 3, 4, 5, 6, 7, 8, 9, 10, 0] rfl)
set_option maxRecDepth 100000 in
set_option maxHeartbeats 4000000 in
theorem b_M_isEdited_349 (G : zG p s m args meth c cX6_isEdited RX6 18 (some .boolean)) (hK : va_K D vwCl (wM_t ca) s) (hX : zN (va_A w0 s.heap.size) s) {res : (Int32) × (Nat → Nat → Int32)} : ∀ (x1 : Int32) (x2 : Int32) (x3 : Int32) (x7 : Int32) (x8 : Int32) (x10 : Int32) (t0 : Int32) (t1 : Int32) (u : Nat → Nat → Int32), m_M_isEdited_349 v x1 x2 x3 x7 x8 x10 t0 t1 u = some res → zB p l e (zR 3 73) s m args below meth c D vwCl (va_A w0 s.heap.size) (MQ below (zQi D vwCl w0 (wM ad ca v res.2) s.heap.size res.1) args s 0 0 (va_A w0 s.heap.size)) 18 (wM ad ca v u) [(0, .ref (ad 0)), (1, .int x1), (2, .int x2), (3, .int x3), (7, .int x7), (8, .int x8), (10, .int x10)] 349 [.int t0, .int t1, .ref (ad 9)] := by
  intro x1 x2 x3 x7 x8 x10 t0 t1 u hm H locs ls hP hD hS hl
  unfold m_M_isEdited_349 at hm
  have G0 := G
  obtain ⟨hx, hb, hr, hml, hown, hw, hlk⟩ := G
  have hA : ∀ q, s.heap.size ≤ q → va_A w0 s.heap.size q := fun q h => Or.inr h
  obtain ⟨hi27, hm⟩ := zix_s hm
  refine va_zast (i := t1) (x := t0) (f := (u 9)) (n := 9) hx hb hK hP hD hS 9 8 rfl rfl hi27 dX6_isEdited_349 (fun H locs hP hD hS => ?_)
  have hP : va_P D vwCl (wM ad ca v (zau u 9 t1 (vp_nar .boolean t0))) H := hP
  have hD : va_D _ (wM ad ca v (zau u 9 t1 (vp_nar .boolean t0))) := hD
  refine lv_iload hx hb dX6_isEdited_350 (lv_at hl 6 rfl) ?_
  refine lv_istore (lv' := [(11, .int x10), (0, .ref (ad 0)), (1, .int x1), (2, .int x2), (3, .int x3), (7, .int x7), (8, .int x8), (10, .int x10)]) hx hb dX6_isEdited_352 hl (by decide) rfl (fun ls hl => ?_)
  refine lv_iconst (v := 0) hx hb dX6_isEdited_354 (by decide) ?_
  refine lv_istore (lv' := [(12, .int 0), (11, .int x10), (0, .ref (ad 0)), (1, .int x1), (2, .int x2), (3, .int x3), (7, .int x7), (8, .int x8), (10, .int x10)]) hx hb dX6_isEdited_355 hl (by decide) rfl (fun ls hl => ?_)
  refine lv_iload hx hb dX6_isEdited_357 (lv_at hl 7 rfl) ?_
  refine lv_istore (lv' := [(13, .int x8), (12, .int 0), (11, .int x10), (0, .ref (ad 0)), (1, .int x1), (2, .int x2), (3, .int x3), (7, .int x7), (8, .int x8), (10, .int x10)]) hx hb dX6_isEdited_359 hl (by decide) rfl (fun ls hl => ?_)
  refine lv_aload_n hx hb dX6_isEdited_361 rfl (lv_at hl 3 rfl) ?_
  refine va_get (D := D) (ci := 5) (v := .ref (ad 15)) (C := RX6) (T := TX6) (N := 24) hx hb hw zinX6 hown hK hP 0 rfl rfl 17 (by decide) (hw _ zw50) (fun _ h9 => h9) rfl dX6_isEdited_362 ?_
  refine lv_bipush (v := 8) hx hb dX6_isEdited_365 (by decide) ?_
  refine lv_iconst (v := 0) hx hb dX6_isEdited_367 (by decide) ?_
  obtain ⟨hi28, hm⟩ := zix_s hm
  refine va_iast (i := 8) (x := 0) (f := ((zau u 9 t1 (vp_nar .boolean t0)) 15)) (n := 9) hx hb hK hP hD hS 15 14 rfl rfl hi28 dX6_isEdited_368 (fun H locs hP hD hS => ?_)
  have hP : va_P D vwCl (wM ad ca v (zau (zau u 9 t1 (vp_nar .boolean t0)) 15 8 0)) H := hP
  have hD : va_D _ (wM ad ca v (zau (zau u 9 t1 (vp_nar .boolean t0)) 15 8 0)) := hD
  refine lv_iconst (v := 0) hx hb dX6_isEdited_369 (by decide) ?_
  refine lv_istore (lv' := [(14, .int 0), (13, .int x8), (12, .int 0), (11, .int x10), (0, .ref (ad 0)), (1, .int x1), (2, .int x2), (3, .int x3), (7, .int x7), (8, .int x8), (10, .int x10)]) hx hb dX6_isEdited_370 hl (by decide) rfl (fun ls hl => ?_)
  exact b_M_isEdited_372 G0 hK hX 64 _ _ _ _ _ _ _ _ _ _ hm H _ _ hP hD hS (lv_sub hl [4, 5, 6, 7, 8, 10, 3, 2, 1, 0] rfl)
set_option maxRecDepth 100000 in
set_option maxHeartbeats 4000000 in
theorem b_M_isEdited_344 (G : zG p s m args meth c cX6_isEdited RX6 18 (some .boolean)) (hK : va_K D vwCl (wM_t ca) s) (hX : zN (va_A w0 s.heap.size) s) {res : (Int32) × (Nat → Nat → Int32)} : ∀ (x1 : Int32) (x2 : Int32) (x3 : Int32) (x7 : Int32) (x8 : Int32) (x10 : Int32) (t0 : Int32) (u : Nat → Nat → Int32), m_M_isEdited_344 v x1 x2 x3 x7 x8 x10 t0 u = some res → zB p l e (zR 3 73) s m args below meth c D vwCl (va_A w0 s.heap.size) (MQ below (zQi D vwCl w0 (wM ad ca v res.2) s.heap.size res.1) args s 0 0 (va_A w0 s.heap.size)) 18 (wM ad ca v u) [(0, .ref (ad 0)), (1, .int x1), (2, .int x2), (3, .int x3), (7, .int x7), (8, .int x8), (10, .int x10)] 344 [.int t0, .ref (ad 9)] := by
  intro x1 x2 x3 x7 x8 x10 t0 u hm H locs ls hP hD hS hl
  unfold m_M_isEdited_344 at hm
  have G0 := G
  obtain ⟨hx, hb, hr, hml, hown, hw, hlk⟩ := G
  have hA : ∀ q, s.heap.size ≤ q → va_A w0 s.heap.size q := fun q h => Or.inr h
  refine lv_iconst (v := 1) hx hb dX6_isEdited_344 (by decide) ?_
  refine lv_goto (tgt := 349) hx hb dX6_isEdited_345 rfl ?_
  exact b_M_isEdited_349 G0 hK hX _ _ _ _ _ _ _ _ _ hm H _ _ hP hD hS hl
set_option maxRecDepth 100000 in
set_option maxHeartbeats 4000000 in
theorem b_M_isEdited_294 (G : zG p s m args meth c cX6_isEdited RX6 18 (some .boolean)) (hK : va_K D vwCl (wM_t ca) s) (hX : zN (va_A w0 s.heap.size) s) {res : (Int32) × (Nat → Nat → Int32)} : ∀ (x1 : Int32) (x2 : Int32) (x3 : Int32) (x5 : Int32) (x6 : Int32) (x7 : Int32) (x8 : Int32) (t0 : Int32) (t1 : Int32) (u : Nat → Nat → Int32), m_M_isEdited_294 v x1 x2 x3 x5 x6 x7 x8 t0 t1 u = some res → zB p l e (zR 3 73) s m args below meth c D vwCl (va_A w0 s.heap.size) (MQ below (zQi D vwCl w0 (wM ad ca v res.2) s.heap.size res.1) args s 0 0 (va_A w0 s.heap.size)) 18 (wM ad ca v u) [(0, .ref (ad 0)), (1, .int x1), (2, .int x2), (3, .int x3), (5, .int x5), (6, .int x6), (7, .int x7), (8, .int x8)] 294 [.int t0, .int t1] := by
  intro x1 x2 x3 x5 x6 x7 x8 t0 t1 u hm H locs ls hP hD hS hl
  unfold m_M_isEdited_294 at hm
  have G0 := G
  obtain ⟨hx, hb, hr, hml, hown, hw, hlk⟩ := G
  have hA : ∀ q, s.heap.size ≤ q → va_A w0 s.heap.size q := fun q h => Or.inr h
  refine lv_isub hx hb dX6_isEdited_294 ?_
  refine lv_istore (lv' := [(10, .int (t1 - t0)), (0, .ref (ad 0)), (1, .int x1), (2, .int x2), (3, .int x3), (5, .int x5), (6, .int x6), (7, .int x7), (8, .int x8)]) hx hb dX6_isEdited_295 hl (by decide) rfl (fun ls hl => ?_)
  refine lv_iload hx hb dX6_isEdited_297 (lv_at hl 0 rfl) ?_
  refine lv_iconst (v := 1) hx hb dX6_isEdited_299 (by decide) ?_
  refine lv_icmp_lt (tgt := 310) hx hb dX6_isEdited_300 rfl (fun cd22 => ?_) (fun cd22 => ?_)
  · replace hm := zt cd22 hm
    refine lv_iconst (v := 0) hx hb dX6_isEdited_310 (by decide) ?_
    obtain ⟨hz23, -, hm⟩ := zbo_s hm
    cases hm
    exact zretz hx hb hr hlk hz23 hP hD hS dX6_isEdited_311
  · replace hm := zf cd22 hm
    refine lv_iload hx hb dX6_isEdited_303 (lv_at hl 0 rfl) ?_
    refine lv_bipush (v := 12) hx hb dX6_isEdited_305 (by decide) ?_
    refine lv_icmp_le (tgt := 312) hx hb dX6_isEdited_307 rfl (fun cd24 => ?_) (fun cd24 => ?_)
    · replace hm := zt cd24 hm
      refine lv_aload_n hx hb dX6_isEdited_312 rfl (lv_at hl 1 rfl) ?_
      refine va_get (D := D) (ci := 5) (v := .ref (ad 5)) (C := RX6) (T := TX6) (N := 24) hx hb hw zinX6 hown hK hP 0 rfl rfl 7 (by decide) (hw _ zw46) (fun _ h9 => h9) rfl dX6_isEdited_313 ?_
      refine lv_bipush (v := 8) hx hb dX6_isEdited_316 (by decide) ?_
      refine lv_iconst (v := 2) hx hb dX6_isEdited_318 (by decide) ?_
      obtain ⟨hi25, hm⟩ := zix_s hm
      refine va_iast (i := 8) (x := 2) (f := (u 5)) (n := 9) hx hb hK hP hD hS 5 4 rfl rfl hi25 dX6_isEdited_319 (fun H locs hP hD hS => ?_)
      have hP : va_P D vwCl (wM ad ca v (zau u 5 8 2)) H := hP
      have hD : va_D _ (wM ad ca v (zau u 5 8 2)) := hD
      refine lv_aload_n hx hb dX6_isEdited_320 rfl (lv_at hl 1 rfl) ?_
      refine va_get (D := D) (ci := 5) (v := .ref (ad 9)) (C := RX6) (T := TX6) (N := 24) hx hb hw zinX6 hown hK hP 0 rfl rfl 11 (by decide) (hw _ zw47) (fun _ h9 => h9) rfl dX6_isEdited_321 ?_
      refine lv_bipush (v := 8) hx hb dX6_isEdited_324 (by decide) ?_
      refine lv_iload hx hb dX6_isEdited_326 (lv_at hl 5 rfl) ?_
      refine lv_if_ne (tgt := 344) hx hb dX6_isEdited_328 rfl (fun cd26 => ?_) (fun cd26 => ?_)
      · replace hm := zf cd26 hm
        exact b_M_isEdited_344 G0 hK hX _ _ _ _ _ _ _ _ hm H _ _ hP hD hS (lv_sub hl [1, 2, 3, 4, 7, 8, 0] rfl)
      · replace hm := zt cd26 hm
        refine lv_iload hx hb dX6_isEdited_331 (lv_at hl 6 rfl) ?_
        refine lv_if_ne (tgt := 344) hx hb dX6_isEdited_333 rfl (fun cd55 => ?_) (fun cd55 => ?_)
        · replace hm := zf cd55 hm
          exact b_M_isEdited_344 G0 hK hX _ _ _ _ _ _ _ _ hm H _ _ hP hD hS (lv_sub hl [1, 2, 3, 4, 7, 8, 0] rfl)
        · replace hm := zt cd55 hm
          refine lv_iload hx hb dX6_isEdited_336 (lv_at hl 7 rfl) ?_
          obtain ⟨q56, hq56, hm⟩ := zbind hm
          refine zb0i (va_runS (As := [.int x7]) (rest := [.int 8, .ref (ad 9)]) ⟨hx, hb, hml, hown, hw⟩ (k_M_isSign l D  _ x7  q56 hq56) ⟨zcB 1 hw (zgood zw65) rfl rfl rfl zw7 zw67 hdX6_isSign ⟨Nat.le_of_ble_eq_true rfl, Nat.le_of_ble_eq_true rfl⟩, hw _ zw66⟩ (zpre zN_ok trivial hS (zfree0 hS hA) zP0 (hK.sub (tys' := []) [] rfl) zD0) rfl rfl hl.1 rfl (lv_room (Nat.le_of_ble_eq_true rfl)) dX6_isEdited_338 ⟨Nat.zero_le _, Nat.zero_le _⟩) hP hD hS (zfree0 hS hA) (fun H locs hP hD hS => ?_)
          refine lv_if_eq (tgt := 348) hx hb dX6_isEdited_341 rfl (fun cd57 => ?_) (fun cd57 => ?_)
          · replace hm := zt cd57 hm
            refine lv_iconst (v := 0) hx hb dX6_isEdited_348 (by decide) ?_
            exact b_M_isEdited_349 G0 hK hX _ _ _ _ _ _ _ _ _ hm H _ _ hP hD hS (lv_sub hl [1, 2, 3, 4, 7, 8, 0] rfl)
          · replace hm := zf cd57 hm
            exact b_M_isEdited_344 G0 hK hX _ _ _ _ _ _ _ _ hm H _ _ hP hD hS (lv_sub hl [1, 2, 3, 4, 7, 8, 0] rfl)
    · replace hm := zf cd24 hm
      refine lv_iconst (v := 0) hx hb dX6_isEdited_310 (by decide) ?_
      obtain ⟨hz58, -, hm⟩ := zbo_s hm
      cases hm
      exact zretz hx hb hr hlk hz58 hP hD hS dX6_isEdited_311
set_option maxRecDepth 100000 in
set_option maxHeartbeats 4000000 in
theorem b_M_isEdited_262 (G : zG p s m args meth c cX6_isEdited RX6 18 (some .boolean)) (hK : va_K D vwCl (wM_t ca) s) (hX : zN (va_A w0 s.heap.size) s) {res : (Int32) × (Nat → Nat → Int32)} : ∀ (x1 : Int32) (x2 : Int32) (x3 : Int32) (x5 : Int32) (x6 : Int32) (x7 : Int32) (x8 : Int32) (x9 : Int32) (u : Nat → Nat → Int32), m_M_isEdited_262 v x1 x2 x3 x5 x6 x7 x8 x9 u = some res → zB p l e (zR 3 73) s m args below meth c D vwCl (va_A w0 s.heap.size) (MQ below (zQi D vwCl w0 (wM ad ca v res.2) s.heap.size res.1) args s 0 0 (va_A w0 s.heap.size)) 18 (wM ad ca v u) [(0, .ref (ad 0)), (1, .int x1), (2, .int x2), (3, .int x3), (5, .int x5), (6, .int x6), (7, .int x7), (8, .int x8), (9, .int x9)] 262 [] := by
  intro x1 x2 x3 x5 x6 x7 x8 x9 u hm H locs ls hP hD hS hl
  unfold m_M_isEdited_262 at hm
  have G0 := G
  obtain ⟨hx, hb, hr, hml, hown, hw, hlk⟩ := G
  have hA : ∀ q, s.heap.size ≤ q → va_A w0 s.heap.size q := fun q h => Or.inr h
  refine lv_aload_n hx hb dX6_isEdited_262 rfl (lv_at hl 0 rfl) ?_
  refine lv_iload_n hx hb dX6_isEdited_263 rfl (lv_at hl 3 rfl) ?_
  refine lv_iload_n hx hb dX6_isEdited_264 rfl (lv_at hl 2 rfl) ?_
  obtain ⟨q18, hq18, hm⟩ := zbind hm
  refine zbWi (va_runV (As := [.int x3, .int x2]) (rest := []) ⟨hx, hb, hml, hown, hw⟩ (k_M_ordered l D ad ca _ x3 x2 v u  q18 hq18) (zcV (C := RX6) 2 hw (zgood zw68) rfl rfl rfl zw7 zw70 zw69 zw71 hdX6_ordered ⟨Nat.le_of_ble_eq_true rfl, Nat.le_of_ble_eq_true rfl⟩) (zpreV (zpre zN_ok trivial hS (zfree hD hS hA) hP hK hD) (va_recv hK hP rfl (q0 := 0) rfl)) rfl rfl hl.1 rfl (lv_room (Nat.le_of_ble_eq_true rfl)) dX6_isEdited_265 ⟨Nat.zero_le _, Nat.zero_le _⟩) hS (zfree hD hS hA) (fun H locs hP hD hS => ?_)
  refine lv_if_ne (tgt := 273) hx hb dX6_isEdited_268 rfl (fun cd19 => ?_) (fun cd19 => ?_)
  · replace hm := zf cd19 hm
    refine lv_aload_n hx hb dX6_isEdited_273 rfl (lv_at hl 0 rfl) ?_
    refine lv_bipush (v := 57) hx hb dX6_isEdited_274 (by decide) ?_
    refine lv_iload_n hx hb dX6_isEdited_276 rfl (lv_at hl 3 rfl) ?_
    refine lv_iload_n hx hb dX6_isEdited_277 rfl (lv_at hl 2 rfl) ?_
    obtain ⟨q20, hq20, hm⟩ := zbind hm
    refine zbWi (va_runV (As := [.int 57, .int x3, .int x2]) (rest := []) ⟨hx, hb, hml, hown, hw⟩ (k_M_countOf l D ad ca _ 57 x3 x2 v u  q20 hq20) (zcV (C := RX6) 3 hw (zgood zw38) rfl rfl rfl zw7 zw40 zw39 zw41 hdX6_countOf ⟨Nat.le_of_ble_eq_true rfl, Nat.le_of_ble_eq_true rfl⟩) (zpreV (zpre zN_ok trivial hS (zfree hD hS hA) hP hK hD) (va_recv hK hP rfl (q0 := 0) rfl)) rfl rfl hl.1 rfl (lv_room (Nat.le_of_ble_eq_true rfl)) dX6_isEdited_278 ⟨Nat.zero_le _, Nat.zero_le _⟩) hS (zfree hD hS hA) (fun H locs hP hD hS => ?_)
    refine lv_iload hx hb dX6_isEdited_281 (lv_at hl 8 rfl) ?_
    refine lv_iadd hx hb dX6_isEdited_283 ?_
    refine lv_iload hx hb dX6_isEdited_284 (lv_at hl 7 rfl) ?_
    refine lv_if_eq (tgt := 293) hx hb dX6_isEdited_286 rfl (fun cd21 => ?_) (fun cd21 => ?_)
    · replace hm := zt cd21 hm
      refine lv_iconst (v := 0) hx hb dX6_isEdited_293 (by decide) ?_
      exact b_M_isEdited_294 G0 hK hX _ _ _ _ _ _ _ _ _ _ hm H _ _ hP hD hS (lv_sub hl [0, 1, 2, 3, 4, 5, 6, 7] rfl)
    · replace hm := zf cd21 hm
      refine lv_iconst (v := 1) hx hb dX6_isEdited_289 (by decide) ?_
      refine lv_goto (tgt := 294) hx hb dX6_isEdited_290 rfl ?_
      exact b_M_isEdited_294 G0 hK hX _ _ _ _ _ _ _ _ _ _ hm H _ _ hP hD hS (lv_sub hl [0, 1, 2, 3, 4, 5, 6, 7] rfl)
  · replace hm := zt cd19 hm
    refine lv_iconst (v := 0) hx hb dX6_isEdited_271 (by decide) ?_
    obtain ⟨hz59, -, hm⟩ := zbo_s hm
    cases hm
    exact zretz hx hb hr hlk hz59 hP hD hS dX6_isEdited_272
set_option maxRecDepth 100000 in
set_option maxHeartbeats 4000000 in
theorem b_M_isEdited_249 (G : zG p s m args meth c cX6_isEdited RX6 18 (some .boolean)) (hK : va_K D vwCl (wM_t ca) s) (hX : zN (va_A w0 s.heap.size) s) {res : (Int32) × (Nat → Nat → Int32)} : ∀ (x1 : Int32) (x2 : Int32) (x3 : Int32) (x5 : Int32) (x6 : Int32) (x7 : Int32) (x8 : Int32) (t0 : Int32) (u : Nat → Nat → Int32), m_M_isEdited_249 v x1 x2 x3 x5 x6 x7 x8 t0 u = some res → zB p l e (zR 3 73) s m args below meth c D vwCl (va_A w0 s.heap.size) (MQ below (zQi D vwCl w0 (wM ad ca v res.2) s.heap.size res.1) args s 0 0 (va_A w0 s.heap.size)) 18 (wM ad ca v u) [(0, .ref (ad 0)), (1, .int x1), (2, .int x2), (3, .int x3), (5, .int x5), (6, .int x6), (7, .int x7), (8, .int x8)] 249 [.int t0] := by
  intro x1 x2 x3 x5 x6 x7 x8 t0 u hm H locs ls hP hD hS hl
  unfold m_M_isEdited_249 at hm
  have G0 := G
  obtain ⟨hx, hb, hr, hml, hown, hw, hlk⟩ := G
  have hA : ∀ q, s.heap.size ≤ q → va_A w0 s.heap.size q := fun q h => Or.inr h
  refine lv_istore (lv' := [(9, .int t0), (0, .ref (ad 0)), (1, .int x1), (2, .int x2), (3, .int x3), (5, .int x5), (6, .int x6), (7, .int x7), (8, .int x8)]) hx hb dX6_isEdited_249 hl (by decide) rfl (fun ls hl => ?_)
  refine lv_iload hx hb dX6_isEdited_251 (lv_at hl 8 rfl) ?_
  refine lv_if_eq (tgt := 262) hx hb dX6_isEdited_253 rfl (fun cd17 => ?_) (fun cd17 => ?_)
  · replace hm := zt cd17 hm
    exact b_M_isEdited_262 G0 hK hX _ _ _ _ _ _ _ _ _ hm H _ _ hP hD hS (lv_sub hl [1, 2, 3, 4, 5, 6, 7, 8, 0] rfl)
  · replace hm := zf cd17 hm
    refine lv_iload hx hb dX6_isEdited_256 (lv_at hl 0 rfl) ?_
    refine lv_iconst (v := 2) hx hb dX6_isEdited_258 (by decide) ?_
    refine lv_icmp_lt (tgt := 271) hx hb dX6_isEdited_259 rfl (fun cd60 => ?_) (fun cd60 => ?_)
    · replace hm := zt cd60 hm
      refine lv_iconst (v := 0) hx hb dX6_isEdited_271 (by decide) ?_
      obtain ⟨hz61, -, hm⟩ := zbo_s hm
      cases hm
      exact zretz hx hb hr hlk hz61 hP hD hS dX6_isEdited_272
    · replace hm := zf cd60 hm
      exact b_M_isEdited_262 G0 hK hX _ _ _ _ _ _ _ _ _ hm H _ _ hP hD hS (lv_sub hl [1, 2, 3, 4, 5, 6, 7, 8, 0] rfl)
set_option maxRecDepth 100000 in
set_option maxHeartbeats 4000000 in
theorem b_M_isEdited_232 (G : zG p s m args meth c cX6_isEdited RX6 18 (some .boolean)) (hK : va_K D vwCl (wM_t ca) s) (hX : zN (va_A w0 s.heap.size) s) {res : (Int32) × (Nat → Nat → Int32)} : ∀ (x1 : Int32) (x2 : Int32) (x3 : Int32) (x5 : Int32) (x6 : Int32) (x7 : Int32) (x8 : Int32) (u : Nat → Nat → Int32), m_M_isEdited_232 v x1 x2 x3 x5 x6 x7 x8 u = some res → zB p l e (zR 3 73) s m args below meth c D vwCl (va_A w0 s.heap.size) (MQ below (zQi D vwCl w0 (wM ad ca v res.2) s.heap.size res.1) args s 0 0 (va_A w0 s.heap.size)) 18 (wM ad ca v u) [(0, .ref (ad 0)), (1, .int x1), (2, .int x2), (3, .int x3), (5, .int x5), (6, .int x6), (7, .int x7), (8, .int x8)] 232 [] := by
  intro x1 x2 x3 x5 x6 x7 x8 u hm H locs ls hP hD hS hl
  unfold m_M_isEdited_232 at hm
  have G0 := G
  obtain ⟨hx, hb, hr, hml, hown, hw, hlk⟩ := G
  have hA : ∀ q, s.heap.size ≤ q → va_A w0 s.heap.size q := fun q h => Or.inr h
  refine lv_iload hx hb dX6_isEdited_232 (lv_at hl 6 rfl) ?_
  refine lv_if_ne (tgt := 241) hx hb dX6_isEdited_234 rfl (fun cd15 => ?_) (fun cd15 => ?_)
  · replace hm := zf cd15 hm
    refine lv_aload_n hx hb dX6_isEdited_241 rfl (lv_at hl 0 rfl) ?_
    refine lv_iload hx hb dX6_isEdited_242 (lv_at hl 6 rfl) ?_
    refine lv_iload_n hx hb dX6_isEdited_244 rfl (lv_at hl 3 rfl) ?_
    refine lv_iload_n hx hb dX6_isEdited_245 rfl (lv_at hl 2 rfl) ?_
    obtain ⟨q16, hq16, hm⟩ := zbind hm
    refine zbWi (va_runV (As := [.int x7, .int x3, .int x2]) (rest := []) ⟨hx, hb, hml, hown, hw⟩ (k_M_countOf l D ad ca _ x7 x3 x2 v u  q16 hq16) (zcV (C := RX6) 3 hw (zgood zw38) rfl rfl rfl zw7 zw40 zw39 zw41 hdX6_countOf ⟨Nat.le_of_ble_eq_true rfl, Nat.le_of_ble_eq_true rfl⟩) (zpreV (zpre zN_ok trivial hS (zfree hD hS hA) hP hK hD) (va_recv hK hP rfl (q0 := 0) rfl)) rfl rfl hl.1 rfl (lv_room (Nat.le_of_ble_eq_true rfl)) dX6_isEdited_246 ⟨Nat.zero_le _, Nat.zero_le _⟩) hS (zfree hD hS hA) (fun H locs hP hD hS => ?_)
    exact b_M_isEdited_249 G0 hK hX _ _ _ _ _ _ _ _ _ hm H _ _ hP hD hS hl
  · replace hm := zt cd15 hm
    refine lv_iconst (v := 0) hx hb dX6_isEdited_237 (by decide) ?_
    refine lv_goto (tgt := 249) hx hb dX6_isEdited_238 rfl ?_
    exact b_M_isEdited_249 G0 hK hX _ _ _ _ _ _ _ _ _ hm H _ _ hP hD hS hl
set_option maxRecDepth 100000 in
set_option maxHeartbeats 4000000 in
theorem b_M_isEdited_212 (G : zG p s m args meth c cX6_isEdited RX6 18 (some .boolean)) (hK : va_K D vwCl (wM_t ca) s) (hX : zN (va_A w0 s.heap.size) s) {res : (Int32) × (Nat → Nat → Int32)} : ∀ (x1 : Int32) (x2 : Int32) (x3 : Int32) (x5 : Int32) (x6 : Int32) (x7 : Int32) (x8 : Int32) (u : Nat → Nat → Int32), m_M_isEdited_212 v x1 x2 x3 x5 x6 x7 x8 u = some res → zB p l e (zR 3 73) s m args below meth c D vwCl (va_A w0 s.heap.size) (MQ below (zQi D vwCl w0 (wM ad ca v res.2) s.heap.size res.1) args s 0 0 (va_A w0 s.heap.size)) 18 (wM ad ca v u) [(0, .ref (ad 0)), (1, .int x1), (2, .int x2), (3, .int x3), (5, .int x5), (6, .int x6), (7, .int x7), (8, .int x8)] 212 [] := by
  intro x1 x2 x3 x5 x6 x7 x8 u hm H locs ls hP hD hS hl
  unfold m_M_isEdited_212 at hm
  have G0 := G
  obtain ⟨hx, hb, hr, hml, hown, hw, hlk⟩ := G
  have hA : ∀ q, s.heap.size ≤ q → va_A w0 s.heap.size q := fun q h => Or.inr h
  refine lv_iload hx hb dX6_isEdited_212 (lv_at hl 6 rfl) ?_
  obtain ⟨q13, hq13, hm⟩ := zbind hm
  refine zb0i (va_runS (As := [.int x7]) (rest := []) ⟨hx, hb, hml, hown, hw⟩ (k_M_isSign l D  _ x7  q13 hq13) ⟨zcB 1 hw (zgood zw65) rfl rfl rfl zw7 zw67 hdX6_isSign ⟨Nat.le_of_ble_eq_true rfl, Nat.le_of_ble_eq_true rfl⟩, hw _ zw66⟩ (zpre zN_ok trivial hS (zfree0 hS hA) zP0 (hK.sub (tys' := []) [] rfl) zD0) rfl rfl hl.1 rfl (lv_room (Nat.le_of_ble_eq_true rfl)) dX6_isEdited_214 ⟨Nat.zero_le _, Nat.zero_le _⟩) hP hD hS (zfree0 hS hA) (fun H locs hP hD hS => ?_)
  refine lv_if_eq (tgt := 232) hx hb dX6_isEdited_217 rfl (fun cd14 => ?_) (fun cd14 => ?_)
  · replace hm := zt cd14 hm
    exact b_M_isEdited_232 G0 hK hX _ _ _ _ _ _ _ _ hm H _ _ hP hD hS hl
  · replace hm := zf cd14 hm
    refine lv_iload hx hb dX6_isEdited_220 (lv_at hl 4 rfl) ?_
    refine lv_if_ne (tgt := 230) hx hb dX6_isEdited_222 rfl (fun cd62 => ?_) (fun cd62 => ?_)
    · replace hm := zf cd62 hm
      refine lv_iconst (v := 0) hx hb dX6_isEdited_230 (by decide) ?_
      obtain ⟨hz63, -, hm⟩ := zbo_s hm
      cases hm
      exact zretz hx hb hr hlk hz63 hP hD hS dX6_isEdited_231
    · replace hm := zt cd62 hm
      refine lv_iload hx hb dX6_isEdited_225 (lv_at hl 5 rfl) ?_
      refine lv_if_eq (tgt := 232) hx hb dX6_isEdited_227 rfl (fun cd64 => ?_) (fun cd64 => ?_)
      · replace hm := zt cd64 hm
        exact b_M_isEdited_232 G0 hK hX _ _ _ _ _ _ _ _ hm H _ _ hP hD hS hl
      · replace hm := zf cd64 hm
        refine lv_iconst (v := 0) hx hb dX6_isEdited_230 (by decide) ?_
        obtain ⟨hz65, -, hm⟩ := zbo_s hm
        cases hm
        exact zretz hx hb hr hlk hz65 hP hD hS dX6_isEdited_231
set_option maxRecDepth 100000 in
set_option maxHeartbeats 4000000 in
theorem b_M_isEdited_200 (G : zG p s m args meth c cX6_isEdited RX6 18 (some .boolean)) (hK : va_K D vwCl (wM_t ca) s) (hX : zN (va_A w0 s.heap.size) s) {res : (Int32) × (Nat → Nat → Int32)} : ∀ (x1 : Int32) (x2 : Int32) (x3 : Int32) (x5 : Int32) (x6 : Int32) (x7 : Int32) (t0 : Int32) (u : Nat → Nat → Int32), m_M_isEdited_200 v x1 x2 x3 x5 x6 x7 t0 u = some res → zB p l e (zR 3 73) s m args below meth c D vwCl (va_A w0 s.heap.size) (MQ below (zQi D vwCl w0 (wM ad ca v res.2) s.heap.size res.1) args s 0 0 (va_A w0 s.heap.size)) 18 (wM ad ca v u) [(0, .ref (ad 0)), (1, .int x1), (2, .int x2), (3, .int x3), (5, .int x5), (6, .int x6), (7, .int x7)] 200 [.int t0] := by
  intro x1 x2 x3 x5 x6 x7 t0 u hm H locs ls hP hD hS hl
  unfold m_M_isEdited_200 at hm
  have G0 := G
  obtain ⟨hx, hb, hr, hml, hown, hw, hlk⟩ := G
  have hA : ∀ q, s.heap.size ≤ q → va_A w0 s.heap.size q := fun q h => Or.inr h
  refine lv_istore (lv' := [(8, .int t0), (0, .ref (ad 0)), (1, .int x1), (2, .int x2), (3, .int x3), (5, .int x5), (6, .int x6), (7, .int x7)]) hx hb dX6_isEdited_200 hl (by decide) rfl (fun ls hl => ?_)
  refine lv_iload hx hb dX6_isEdited_202 (lv_at hl 5 rfl) ?_
  refine lv_if_eq (tgt := 212) hx hb dX6_isEdited_204 rfl (fun cd12 => ?_) (fun cd12 => ?_)
  · replace hm := zt cd12 hm
    exact b_M_isEdited_212 G0 hK hX _ _ _ _ _ _ _ _ hm H _ _ hP hD hS (lv_sub hl [1, 2, 3, 4, 5, 6, 7, 0] rfl)
  · replace hm := zf cd12 hm
    refine lv_iload hx hb dX6_isEdited_207 (lv_at hl 6 rfl) ?_
    refine lv_if_ne (tgt := 230) hx hb dX6_isEdited_209 rfl (fun cd66 => ?_) (fun cd66 => ?_)
    · replace hm := zf cd66 hm
      refine lv_iconst (v := 0) hx hb dX6_isEdited_230 (by decide) ?_
      obtain ⟨hz67, -, hm⟩ := zbo_s hm
      cases hm
      exact zretz hx hb hr hlk hz67 hP hD hS dX6_isEdited_231
    · replace hm := zt cd66 hm
      exact b_M_isEdited_212 G0 hK hX _ _ _ _ _ _ _ _ hm H _ _ hP hD hS (lv_sub hl [1, 2, 3, 4, 5, 6, 7, 0] rfl)
set_option maxRecDepth 100000 in
set_option maxHeartbeats 4000000 in
theorem b_M_isEdited_195 (G : zG p s m args meth c cX6_isEdited RX6 18 (some .boolean)) (hK : va_K D vwCl (wM_t ca) s) (hX : zN (va_A w0 s.heap.size) s) {res : (Int32) × (Nat → Nat → Int32)} : ∀ (x1 : Int32) (x2 : Int32) (x3 : Int32) (x5 : Int32) (x6 : Int32) (x7 : Int32) (u : Nat → Nat → Int32), m_M_isEdited_195 v x1 x2 x3 x5 x6 x7 u = some res → zB p l e (zR 3 73) s m args below meth c D vwCl (va_A w0 s.heap.size) (MQ below (zQi D vwCl w0 (wM ad ca v res.2) s.heap.size res.1) args s 0 0 (va_A w0 s.heap.size)) 18 (wM ad ca v u) [(0, .ref (ad 0)), (1, .int x1), (2, .int x2), (3, .int x3), (5, .int x5), (6, .int x6), (7, .int x7)] 195 [] := by
  intro x1 x2 x3 x5 x6 x7 u hm H locs ls hP hD hS hl
  unfold m_M_isEdited_195 at hm
  have G0 := G
  obtain ⟨hx, hb, hr, hml, hown, hw, hlk⟩ := G
  have hA : ∀ q, s.heap.size ≤ q → va_A w0 s.heap.size q := fun q h => Or.inr h
  refine lv_iconst (v := 1) hx hb dX6_isEdited_195 (by decide) ?_
  refine lv_goto (tgt := 200) hx hb dX6_isEdited_196 rfl ?_
  exact b_M_isEdited_200 G0 hK hX _ _ _ _ _ _ _ _ hm H _ _ hP hD hS hl
set_option maxRecDepth 100000 in
set_option maxHeartbeats 4000000 in
theorem b_M_isEdited_154 (G : zG p s m args meth c cX6_isEdited RX6 18 (some .boolean)) (hK : va_K D vwCl (wM_t ca) s) (hX : zN (va_A w0 s.heap.size) s) {res : (Int32) × (Nat → Nat → Int32)} : ∀ (x1 : Int32) (x2 : Int32) (x3 : Int32) (x5 : Int32) (x6 : Int32) (u : Nat → Nat → Int32), m_M_isEdited_154 v x1 x2 x3 x5 x6 u = some res → zB p l e (zR 3 73) s m args below meth c D vwCl (va_A w0 s.heap.size) (MQ below (zQi D vwCl w0 (wM ad ca v res.2) s.heap.size res.1) args s 0 0 (va_A w0 s.heap.size)) 18 (wM ad ca v u) [(0, .ref (ad 0)), (1, .int x1), (2, .int x2), (3, .int x3), (5, .int x5), (6, .int x6)] 154 [] := by
  intro x1 x2 x3 x5 x6 u hm H locs ls hP hD hS hl
  unfold m_M_isEdited_154 at hm
  have G0 := G
  obtain ⟨hx, hb, hr, hml, hown, hw, hlk⟩ := G
  have hA : ∀ q, s.heap.size ≤ q → va_A w0 s.heap.size q := fun q h => Or.inr h
  refine lv_aload_n hx hb dX6_isEdited_154 rfl (lv_at hl 0 rfl) ?_
  refine lv_iload_n hx hb dX6_isEdited_155 rfl (lv_at hl 3 rfl) ?_
  refine lv_iload_n hx hb dX6_isEdited_156 rfl (lv_at hl 2 rfl) ?_
  obtain ⟨q8, hq8, hm⟩ := zbind hm
  refine zbWi (va_runV (As := [.int x3, .int x2]) (rest := []) ⟨hx, hb, hml, hown, hw⟩ (k_M_body l D ad ca _ x3 x2 v u  q8 hq8) (zcV (C := RX6) 2 hw (zgood zw61) rfl rfl rfl zw7 zw63 zw62 zw64 hdX6_body ⟨Nat.le_of_ble_eq_true rfl, Nat.le_of_ble_eq_true rfl⟩) (zpreV (zpre zN_ok trivial hS (zfree hD hS hA) hP hK hD) (va_recv hK hP rfl (q0 := 0) rfl)) rfl rfl hl.1 rfl (lv_room (Nat.le_of_ble_eq_true rfl)) dX6_isEdited_157 ⟨Nat.zero_le _, Nat.zero_le _⟩) hS (zfree hD hS hA) (fun H locs hP hD hS => ?_)
  have hP : va_P D vwCl (wM ad ca v q8.2) H := hP
  have hD : va_D _ (wM ad ca v q8.2) := hD
  refine lv_if_ne (tgt := 165) hx hb dX6_isEdited_160 rfl (fun cd9 => ?_) (fun cd9 => ?_)
  · replace hm := zf cd9 hm
    refine lv_aload_n hx hb dX6_isEdited_165 rfl (lv_at hl 0 rfl) ?_
    refine va_get (D := D) (ci := 5) (v := .ref (ad 11)) (C := RX6) (T := TX6) (N := 24) hx hb hw zinX6 hown hK hP 0 rfl rfl 13 (by decide) (hw _ zw51) (fun _ h9 => h9) rfl dX6_isEdited_166 ?_
    refine lv_bipush (v := 8) hx hb dX6_isEdited_169 (by decide) ?_
    obtain ⟨hi10, hm⟩ := zix_s hm
    refine va_iald (i := 8) (f := (q8.2 11)) (n := 9) hx hb hK hP 11 10 rfl rfl hi10 dX6_isEdited_171 ?_
    refine lv_istore (lv' := [(7, .int ((q8.2 11) (8 : Int32).toNatClampNeg)), (0, .ref (ad 0)), (1, .int x1), (2, .int x2), (3, .int x3), (5, .int x5), (6, .int x6)]) hx hb dX6_isEdited_172 hl (by decide) rfl (fun ls hl => ?_)
    refine lv_iload hx hb dX6_isEdited_174 (lv_at hl 0 rfl) ?_
    refine lv_bipush (v := 43) hx hb dX6_isEdited_176 (by decide) ?_
    refine lv_icmp_eq (tgt := 195) hx hb dX6_isEdited_178 rfl (fun cd11 => ?_) (fun cd11 => ?_)
    · replace hm := zt cd11 hm
      exact b_M_isEdited_195 G0 hK hX _ _ _ _ _ _ _ hm H _ _ hP hD hS (lv_sub hl [1, 2, 3, 4, 5, 6, 0] rfl)
    · replace hm := zf cd11 hm
      refine lv_iload hx hb dX6_isEdited_181 (lv_at hl 0 rfl) ?_
      refine lv_bipush (v := 45) hx hb dX6_isEdited_183 (by decide) ?_
      refine lv_icmp_eq (tgt := 195) hx hb dX6_isEdited_185 rfl (fun cd68 => ?_) (fun cd68 => ?_)
      · replace hm := zt cd68 hm
        exact b_M_isEdited_195 G0 hK hX _ _ _ _ _ _ _ hm H _ _ hP hD hS (lv_sub hl [1, 2, 3, 4, 5, 6, 0] rfl)
      · replace hm := zf cd68 hm
        refine lv_iload hx hb dX6_isEdited_188 (lv_at hl 0 rfl) ?_
        refine lv_bipush (v := 36) hx hb dX6_isEdited_190 (by decide) ?_
        refine lv_icmp_ne (tgt := 199) hx hb dX6_isEdited_192 rfl (fun cd69 => ?_) (fun cd69 => ?_)
        · replace hm := zf cd69 hm
          refine lv_iconst (v := 0) hx hb dX6_isEdited_199 (by decide) ?_
          exact b_M_isEdited_200 G0 hK hX _ _ _ _ _ _ _ _ hm H _ _ hP hD hS (lv_sub hl [1, 2, 3, 4, 5, 6, 0] rfl)
        · replace hm := zt cd69 hm
          exact b_M_isEdited_195 G0 hK hX _ _ _ _ _ _ _ hm H _ _ hP hD hS (lv_sub hl [1, 2, 3, 4, 5, 6, 0] rfl)
  · replace hm := zt cd9 hm
    refine lv_iconst (v := 0) hx hb dX6_isEdited_163 (by decide) ?_
    obtain ⟨hz70, -, hm⟩ := zbo_s hm
    cases hm
    exact zretz hx hb hr hlk hz70 hP hD hS dX6_isEdited_164
set_option maxRecDepth 100000 in
set_option maxHeartbeats 4000000 in
theorem b_M_isEdited_122 (G : zG p s m args meth c cX6_isEdited RX6 18 (some .boolean)) (hK : va_K D vwCl (wM_t ca) s) (hX : zN (va_A w0 s.heap.size) s) {res : (Int32) × (Nat → Nat → Int32)} : ∀ (x1 : Int32) (x2 : Int32) (x3 : Int32) (x5 : Int32) (x6 : Int32) (u : Nat → Nat → Int32), m_M_isEdited_122 v x1 x2 x3 x5 x6 u = some res → zB p l e (zR 3 73) s m args below meth c D vwCl (va_A w0 s.heap.size) (MQ below (zQi D vwCl w0 (wM ad ca v res.2) s.heap.size res.1) args s 0 0 (va_A w0 s.heap.size)) 18 (wM ad ca v u) [(0, .ref (ad 0)), (1, .int x1), (2, .int x2), (3, .int x3), (5, .int x5), (6, .int x6)] 122 [] := by
  intro x1 x2 x3 x5 x6 u hm H locs ls hP hD hS hl
  unfold m_M_isEdited_122 at hm
  have G0 := G
  obtain ⟨hx, hb, hr, hml, hown, hw, hlk⟩ := G
  have hA : ∀ q, s.heap.size ≤ q → va_A w0 s.heap.size q := fun q h => Or.inr h
  refine lv_iload_n hx hb dX6_isEdited_122 rfl (lv_at hl 2 rfl) ?_
  refine lv_iload_n hx hb dX6_isEdited_123 rfl (lv_at hl 3 rfl) ?_
  refine lv_icmp_le (tgt := 154) hx hb dX6_isEdited_124 rfl (fun cd7 => ?_) (fun cd7 => ?_)
  · replace hm := zt cd7 hm
    exact b_M_isEdited_154 G0 hK hX _ _ _ _ _ _ hm H _ _ hP hD hS hl
  · replace hm := zf cd7 hm
    refine lv_aload_n hx hb dX6_isEdited_127 rfl (lv_at hl 0 rfl) ?_
    refine lv_bipush (v := 8) hx hb dX6_isEdited_128 (by decide) ?_
    refine lv_iload_n hx hb dX6_isEdited_130 rfl (lv_at hl 3 rfl) ?_
    obtain ⟨q71, hq71, hm⟩ := zbind hm
    refine zbWi (va_runV (As := [.int 8, .int x3]) (rest := []) ⟨hx, hb, hml, hown, hw⟩ (k_M_sym l D ad ca _ 8 x3 v u  q71 hq71) (zcV (C := RX6) 2 hw (zgood zw14) rfl rfl rfl zw7 zw16 zw15 zw17 hdX6_sym ⟨Nat.le_of_ble_eq_true rfl, Nat.le_of_ble_eq_true rfl⟩) (zpreV (zpre zN_ok trivial hS (zfree hD hS hA) hP hK hD) (va_recv hK hP rfl (q0 := 0) rfl)) rfl rfl hl.1 rfl (lv_room (Nat.le_of_ble_eq_true rfl)) dX6_isEdited_131 ⟨Nat.zero_le _, Nat.zero_le _⟩) hS (zfree hD hS hA) (fun H locs hP hD hS => ?_)
    refine lv_bipush (v := 36) hx hb dX6_isEdited_134 (by decide) ?_
    refine lv_icmp_ne (tgt := 154) hx hb dX6_isEdited_136 rfl (fun cd72 => ?_) (fun cd72 => ?_)
    · replace hm := zf cd72 hm
      exact b_M_isEdited_154 G0 hK hX _ _ _ _ _ _ hm H _ _ hP hD hS hl
    · replace hm := zt cd72 hm
      refine lv_aload_n hx hb dX6_isEdited_139 rfl (lv_at hl 0 rfl) ?_
      refine lv_bipush (v := 36) hx hb dX6_isEdited_140 (by decide) ?_
      refine lv_iload_n hx hb dX6_isEdited_142 rfl (lv_at hl 3 rfl) ?_
      refine lv_iload_n hx hb dX6_isEdited_143 rfl (lv_at hl 2 rfl) ?_
      obtain ⟨q73, hq73, hm⟩ := zbind hm
      refine zbWi (va_runV (As := [.int 36, .int x3, .int x2]) (rest := []) ⟨hx, hb, hml, hown, hw⟩ (k_M_countOf l D ad ca _ 36 x3 x2 v u  q73 hq73) (zcV (C := RX6) 3 hw (zgood zw38) rfl rfl rfl zw7 zw40 zw39 zw41 hdX6_countOf ⟨Nat.le_of_ble_eq_true rfl, Nat.le_of_ble_eq_true rfl⟩) (zpreV (zpre zN_ok trivial hS (zfree hD hS hA) hP hK hD) (va_recv hK hP rfl (q0 := 0) rfl)) rfl rfl hl.1 rfl (lv_room (Nat.le_of_ble_eq_true rfl)) dX6_isEdited_144 ⟨Nat.zero_le _, Nat.zero_le _⟩) hS (zfree hD hS hA) (fun H locs hP hD hS => ?_)
      refine lv_iconst (v := 1) hx hb dX6_isEdited_147 (by decide) ?_
      refine lv_icmp_ne (tgt := 154) hx hb dX6_isEdited_148 rfl (fun cd74 => ?_) (fun cd74 => ?_)
      · replace hm := zf cd74 hm
        exact b_M_isEdited_154 G0 hK hX _ _ _ _ _ _ hm H _ _ hP hD hS hl
      · replace hm := zt cd74 hm
        refine lv_iinc (k := 3) (v := (x3 + 1)) (lv' := [(3, .int (x3 + 1)), (0, .ref (ad 0)), (1, .int x1), (2, .int x2), (5, .int x5), (6, .int x6)]) hx hb dX6_isEdited_151 hl rfl rfl (by decide) rfl (fun ls hl => ?_)
        exact b_M_isEdited_154 G0 hK hX _ _ _ _ _ _ hm H _ _ hP hD hS (lv_sub hl [1, 2, 3, 0, 4, 5] rfl)
set_option maxRecDepth 100000 in
set_option maxHeartbeats 4000000 in
theorem b_M_isEdited_112 (G : zG p s m args meth c cX6_isEdited RX6 18 (some .boolean)) (hK : va_K D vwCl (wM_t ca) s) (hX : zN (va_A w0 s.heap.size) s) {res : (Int32) × (Nat → Nat → Int32)} : ∀ (x1 : Int32) (x2 : Int32) (x3 : Int32) (x5 : Int32) (t0 : Int32) (u : Nat → Nat → Int32), m_M_isEdited_112 v x1 x2 x3 x5 t0 u = some res → zB p l e (zR 3 73) s m args below meth c D vwCl (va_A w0 s.heap.size) (MQ below (zQi D vwCl w0 (wM ad ca v res.2) s.heap.size res.1) args s 0 0 (va_A w0 s.heap.size)) 18 (wM ad ca v u) [(0, .ref (ad 0)), (1, .int x1), (2, .int x2), (3, .int x3), (5, .int x5)] 112 [.int t0] := by
  intro x1 x2 x3 x5 t0 u hm H locs ls hP hD hS hl
  unfold m_M_isEdited_112 at hm
  have G0 := G
  obtain ⟨hx, hb, hr, hml, hown, hw, hlk⟩ := G
  have hA : ∀ q, s.heap.size ≤ q → va_A w0 s.heap.size q := fun q h => Or.inr h
  refine lv_istore (lv' := [(6, .int t0), (0, .ref (ad 0)), (1, .int x1), (2, .int x2), (3, .int x3), (5, .int x5)]) hx hb dX6_isEdited_112 hl (by decide) rfl (fun ls hl => ?_)
  refine lv_iload hx hb dX6_isEdited_114 (lv_at hl 0 rfl) ?_
  refine lv_if_eq (tgt := 122) hx hb dX6_isEdited_116 rfl (fun cd6 => ?_) (fun cd6 => ?_)
  · replace hm := zt cd6 hm
    exact b_M_isEdited_122 G0 hK hX _ _ _ _ _ _ hm H _ _ hP hD hS (lv_sub hl [1, 2, 3, 4, 5, 0] rfl)
  · replace hm := zf cd6 hm
    refine lv_iinc (k := 4) (v := (x3 + 1)) (lv' := [(3, .int (x3 + 1)), (6, .int t0), (0, .ref (ad 0)), (1, .int x1), (2, .int x2), (5, .int x5)]) hx hb dX6_isEdited_119 hl rfl rfl (by decide) rfl (fun ls hl => ?_)
    exact b_M_isEdited_122 G0 hK hX _ _ _ _ _ _ hm H _ _ hP hD hS (lv_sub hl [2, 3, 4, 0, 5, 1] rfl)
set_option maxRecDepth 100000 in
set_option maxHeartbeats 4000000 in
theorem b_M_isEdited_111 (G : zG p s m args meth c cX6_isEdited RX6 18 (some .boolean)) (hK : va_K D vwCl (wM_t ca) s) (hX : zN (va_A w0 s.heap.size) s) {res : (Int32) × (Nat → Nat → Int32)} : ∀ (x1 : Int32) (x2 : Int32) (x3 : Int32) (x5 : Int32) (u : Nat → Nat → Int32), m_M_isEdited_111 v x1 x2 x3 x5 u = some res → zB p l e (zR 3 73) s m args below meth c D vwCl (va_A w0 s.heap.size) (MQ below (zQi D vwCl w0 (wM ad ca v res.2) s.heap.size res.1) args s 0 0 (va_A w0 s.heap.size)) 18 (wM ad ca v u) [(0, .ref (ad 0)), (1, .int x1), (2, .int x2), (3, .int x3), (5, .int x5)] 111 [] := by
  intro x1 x2 x3 x5 u hm H locs ls hP hD hS hl
  unfold m_M_isEdited_111 at hm
  have G0 := G
  obtain ⟨hx, hb, hr, hml, hown, hw, hlk⟩ := G
  have hA : ∀ q, s.heap.size ≤ q → va_A w0 s.heap.size q := fun q h => Or.inr h
  refine lv_iconst (v := 0) hx hb dX6_isEdited_111 (by decide) ?_
  exact b_M_isEdited_112 G0 hK hX _ _ _ _ _ _ hm H _ _ hP hD hS hl
set_option maxRecDepth 100000 in
set_option maxHeartbeats 4000000 in
theorem b_M_isEdited_72 (G : zG p s m args meth c cX6_isEdited RX6 18 (some .boolean)) (hK : va_K D vwCl (wM_t ca) s) (hX : zN (va_A w0 s.heap.size) s) {res : (Int32) × (Nat → Nat → Int32)} : ∀ (x1 : Int32) (x2 : Int32) (x3 : Int32) (x5 : Int32) (u : Nat → Nat → Int32), m_M_isEdited_72 v x1 x2 x3 x5 u = some res → zB p l e (zR 3 73) s m args below meth c D vwCl (va_A w0 s.heap.size) (MQ below (zQi D vwCl w0 (wM ad ca v res.2) s.heap.size res.1) args s 0 0 (va_A w0 s.heap.size)) 18 (wM ad ca v u) [(0, .ref (ad 0)), (1, .int x1), (2, .int x2), (3, .int x3), (5, .int x5)] 72 [] := by
  intro x1 x2 x3 x5 u hm H locs ls hP hD hS hl
  unfold m_M_isEdited_72 at hm
  have G0 := G
  obtain ⟨hx, hb, hr, hml, hown, hw, hlk⟩ := G
  have hA : ∀ q, s.heap.size ≤ q → va_A w0 s.heap.size q := fun q h => Or.inr h
  refine lv_iload_n hx hb dX6_isEdited_72 rfl (lv_at hl 2 rfl) ?_
  refine lv_iload_n hx hb dX6_isEdited_73 rfl (lv_at hl 3 rfl) ?_
  refine lv_icmp_le (tgt := 111) hx hb dX6_isEdited_74 rfl (fun cd5 => ?_) (fun cd5 => ?_)
  · replace hm := zt cd5 hm
    exact b_M_isEdited_111 G0 hK hX _ _ _ _ _ hm H _ _ hP hD hS hl
  · replace hm := zf cd5 hm
    refine lv_aload_n hx hb dX6_isEdited_77 rfl (lv_at hl 0 rfl) ?_
    refine lv_bipush (v := 8) hx hb dX6_isEdited_78 (by decide) ?_
    refine lv_iload_n hx hb dX6_isEdited_80 rfl (lv_at hl 3 rfl) ?_
    obtain ⟨q75, hq75, hm⟩ := zbind hm
    refine zbWi (va_runV (As := [.int 8, .int x3]) (rest := []) ⟨hx, hb, hml, hown, hw⟩ (k_M_sym l D ad ca _ 8 x3 v u  q75 hq75) (zcV (C := RX6) 2 hw (zgood zw14) rfl rfl rfl zw7 zw16 zw15 zw17 hdX6_sym ⟨Nat.le_of_ble_eq_true rfl, Nat.le_of_ble_eq_true rfl⟩) (zpreV (zpre zN_ok trivial hS (zfree hD hS hA) hP hK hD) (va_recv hK hP rfl (q0 := 0) rfl)) rfl rfl hl.1 rfl (lv_room (Nat.le_of_ble_eq_true rfl)) dX6_isEdited_81 ⟨Nat.zero_le _, Nat.zero_le _⟩) hS (zfree hD hS hA) (fun H locs hP hD hS => ?_)
    obtain ⟨q76, hq76, hm⟩ := zbind hm
    refine zb0i (va_runS (As := [.int q75]) (rest := []) ⟨hx, hb, hml, hown, hw⟩ (k_M_isSign l D  _ q75  q76 hq76) ⟨zcB 1 hw (zgood zw65) rfl rfl rfl zw7 zw67 hdX6_isSign ⟨Nat.le_of_ble_eq_true rfl, Nat.le_of_ble_eq_true rfl⟩, hw _ zw66⟩ (zpre zN_ok trivial hS (zfree0 hS hA) zP0 (hK.sub (tys' := []) [] rfl) zD0) rfl rfl hl.1 rfl (lv_room (Nat.le_of_ble_eq_true rfl)) dX6_isEdited_84 ⟨Nat.zero_le _, Nat.zero_le _⟩) hP hD hS (zfree0 hS hA) (fun H locs hP hD hS => ?_)
    refine lv_if_eq (tgt := 111) hx hb dX6_isEdited_87 rfl (fun cd77 => ?_) (fun cd77 => ?_)
    · replace hm := zt cd77 hm
      exact b_M_isEdited_111 G0 hK hX _ _ _ _ _ hm H _ _ hP hD hS hl
    · replace hm := zf cd77 hm
      refine lv_aload_n hx hb dX6_isEdited_90 rfl (lv_at hl 0 rfl) ?_
      refine lv_aload_n hx hb dX6_isEdited_91 rfl (lv_at hl 0 rfl) ?_
      refine lv_bipush (v := 8) hx hb dX6_isEdited_92 (by decide) ?_
      refine lv_iload_n hx hb dX6_isEdited_94 rfl (lv_at hl 3 rfl) ?_
      obtain ⟨q78, hq78, hm⟩ := zbind hm
      refine zbWi (va_runV (As := [.int 8, .int x3]) (rest := [.ref (ad 0)]) ⟨hx, hb, hml, hown, hw⟩ (k_M_sym l D ad ca _ 8 x3 v u  q78 hq78) (zcV (C := RX6) 2 hw (zgood zw14) rfl rfl rfl zw7 zw16 zw15 zw17 hdX6_sym ⟨Nat.le_of_ble_eq_true rfl, Nat.le_of_ble_eq_true rfl⟩) (zpreV (zpre zN_ok trivial hS (zfree hD hS hA) hP hK hD) (va_recv hK hP rfl (q0 := 0) rfl)) rfl rfl hl.1 rfl (lv_room (Nat.le_of_ble_eq_true rfl)) dX6_isEdited_95 ⟨Nat.zero_le _, Nat.zero_le _⟩) hS (zfree hD hS hA) (fun H locs hP hD hS => ?_)
      refine lv_iload_n hx hb dX6_isEdited_98 rfl (lv_at hl 3 rfl) ?_
      refine lv_iload_n hx hb dX6_isEdited_99 rfl (lv_at hl 2 rfl) ?_
      obtain ⟨q79, hq79, hm⟩ := zbind hm
      refine zbWi (va_runV (As := [.int q78, .int x3, .int x2]) (rest := []) ⟨hx, hb, hml, hown, hw⟩ (k_M_countOf l D ad ca _ q78 x3 x2 v u  q79 hq79) (zcV (C := RX6) 3 hw (zgood zw38) rfl rfl rfl zw7 zw40 zw39 zw41 hdX6_countOf ⟨Nat.le_of_ble_eq_true rfl, Nat.le_of_ble_eq_true rfl⟩) (zpreV (zpre zN_ok trivial hS (zfree hD hS hA) hP hK hD) (va_recv hK hP rfl (q0 := 0) rfl)) rfl rfl hl.1 rfl (lv_room (Nat.le_of_ble_eq_true rfl)) dX6_isEdited_100 ⟨Nat.zero_le _, Nat.zero_le _⟩) hS (zfree hD hS hA) (fun H locs hP hD hS => ?_)
      refine lv_iconst (v := 1) hx hb dX6_isEdited_103 (by decide) ?_
      refine lv_icmp_ne (tgt := 111) hx hb dX6_isEdited_104 rfl (fun cd80 => ?_) (fun cd80 => ?_)
      · replace hm := zf cd80 hm
        exact b_M_isEdited_111 G0 hK hX _ _ _ _ _ hm H _ _ hP hD hS hl
      · replace hm := zt cd80 hm
        refine lv_iconst (v := 1) hx hb dX6_isEdited_107 (by decide) ?_
        refine lv_goto (tgt := 112) hx hb dX6_isEdited_108 rfl ?_
        exact b_M_isEdited_112 G0 hK hX _ _ _ _ _ _ hm H _ _ hP hD hS hl
set_option maxRecDepth 100000 in
set_option maxHeartbeats 4000000 in
theorem b_M_isEdited_62 (G : zG p s m args meth c cX6_isEdited RX6 18 (some .boolean)) (hK : va_K D vwCl (wM_t ca) s) (hX : zN (va_A w0 s.heap.size) s) {res : (Int32) × (Nat → Nat → Int32)} : ∀ (x1 : Int32) (x2 : Int32) (x3 : Int32) (t0 : Int32) (u : Nat → Nat → Int32), m_M_isEdited_62 v x1 x2 x3 t0 u = some res → zB p l e (zR 3 73) s m args below meth c D vwCl (va_A w0 s.heap.size) (MQ below (zQi D vwCl w0 (wM ad ca v res.2) s.heap.size res.1) args s 0 0 (va_A w0 s.heap.size)) 18 (wM ad ca v u) [(0, .ref (ad 0)), (1, .int x1), (2, .int x2), (3, .int x3)] 62 [.int t0] := by
  intro x1 x2 x3 t0 u hm H locs ls hP hD hS hl
  unfold m_M_isEdited_62 at hm
  have G0 := G
  obtain ⟨hx, hb, hr, hml, hown, hw, hlk⟩ := G
  have hA : ∀ q, s.heap.size ≤ q → va_A w0 s.heap.size q := fun q h => Or.inr h
  refine lv_istore (lv' := [(5, .int t0), (0, .ref (ad 0)), (1, .int x1), (2, .int x2), (3, .int x3)]) hx hb dX6_isEdited_62 hl (by decide) rfl (fun ls hl => ?_)
  refine lv_iload hx hb dX6_isEdited_64 (lv_at hl 0 rfl) ?_
  refine lv_if_eq (tgt := 72) hx hb dX6_isEdited_66 rfl (fun cd4 => ?_) (fun cd4 => ?_)
  · replace hm := zt cd4 hm
    exact b_M_isEdited_72 G0 hK hX _ _ _ _ _ hm H _ _ hP hD hS (lv_sub hl [1, 2, 3, 4, 0] rfl)
  · replace hm := zf cd4 hm
    refine lv_iinc (k := 3) (v := (x2 + (-1))) (lv' := [(2, .int (x2 + (-1))), (5, .int t0), (0, .ref (ad 0)), (1, .int x1), (3, .int x3)]) hx hb dX6_isEdited_69 hl rfl rfl (by decide) rfl (fun ls hl => ?_)
    exact b_M_isEdited_72 G0 hK hX _ _ _ _ _ hm H _ _ hP hD hS (lv_sub hl [2, 3, 0, 4, 1] rfl)
set_option maxRecDepth 100000 in
set_option maxHeartbeats 4000000 in
theorem b_M_isEdited_57 (G : zG p s m args meth c cX6_isEdited RX6 18 (some .boolean)) (hK : va_K D vwCl (wM_t ca) s) (hX : zN (va_A w0 s.heap.size) s) {res : (Int32) × (Nat → Nat → Int32)} : ∀ (x1 : Int32) (x2 : Int32) (x3 : Int32) (u : Nat → Nat → Int32), m_M_isEdited_57 v x1 x2 x3 u = some res → zB p l e (zR 3 73) s m args below meth c D vwCl (va_A w0 s.heap.size) (MQ below (zQi D vwCl w0 (wM ad ca v res.2) s.heap.size res.1) args s 0 0 (va_A w0 s.heap.size)) 18 (wM ad ca v u) [(0, .ref (ad 0)), (1, .int x1), (2, .int x2), (3, .int x3)] 57 [] := by
  intro x1 x2 x3 u hm H locs ls hP hD hS hl
  unfold m_M_isEdited_57 at hm
  have G0 := G
  obtain ⟨hx, hb, hr, hml, hown, hw, hlk⟩ := G
  have hA : ∀ q, s.heap.size ≤ q → va_A w0 s.heap.size q := fun q h => Or.inr h
  refine lv_iconst (v := 1) hx hb dX6_isEdited_57 (by decide) ?_
  refine lv_goto (tgt := 62) hx hb dX6_isEdited_58 rfl ?_
  exact b_M_isEdited_62 G0 hK hX _ _ _ _ _ hm H _ _ hP hD hS hl
set_option maxRecDepth 100000 in
set_option maxHeartbeats 4000000 in
theorem b_M_isEdited_61 (G : zG p s m args meth c cX6_isEdited RX6 18 (some .boolean)) (hK : va_K D vwCl (wM_t ca) s) (hX : zN (va_A w0 s.heap.size) s) {res : (Int32) × (Nat → Nat → Int32)} : ∀ (x1 : Int32) (x2 : Int32) (x3 : Int32) (u : Nat → Nat → Int32), m_M_isEdited_61 v x1 x2 x3 u = some res → zB p l e (zR 3 73) s m args below meth c D vwCl (va_A w0 s.heap.size) (MQ below (zQi D vwCl w0 (wM ad ca v res.2) s.heap.size res.1) args s 0 0 (va_A w0 s.heap.size)) 18 (wM ad ca v u) [(0, .ref (ad 0)), (1, .int x1), (2, .int x2), (3, .int x3)] 61 [] := by
  intro x1 x2 x3 u hm H locs ls hP hD hS hl
  unfold m_M_isEdited_61 at hm
  have G0 := G
  obtain ⟨hx, hb, hr, hml, hown, hw, hlk⟩ := G
  have hA : ∀ q, s.heap.size ≤ q → va_A w0 s.heap.size q := fun q h => Or.inr h
  refine lv_iconst (v := 0) hx hb dX6_isEdited_61 (by decide) ?_
  exact b_M_isEdited_62 G0 hK hX _ _ _ _ _ hm H _ _ hP hD hS hl
end
set_option maxRecDepth 100000 in
set_option maxHeartbeats 4000000 in
theorem k_M_isEdited (l : Launch) (D : va_G) (ad : Nat → Nat) (ca : Nat → ClassId) (sz : Nat)  (v : Nat → Int32) (u : Nat → Nat → Int32) (res : (Int32) × (Nat → Nat → Int32)) (hm : m_M_isEdited  v u  = some res) : Met l yX6_isEdited (Cond.code yX6_isEdited cX6_isEdited 18 (some .boolean) :: zBIG) (zR 3 73) (va_Pc [.ref (ad 0)] (zP zN D vwCl (wM_t ca) (wM ad ca v u) sz)) (zQi D vwCl (wM ad ca v u) (wM ad ca v res.2) sz res.1) 0 0 (va_A (wM ad ca v u) sz) := by
  refine zEnter RX6 [.ref (ad 0)] (by decide) rfl (Nat.le_of_ble_eq_true rfl) (fun p e s m below meth c ls G hK hX hP hD hsz hl => ?_)
  subst hsz
  unfold m_M_isEdited at hm
  have hl : lv_has ls 18 [(0, .ref (ad 0))] := hl
  have hS : va_S (va_A (wM ad ca v u) s.heap.size) s.heap s.heap [] := va_S.rf
  have hA : ∀ q, s.heap.size ≤ q → va_A (wM ad ca v u) s.heap.size q := fun q h => Or.inr h
  have G0 := G
  obtain ⟨hx, hb, hr, hml, hown, hw, hlk⟩ := G
  refine lv_aload_n hx hb dX6_isEdited_0 rfl (lv_at hl 0 rfl) ?_
  refine va_get (D := D) (ci := 5) (v := .ref (ad 2)) (C := RX6) (T := TX6) (N := 24) hx hb hw zinX6 hown hK hP 0 rfl rfl 4 (by decide) (hw _ zw5) (fun _ h9 => h9) rfl dX6_isEdited_1 ?_
  refine lv_bipush (v := 8) hx hb dX6_isEdited_4 (by decide) ?_
  obtain ⟨hi1, hm⟩ := zix_s hm
  refine va_iald (i := 8) (f := (u 2)) (n := 9) hx hb hK hP 2 1 rfl rfl hi1 dX6_isEdited_6 ?_
  refine lv_istore_n (lv' := [(1, .int ((u 2) (8 : Int32).toNatClampNeg)), (0, .ref (ad 0))]) hx hb dX6_isEdited_7 rfl hl (by decide) rfl (fun ls hl => ?_)
  refine lv_iload_n hx hb dX6_isEdited_8 rfl (lv_at hl 0 rfl) ?_
  refine lv_istore_n (lv' := [(2, .int ((u 2) (8 : Int32).toNatClampNeg)), (1, .int ((u 2) (8 : Int32).toNatClampNeg)), (0, .ref (ad 0))]) hx hb dX6_isEdited_9 rfl hl (by decide) rfl (fun ls hl => ?_)
  refine lv_iconst (v := 0) hx hb dX6_isEdited_10 (by decide) ?_
  refine lv_istore_n (lv' := [(3, .int 0), (2, .int ((u 2) (8 : Int32).toNatClampNeg)), (1, .int ((u 2) (8 : Int32).toNatClampNeg)), (0, .ref (ad 0))]) hx hb dX6_isEdited_11 rfl hl (by decide) rfl (fun ls hl => ?_)
  refine lv_aload_n hx hb dX6_isEdited_12 rfl (lv_at hl 3 rfl) ?_
  refine lv_bipush (v := 8) hx hb dX6_isEdited_13 (by decide) ?_
  refine lv_iload_n hx hb dX6_isEdited_15 rfl (lv_at hl 2 rfl) ?_
  refine lv_iconst (v := 1) hx hb dX6_isEdited_16 (by decide) ?_
  refine lv_isub hx hb dX6_isEdited_17 ?_
  obtain ⟨q2, hq2, hm⟩ := zbind hm
  refine zbWi (va_runV (As := [.int 8, .int (((u 2) (8 : Int32).toNatClampNeg) - 1)]) (rest := []) ⟨hx, hb, hml, hown, hw⟩ (k_M_sym l D ad ca _ 8 (((u 2) (8 : Int32).toNatClampNeg) - 1) v u  q2 hq2) (zcV (C := RX6) 2 hw (zgood zw14) rfl rfl rfl zw7 zw16 zw15 zw17 hdX6_sym ⟨Nat.le_of_ble_eq_true rfl, Nat.le_of_ble_eq_true rfl⟩) (zpreV (zpre zN_ok trivial hS (zfree hD hS hA) hP hK hD) (va_recv hK hP rfl (q0 := 0) rfl)) rfl rfl hl.1 rfl (lv_room (Nat.le_of_ble_eq_true rfl)) dX6_isEdited_18 ⟨Nat.zero_le _, Nat.zero_le _⟩) hS (zfree hD hS hA) (fun H locs hP hD hS => ?_)
  refine lv_istore (lv' := [(4, .int q2), (3, .int 0), (2, .int ((u 2) (8 : Int32).toNatClampNeg)), (1, .int ((u 2) (8 : Int32).toNatClampNeg)), (0, .ref (ad 0))]) hx hb dX6_isEdited_21 hl (by decide) rfl (fun ls hl => ?_)
  refine lv_iload hx hb dX6_isEdited_23 (lv_at hl 0 rfl) ?_
  refine lv_bipush (v := 67) hx hb dX6_isEdited_25 (by decide) ?_
  refine lv_icmp_eq (tgt := 57) hx hb dX6_isEdited_27 rfl (fun cd3 => ?_) (fun cd3 => ?_)
  · replace hm := zt cd3 hm
    exact b_M_isEdited_57 G0 hK hX _ _ _ _ hm _ _ _ hP hD hS (lv_sub hl [4, 3, 2, 1] rfl)
  · replace hm := zf cd3 hm
    refine lv_iload hx hb dX6_isEdited_30 (lv_at hl 0 rfl) ?_
    refine lv_bipush (v := 68) hx hb dX6_isEdited_32 (by decide) ?_
    refine lv_icmp_eq (tgt := 57) hx hb dX6_isEdited_34 rfl (fun cd81 => ?_) (fun cd81 => ?_)
    · replace hm := zt cd81 hm
      exact b_M_isEdited_57 G0 hK hX _ _ _ _ hm _ _ _ hP hD hS (lv_sub hl [4, 3, 2, 1] rfl)
    · replace hm := zf cd81 hm
      refine lv_iload hx hb dX6_isEdited_37 (lv_at hl 0 rfl) ?_
      obtain ⟨q82, hq82, hm⟩ := zbind hm
      refine zb0i (va_runS (As := [.int q2]) (rest := []) ⟨hx, hb, hml, hown, hw⟩ (k_M_isSign l D  _ q2  q82 hq82) ⟨zcB 1 hw (zgood zw65) rfl rfl rfl zw7 zw67 hdX6_isSign ⟨Nat.le_of_ble_eq_true rfl, Nat.le_of_ble_eq_true rfl⟩, hw _ zw66⟩ (zpre zN_ok trivial hS (zfree0 hS hA) zP0 (hK.sub (tys' := []) [] rfl) zD0) rfl rfl hl.1 rfl (lv_room (Nat.le_of_ble_eq_true rfl)) dX6_isEdited_39 ⟨Nat.zero_le _, Nat.zero_le _⟩) hP hD hS (zfree0 hS hA) (fun H locs hP hD hS => ?_)
      refine lv_if_eq (tgt := 61) hx hb dX6_isEdited_42 rfl (fun cd83 => ?_) (fun cd83 => ?_)
      · replace hm := zt cd83 hm
        exact b_M_isEdited_61 G0 hK hX _ _ _ _ hm _ _ _ hP hD hS (lv_sub hl [4, 3, 2, 1] rfl)
      · replace hm := zf cd83 hm
        refine lv_aload_n hx hb dX6_isEdited_45 rfl (lv_at hl 4 rfl) ?_
        refine lv_iload hx hb dX6_isEdited_46 (lv_at hl 0 rfl) ?_
        refine lv_iconst (v := 0) hx hb dX6_isEdited_48 (by decide) ?_
        refine lv_iload_n hx hb dX6_isEdited_49 rfl (lv_at hl 3 rfl) ?_
        obtain ⟨q84, hq84, hm⟩ := zbind hm
        refine zbWi (va_runV (As := [.int q2, .int 0, .int ((u 2) (8 : Int32).toNatClampNeg)]) (rest := []) ⟨hx, hb, hml, hown, hw⟩ (k_M_countOf l D ad ca _ q2 0 ((u 2) (8 : Int32).toNatClampNeg) v u  q84 hq84) (zcV (C := RX6) 3 hw (zgood zw38) rfl rfl rfl zw7 zw40 zw39 zw41 hdX6_countOf ⟨Nat.le_of_ble_eq_true rfl, Nat.le_of_ble_eq_true rfl⟩) (zpreV (zpre zN_ok trivial hS (zfree hD hS hA) hP hK hD) (va_recv hK hP rfl (q0 := 0) rfl)) rfl rfl hl.1 rfl (lv_room (Nat.le_of_ble_eq_true rfl)) dX6_isEdited_50 ⟨Nat.zero_le _, Nat.zero_le _⟩) hS (zfree hD hS hA) (fun H locs hP hD hS => ?_)
        refine lv_iconst (v := 1) hx hb dX6_isEdited_53 (by decide) ?_
        refine lv_icmp_ne (tgt := 61) hx hb dX6_isEdited_54 rfl (fun cd85 => ?_) (fun cd85 => ?_)
        · replace hm := zf cd85 hm
          exact b_M_isEdited_61 G0 hK hX _ _ _ _ hm _ _ _ hP hD hS (lv_sub hl [4, 3, 2, 1] rfl)
        · replace hm := zt cd85 hm
          exact b_M_isEdited_57 G0 hK hX _ _ _ _ hm _ _ _ hP hD hS (lv_sub hl [4, 3, 2, 1] rfl)

theorem dX6_reads_0 : decode cX6_reads 0 = .ok (.aload_n 0, 1) := by decide +kernel
theorem dX6_reads_1 : decode cX6_reads 1 = .ok (.invokevirtual 122, 3) := by decide +kernel
theorem dX6_reads_4 : decode cX6_reads 4 = .ok (.ifCond .eq 28, 3) := by decide +kernel
theorem dX6_reads_7 : decode cX6_reads 7 = .ok (.aload_n 0, 1) := by decide +kernel
theorem dX6_reads_8 : decode cX6_reads 8 = .ok (.invokevirtual 126, 3) := by decide +kernel
theorem dX6_reads_11 : decode cX6_reads 11 = .ok (.ifCond .ne 17, 3) := by decide +kernel
theorem dX6_reads_14 : decode cX6_reads 14 = .ok (.aload_n 0, 1) := by decide +kernel
theorem dX6_reads_15 : decode cX6_reads 15 = .ok (.invokevirtual 129, 3) := by decide +kernel
theorem dX6_reads_18 : decode cX6_reads 18 = .ok (.ifCond .ne 10, 3) := by decide +kernel
theorem dX6_reads_21 : decode cX6_reads 21 = .ok (.aload_n 0, 1) := by decide +kernel
theorem dX6_reads_22 : decode cX6_reads 22 = .ok (.invokevirtual 132, 3) := by decide +kernel
theorem dX6_reads_25 : decode cX6_reads 25 = .ok (.ifCond .eq 7, 3) := by decide +kernel
theorem dX6_reads_28 : decode cX6_reads 28 = .ok (.iconst 1, 1) := by decide +kernel
theorem dX6_reads_29 : decode cX6_reads 29 = .ok (.goto 4, 3) := by decide +kernel
theorem dX6_reads_32 : decode cX6_reads 32 = .ok (.iconst 0, 1) := by decide +kernel
theorem dX6_reads_33 : decode cX6_reads 33 = .ok (.ireturn, 1) := by decide +kernel
def m_M_reads_28 (v : Nat → Int32)  (u : Nat → Nat → Int32) : Option ((Int32) × (Nat → Nat → Int32)) := (zbo 1 (some (1, u)))
def m_M_reads  (v : Nat → Int32) (u : Nat → Nat → Int32)  : Option ((Int32) × (Nat → Nat → Int32)) := (m_M_expands v u).bind (fun q1 => (if q1.1 = 0 then (zbo 0 (some (0, q1.2))) else (m_M_isNumber v q1.2).bind (fun q4 => (if q4.1 = 0 then (m_M_isText v q4.2).bind (fun q7 => (if q7.1 = 0 then (m_M_isEdited v q7.2).bind (fun q9 => (if q9.1 = 0 then (zbo 0 (some (0, q9.2))) else m_M_reads_28 v q9.2)) else m_M_reads_28 v q7.2)) else m_M_reads_28 v q4.2))))
section
variable {p : Program} {l : Launch} {e : Env} {s : State} {m : MethodId} {args : Array Value} {below : List Frame} {meth : Method} {c : Code} {D : va_G} {w0 : va_W} {ad : Nat → Nat} {ca : Nat → ClassId} {v : Nat → Int32}
set_option maxRecDepth 100000 in
set_option maxHeartbeats 4000000 in
theorem b_M_reads_28 (G : zG p s m args meth c cX6_reads RX6 1 (some .boolean)) (hK : va_K D vwCl (wM_t ca) s) (hX : zN (va_A w0 s.heap.size) s) {res : (Int32) × (Nat → Nat → Int32)} : ∀ (u : Nat → Nat → Int32), m_M_reads_28 v u = some res → zB p l e (zR 4 110) s m args below meth c D vwCl (va_A w0 s.heap.size) (MQ below (zQi D vwCl w0 (wM ad ca v res.2) s.heap.size res.1) args s 0 0 (va_A w0 s.heap.size)) 1 (wM ad ca v u) [] 28 [] := by
  intro u hm H locs ls hP hD hS hl
  unfold m_M_reads_28 at hm
  have G0 := G
  obtain ⟨hx, hb, hr, hml, hown, hw, hlk⟩ := G
  have hA : ∀ q, s.heap.size ≤ q → va_A w0 s.heap.size q := fun q h => Or.inr h
  refine lv_iconst (v := 1) hx hb dX6_reads_28 (by decide) ?_
  refine lv_goto (tgt := 33) hx hb dX6_reads_29 rfl ?_
  obtain ⟨hz6, -, hm⟩ := zbo_s hm
  cases hm
  exact zretz hx hb hr hlk hz6 hP hD hS dX6_reads_33
end
set_option maxRecDepth 100000 in
set_option maxHeartbeats 4000000 in
theorem k_M_reads (l : Launch) (D : va_G) (ad : Nat → Nat) (ca : Nat → ClassId) (sz : Nat)  (v : Nat → Int32) (u : Nat → Nat → Int32) (res : (Int32) × (Nat → Nat → Int32)) (hm : m_M_reads  v u  = some res) : Met l yX6_reads (Cond.code yX6_reads cX6_reads 1 (some .boolean) :: zBIG) (zR 4 110) (va_Pc [.ref (ad 0)] (zP zN D vwCl (wM_t ca) (wM ad ca v u) sz)) (zQi D vwCl (wM ad ca v u) (wM ad ca v res.2) sz res.1) 0 0 (va_A (wM ad ca v u) sz) := by
  refine zEnter RX6 [.ref (ad 0)] (by decide) rfl (Nat.le_of_ble_eq_true rfl) (fun p e s m below meth c ls G hK hX hP hD hsz hl => ?_)
  subst hsz
  unfold m_M_reads at hm
  have hl : lv_has ls 1 [(0, .ref (ad 0))] := hl
  have hS : va_S (va_A (wM ad ca v u) s.heap.size) s.heap s.heap [] := va_S.rf
  have hA : ∀ q, s.heap.size ≤ q → va_A (wM ad ca v u) s.heap.size q := fun q h => Or.inr h
  have G0 := G
  obtain ⟨hx, hb, hr, hml, hown, hw, hlk⟩ := G
  refine lv_aload_n hx hb dX6_reads_0 rfl (lv_at hl 0 rfl) ?_
  obtain ⟨q1, hq1, hm⟩ := zbind hm
  refine zbWi (va_runV (As := []) (rest := []) ⟨hx, hb, hml, hown, hw⟩ (k_M_expands l D ad ca _ v u  q1 hq1) (zcV (C := RX6) 0 hw (zgood zw75) rfl rfl rfl zw7 zw77 zw76 zw78 hdX6_expands ⟨Nat.le_of_ble_eq_true rfl, Nat.le_of_ble_eq_true rfl⟩) (zpreV (zpre zN_ok trivial hS (zfree hD hS hA) hP hK hD) (va_recv hK hP rfl (q0 := 0) rfl)) rfl rfl hl.1 rfl (lv_room (Nat.le_of_ble_eq_true rfl)) dX6_reads_1 ⟨Nat.zero_le _, Nat.zero_le _⟩) hS (zfree hD hS hA) (fun H locs hP hD hS => ?_)
  have hP : va_P D vwCl (wM ad ca v q1.2) H := hP
  have hD : va_D _ (wM ad ca v q1.2) := hD
  refine lv_if_eq (tgt := 32) hx hb dX6_reads_4 rfl (fun cd2 => ?_) (fun cd2 => ?_)
  · replace hm := zt cd2 hm
    refine lv_iconst (v := 0) hx hb dX6_reads_32 (by decide) ?_
    obtain ⟨hz3, -, hm⟩ := zbo_s hm
    cases hm
    exact zretz hx hb hr hlk hz3 hP hD hS dX6_reads_33
  · replace hm := zf cd2 hm
    refine lv_aload_n hx hb dX6_reads_7 rfl (lv_at hl 0 rfl) ?_
    obtain ⟨q4, hq4, hm⟩ := zbind hm
    refine zbWi (va_runV (As := []) (rest := []) ⟨hx, hb, hml, hown, hw⟩ (k_M_isNumber l D ad ca _ v q1.2  q4 hq4) (zcV (C := RX6) 0 hw (zgood zw79) rfl rfl rfl zw7 zw81 zw80 zw82 hdX6_isNumber ⟨Nat.le_of_ble_eq_true rfl, Nat.le_of_ble_eq_true rfl⟩) (zpreV (zpre zN_ok trivial hS (zfree hD hS hA) hP hK hD) (va_recv hK hP rfl (q0 := 0) rfl)) rfl rfl hl.1 rfl (lv_room (Nat.le_of_ble_eq_true rfl)) dX6_reads_8 ⟨Nat.zero_le _, Nat.zero_le _⟩) hS (zfree hD hS hA) (fun H locs hP hD hS => ?_)
    have hP : va_P D vwCl (wM ad ca v q4.2) H := hP
    have hD : va_D _ (wM ad ca v q4.2) := hD
    refine lv_if_ne (tgt := 28) hx hb dX6_reads_11 rfl (fun cd5 => ?_) (fun cd5 => ?_)
    · replace hm := zf cd5 hm
      exact b_M_reads_28 G0 hK hX _ hm _ _ _ hP hD hS (lv_sub hl [] rfl)
    · replace hm := zt cd5 hm
      refine lv_aload_n hx hb dX6_reads_14 rfl (lv_at hl 0 rfl) ?_
      obtain ⟨q7, hq7, hm⟩ := zbind hm
      refine zbWi (va_runV (As := []) (rest := []) ⟨hx, hb, hml, hown, hw⟩ (k_M_isText l D ad ca _ v q4.2  q7 hq7) (zcV (C := RX6) 0 hw (zgood zw83) rfl rfl rfl zw7 zw85 zw84 zw86 hdX6_isText ⟨Nat.le_of_ble_eq_true rfl, Nat.le_of_ble_eq_true rfl⟩) (zpreV (zpre zN_ok trivial hS (zfree hD hS hA) hP hK hD) (va_recv hK hP rfl (q0 := 0) rfl)) rfl rfl hl.1 rfl (lv_room (Nat.le_of_ble_eq_true rfl)) dX6_reads_15 ⟨Nat.zero_le _, Nat.zero_le _⟩) hS (zfree hD hS hA) (fun H locs hP hD hS => ?_)
      have hP : va_P D vwCl (wM ad ca v q7.2) H := hP
      have hD : va_D _ (wM ad ca v q7.2) := hD
      refine lv_if_ne (tgt := 28) hx hb dX6_reads_18 rfl (fun cd8 => ?_) (fun cd8 => ?_)
      · replace hm := zf cd8 hm
        exact b_M_reads_28 G0 hK hX _ hm _ _ _ hP hD hS (lv_sub hl [] rfl)
      · replace hm := zt cd8 hm
        refine lv_aload_n hx hb dX6_reads_21 rfl (lv_at hl 0 rfl) ?_
        obtain ⟨q9, hq9, hm⟩ := zbind hm
        refine zbWi (va_runV (As := []) (rest := []) ⟨hx, hb, hml, hown, hw⟩ (k_M_isEdited l D ad ca _ v q7.2  q9 hq9) (zcV (C := RX6) 0 hw (zgood zw87) rfl rfl rfl zw7 zw89 zw88 zw90 hdX6_isEdited ⟨Nat.le_of_ble_eq_true rfl, Nat.le_of_ble_eq_true rfl⟩) (zpreV (zpre zN_ok trivial hS (zfree hD hS hA) hP hK hD) (va_recv hK hP rfl (q0 := 0) rfl)) rfl rfl hl.1 rfl (lv_room (Nat.le_of_ble_eq_true rfl)) dX6_reads_22 ⟨Nat.zero_le _, Nat.zero_le _⟩) hS (zfree hD hS hA) (fun H locs hP hD hS => ?_)
        have hP : va_P D vwCl (wM ad ca v q9.2) H := hP
        have hD : va_D _ (wM ad ca v q9.2) := hD
        refine lv_if_eq (tgt := 32) hx hb dX6_reads_25 rfl (fun cd10 => ?_) (fun cd10 => ?_)
        · replace hm := zt cd10 hm
          refine lv_iconst (v := 0) hx hb dX6_reads_32 (by decide) ?_
          obtain ⟨hz11, -, hm⟩ := zbo_s hm
          cases hm
          exact zretz hx hb hr hlk hz11 hP hD hS dX6_reads_33
        · replace hm := zf cd10 hm
          exact b_M_reads_28 G0 hK hX _ hm _ _ _ hP hD hS (lv_sub hl [] rfl)

