theorem dX5_fittingField_0 : decode cX5_fittingField 0 = .ok (.aload_n 0, 1) := by decide +kernel
theorem dX5_fittingField_1 : decode cX5_fittingField 1 = .ok (.getfield 26, 3) := by decide +kernel
theorem dX5_fittingField_4 : decode cX5_fittingField 4 = .ok (.iload_n 1, 1) := by decide +kernel
theorem dX5_fittingField_5 : decode cX5_fittingField 5 = .ok (.aaload, 1) := by decide +kernel
theorem dX5_fittingField_6 : decode cX5_fittingField 6 = .ok (.aload_n 0, 1) := by decide +kernel
theorem dX5_fittingField_7 : decode cX5_fittingField 7 = .ok (.getfield 20, 3) := by decide +kernel
theorem dX5_fittingField_10 : decode cX5_fittingField 10 = .ok (.invokevirtual 137, 3) := by decide +kernel
theorem dX5_fittingField_13 : decode cX5_fittingField 13 = .ok (.ifCond .eq 27, 3) := by decide +kernel
theorem dX5_fittingField_16 : decode cX5_fittingField 16 = .ok (.aload_n 0, 1) := by decide +kernel
theorem dX5_fittingField_17 : decode cX5_fittingField 17 = .ok (.getfield 26, 3) := by decide +kernel
theorem dX5_fittingField_20 : decode cX5_fittingField 20 = .ok (.iload_n 1, 1) := by decide +kernel
theorem dX5_fittingField_21 : decode cX5_fittingField 21 = .ok (.aaload, 1) := by decide +kernel
theorem dX5_fittingField_22 : decode cX5_fittingField 22 = .ok (.iload_n 2, 1) := by decide +kernel
theorem dX5_fittingField_23 : decode cX5_fittingField 23 = .ok (.invokevirtual 141, 3) := by decide +kernel
theorem dX5_fittingField_26 : decode cX5_fittingField 26 = .ok (.ifCond .eq 12, 3) := by decide +kernel
theorem dX5_fittingField_29 : decode cX5_fittingField 29 = .ok (.aload_n 0, 1) := by decide +kernel
theorem dX5_fittingField_30 : decode cX5_fittingField 30 = .ok (.getfield 26, 3) := by decide +kernel
theorem dX5_fittingField_33 : decode cX5_fittingField 33 = .ok (.iload_n 1, 1) := by decide +kernel
theorem dX5_fittingField_34 : decode cX5_fittingField 34 = .ok (.aaload, 1) := by decide +kernel
theorem dX5_fittingField_35 : decode cX5_fittingField 35 = .ok (.goto 4, 3) := by decide +kernel
theorem dX5_fittingField_38 : decode cX5_fittingField 38 = .ok (.aconst_null, 1) := by decide +kernel
theorem dX5_fittingField_39 : decode cX5_fittingField 39 = .ok (.areturn, 1) := by decide +kernel
theorem dX5_fittingField_40 : decode cX5_fittingField 40 = .ok (.iload_n 2, 1) := by decide +kernel
theorem dX5_fittingField_41 : decode cX5_fittingField 41 = .ok (.ifCond .eq 5, 3) := by decide +kernel
theorem dX5_fittingField_44 : decode cX5_fittingField 44 = .ok (.aconst_null, 1) := by decide +kernel
theorem dX5_fittingField_45 : decode cX5_fittingField 45 = .ok (.areturn, 1) := by decide +kernel
theorem dX5_fittingField_46 : decode cX5_fittingField 46 = .ok (.aload_n 0, 1) := by decide +kernel
theorem dX5_fittingField_47 : decode cX5_fittingField 47 = .ok (.getfield 32, 3) := by decide +kernel
theorem dX5_fittingField_50 : decode cX5_fittingField 50 = .ok (.iload_n 1, 1) := by decide +kernel
theorem dX5_fittingField_51 : decode cX5_fittingField 51 = .ok (.aaload, 1) := by decide +kernel
theorem dX5_fittingField_52 : decode cX5_fittingField 52 = .ok (.aload_n 0, 1) := by decide +kernel
theorem dX5_fittingField_53 : decode cX5_fittingField 53 = .ok (.getfield 20, 3) := by decide +kernel
theorem dX5_fittingField_56 : decode cX5_fittingField 56 = .ok (.invokevirtual 144, 3) := by decide +kernel
theorem dX5_fittingField_59 : decode cX5_fittingField 59 = .ok (.ifCond .eq 10, 3) := by decide +kernel
theorem dX5_fittingField_62 : decode cX5_fittingField 62 = .ok (.aload_n 0, 1) := by decide +kernel
theorem dX5_fittingField_63 : decode cX5_fittingField 63 = .ok (.getfield 32, 3) := by decide +kernel
theorem dX5_fittingField_66 : decode cX5_fittingField 66 = .ok (.iload_n 1, 1) := by decide +kernel
theorem dX5_fittingField_67 : decode cX5_fittingField 67 = .ok (.aaload, 1) := by decide +kernel
theorem dX5_fittingField_68 : decode cX5_fittingField 68 = .ok (.areturn, 1) := by decide +kernel
theorem dX5_fittingField_69 : decode cX5_fittingField 69 = .ok (.aload_n 0, 1) := by decide +kernel
theorem dX5_fittingField_70 : decode cX5_fittingField 70 = .ok (.getfield 38, 3) := by decide +kernel
theorem dX5_fittingField_73 : decode cX5_fittingField 73 = .ok (.iload_n 1, 1) := by decide +kernel
theorem dX5_fittingField_74 : decode cX5_fittingField 74 = .ok (.aaload, 1) := by decide +kernel
theorem dX5_fittingField_75 : decode cX5_fittingField 75 = .ok (.aload_n 0, 1) := by decide +kernel
theorem dX5_fittingField_76 : decode cX5_fittingField 76 = .ok (.getfield 20, 3) := by decide +kernel
theorem dX5_fittingField_79 : decode cX5_fittingField 79 = .ok (.invokevirtual 145, 3) := by decide +kernel
theorem dX5_fittingField_82 : decode cX5_fittingField 82 = .ok (.ifCond .eq 12, 3) := by decide +kernel
theorem dX5_fittingField_85 : decode cX5_fittingField 85 = .ok (.aload_n 0, 1) := by decide +kernel
theorem dX5_fittingField_86 : decode cX5_fittingField 86 = .ok (.getfield 38, 3) := by decide +kernel
theorem dX5_fittingField_89 : decode cX5_fittingField 89 = .ok (.iload_n 1, 1) := by decide +kernel
theorem dX5_fittingField_90 : decode cX5_fittingField 90 = .ok (.aaload, 1) := by decide +kernel
theorem dX5_fittingField_91 : decode cX5_fittingField 91 = .ok (.goto 4, 3) := by decide +kernel
theorem dX5_fittingField_94 : decode cX5_fittingField 94 = .ok (.aconst_null, 1) := by decide +kernel
theorem dX5_fittingField_95 : decode cX5_fittingField 95 = .ok (.areturn, 1) := by decide +kernel
def m_P_fitting_N (a0 : Int32) (a1 : Int32) (pv : Nat → Int32) (sv : Nat → Int32) (sr : Nat → Int32) (nf : Nat → Option Nat) (tf : Nat → Option Nat) (ef : Nat → Option Nat) (vn : Nat → Int32) (bn : Nat → Int32) (vt : Nat → Int32) (bt : Nat → Int32) (v : Nat → Int32) (b : Nat → Int32) (rw : Nat → Int32) (pw : Nat → Int32)  : Option ((Nat → Int32) × (Nat → Int32) × (Nat → Int32) × (Nat → Int32) × (Nat → Int32)) := zix a0 8 ((m_N_fits vn bn sv sr).bind (fun q2 => (if q2.1 = 0 then (if a1 = 0 then zix a0 8 ((m_T_fits vt bt sv sr).bind (fun q6 => (if q6.1 = 0 then zix a0 8 ((m_E_fits v b rw pw sv sr).bind (fun q9 => (if q9.1 = 0 then none else zix a0 8 (none)))) else zix a0 8 (none)))) else none) else zix a0 8 ((m_N_takesUsage a1 q2.2 bn).bind (fun q14 => (if q14.1 = 0 then none else zix a0 8 ((some (q14.2, vt, v, rw, pw)))))))))
section
variable {p : Program} {l : Launch} {e : Env} {s : State} {m : MethodId} {args : Array Value} {below : List Frame} {meth : Method} {c : Code} {D : va_G} {w0 : va_W} {aQ aY aDc aS rS aNs aTs aEs aNn bNn aTt bTt aE bE rE pE : Nat} {cs cn ct ce c1n c1t c1 c2 c3 : ClassId} {pv : Nat → Int32} {sv : Nat → Int32} {sr : Nat → Int32} {nf : Nat → Option Nat} {tf : Nat → Option Nat} {ef : Nat → Option Nat} {bn : Nat → Int32} {bt : Nat → Int32} {b : Nat → Int32} {a0 : Int32}
end
set_option maxRecDepth 100000 in
set_option maxHeartbeats 4000000 in
theorem k_P_fitting_N (l : Launch) (D : va_G) (aQ aY aDc aS rS aNs aTs aEs aNn bNn aTt bTt aE bE rE pE : Nat) (cs cn ct ce c1n c1t c1 c2 c3 : ClassId) (sz : Nat) (a0 : Int32) (a1 : Int32) (pv : Nat → Int32) (sv : Nat → Int32) (sr : Nat → Int32) (nf : Nat → Option Nat) (tf : Nat → Option Nat) (ef : Nat → Option Nat) (vn : Nat → Int32) (bn : Nat → Int32) (vt : Nat → Int32) (bt : Nat → Int32) (v : Nat → Int32) (b : Nat → Int32) (rw : Nat → Int32) (pw : Nat → Int32) (hdN : nf a0.toNatClampNeg = some aNn) (hdT : tf a0.toNatClampNeg = some aTt) (hdE : ef a0.toNatClampNeg = some aE) (res : (Nat → Int32) × (Nat → Int32) × (Nat → Int32) × (Nat → Int32) × (Nat → Int32)) (hm : m_P_fitting_N a0 a1 pv sv sr nf tf ef vn bn vt bt v b rw pw  = some res) : Met l yX5_fittingField (Cond.code yX5_fittingField cX5_fittingField 3 (some (.object "PictureFields$Field")) :: zBIG) (zR 5 105) (va_Pc [.ref aQ, .int a0, .int a1] (zP zC D vwCl (wQF_t cs cn ct ce c1n c1t c1 c2 c3) (wQF aQ aY aDc aS rS aNs aTs aEs aNn bNn aTt bTt aE bE rE pE cs cn ct ce c1n c1t c1 c2 c3 pv sv sr nf tf ef vn bn vt bt v b rw pw) sz)) (zQq D vwCl (wQF aQ aY aDc aS rS aNs aTs aEs aNn bNn aTt bTt aE bE rE pE cs cn ct ce c1n c1t c1 c2 c3 pv sv sr nf tf ef vn bn vt bt v b rw pw) (wQF aQ aY aDc aS rS aNs aTs aEs aNn bNn aTt bTt aE bE rE pE cs cn ct ce c1n c1t c1 c2 c3 pv sv sr nf tf ef res.1 bn res.2.1 bt res.2.2.1 b res.2.2.2.1 res.2.2.2.2) sz (some aNn)) 0 0 (va_A (wQF aQ aY aDc aS rS aNs aTs aEs aNn bNn aTt bTt aE bE rE pE cs cn ct ce c1n c1t c1 c2 c3 pv sv sr nf tf ef vn bn vt bt v b rw pw) sz) := by
  refine zEnter RX5 [.ref aQ, .int a0, .int a1] (by decide) rfl (Nat.le_of_ble_eq_true rfl) (fun p e s m below meth c ls G hK hX hP hD hsz hl => ?_)
  subst hsz
  unfold m_P_fitting_N at hm
  have hl : lv_has ls 3 [(0, .ref aQ), (1, .int a0), (2, .int a1)] := hl
  have hS : va_S (va_A (wQF aQ aY aDc aS rS aNs aTs aEs aNn bNn aTt bTt aE bE rE pE cs cn ct ce c1n c1t c1 c2 c3 pv sv sr nf tf ef vn bn vt bt v b rw pw) s.heap.size) s.heap s.heap [] := va_S.rf
  have hA : ∀ q, s.heap.size ≤ q → va_A (wQF aQ aY aDc aS rS aNs aTs aEs aNn bNn aTt bTt aE bE rE pE cs cn ct ce c1n c1t c1 c2 c3 pv sv sr nf tf ef vn bn vt bt v b rw pw) s.heap.size q := fun q h => Or.inr h
  have G0 := G
  obtain ⟨hx, hb, hr, hml, hown, hw, hlk⟩ := G
  refine lv_aload_n hx hb dX5_fittingField_0 rfl (lv_at hl 0 rfl) ?_
  refine va_get (D := D) (ci := 4) (v := .ref aNs) (C := RX5) (T := TX5) (N := 8) hx hb hw zinX5 hown hK hP 0 rfl rfl 3 (by decide) (hw _ zw460) (fun _ h9 => h9) rfl dX5_fittingField_1 ?_
  refine lv_iload_n hx hb dX5_fittingField_4 rfl (lv_at hl 1 rfl) ?_
  obtain ⟨hi1, hm⟩ := zix_s hm
  refine va_aldq (i := a0) (f := nf) (n := 8) hx hb hK hP 3 1 rfl rfl hi1 dX5_fittingField_5 ?_
  refine W.eq (g2 := F0 m 6 ls [.ref aNn]) (by rw [hdN]; rfl) ?_
  refine lv_aload_n hx hb dX5_fittingField_6 rfl (lv_at hl 0 rfl) ?_
  refine va_get (D := D) (ci := 4) (v := .ref aS) (C := RX5) (T := TX5) (N := 8) hx hb hw zinX5 hown hK hP 0 rfl rfl 2 (by decide) (hw _ zw461) (fun _ h9 => h9) rfl dX5_fittingField_7 ?_
  obtain ⟨q2, hq2, hm⟩ := zbind hm
  have hPc := hP.sub (ws' := (wNS aNn bNn aS rS c1n cs vn bn sv sr)) [6, 7, 1, 2] rfl
  have hDc := hD.sub (ws' := (wNS aNn bNn aS rS c1n cs vn bn sv sr)) [6, 7, 1, 2] (by decide) rfl
  have hKc := hK.sub (tys' := wNS_t c1n cs) [4, 0] rfl
  have hFc := va_free (wc := (wNS aNn bNn aS rS c1n cs vn bn sv sr)) hD hS hA [6, 7, 1, 2] rfl
  refine zbSi (wr := [(aQ, .inr (4, [.ref aY, .int (pv 1), .ref aS, .ref aNs, .ref aTs, .ref aEs, .ref aDc, .int (pv 7)])), (aNs, .inl (cn, 8, .inr (.inr (.inr (.inr nf))))), (aTs, .inl (ct, 8, .inr (.inr (.inr (.inr tf))))), (aEs, .inl (ce, 8, .inr (.inr (.inr (.inr ef))))), (aTt, .inr (3, [.ref bTt, .int (vt 1), .int (vt 2), .int (vt 3), .int (vt 4)])), (bTt, .inl (c1t, 25, .inl bt)), (aE, .inr (0, [.ref bE, .int (v 1), .int (v 2), .int (v 3), .int (v 4), .ref rE, .ref pE, .int (v 7), .int (v 8), .int (v 9), .int (v 10), .int (v 11), .int (v 12), .int (v 13), .int (v 14), .int (v 15)])), (bE, .inl (c1, 25, .inl b)), (rE, .inl (c2, 24, .inl rw)), (pE, .inl (c3, 24, .inl pw))]) (w1 := (wNS aNn bNn aS rS c1n cs q2.2 bn sv sr)) (w' := (wQF aQ aY aDc aS rS aNs aTs aEs aNn bNn aTt bTt aE bE rE pE cs cn ct ce c1n c1t c1 c2 c3 pv sv sr nf tf ef q2.2 bn vt bt v b rw pw)) (va_runV (As := [.ref aS]) (rest := []) ⟨hx, hb, hml, hown, hw⟩ (k_N_fits l D aNn bNn aS rS c1n cs _ vn bn sv sr  q2 hq2) (zcV (C := RX2) 1 hw (zgood zw462) rfl rfl rfl zw210 zw464 zw463 zw465 hdX2_fits ⟨Nat.le_of_ble_eq_true rfl, Nat.le_of_ble_eq_true rfl⟩) (zpreV (zpre zC_ok hX hS hFc hPc hKc hDc) (va_recv hK hP rfl (q0 := 6) rfl)) rfl rfl hl.1 rfl (lv_room (Nat.le_of_ble_eq_true rfl)) dX5_fittingField_10 ⟨Nat.zero_le _, Nat.zero_le _⟩) hP hD hS hFc [6, 7, 1, 2] [0, 3, 4, 5, 8, 9, 10, 11, 12, 13] [0, 12, 13, 1, 2, 3, 10, 11, 4, 5, 6, 7, 8, 9] rfl rfl (by decide) (by decide) rfl (by decide) (fun H locs hP hD hS => ?_)
  refine lv_if_eq (tgt := 40) hx hb dX5_fittingField_13 rfl (fun cd3 => ?_) (fun cd3 => ?_)
  · replace hm := zt cd3 hm
    refine lv_iload_n hx hb dX5_fittingField_40 rfl (lv_at hl 2 rfl) ?_
    refine lv_if_eq (tgt := 46) hx hb dX5_fittingField_41 rfl (fun cd4 => ?_) (fun cd4 => ?_)
    · replace hm := zt cd4 hm
      refine lv_aload_n hx hb dX5_fittingField_46 rfl (lv_at hl 0 rfl) ?_
      refine va_get (D := D) (ci := 4) (v := .ref aTs) (C := RX5) (T := TX5) (N := 8) hx hb hw zinX5 hown hK hP 0 rfl rfl 4 (by decide) (hw _ zw466) (fun _ h9 => h9) rfl dX5_fittingField_47 ?_
      refine lv_iload_n hx hb dX5_fittingField_50 rfl (lv_at hl 1 rfl) ?_
      obtain ⟨hi5, hm⟩ := zix_s hm
      refine va_aldq (i := a0) (f := tf) (n := 8) hx hb hK hP 4 2 rfl rfl hi5 dX5_fittingField_51 ?_
      refine W.eq (g2 := F0 m 52 ls [.ref aTt]) (by rw [hdT]; rfl) ?_
      refine lv_aload_n hx hb dX5_fittingField_52 rfl (lv_at hl 0 rfl) ?_
      refine va_get (D := D) (ci := 4) (v := .ref aS) (C := RX5) (T := TX5) (N := 8) hx hb hw zinX5 hown hK hP 0 rfl rfl 2 (by decide) (hw _ zw461) (fun _ h9 => h9) rfl dX5_fittingField_53 ?_
      obtain ⟨q6, hq6, hm⟩ := zbind hm
      have hPc := hP.sub (ws' := (wTS aTt bTt aS rS c1t cs vt bt sv sr)) [8, 9, 1, 2] rfl
      have hDc := hD.sub (ws' := (wTS aTt bTt aS rS c1t cs vt bt sv sr)) [8, 9, 1, 2] (by decide) rfl
      have hKc := hK.sub (tys' := wTS_t c1t cs) [5, 0] rfl
      have hFc := va_free (wc := (wTS aTt bTt aS rS c1t cs vt bt sv sr)) hD hS hA [8, 9, 1, 2] rfl
      refine zbSi (wr := [(aQ, .inr (4, [.ref aY, .int (pv 1), .ref aS, .ref aNs, .ref aTs, .ref aEs, .ref aDc, .int (pv 7)])), (aNs, .inl (cn, 8, .inr (.inr (.inr (.inr nf))))), (aTs, .inl (ct, 8, .inr (.inr (.inr (.inr tf))))), (aEs, .inl (ce, 8, .inr (.inr (.inr (.inr ef))))), (aNn, .inr (1, [.ref bNn, .int (q2.2 1), .int (q2.2 2), .int (q2.2 3), .int (q2.2 4), .int (q2.2 5), .int (q2.2 6), .int (q2.2 7)])), (bNn, .inl (c1n, 25, .inl bn)), (aE, .inr (0, [.ref bE, .int (v 1), .int (v 2), .int (v 3), .int (v 4), .ref rE, .ref pE, .int (v 7), .int (v 8), .int (v 9), .int (v 10), .int (v 11), .int (v 12), .int (v 13), .int (v 14), .int (v 15)])), (bE, .inl (c1, 25, .inl b)), (rE, .inl (c2, 24, .inl rw)), (pE, .inl (c3, 24, .inl pw))]) (w1 := (wTS aTt bTt aS rS c1t cs q6.2 bt sv sr)) (w' := (wQF aQ aY aDc aS rS aNs aTs aEs aNn bNn aTt bTt aE bE rE pE cs cn ct ce c1n c1t c1 c2 c3 pv sv sr nf tf ef q2.2 bn q6.2 bt v b rw pw)) (va_runV (As := [.ref aS]) (rest := []) ⟨hx, hb, hml, hown, hw⟩ (k_T_fits l D aTt bTt aS rS c1t cs _ vt bt sv sr  q6 hq6) (zcV (C := RX4) 1 hw (zgood zw467) rfl rfl rfl zw402 zw469 zw468 zw470 hdX4_fits ⟨Nat.le_of_ble_eq_true rfl, Nat.le_of_ble_eq_true rfl⟩) (zpreV (zpre zC_ok hX hS hFc hPc hKc hDc) (va_recv hK hP rfl (q0 := 8) rfl)) rfl rfl hl.1 rfl (lv_room (Nat.le_of_ble_eq_true rfl)) dX5_fittingField_56 ⟨Nat.zero_le _, Nat.zero_le _⟩) hP hD hS hFc [8, 9, 1, 2] [0, 3, 4, 5, 6, 7, 10, 11, 12, 13] [0, 12, 13, 1, 2, 3, 4, 5, 10, 11, 6, 7, 8, 9] rfl rfl (by decide) (by decide) rfl (by decide) (fun H locs hP hD hS => ?_)
      refine lv_if_eq (tgt := 69) hx hb dX5_fittingField_59 rfl (fun cd7 => ?_) (fun cd7 => ?_)
      · replace hm := zt cd7 hm
        refine lv_aload_n hx hb dX5_fittingField_69 rfl (lv_at hl 0 rfl) ?_
        refine va_get (D := D) (ci := 4) (v := .ref aEs) (C := RX5) (T := TX5) (N := 8) hx hb hw zinX5 hown hK hP 0 rfl rfl 5 (by decide) (hw _ zw471) (fun _ h9 => h9) rfl dX5_fittingField_70 ?_
        refine lv_iload_n hx hb dX5_fittingField_73 rfl (lv_at hl 1 rfl) ?_
        obtain ⟨hi8, hm⟩ := zix_s hm
        refine va_aldq (i := a0) (f := ef) (n := 8) hx hb hK hP 5 3 rfl rfl hi8 dX5_fittingField_74 ?_
        refine W.eq (g2 := F0 m 75 ls [.ref aE]) (by rw [hdE]; rfl) ?_
        refine lv_aload_n hx hb dX5_fittingField_75 rfl (lv_at hl 0 rfl) ?_
        refine va_get (D := D) (ci := 4) (v := .ref aS) (C := RX5) (T := TX5) (N := 8) hx hb hw zinX5 hown hK hP 0 rfl rfl 2 (by decide) (hw _ zw461) (fun _ h9 => h9) rfl dX5_fittingField_76 ?_
        obtain ⟨q9, hq9, hm⟩ := zbind hm
        have hPc := hP.sub (ws' := (wES aE bE rE pE aS rS c1 c2 c3 cs v b rw pw sv sr)) [10, 11, 12, 13, 1, 2] rfl
        have hDc := hD.sub (ws' := (wES aE bE rE pE aS rS c1 c2 c3 cs v b rw pw sv sr)) [10, 11, 12, 13, 1, 2] (by decide) rfl
        have hKc := hK.sub (tys' := wES_t c1 c2 c3 cs) [6, 7, 8, 0] rfl
        have hFc := va_free (wc := (wES aE bE rE pE aS rS c1 c2 c3 cs v b rw pw sv sr)) hD hS hA [10, 11, 12, 13, 1, 2] rfl
        refine zbSi (wr := [(aQ, .inr (4, [.ref aY, .int (pv 1), .ref aS, .ref aNs, .ref aTs, .ref aEs, .ref aDc, .int (pv 7)])), (aNs, .inl (cn, 8, .inr (.inr (.inr (.inr nf))))), (aTs, .inl (ct, 8, .inr (.inr (.inr (.inr tf))))), (aEs, .inl (ce, 8, .inr (.inr (.inr (.inr ef))))), (aNn, .inr (1, [.ref bNn, .int (q2.2 1), .int (q2.2 2), .int (q2.2 3), .int (q2.2 4), .int (q2.2 5), .int (q2.2 6), .int (q2.2 7)])), (bNn, .inl (c1n, 25, .inl bn)), (aTt, .inr (3, [.ref bTt, .int (q6.2 1), .int (q6.2 2), .int (q6.2 3), .int (q6.2 4)])), (bTt, .inl (c1t, 25, .inl bt))]) (w1 := (wES aE bE rE pE aS rS c1 c2 c3 cs q9.2.1 b q9.2.2.1 q9.2.2.2 sv sr)) (w' := (wQF aQ aY aDc aS rS aNs aTs aEs aNn bNn aTt bTt aE bE rE pE cs cn ct ce c1n c1t c1 c2 c3 pv sv sr nf tf ef q2.2 bn q6.2 bt q9.2.1 b q9.2.2.1 q9.2.2.2)) (va_runV (As := [.ref aS]) (rest := []) ⟨hx, hb, hml, hown, hw⟩ (k_E_fits l D aE bE rE pE aS rS c1 c2 c3 cs _ v b rw pw sv sr  q9 hq9) (zcV (C := RX0) 1 hw (zgood zw472) rfl rfl rfl zw259 zw474 zw473 zw475 hdX0_fits ⟨Nat.le_of_ble_eq_true rfl, Nat.le_of_ble_eq_true rfl⟩) (zpreV (zpre zC_ok hX hS hFc hPc hKc hDc) (va_recv hK hP rfl (q0 := 10) rfl)) rfl rfl hl.1 rfl (lv_room (Nat.le_of_ble_eq_true rfl)) dX5_fittingField_79 ⟨Nat.zero_le _, Nat.zero_le _⟩) hP hD hS hFc [10, 11, 12, 13, 1, 2] [0, 3, 4, 5, 6, 7, 8, 9] [0, 12, 13, 1, 2, 3, 4, 5, 6, 7, 8, 9, 10, 11] rfl rfl (by decide) (by decide) rfl (by decide) (fun H locs hP hD hS => ?_)
        refine lv_if_eq (tgt := 94) hx hb dX5_fittingField_82 rfl (fun cd10 => ?_) (fun cd10 => ?_)
        · replace hm := zt cd10 hm
          refine lv_null hx hb dX5_fittingField_94 ?_
          cases hm
        · replace hm := zf cd10 hm
          refine lv_aload_n hx hb dX5_fittingField_85 rfl (lv_at hl 0 rfl) ?_
          refine va_get (D := D) (ci := 4) (v := .ref aEs) (C := RX5) (T := TX5) (N := 8) hx hb hw zinX5 hown hK hP 0 rfl rfl 5 (by decide) (hw _ zw471) (fun _ h9 => h9) rfl dX5_fittingField_86 ?_
          refine lv_iload_n hx hb dX5_fittingField_89 rfl (lv_at hl 1 rfl) ?_
          obtain ⟨hi11, hm⟩ := zix_s hm
          refine va_aldq (i := a0) (f := ef) (n := 8) hx hb hK hP 5 3 rfl rfl hi11 dX5_fittingField_90 ?_
          refine W.eq (g2 := F0 m 91 ls [.ref aE]) (by rw [hdE]; rfl) ?_
          refine lv_goto (tgt := 95) hx hb dX5_fittingField_91 rfl ?_
          cases hm
      · replace hm := zf cd7 hm
        refine lv_aload_n hx hb dX5_fittingField_62 rfl (lv_at hl 0 rfl) ?_
        refine va_get (D := D) (ci := 4) (v := .ref aTs) (C := RX5) (T := TX5) (N := 8) hx hb hw zinX5 hown hK hP 0 rfl rfl 4 (by decide) (hw _ zw466) (fun _ h9 => h9) rfl dX5_fittingField_63 ?_
        refine lv_iload_n hx hb dX5_fittingField_66 rfl (lv_at hl 1 rfl) ?_
        obtain ⟨hi12, hm⟩ := zix_s hm
        refine va_aldq (i := a0) (f := tf) (n := 8) hx hb hK hP 4 2 rfl rfl hi12 dX5_fittingField_67 ?_
        refine W.eq (g2 := F0 m 68 ls [.ref aTt]) (by rw [hdT]; rfl) ?_
        cases hm
    · replace hm := zf cd4 hm
      refine lv_null hx hb dX5_fittingField_44 ?_
      cases hm
  · replace hm := zf cd3 hm
    refine lv_aload_n hx hb dX5_fittingField_16 rfl (lv_at hl 0 rfl) ?_
    refine va_get (D := D) (ci := 4) (v := .ref aNs) (C := RX5) (T := TX5) (N := 8) hx hb hw zinX5 hown hK hP 0 rfl rfl 3 (by decide) (hw _ zw460) (fun _ h9 => h9) rfl dX5_fittingField_17 ?_
    refine lv_iload_n hx hb dX5_fittingField_20 rfl (lv_at hl 1 rfl) ?_
    obtain ⟨hi13, hm⟩ := zix_s hm
    refine va_aldq (i := a0) (f := nf) (n := 8) hx hb hK hP 3 1 rfl rfl hi13 dX5_fittingField_21 ?_
    refine W.eq (g2 := F0 m 22 ls [.ref aNn]) (by rw [hdN]; rfl) ?_
    refine lv_iload_n hx hb dX5_fittingField_22 rfl (lv_at hl 2 rfl) ?_
    obtain ⟨q14, hq14, hm⟩ := zbind hm
    have hPc := hP.sub (ws' := (wN aNn bNn c1n q2.2 bn)) [6, 7] rfl
    have hDc := hD.sub (ws' := (wN aNn bNn c1n q2.2 bn)) [6, 7] (by decide) rfl
    have hKc := hK.sub (tys' := wN_t c1n) [4] rfl
    have hFc := va_free (wc := (wN aNn bNn c1n q2.2 bn)) hD hS hA [6, 7] rfl
    refine zbSi (wr := [(aQ, .inr (4, [.ref aY, .int (pv 1), .ref aS, .ref aNs, .ref aTs, .ref aEs, .ref aDc, .int (pv 7)])), (aS, .inr (2, [.ref rS, .int (sv 1)])), (rS, .inl (cs, 24, .inl sr)), (aNs, .inl (cn, 8, .inr (.inr (.inr (.inr nf))))), (aTs, .inl (ct, 8, .inr (.inr (.inr (.inr tf))))), (aEs, .inl (ce, 8, .inr (.inr (.inr (.inr ef))))), (aTt, .inr (3, [.ref bTt, .int (vt 1), .int (vt 2), .int (vt 3), .int (vt 4)])), (bTt, .inl (c1t, 25, .inl bt)), (aE, .inr (0, [.ref bE, .int (v 1), .int (v 2), .int (v 3), .int (v 4), .ref rE, .ref pE, .int (v 7), .int (v 8), .int (v 9), .int (v 10), .int (v 11), .int (v 12), .int (v 13), .int (v 14), .int (v 15)])), (bE, .inl (c1, 25, .inl b)), (rE, .inl (c2, 24, .inl rw)), (pE, .inl (c3, 24, .inl pw))]) (w1 := (wN aNn bNn c1n q14.2 bn)) (w' := (wQF aQ aY aDc aS rS aNs aTs aEs aNn bNn aTt bTt aE bE rE pE cs cn ct ce c1n c1t c1 c2 c3 pv sv sr nf tf ef q14.2 bn vt bt v b rw pw)) (va_runV (As := [.int a1]) (rest := []) ⟨hx, hb, hml, hown, hw⟩ (k_N_takesUsage l D aNn bNn c1n _ a1 q2.2 bn  q14 hq14) (zcV (C := RX2) 1 hw (zgood zw476) rfl rfl rfl zw210 zw478 zw477 zw479 hdX2_takesUsage ⟨Nat.le_of_ble_eq_true rfl, Nat.le_of_ble_eq_true rfl⟩) (zpreV (zpre zC_ok hX hS hFc hPc hKc hDc) (va_recv hK hP rfl (q0 := 6) rfl)) rfl rfl hl.1 rfl (lv_room (Nat.le_of_ble_eq_true rfl)) dX5_fittingField_23 ⟨Nat.zero_le _, Nat.zero_le _⟩) hP hD hS hFc [6, 7] [0, 1, 2, 3, 4, 5, 8, 9, 10, 11, 12, 13] [0, 1, 2, 3, 4, 5, 12, 13, 6, 7, 8, 9, 10, 11] rfl rfl (by decide) (by decide) rfl (by decide) (fun H locs hP hD hS => ?_)
    refine lv_if_eq (tgt := 38) hx hb dX5_fittingField_26 rfl (fun cd15 => ?_) (fun cd15 => ?_)
    · replace hm := zt cd15 hm
      refine lv_null hx hb dX5_fittingField_38 ?_
      cases hm
    · replace hm := zf cd15 hm
      refine lv_aload_n hx hb dX5_fittingField_29 rfl (lv_at hl 0 rfl) ?_
      refine va_get (D := D) (ci := 4) (v := .ref aNs) (C := RX5) (T := TX5) (N := 8) hx hb hw zinX5 hown hK hP 0 rfl rfl 3 (by decide) (hw _ zw460) (fun _ h9 => h9) rfl dX5_fittingField_30 ?_
      refine lv_iload_n hx hb dX5_fittingField_33 rfl (lv_at hl 1 rfl) ?_
      obtain ⟨hi16, hm⟩ := zix_s hm
      refine va_aldq (i := a0) (f := nf) (n := 8) hx hb hK hP 3 1 rfl rfl hi16 dX5_fittingField_34 ?_
      refine W.eq (g2 := F0 m 35 ls [.ref aNn]) (by rw [hdN]; rfl) ?_
      refine lv_goto (tgt := 39) hx hb dX5_fittingField_35 rfl ?_
      cases hm
      exact zreta hx hb hr hlk hP hD hS dX5_fittingField_39

def m_P_fitting_T (a0 : Int32) (a1 : Int32) (pv : Nat → Int32) (sv : Nat → Int32) (sr : Nat → Int32) (nf : Nat → Option Nat) (tf : Nat → Option Nat) (ef : Nat → Option Nat) (vn : Nat → Int32) (bn : Nat → Int32) (vt : Nat → Int32) (bt : Nat → Int32) (v : Nat → Int32) (b : Nat → Int32) (rw : Nat → Int32) (pw : Nat → Int32)  : Option ((Nat → Int32) × (Nat → Int32) × (Nat → Int32) × (Nat → Int32) × (Nat → Int32)) := zix a0 8 ((m_N_fits vn bn sv sr).bind (fun q2 => (if q2.1 = 0 then (if a1 = 0 then zix a0 8 ((m_T_fits vt bt sv sr).bind (fun q6 => (if q6.1 = 0 then zix a0 8 ((m_E_fits v b rw pw sv sr).bind (fun q9 => (if q9.1 = 0 then none else zix a0 8 (none)))) else zix a0 8 ((some (q2.2, q6.2, v, rw, pw)))))) else none) else zix a0 8 ((m_N_takesUsage a1 q2.2 bn).bind (fun q14 => (if q14.1 = 0 then none else zix a0 8 (none)))))))
section
variable {p : Program} {l : Launch} {e : Env} {s : State} {m : MethodId} {args : Array Value} {below : List Frame} {meth : Method} {c : Code} {D : va_G} {w0 : va_W} {aQ aY aDc aS rS aNs aTs aEs aNn bNn aTt bTt aE bE rE pE : Nat} {cs cn ct ce c1n c1t c1 c2 c3 : ClassId} {pv : Nat → Int32} {sv : Nat → Int32} {sr : Nat → Int32} {nf : Nat → Option Nat} {tf : Nat → Option Nat} {ef : Nat → Option Nat} {bn : Nat → Int32} {bt : Nat → Int32} {b : Nat → Int32} {a0 : Int32}
end
set_option maxRecDepth 100000 in
set_option maxHeartbeats 4000000 in
theorem k_P_fitting_T (l : Launch) (D : va_G) (aQ aY aDc aS rS aNs aTs aEs aNn bNn aTt bTt aE bE rE pE : Nat) (cs cn ct ce c1n c1t c1 c2 c3 : ClassId) (sz : Nat) (a0 : Int32) (a1 : Int32) (pv : Nat → Int32) (sv : Nat → Int32) (sr : Nat → Int32) (nf : Nat → Option Nat) (tf : Nat → Option Nat) (ef : Nat → Option Nat) (vn : Nat → Int32) (bn : Nat → Int32) (vt : Nat → Int32) (bt : Nat → Int32) (v : Nat → Int32) (b : Nat → Int32) (rw : Nat → Int32) (pw : Nat → Int32) (hdN : nf a0.toNatClampNeg = some aNn) (hdT : tf a0.toNatClampNeg = some aTt) (hdE : ef a0.toNatClampNeg = some aE) (res : (Nat → Int32) × (Nat → Int32) × (Nat → Int32) × (Nat → Int32) × (Nat → Int32)) (hm : m_P_fitting_T a0 a1 pv sv sr nf tf ef vn bn vt bt v b rw pw  = some res) : Met l yX5_fittingField (Cond.code yX5_fittingField cX5_fittingField 3 (some (.object "PictureFields$Field")) :: zBIG) (zR 5 105) (va_Pc [.ref aQ, .int a0, .int a1] (zP zC D vwCl (wQF_t cs cn ct ce c1n c1t c1 c2 c3) (wQF aQ aY aDc aS rS aNs aTs aEs aNn bNn aTt bTt aE bE rE pE cs cn ct ce c1n c1t c1 c2 c3 pv sv sr nf tf ef vn bn vt bt v b rw pw) sz)) (zQq D vwCl (wQF aQ aY aDc aS rS aNs aTs aEs aNn bNn aTt bTt aE bE rE pE cs cn ct ce c1n c1t c1 c2 c3 pv sv sr nf tf ef vn bn vt bt v b rw pw) (wQF aQ aY aDc aS rS aNs aTs aEs aNn bNn aTt bTt aE bE rE pE cs cn ct ce c1n c1t c1 c2 c3 pv sv sr nf tf ef res.1 bn res.2.1 bt res.2.2.1 b res.2.2.2.1 res.2.2.2.2) sz (some aTt)) 0 0 (va_A (wQF aQ aY aDc aS rS aNs aTs aEs aNn bNn aTt bTt aE bE rE pE cs cn ct ce c1n c1t c1 c2 c3 pv sv sr nf tf ef vn bn vt bt v b rw pw) sz) := by
  refine zEnter RX5 [.ref aQ, .int a0, .int a1] (by decide) rfl (Nat.le_of_ble_eq_true rfl) (fun p e s m below meth c ls G hK hX hP hD hsz hl => ?_)
  subst hsz
  unfold m_P_fitting_T at hm
  have hl : lv_has ls 3 [(0, .ref aQ), (1, .int a0), (2, .int a1)] := hl
  have hS : va_S (va_A (wQF aQ aY aDc aS rS aNs aTs aEs aNn bNn aTt bTt aE bE rE pE cs cn ct ce c1n c1t c1 c2 c3 pv sv sr nf tf ef vn bn vt bt v b rw pw) s.heap.size) s.heap s.heap [] := va_S.rf
  have hA : ∀ q, s.heap.size ≤ q → va_A (wQF aQ aY aDc aS rS aNs aTs aEs aNn bNn aTt bTt aE bE rE pE cs cn ct ce c1n c1t c1 c2 c3 pv sv sr nf tf ef vn bn vt bt v b rw pw) s.heap.size q := fun q h => Or.inr h
  have G0 := G
  obtain ⟨hx, hb, hr, hml, hown, hw, hlk⟩ := G
  refine lv_aload_n hx hb dX5_fittingField_0 rfl (lv_at hl 0 rfl) ?_
  refine va_get (D := D) (ci := 4) (v := .ref aNs) (C := RX5) (T := TX5) (N := 8) hx hb hw zinX5 hown hK hP 0 rfl rfl 3 (by decide) (hw _ zw460) (fun _ h9 => h9) rfl dX5_fittingField_1 ?_
  refine lv_iload_n hx hb dX5_fittingField_4 rfl (lv_at hl 1 rfl) ?_
  obtain ⟨hi1, hm⟩ := zix_s hm
  refine va_aldq (i := a0) (f := nf) (n := 8) hx hb hK hP 3 1 rfl rfl hi1 dX5_fittingField_5 ?_
  refine W.eq (g2 := F0 m 6 ls [.ref aNn]) (by rw [hdN]; rfl) ?_
  refine lv_aload_n hx hb dX5_fittingField_6 rfl (lv_at hl 0 rfl) ?_
  refine va_get (D := D) (ci := 4) (v := .ref aS) (C := RX5) (T := TX5) (N := 8) hx hb hw zinX5 hown hK hP 0 rfl rfl 2 (by decide) (hw _ zw461) (fun _ h9 => h9) rfl dX5_fittingField_7 ?_
  obtain ⟨q2, hq2, hm⟩ := zbind hm
  have hPc := hP.sub (ws' := (wNS aNn bNn aS rS c1n cs vn bn sv sr)) [6, 7, 1, 2] rfl
  have hDc := hD.sub (ws' := (wNS aNn bNn aS rS c1n cs vn bn sv sr)) [6, 7, 1, 2] (by decide) rfl
  have hKc := hK.sub (tys' := wNS_t c1n cs) [4, 0] rfl
  have hFc := va_free (wc := (wNS aNn bNn aS rS c1n cs vn bn sv sr)) hD hS hA [6, 7, 1, 2] rfl
  refine zbSi (wr := [(aQ, .inr (4, [.ref aY, .int (pv 1), .ref aS, .ref aNs, .ref aTs, .ref aEs, .ref aDc, .int (pv 7)])), (aNs, .inl (cn, 8, .inr (.inr (.inr (.inr nf))))), (aTs, .inl (ct, 8, .inr (.inr (.inr (.inr tf))))), (aEs, .inl (ce, 8, .inr (.inr (.inr (.inr ef))))), (aTt, .inr (3, [.ref bTt, .int (vt 1), .int (vt 2), .int (vt 3), .int (vt 4)])), (bTt, .inl (c1t, 25, .inl bt)), (aE, .inr (0, [.ref bE, .int (v 1), .int (v 2), .int (v 3), .int (v 4), .ref rE, .ref pE, .int (v 7), .int (v 8), .int (v 9), .int (v 10), .int (v 11), .int (v 12), .int (v 13), .int (v 14), .int (v 15)])), (bE, .inl (c1, 25, .inl b)), (rE, .inl (c2, 24, .inl rw)), (pE, .inl (c3, 24, .inl pw))]) (w1 := (wNS aNn bNn aS rS c1n cs q2.2 bn sv sr)) (w' := (wQF aQ aY aDc aS rS aNs aTs aEs aNn bNn aTt bTt aE bE rE pE cs cn ct ce c1n c1t c1 c2 c3 pv sv sr nf tf ef q2.2 bn vt bt v b rw pw)) (va_runV (As := [.ref aS]) (rest := []) ⟨hx, hb, hml, hown, hw⟩ (k_N_fits l D aNn bNn aS rS c1n cs _ vn bn sv sr  q2 hq2) (zcV (C := RX2) 1 hw (zgood zw462) rfl rfl rfl zw210 zw464 zw463 zw465 hdX2_fits ⟨Nat.le_of_ble_eq_true rfl, Nat.le_of_ble_eq_true rfl⟩) (zpreV (zpre zC_ok hX hS hFc hPc hKc hDc) (va_recv hK hP rfl (q0 := 6) rfl)) rfl rfl hl.1 rfl (lv_room (Nat.le_of_ble_eq_true rfl)) dX5_fittingField_10 ⟨Nat.zero_le _, Nat.zero_le _⟩) hP hD hS hFc [6, 7, 1, 2] [0, 3, 4, 5, 8, 9, 10, 11, 12, 13] [0, 12, 13, 1, 2, 3, 10, 11, 4, 5, 6, 7, 8, 9] rfl rfl (by decide) (by decide) rfl (by decide) (fun H locs hP hD hS => ?_)
  refine lv_if_eq (tgt := 40) hx hb dX5_fittingField_13 rfl (fun cd3 => ?_) (fun cd3 => ?_)
  · replace hm := zt cd3 hm
    refine lv_iload_n hx hb dX5_fittingField_40 rfl (lv_at hl 2 rfl) ?_
    refine lv_if_eq (tgt := 46) hx hb dX5_fittingField_41 rfl (fun cd4 => ?_) (fun cd4 => ?_)
    · replace hm := zt cd4 hm
      refine lv_aload_n hx hb dX5_fittingField_46 rfl (lv_at hl 0 rfl) ?_
      refine va_get (D := D) (ci := 4) (v := .ref aTs) (C := RX5) (T := TX5) (N := 8) hx hb hw zinX5 hown hK hP 0 rfl rfl 4 (by decide) (hw _ zw466) (fun _ h9 => h9) rfl dX5_fittingField_47 ?_
      refine lv_iload_n hx hb dX5_fittingField_50 rfl (lv_at hl 1 rfl) ?_
      obtain ⟨hi5, hm⟩ := zix_s hm
      refine va_aldq (i := a0) (f := tf) (n := 8) hx hb hK hP 4 2 rfl rfl hi5 dX5_fittingField_51 ?_
      refine W.eq (g2 := F0 m 52 ls [.ref aTt]) (by rw [hdT]; rfl) ?_
      refine lv_aload_n hx hb dX5_fittingField_52 rfl (lv_at hl 0 rfl) ?_
      refine va_get (D := D) (ci := 4) (v := .ref aS) (C := RX5) (T := TX5) (N := 8) hx hb hw zinX5 hown hK hP 0 rfl rfl 2 (by decide) (hw _ zw461) (fun _ h9 => h9) rfl dX5_fittingField_53 ?_
      obtain ⟨q6, hq6, hm⟩ := zbind hm
      have hPc := hP.sub (ws' := (wTS aTt bTt aS rS c1t cs vt bt sv sr)) [8, 9, 1, 2] rfl
      have hDc := hD.sub (ws' := (wTS aTt bTt aS rS c1t cs vt bt sv sr)) [8, 9, 1, 2] (by decide) rfl
      have hKc := hK.sub (tys' := wTS_t c1t cs) [5, 0] rfl
      have hFc := va_free (wc := (wTS aTt bTt aS rS c1t cs vt bt sv sr)) hD hS hA [8, 9, 1, 2] rfl
      refine zbSi (wr := [(aQ, .inr (4, [.ref aY, .int (pv 1), .ref aS, .ref aNs, .ref aTs, .ref aEs, .ref aDc, .int (pv 7)])), (aNs, .inl (cn, 8, .inr (.inr (.inr (.inr nf))))), (aTs, .inl (ct, 8, .inr (.inr (.inr (.inr tf))))), (aEs, .inl (ce, 8, .inr (.inr (.inr (.inr ef))))), (aNn, .inr (1, [.ref bNn, .int (q2.2 1), .int (q2.2 2), .int (q2.2 3), .int (q2.2 4), .int (q2.2 5), .int (q2.2 6), .int (q2.2 7)])), (bNn, .inl (c1n, 25, .inl bn)), (aE, .inr (0, [.ref bE, .int (v 1), .int (v 2), .int (v 3), .int (v 4), .ref rE, .ref pE, .int (v 7), .int (v 8), .int (v 9), .int (v 10), .int (v 11), .int (v 12), .int (v 13), .int (v 14), .int (v 15)])), (bE, .inl (c1, 25, .inl b)), (rE, .inl (c2, 24, .inl rw)), (pE, .inl (c3, 24, .inl pw))]) (w1 := (wTS aTt bTt aS rS c1t cs q6.2 bt sv sr)) (w' := (wQF aQ aY aDc aS rS aNs aTs aEs aNn bNn aTt bTt aE bE rE pE cs cn ct ce c1n c1t c1 c2 c3 pv sv sr nf tf ef q2.2 bn q6.2 bt v b rw pw)) (va_runV (As := [.ref aS]) (rest := []) ⟨hx, hb, hml, hown, hw⟩ (k_T_fits l D aTt bTt aS rS c1t cs _ vt bt sv sr  q6 hq6) (zcV (C := RX4) 1 hw (zgood zw467) rfl rfl rfl zw402 zw469 zw468 zw470 hdX4_fits ⟨Nat.le_of_ble_eq_true rfl, Nat.le_of_ble_eq_true rfl⟩) (zpreV (zpre zC_ok hX hS hFc hPc hKc hDc) (va_recv hK hP rfl (q0 := 8) rfl)) rfl rfl hl.1 rfl (lv_room (Nat.le_of_ble_eq_true rfl)) dX5_fittingField_56 ⟨Nat.zero_le _, Nat.zero_le _⟩) hP hD hS hFc [8, 9, 1, 2] [0, 3, 4, 5, 6, 7, 10, 11, 12, 13] [0, 12, 13, 1, 2, 3, 4, 5, 10, 11, 6, 7, 8, 9] rfl rfl (by decide) (by decide) rfl (by decide) (fun H locs hP hD hS => ?_)
      refine lv_if_eq (tgt := 69) hx hb dX5_fittingField_59 rfl (fun cd7 => ?_) (fun cd7 => ?_)
      · replace hm := zt cd7 hm
        refine lv_aload_n hx hb dX5_fittingField_69 rfl (lv_at hl 0 rfl) ?_
        refine va_get (D := D) (ci := 4) (v := .ref aEs) (C := RX5) (T := TX5) (N := 8) hx hb hw zinX5 hown hK hP 0 rfl rfl 5 (by decide) (hw _ zw471) (fun _ h9 => h9) rfl dX5_fittingField_70 ?_
        refine lv_iload_n hx hb dX5_fittingField_73 rfl (lv_at hl 1 rfl) ?_
        obtain ⟨hi8, hm⟩ := zix_s hm
        refine va_aldq (i := a0) (f := ef) (n := 8) hx hb hK hP 5 3 rfl rfl hi8 dX5_fittingField_74 ?_
        refine W.eq (g2 := F0 m 75 ls [.ref aE]) (by rw [hdE]; rfl) ?_
        refine lv_aload_n hx hb dX5_fittingField_75 rfl (lv_at hl 0 rfl) ?_
        refine va_get (D := D) (ci := 4) (v := .ref aS) (C := RX5) (T := TX5) (N := 8) hx hb hw zinX5 hown hK hP 0 rfl rfl 2 (by decide) (hw _ zw461) (fun _ h9 => h9) rfl dX5_fittingField_76 ?_
        obtain ⟨q9, hq9, hm⟩ := zbind hm
        have hPc := hP.sub (ws' := (wES aE bE rE pE aS rS c1 c2 c3 cs v b rw pw sv sr)) [10, 11, 12, 13, 1, 2] rfl
        have hDc := hD.sub (ws' := (wES aE bE rE pE aS rS c1 c2 c3 cs v b rw pw sv sr)) [10, 11, 12, 13, 1, 2] (by decide) rfl
        have hKc := hK.sub (tys' := wES_t c1 c2 c3 cs) [6, 7, 8, 0] rfl
        have hFc := va_free (wc := (wES aE bE rE pE aS rS c1 c2 c3 cs v b rw pw sv sr)) hD hS hA [10, 11, 12, 13, 1, 2] rfl
        refine zbSi (wr := [(aQ, .inr (4, [.ref aY, .int (pv 1), .ref aS, .ref aNs, .ref aTs, .ref aEs, .ref aDc, .int (pv 7)])), (aNs, .inl (cn, 8, .inr (.inr (.inr (.inr nf))))), (aTs, .inl (ct, 8, .inr (.inr (.inr (.inr tf))))), (aEs, .inl (ce, 8, .inr (.inr (.inr (.inr ef))))), (aNn, .inr (1, [.ref bNn, .int (q2.2 1), .int (q2.2 2), .int (q2.2 3), .int (q2.2 4), .int (q2.2 5), .int (q2.2 6), .int (q2.2 7)])), (bNn, .inl (c1n, 25, .inl bn)), (aTt, .inr (3, [.ref bTt, .int (q6.2 1), .int (q6.2 2), .int (q6.2 3), .int (q6.2 4)])), (bTt, .inl (c1t, 25, .inl bt))]) (w1 := (wES aE bE rE pE aS rS c1 c2 c3 cs q9.2.1 b q9.2.2.1 q9.2.2.2 sv sr)) (w' := (wQF aQ aY aDc aS rS aNs aTs aEs aNn bNn aTt bTt aE bE rE pE cs cn ct ce c1n c1t c1 c2 c3 pv sv sr nf tf ef q2.2 bn q6.2 bt q9.2.1 b q9.2.2.1 q9.2.2.2)) (va_runV (As := [.ref aS]) (rest := []) ⟨hx, hb, hml, hown, hw⟩ (k_E_fits l D aE bE rE pE aS rS c1 c2 c3 cs _ v b rw pw sv sr  q9 hq9) (zcV (C := RX0) 1 hw (zgood zw472) rfl rfl rfl zw259 zw474 zw473 zw475 hdX0_fits ⟨Nat.le_of_ble_eq_true rfl, Nat.le_of_ble_eq_true rfl⟩) (zpreV (zpre zC_ok hX hS hFc hPc hKc hDc) (va_recv hK hP rfl (q0 := 10) rfl)) rfl rfl hl.1 rfl (lv_room (Nat.le_of_ble_eq_true rfl)) dX5_fittingField_79 ⟨Nat.zero_le _, Nat.zero_le _⟩) hP hD hS hFc [10, 11, 12, 13, 1, 2] [0, 3, 4, 5, 6, 7, 8, 9] [0, 12, 13, 1, 2, 3, 4, 5, 6, 7, 8, 9, 10, 11] rfl rfl (by decide) (by decide) rfl (by decide) (fun H locs hP hD hS => ?_)
        refine lv_if_eq (tgt := 94) hx hb dX5_fittingField_82 rfl (fun cd10 => ?_) (fun cd10 => ?_)
        · replace hm := zt cd10 hm
          refine lv_null hx hb dX5_fittingField_94 ?_
          cases hm
        · replace hm := zf cd10 hm
          refine lv_aload_n hx hb dX5_fittingField_85 rfl (lv_at hl 0 rfl) ?_
          refine va_get (D := D) (ci := 4) (v := .ref aEs) (C := RX5) (T := TX5) (N := 8) hx hb hw zinX5 hown hK hP 0 rfl rfl 5 (by decide) (hw _ zw471) (fun _ h9 => h9) rfl dX5_fittingField_86 ?_
          refine lv_iload_n hx hb dX5_fittingField_89 rfl (lv_at hl 1 rfl) ?_
          obtain ⟨hi11, hm⟩ := zix_s hm
          refine va_aldq (i := a0) (f := ef) (n := 8) hx hb hK hP 5 3 rfl rfl hi11 dX5_fittingField_90 ?_
          refine W.eq (g2 := F0 m 91 ls [.ref aE]) (by rw [hdE]; rfl) ?_
          refine lv_goto (tgt := 95) hx hb dX5_fittingField_91 rfl ?_
          cases hm
      · replace hm := zf cd7 hm
        refine lv_aload_n hx hb dX5_fittingField_62 rfl (lv_at hl 0 rfl) ?_
        refine va_get (D := D) (ci := 4) (v := .ref aTs) (C := RX5) (T := TX5) (N := 8) hx hb hw zinX5 hown hK hP 0 rfl rfl 4 (by decide) (hw _ zw466) (fun _ h9 => h9) rfl dX5_fittingField_63 ?_
        refine lv_iload_n hx hb dX5_fittingField_66 rfl (lv_at hl 1 rfl) ?_
        obtain ⟨hi12, hm⟩ := zix_s hm
        refine va_aldq (i := a0) (f := tf) (n := 8) hx hb hK hP 4 2 rfl rfl hi12 dX5_fittingField_67 ?_
        refine W.eq (g2 := F0 m 68 ls [.ref aTt]) (by rw [hdT]; rfl) ?_
        cases hm
        exact zreta hx hb hr hlk hP hD hS dX5_fittingField_68
    · replace hm := zf cd4 hm
      refine lv_null hx hb dX5_fittingField_44 ?_
      cases hm
  · replace hm := zf cd3 hm
    refine lv_aload_n hx hb dX5_fittingField_16 rfl (lv_at hl 0 rfl) ?_
    refine va_get (D := D) (ci := 4) (v := .ref aNs) (C := RX5) (T := TX5) (N := 8) hx hb hw zinX5 hown hK hP 0 rfl rfl 3 (by decide) (hw _ zw460) (fun _ h9 => h9) rfl dX5_fittingField_17 ?_
    refine lv_iload_n hx hb dX5_fittingField_20 rfl (lv_at hl 1 rfl) ?_
    obtain ⟨hi13, hm⟩ := zix_s hm
    refine va_aldq (i := a0) (f := nf) (n := 8) hx hb hK hP 3 1 rfl rfl hi13 dX5_fittingField_21 ?_
    refine W.eq (g2 := F0 m 22 ls [.ref aNn]) (by rw [hdN]; rfl) ?_
    refine lv_iload_n hx hb dX5_fittingField_22 rfl (lv_at hl 2 rfl) ?_
    obtain ⟨q14, hq14, hm⟩ := zbind hm
    have hPc := hP.sub (ws' := (wN aNn bNn c1n q2.2 bn)) [6, 7] rfl
    have hDc := hD.sub (ws' := (wN aNn bNn c1n q2.2 bn)) [6, 7] (by decide) rfl
    have hKc := hK.sub (tys' := wN_t c1n) [4] rfl
    have hFc := va_free (wc := (wN aNn bNn c1n q2.2 bn)) hD hS hA [6, 7] rfl
    refine zbSi (wr := [(aQ, .inr (4, [.ref aY, .int (pv 1), .ref aS, .ref aNs, .ref aTs, .ref aEs, .ref aDc, .int (pv 7)])), (aS, .inr (2, [.ref rS, .int (sv 1)])), (rS, .inl (cs, 24, .inl sr)), (aNs, .inl (cn, 8, .inr (.inr (.inr (.inr nf))))), (aTs, .inl (ct, 8, .inr (.inr (.inr (.inr tf))))), (aEs, .inl (ce, 8, .inr (.inr (.inr (.inr ef))))), (aTt, .inr (3, [.ref bTt, .int (vt 1), .int (vt 2), .int (vt 3), .int (vt 4)])), (bTt, .inl (c1t, 25, .inl bt)), (aE, .inr (0, [.ref bE, .int (v 1), .int (v 2), .int (v 3), .int (v 4), .ref rE, .ref pE, .int (v 7), .int (v 8), .int (v 9), .int (v 10), .int (v 11), .int (v 12), .int (v 13), .int (v 14), .int (v 15)])), (bE, .inl (c1, 25, .inl b)), (rE, .inl (c2, 24, .inl rw)), (pE, .inl (c3, 24, .inl pw))]) (w1 := (wN aNn bNn c1n q14.2 bn)) (w' := (wQF aQ aY aDc aS rS aNs aTs aEs aNn bNn aTt bTt aE bE rE pE cs cn ct ce c1n c1t c1 c2 c3 pv sv sr nf tf ef q14.2 bn vt bt v b rw pw)) (va_runV (As := [.int a1]) (rest := []) ⟨hx, hb, hml, hown, hw⟩ (k_N_takesUsage l D aNn bNn c1n _ a1 q2.2 bn  q14 hq14) (zcV (C := RX2) 1 hw (zgood zw476) rfl rfl rfl zw210 zw478 zw477 zw479 hdX2_takesUsage ⟨Nat.le_of_ble_eq_true rfl, Nat.le_of_ble_eq_true rfl⟩) (zpreV (zpre zC_ok hX hS hFc hPc hKc hDc) (va_recv hK hP rfl (q0 := 6) rfl)) rfl rfl hl.1 rfl (lv_room (Nat.le_of_ble_eq_true rfl)) dX5_fittingField_23 ⟨Nat.zero_le _, Nat.zero_le _⟩) hP hD hS hFc [6, 7] [0, 1, 2, 3, 4, 5, 8, 9, 10, 11, 12, 13] [0, 1, 2, 3, 4, 5, 12, 13, 6, 7, 8, 9, 10, 11] rfl rfl (by decide) (by decide) rfl (by decide) (fun H locs hP hD hS => ?_)
    refine lv_if_eq (tgt := 38) hx hb dX5_fittingField_26 rfl (fun cd15 => ?_) (fun cd15 => ?_)
    · replace hm := zt cd15 hm
      refine lv_null hx hb dX5_fittingField_38 ?_
      cases hm
    · replace hm := zf cd15 hm
      refine lv_aload_n hx hb dX5_fittingField_29 rfl (lv_at hl 0 rfl) ?_
      refine va_get (D := D) (ci := 4) (v := .ref aNs) (C := RX5) (T := TX5) (N := 8) hx hb hw zinX5 hown hK hP 0 rfl rfl 3 (by decide) (hw _ zw460) (fun _ h9 => h9) rfl dX5_fittingField_30 ?_
      refine lv_iload_n hx hb dX5_fittingField_33 rfl (lv_at hl 1 rfl) ?_
      obtain ⟨hi16, hm⟩ := zix_s hm
      refine va_aldq (i := a0) (f := nf) (n := 8) hx hb hK hP 3 1 rfl rfl hi16 dX5_fittingField_34 ?_
      refine W.eq (g2 := F0 m 35 ls [.ref aNn]) (by rw [hdN]; rfl) ?_
      refine lv_goto (tgt := 39) hx hb dX5_fittingField_35 rfl ?_
      cases hm

def m_P_fitting_E (a0 : Int32) (a1 : Int32) (pv : Nat → Int32) (sv : Nat → Int32) (sr : Nat → Int32) (nf : Nat → Option Nat) (tf : Nat → Option Nat) (ef : Nat → Option Nat) (vn : Nat → Int32) (bn : Nat → Int32) (vt : Nat → Int32) (bt : Nat → Int32) (v : Nat → Int32) (b : Nat → Int32) (rw : Nat → Int32) (pw : Nat → Int32)  : Option ((Nat → Int32) × (Nat → Int32) × (Nat → Int32) × (Nat → Int32) × (Nat → Int32)) := zix a0 8 ((m_N_fits vn bn sv sr).bind (fun q2 => (if q2.1 = 0 then (if a1 = 0 then zix a0 8 ((m_T_fits vt bt sv sr).bind (fun q6 => (if q6.1 = 0 then zix a0 8 ((m_E_fits v b rw pw sv sr).bind (fun q9 => (if q9.1 = 0 then none else zix a0 8 ((some (q2.2, q6.2, q9.2.1, q9.2.2.1, q9.2.2.2)))))) else zix a0 8 (none)))) else none) else zix a0 8 ((m_N_takesUsage a1 q2.2 bn).bind (fun q14 => (if q14.1 = 0 then none else zix a0 8 (none)))))))
section
variable {p : Program} {l : Launch} {e : Env} {s : State} {m : MethodId} {args : Array Value} {below : List Frame} {meth : Method} {c : Code} {D : va_G} {w0 : va_W} {aQ aY aDc aS rS aNs aTs aEs aNn bNn aTt bTt aE bE rE pE : Nat} {cs cn ct ce c1n c1t c1 c2 c3 : ClassId} {pv : Nat → Int32} {sv : Nat → Int32} {sr : Nat → Int32} {nf : Nat → Option Nat} {tf : Nat → Option Nat} {ef : Nat → Option Nat} {bn : Nat → Int32} {bt : Nat → Int32} {b : Nat → Int32} {a0 : Int32}
end
set_option maxRecDepth 100000 in
set_option maxHeartbeats 4000000 in
theorem k_P_fitting_E (l : Launch) (D : va_G) (aQ aY aDc aS rS aNs aTs aEs aNn bNn aTt bTt aE bE rE pE : Nat) (cs cn ct ce c1n c1t c1 c2 c3 : ClassId) (sz : Nat) (a0 : Int32) (a1 : Int32) (pv : Nat → Int32) (sv : Nat → Int32) (sr : Nat → Int32) (nf : Nat → Option Nat) (tf : Nat → Option Nat) (ef : Nat → Option Nat) (vn : Nat → Int32) (bn : Nat → Int32) (vt : Nat → Int32) (bt : Nat → Int32) (v : Nat → Int32) (b : Nat → Int32) (rw : Nat → Int32) (pw : Nat → Int32) (hdN : nf a0.toNatClampNeg = some aNn) (hdT : tf a0.toNatClampNeg = some aTt) (hdE : ef a0.toNatClampNeg = some aE) (res : (Nat → Int32) × (Nat → Int32) × (Nat → Int32) × (Nat → Int32) × (Nat → Int32)) (hm : m_P_fitting_E a0 a1 pv sv sr nf tf ef vn bn vt bt v b rw pw  = some res) : Met l yX5_fittingField (Cond.code yX5_fittingField cX5_fittingField 3 (some (.object "PictureFields$Field")) :: zBIG) (zR 5 105) (va_Pc [.ref aQ, .int a0, .int a1] (zP zC D vwCl (wQF_t cs cn ct ce c1n c1t c1 c2 c3) (wQF aQ aY aDc aS rS aNs aTs aEs aNn bNn aTt bTt aE bE rE pE cs cn ct ce c1n c1t c1 c2 c3 pv sv sr nf tf ef vn bn vt bt v b rw pw) sz)) (zQq D vwCl (wQF aQ aY aDc aS rS aNs aTs aEs aNn bNn aTt bTt aE bE rE pE cs cn ct ce c1n c1t c1 c2 c3 pv sv sr nf tf ef vn bn vt bt v b rw pw) (wQF aQ aY aDc aS rS aNs aTs aEs aNn bNn aTt bTt aE bE rE pE cs cn ct ce c1n c1t c1 c2 c3 pv sv sr nf tf ef res.1 bn res.2.1 bt res.2.2.1 b res.2.2.2.1 res.2.2.2.2) sz (some aE)) 0 0 (va_A (wQF aQ aY aDc aS rS aNs aTs aEs aNn bNn aTt bTt aE bE rE pE cs cn ct ce c1n c1t c1 c2 c3 pv sv sr nf tf ef vn bn vt bt v b rw pw) sz) := by
  refine zEnter RX5 [.ref aQ, .int a0, .int a1] (by decide) rfl (Nat.le_of_ble_eq_true rfl) (fun p e s m below meth c ls G hK hX hP hD hsz hl => ?_)
  subst hsz
  unfold m_P_fitting_E at hm
  have hl : lv_has ls 3 [(0, .ref aQ), (1, .int a0), (2, .int a1)] := hl
  have hS : va_S (va_A (wQF aQ aY aDc aS rS aNs aTs aEs aNn bNn aTt bTt aE bE rE pE cs cn ct ce c1n c1t c1 c2 c3 pv sv sr nf tf ef vn bn vt bt v b rw pw) s.heap.size) s.heap s.heap [] := va_S.rf
  have hA : ∀ q, s.heap.size ≤ q → va_A (wQF aQ aY aDc aS rS aNs aTs aEs aNn bNn aTt bTt aE bE rE pE cs cn ct ce c1n c1t c1 c2 c3 pv sv sr nf tf ef vn bn vt bt v b rw pw) s.heap.size q := fun q h => Or.inr h
  have G0 := G
  obtain ⟨hx, hb, hr, hml, hown, hw, hlk⟩ := G
  refine lv_aload_n hx hb dX5_fittingField_0 rfl (lv_at hl 0 rfl) ?_
  refine va_get (D := D) (ci := 4) (v := .ref aNs) (C := RX5) (T := TX5) (N := 8) hx hb hw zinX5 hown hK hP 0 rfl rfl 3 (by decide) (hw _ zw460) (fun _ h9 => h9) rfl dX5_fittingField_1 ?_
  refine lv_iload_n hx hb dX5_fittingField_4 rfl (lv_at hl 1 rfl) ?_
  obtain ⟨hi1, hm⟩ := zix_s hm
  refine va_aldq (i := a0) (f := nf) (n := 8) hx hb hK hP 3 1 rfl rfl hi1 dX5_fittingField_5 ?_
  refine W.eq (g2 := F0 m 6 ls [.ref aNn]) (by rw [hdN]; rfl) ?_
  refine lv_aload_n hx hb dX5_fittingField_6 rfl (lv_at hl 0 rfl) ?_
  refine va_get (D := D) (ci := 4) (v := .ref aS) (C := RX5) (T := TX5) (N := 8) hx hb hw zinX5 hown hK hP 0 rfl rfl 2 (by decide) (hw _ zw461) (fun _ h9 => h9) rfl dX5_fittingField_7 ?_
  obtain ⟨q2, hq2, hm⟩ := zbind hm
  have hPc := hP.sub (ws' := (wNS aNn bNn aS rS c1n cs vn bn sv sr)) [6, 7, 1, 2] rfl
  have hDc := hD.sub (ws' := (wNS aNn bNn aS rS c1n cs vn bn sv sr)) [6, 7, 1, 2] (by decide) rfl
  have hKc := hK.sub (tys' := wNS_t c1n cs) [4, 0] rfl
  have hFc := va_free (wc := (wNS aNn bNn aS rS c1n cs vn bn sv sr)) hD hS hA [6, 7, 1, 2] rfl
  refine zbSi (wr := [(aQ, .inr (4, [.ref aY, .int (pv 1), .ref aS, .ref aNs, .ref aTs, .ref aEs, .ref aDc, .int (pv 7)])), (aNs, .inl (cn, 8, .inr (.inr (.inr (.inr nf))))), (aTs, .inl (ct, 8, .inr (.inr (.inr (.inr tf))))), (aEs, .inl (ce, 8, .inr (.inr (.inr (.inr ef))))), (aTt, .inr (3, [.ref bTt, .int (vt 1), .int (vt 2), .int (vt 3), .int (vt 4)])), (bTt, .inl (c1t, 25, .inl bt)), (aE, .inr (0, [.ref bE, .int (v 1), .int (v 2), .int (v 3), .int (v 4), .ref rE, .ref pE, .int (v 7), .int (v 8), .int (v 9), .int (v 10), .int (v 11), .int (v 12), .int (v 13), .int (v 14), .int (v 15)])), (bE, .inl (c1, 25, .inl b)), (rE, .inl (c2, 24, .inl rw)), (pE, .inl (c3, 24, .inl pw))]) (w1 := (wNS aNn bNn aS rS c1n cs q2.2 bn sv sr)) (w' := (wQF aQ aY aDc aS rS aNs aTs aEs aNn bNn aTt bTt aE bE rE pE cs cn ct ce c1n c1t c1 c2 c3 pv sv sr nf tf ef q2.2 bn vt bt v b rw pw)) (va_runV (As := [.ref aS]) (rest := []) ⟨hx, hb, hml, hown, hw⟩ (k_N_fits l D aNn bNn aS rS c1n cs _ vn bn sv sr  q2 hq2) (zcV (C := RX2) 1 hw (zgood zw462) rfl rfl rfl zw210 zw464 zw463 zw465 hdX2_fits ⟨Nat.le_of_ble_eq_true rfl, Nat.le_of_ble_eq_true rfl⟩) (zpreV (zpre zC_ok hX hS hFc hPc hKc hDc) (va_recv hK hP rfl (q0 := 6) rfl)) rfl rfl hl.1 rfl (lv_room (Nat.le_of_ble_eq_true rfl)) dX5_fittingField_10 ⟨Nat.zero_le _, Nat.zero_le _⟩) hP hD hS hFc [6, 7, 1, 2] [0, 3, 4, 5, 8, 9, 10, 11, 12, 13] [0, 12, 13, 1, 2, 3, 10, 11, 4, 5, 6, 7, 8, 9] rfl rfl (by decide) (by decide) rfl (by decide) (fun H locs hP hD hS => ?_)
  refine lv_if_eq (tgt := 40) hx hb dX5_fittingField_13 rfl (fun cd3 => ?_) (fun cd3 => ?_)
  · replace hm := zt cd3 hm
    refine lv_iload_n hx hb dX5_fittingField_40 rfl (lv_at hl 2 rfl) ?_
    refine lv_if_eq (tgt := 46) hx hb dX5_fittingField_41 rfl (fun cd4 => ?_) (fun cd4 => ?_)
    · replace hm := zt cd4 hm
      refine lv_aload_n hx hb dX5_fittingField_46 rfl (lv_at hl 0 rfl) ?_
      refine va_get (D := D) (ci := 4) (v := .ref aTs) (C := RX5) (T := TX5) (N := 8) hx hb hw zinX5 hown hK hP 0 rfl rfl 4 (by decide) (hw _ zw466) (fun _ h9 => h9) rfl dX5_fittingField_47 ?_
      refine lv_iload_n hx hb dX5_fittingField_50 rfl (lv_at hl 1 rfl) ?_
      obtain ⟨hi5, hm⟩ := zix_s hm
      refine va_aldq (i := a0) (f := tf) (n := 8) hx hb hK hP 4 2 rfl rfl hi5 dX5_fittingField_51 ?_
      refine W.eq (g2 := F0 m 52 ls [.ref aTt]) (by rw [hdT]; rfl) ?_
      refine lv_aload_n hx hb dX5_fittingField_52 rfl (lv_at hl 0 rfl) ?_
      refine va_get (D := D) (ci := 4) (v := .ref aS) (C := RX5) (T := TX5) (N := 8) hx hb hw zinX5 hown hK hP 0 rfl rfl 2 (by decide) (hw _ zw461) (fun _ h9 => h9) rfl dX5_fittingField_53 ?_
      obtain ⟨q6, hq6, hm⟩ := zbind hm
      have hPc := hP.sub (ws' := (wTS aTt bTt aS rS c1t cs vt bt sv sr)) [8, 9, 1, 2] rfl
      have hDc := hD.sub (ws' := (wTS aTt bTt aS rS c1t cs vt bt sv sr)) [8, 9, 1, 2] (by decide) rfl
      have hKc := hK.sub (tys' := wTS_t c1t cs) [5, 0] rfl
      have hFc := va_free (wc := (wTS aTt bTt aS rS c1t cs vt bt sv sr)) hD hS hA [8, 9, 1, 2] rfl
      refine zbSi (wr := [(aQ, .inr (4, [.ref aY, .int (pv 1), .ref aS, .ref aNs, .ref aTs, .ref aEs, .ref aDc, .int (pv 7)])), (aNs, .inl (cn, 8, .inr (.inr (.inr (.inr nf))))), (aTs, .inl (ct, 8, .inr (.inr (.inr (.inr tf))))), (aEs, .inl (ce, 8, .inr (.inr (.inr (.inr ef))))), (aNn, .inr (1, [.ref bNn, .int (q2.2 1), .int (q2.2 2), .int (q2.2 3), .int (q2.2 4), .int (q2.2 5), .int (q2.2 6), .int (q2.2 7)])), (bNn, .inl (c1n, 25, .inl bn)), (aE, .inr (0, [.ref bE, .int (v 1), .int (v 2), .int (v 3), .int (v 4), .ref rE, .ref pE, .int (v 7), .int (v 8), .int (v 9), .int (v 10), .int (v 11), .int (v 12), .int (v 13), .int (v 14), .int (v 15)])), (bE, .inl (c1, 25, .inl b)), (rE, .inl (c2, 24, .inl rw)), (pE, .inl (c3, 24, .inl pw))]) (w1 := (wTS aTt bTt aS rS c1t cs q6.2 bt sv sr)) (w' := (wQF aQ aY aDc aS rS aNs aTs aEs aNn bNn aTt bTt aE bE rE pE cs cn ct ce c1n c1t c1 c2 c3 pv sv sr nf tf ef q2.2 bn q6.2 bt v b rw pw)) (va_runV (As := [.ref aS]) (rest := []) ⟨hx, hb, hml, hown, hw⟩ (k_T_fits l D aTt bTt aS rS c1t cs _ vt bt sv sr  q6 hq6) (zcV (C := RX4) 1 hw (zgood zw467) rfl rfl rfl zw402 zw469 zw468 zw470 hdX4_fits ⟨Nat.le_of_ble_eq_true rfl, Nat.le_of_ble_eq_true rfl⟩) (zpreV (zpre zC_ok hX hS hFc hPc hKc hDc) (va_recv hK hP rfl (q0 := 8) rfl)) rfl rfl hl.1 rfl (lv_room (Nat.le_of_ble_eq_true rfl)) dX5_fittingField_56 ⟨Nat.zero_le _, Nat.zero_le _⟩) hP hD hS hFc [8, 9, 1, 2] [0, 3, 4, 5, 6, 7, 10, 11, 12, 13] [0, 12, 13, 1, 2, 3, 4, 5, 10, 11, 6, 7, 8, 9] rfl rfl (by decide) (by decide) rfl (by decide) (fun H locs hP hD hS => ?_)
      refine lv_if_eq (tgt := 69) hx hb dX5_fittingField_59 rfl (fun cd7 => ?_) (fun cd7 => ?_)
      · replace hm := zt cd7 hm
        refine lv_aload_n hx hb dX5_fittingField_69 rfl (lv_at hl 0 rfl) ?_
        refine va_get (D := D) (ci := 4) (v := .ref aEs) (C := RX5) (T := TX5) (N := 8) hx hb hw zinX5 hown hK hP 0 rfl rfl 5 (by decide) (hw _ zw471) (fun _ h9 => h9) rfl dX5_fittingField_70 ?_
        refine lv_iload_n hx hb dX5_fittingField_73 rfl (lv_at hl 1 rfl) ?_
        obtain ⟨hi8, hm⟩ := zix_s hm
        refine va_aldq (i := a0) (f := ef) (n := 8) hx hb hK hP 5 3 rfl rfl hi8 dX5_fittingField_74 ?_
        refine W.eq (g2 := F0 m 75 ls [.ref aE]) (by rw [hdE]; rfl) ?_
        refine lv_aload_n hx hb dX5_fittingField_75 rfl (lv_at hl 0 rfl) ?_
        refine va_get (D := D) (ci := 4) (v := .ref aS) (C := RX5) (T := TX5) (N := 8) hx hb hw zinX5 hown hK hP 0 rfl rfl 2 (by decide) (hw _ zw461) (fun _ h9 => h9) rfl dX5_fittingField_76 ?_
        obtain ⟨q9, hq9, hm⟩ := zbind hm
        have hPc := hP.sub (ws' := (wES aE bE rE pE aS rS c1 c2 c3 cs v b rw pw sv sr)) [10, 11, 12, 13, 1, 2] rfl
        have hDc := hD.sub (ws' := (wES aE bE rE pE aS rS c1 c2 c3 cs v b rw pw sv sr)) [10, 11, 12, 13, 1, 2] (by decide) rfl
        have hKc := hK.sub (tys' := wES_t c1 c2 c3 cs) [6, 7, 8, 0] rfl
        have hFc := va_free (wc := (wES aE bE rE pE aS rS c1 c2 c3 cs v b rw pw sv sr)) hD hS hA [10, 11, 12, 13, 1, 2] rfl
        refine zbSi (wr := [(aQ, .inr (4, [.ref aY, .int (pv 1), .ref aS, .ref aNs, .ref aTs, .ref aEs, .ref aDc, .int (pv 7)])), (aNs, .inl (cn, 8, .inr (.inr (.inr (.inr nf))))), (aTs, .inl (ct, 8, .inr (.inr (.inr (.inr tf))))), (aEs, .inl (ce, 8, .inr (.inr (.inr (.inr ef))))), (aNn, .inr (1, [.ref bNn, .int (q2.2 1), .int (q2.2 2), .int (q2.2 3), .int (q2.2 4), .int (q2.2 5), .int (q2.2 6), .int (q2.2 7)])), (bNn, .inl (c1n, 25, .inl bn)), (aTt, .inr (3, [.ref bTt, .int (q6.2 1), .int (q6.2 2), .int (q6.2 3), .int (q6.2 4)])), (bTt, .inl (c1t, 25, .inl bt))]) (w1 := (wES aE bE rE pE aS rS c1 c2 c3 cs q9.2.1 b q9.2.2.1 q9.2.2.2 sv sr)) (w' := (wQF aQ aY aDc aS rS aNs aTs aEs aNn bNn aTt bTt aE bE rE pE cs cn ct ce c1n c1t c1 c2 c3 pv sv sr nf tf ef q2.2 bn q6.2 bt q9.2.1 b q9.2.2.1 q9.2.2.2)) (va_runV (As := [.ref aS]) (rest := []) ⟨hx, hb, hml, hown, hw⟩ (k_E_fits l D aE bE rE pE aS rS c1 c2 c3 cs _ v b rw pw sv sr  q9 hq9) (zcV (C := RX0) 1 hw (zgood zw472) rfl rfl rfl zw259 zw474 zw473 zw475 hdX0_fits ⟨Nat.le_of_ble_eq_true rfl, Nat.le_of_ble_eq_true rfl⟩) (zpreV (zpre zC_ok hX hS hFc hPc hKc hDc) (va_recv hK hP rfl (q0 := 10) rfl)) rfl rfl hl.1 rfl (lv_room (Nat.le_of_ble_eq_true rfl)) dX5_fittingField_79 ⟨Nat.zero_le _, Nat.zero_le _⟩) hP hD hS hFc [10, 11, 12, 13, 1, 2] [0, 3, 4, 5, 6, 7, 8, 9] [0, 12, 13, 1, 2, 3, 4, 5, 6, 7, 8, 9, 10, 11] rfl rfl (by decide) (by decide) rfl (by decide) (fun H locs hP hD hS => ?_)
        refine lv_if_eq (tgt := 94) hx hb dX5_fittingField_82 rfl (fun cd10 => ?_) (fun cd10 => ?_)
        · replace hm := zt cd10 hm
          refine lv_null hx hb dX5_fittingField_94 ?_
          cases hm
        · replace hm := zf cd10 hm
          refine lv_aload_n hx hb dX5_fittingField_85 rfl (lv_at hl 0 rfl) ?_
          refine va_get (D := D) (ci := 4) (v := .ref aEs) (C := RX5) (T := TX5) (N := 8) hx hb hw zinX5 hown hK hP 0 rfl rfl 5 (by decide) (hw _ zw471) (fun _ h9 => h9) rfl dX5_fittingField_86 ?_
          refine lv_iload_n hx hb dX5_fittingField_89 rfl (lv_at hl 1 rfl) ?_
          obtain ⟨hi11, hm⟩ := zix_s hm
          refine va_aldq (i := a0) (f := ef) (n := 8) hx hb hK hP 5 3 rfl rfl hi11 dX5_fittingField_90 ?_
          refine W.eq (g2 := F0 m 91 ls [.ref aE]) (by rw [hdE]; rfl) ?_
          refine lv_goto (tgt := 95) hx hb dX5_fittingField_91 rfl ?_
          cases hm
          exact zreta hx hb hr hlk hP hD hS dX5_fittingField_95
      · replace hm := zf cd7 hm
        refine lv_aload_n hx hb dX5_fittingField_62 rfl (lv_at hl 0 rfl) ?_
        refine va_get (D := D) (ci := 4) (v := .ref aTs) (C := RX5) (T := TX5) (N := 8) hx hb hw zinX5 hown hK hP 0 rfl rfl 4 (by decide) (hw _ zw466) (fun _ h9 => h9) rfl dX5_fittingField_63 ?_
        refine lv_iload_n hx hb dX5_fittingField_66 rfl (lv_at hl 1 rfl) ?_
        obtain ⟨hi12, hm⟩ := zix_s hm
        refine va_aldq (i := a0) (f := tf) (n := 8) hx hb hK hP 4 2 rfl rfl hi12 dX5_fittingField_67 ?_
        refine W.eq (g2 := F0 m 68 ls [.ref aTt]) (by rw [hdT]; rfl) ?_
        cases hm
    · replace hm := zf cd4 hm
      refine lv_null hx hb dX5_fittingField_44 ?_
      cases hm
  · replace hm := zf cd3 hm
    refine lv_aload_n hx hb dX5_fittingField_16 rfl (lv_at hl 0 rfl) ?_
    refine va_get (D := D) (ci := 4) (v := .ref aNs) (C := RX5) (T := TX5) (N := 8) hx hb hw zinX5 hown hK hP 0 rfl rfl 3 (by decide) (hw _ zw460) (fun _ h9 => h9) rfl dX5_fittingField_17 ?_
    refine lv_iload_n hx hb dX5_fittingField_20 rfl (lv_at hl 1 rfl) ?_
    obtain ⟨hi13, hm⟩ := zix_s hm
    refine va_aldq (i := a0) (f := nf) (n := 8) hx hb hK hP 3 1 rfl rfl hi13 dX5_fittingField_21 ?_
    refine W.eq (g2 := F0 m 22 ls [.ref aNn]) (by rw [hdN]; rfl) ?_
    refine lv_iload_n hx hb dX5_fittingField_22 rfl (lv_at hl 2 rfl) ?_
    obtain ⟨q14, hq14, hm⟩ := zbind hm
    have hPc := hP.sub (ws' := (wN aNn bNn c1n q2.2 bn)) [6, 7] rfl
    have hDc := hD.sub (ws' := (wN aNn bNn c1n q2.2 bn)) [6, 7] (by decide) rfl
    have hKc := hK.sub (tys' := wN_t c1n) [4] rfl
    have hFc := va_free (wc := (wN aNn bNn c1n q2.2 bn)) hD hS hA [6, 7] rfl
    refine zbSi (wr := [(aQ, .inr (4, [.ref aY, .int (pv 1), .ref aS, .ref aNs, .ref aTs, .ref aEs, .ref aDc, .int (pv 7)])), (aS, .inr (2, [.ref rS, .int (sv 1)])), (rS, .inl (cs, 24, .inl sr)), (aNs, .inl (cn, 8, .inr (.inr (.inr (.inr nf))))), (aTs, .inl (ct, 8, .inr (.inr (.inr (.inr tf))))), (aEs, .inl (ce, 8, .inr (.inr (.inr (.inr ef))))), (aTt, .inr (3, [.ref bTt, .int (vt 1), .int (vt 2), .int (vt 3), .int (vt 4)])), (bTt, .inl (c1t, 25, .inl bt)), (aE, .inr (0, [.ref bE, .int (v 1), .int (v 2), .int (v 3), .int (v 4), .ref rE, .ref pE, .int (v 7), .int (v 8), .int (v 9), .int (v 10), .int (v 11), .int (v 12), .int (v 13), .int (v 14), .int (v 15)])), (bE, .inl (c1, 25, .inl b)), (rE, .inl (c2, 24, .inl rw)), (pE, .inl (c3, 24, .inl pw))]) (w1 := (wN aNn bNn c1n q14.2 bn)) (w' := (wQF aQ aY aDc aS rS aNs aTs aEs aNn bNn aTt bTt aE bE rE pE cs cn ct ce c1n c1t c1 c2 c3 pv sv sr nf tf ef q14.2 bn vt bt v b rw pw)) (va_runV (As := [.int a1]) (rest := []) ⟨hx, hb, hml, hown, hw⟩ (k_N_takesUsage l D aNn bNn c1n _ a1 q2.2 bn  q14 hq14) (zcV (C := RX2) 1 hw (zgood zw476) rfl rfl rfl zw210 zw478 zw477 zw479 hdX2_takesUsage ⟨Nat.le_of_ble_eq_true rfl, Nat.le_of_ble_eq_true rfl⟩) (zpreV (zpre zC_ok hX hS hFc hPc hKc hDc) (va_recv hK hP rfl (q0 := 6) rfl)) rfl rfl hl.1 rfl (lv_room (Nat.le_of_ble_eq_true rfl)) dX5_fittingField_23 ⟨Nat.zero_le _, Nat.zero_le _⟩) hP hD hS hFc [6, 7] [0, 1, 2, 3, 4, 5, 8, 9, 10, 11, 12, 13] [0, 1, 2, 3, 4, 5, 12, 13, 6, 7, 8, 9, 10, 11] rfl rfl (by decide) (by decide) rfl (by decide) (fun H locs hP hD hS => ?_)
    refine lv_if_eq (tgt := 38) hx hb dX5_fittingField_26 rfl (fun cd15 => ?_) (fun cd15 => ?_)
    · replace hm := zt cd15 hm
      refine lv_null hx hb dX5_fittingField_38 ?_
      cases hm
    · replace hm := zf cd15 hm
      refine lv_aload_n hx hb dX5_fittingField_29 rfl (lv_at hl 0 rfl) ?_
      refine va_get (D := D) (ci := 4) (v := .ref aNs) (C := RX5) (T := TX5) (N := 8) hx hb hw zinX5 hown hK hP 0 rfl rfl 3 (by decide) (hw _ zw460) (fun _ h9 => h9) rfl dX5_fittingField_30 ?_
      refine lv_iload_n hx hb dX5_fittingField_33 rfl (lv_at hl 1 rfl) ?_
      obtain ⟨hi16, hm⟩ := zix_s hm
      refine va_aldq (i := a0) (f := nf) (n := 8) hx hb hK hP 3 1 rfl rfl hi16 dX5_fittingField_34 ?_
      refine W.eq (g2 := F0 m 35 ls [.ref aNn]) (by rw [hdN]; rfl) ?_
      refine lv_goto (tgt := 39) hx hb dX5_fittingField_35 rfl ?_
      cases hm

def m_P_fitting_0 (a0 : Int32) (a1 : Int32) (pv : Nat → Int32) (sv : Nat → Int32) (sr : Nat → Int32) (nf : Nat → Option Nat) (tf : Nat → Option Nat) (ef : Nat → Option Nat) (vn : Nat → Int32) (bn : Nat → Int32) (vt : Nat → Int32) (bt : Nat → Int32) (v : Nat → Int32) (b : Nat → Int32) (rw : Nat → Int32) (pw : Nat → Int32)  : Option ((Nat → Int32) × (Nat → Int32) × (Nat → Int32) × (Nat → Int32) × (Nat → Int32)) := zix a0 8 ((m_N_fits vn bn sv sr).bind (fun q2 => (if q2.1 = 0 then (if a1 = 0 then zix a0 8 ((m_T_fits vt bt sv sr).bind (fun q6 => (if q6.1 = 0 then zix a0 8 ((m_E_fits v b rw pw sv sr).bind (fun q9 => (if q9.1 = 0 then (some (q2.2, q6.2, q9.2.1, q9.2.2.1, q9.2.2.2)) else zix a0 8 (none)))) else zix a0 8 (none)))) else (some (q2.2, vt, v, rw, pw))) else zix a0 8 ((m_N_takesUsage a1 q2.2 bn).bind (fun q14 => (if q14.1 = 0 then (some (q14.2, vt, v, rw, pw)) else zix a0 8 (none)))))))
section
variable {p : Program} {l : Launch} {e : Env} {s : State} {m : MethodId} {args : Array Value} {below : List Frame} {meth : Method} {c : Code} {D : va_G} {w0 : va_W} {aQ aY aDc aS rS aNs aTs aEs aNn bNn aTt bTt aE bE rE pE : Nat} {cs cn ct ce c1n c1t c1 c2 c3 : ClassId} {pv : Nat → Int32} {sv : Nat → Int32} {sr : Nat → Int32} {nf : Nat → Option Nat} {tf : Nat → Option Nat} {ef : Nat → Option Nat} {bn : Nat → Int32} {bt : Nat → Int32} {b : Nat → Int32} {a0 : Int32}
end
set_option maxRecDepth 100000 in
set_option maxHeartbeats 4000000 in
theorem k_P_fitting_0 (l : Launch) (D : va_G) (aQ aY aDc aS rS aNs aTs aEs aNn bNn aTt bTt aE bE rE pE : Nat) (cs cn ct ce c1n c1t c1 c2 c3 : ClassId) (sz : Nat) (a0 : Int32) (a1 : Int32) (pv : Nat → Int32) (sv : Nat → Int32) (sr : Nat → Int32) (nf : Nat → Option Nat) (tf : Nat → Option Nat) (ef : Nat → Option Nat) (vn : Nat → Int32) (bn : Nat → Int32) (vt : Nat → Int32) (bt : Nat → Int32) (v : Nat → Int32) (b : Nat → Int32) (rw : Nat → Int32) (pw : Nat → Int32) (hdN : nf a0.toNatClampNeg = some aNn) (hdT : tf a0.toNatClampNeg = some aTt) (hdE : ef a0.toNatClampNeg = some aE) (res : (Nat → Int32) × (Nat → Int32) × (Nat → Int32) × (Nat → Int32) × (Nat → Int32)) (hm : m_P_fitting_0 a0 a1 pv sv sr nf tf ef vn bn vt bt v b rw pw  = some res) : Met l yX5_fittingField (Cond.code yX5_fittingField cX5_fittingField 3 (some (.object "PictureFields$Field")) :: zBIG) (zR 5 105) (va_Pc [.ref aQ, .int a0, .int a1] (zP zC D vwCl (wQF_t cs cn ct ce c1n c1t c1 c2 c3) (wQF aQ aY aDc aS rS aNs aTs aEs aNn bNn aTt bTt aE bE rE pE cs cn ct ce c1n c1t c1 c2 c3 pv sv sr nf tf ef vn bn vt bt v b rw pw) sz)) (zQq D vwCl (wQF aQ aY aDc aS rS aNs aTs aEs aNn bNn aTt bTt aE bE rE pE cs cn ct ce c1n c1t c1 c2 c3 pv sv sr nf tf ef vn bn vt bt v b rw pw) (wQF aQ aY aDc aS rS aNs aTs aEs aNn bNn aTt bTt aE bE rE pE cs cn ct ce c1n c1t c1 c2 c3 pv sv sr nf tf ef res.1 bn res.2.1 bt res.2.2.1 b res.2.2.2.1 res.2.2.2.2) sz none) 0 0 (va_A (wQF aQ aY aDc aS rS aNs aTs aEs aNn bNn aTt bTt aE bE rE pE cs cn ct ce c1n c1t c1 c2 c3 pv sv sr nf tf ef vn bn vt bt v b rw pw) sz) := by
  refine zEnter RX5 [.ref aQ, .int a0, .int a1] (by decide) rfl (Nat.le_of_ble_eq_true rfl) (fun p e s m below meth c ls G hK hX hP hD hsz hl => ?_)
  subst hsz
  unfold m_P_fitting_0 at hm
  have hl : lv_has ls 3 [(0, .ref aQ), (1, .int a0), (2, .int a1)] := hl
  have hS : va_S (va_A (wQF aQ aY aDc aS rS aNs aTs aEs aNn bNn aTt bTt aE bE rE pE cs cn ct ce c1n c1t c1 c2 c3 pv sv sr nf tf ef vn bn vt bt v b rw pw) s.heap.size) s.heap s.heap [] := va_S.rf
  have hA : ∀ q, s.heap.size ≤ q → va_A (wQF aQ aY aDc aS rS aNs aTs aEs aNn bNn aTt bTt aE bE rE pE cs cn ct ce c1n c1t c1 c2 c3 pv sv sr nf tf ef vn bn vt bt v b rw pw) s.heap.size q := fun q h => Or.inr h
  have G0 := G
  obtain ⟨hx, hb, hr, hml, hown, hw, hlk⟩ := G
  refine lv_aload_n hx hb dX5_fittingField_0 rfl (lv_at hl 0 rfl) ?_
  refine va_get (D := D) (ci := 4) (v := .ref aNs) (C := RX5) (T := TX5) (N := 8) hx hb hw zinX5 hown hK hP 0 rfl rfl 3 (by decide) (hw _ zw460) (fun _ h9 => h9) rfl dX5_fittingField_1 ?_
  refine lv_iload_n hx hb dX5_fittingField_4 rfl (lv_at hl 1 rfl) ?_
  obtain ⟨hi1, hm⟩ := zix_s hm
  refine va_aldq (i := a0) (f := nf) (n := 8) hx hb hK hP 3 1 rfl rfl hi1 dX5_fittingField_5 ?_
  refine W.eq (g2 := F0 m 6 ls [.ref aNn]) (by rw [hdN]; rfl) ?_
  refine lv_aload_n hx hb dX5_fittingField_6 rfl (lv_at hl 0 rfl) ?_
  refine va_get (D := D) (ci := 4) (v := .ref aS) (C := RX5) (T := TX5) (N := 8) hx hb hw zinX5 hown hK hP 0 rfl rfl 2 (by decide) (hw _ zw461) (fun _ h9 => h9) rfl dX5_fittingField_7 ?_
  obtain ⟨q2, hq2, hm⟩ := zbind hm
  have hPc := hP.sub (ws' := (wNS aNn bNn aS rS c1n cs vn bn sv sr)) [6, 7, 1, 2] rfl
  have hDc := hD.sub (ws' := (wNS aNn bNn aS rS c1n cs vn bn sv sr)) [6, 7, 1, 2] (by decide) rfl
  have hKc := hK.sub (tys' := wNS_t c1n cs) [4, 0] rfl
  have hFc := va_free (wc := (wNS aNn bNn aS rS c1n cs vn bn sv sr)) hD hS hA [6, 7, 1, 2] rfl
  refine zbSi (wr := [(aQ, .inr (4, [.ref aY, .int (pv 1), .ref aS, .ref aNs, .ref aTs, .ref aEs, .ref aDc, .int (pv 7)])), (aNs, .inl (cn, 8, .inr (.inr (.inr (.inr nf))))), (aTs, .inl (ct, 8, .inr (.inr (.inr (.inr tf))))), (aEs, .inl (ce, 8, .inr (.inr (.inr (.inr ef))))), (aTt, .inr (3, [.ref bTt, .int (vt 1), .int (vt 2), .int (vt 3), .int (vt 4)])), (bTt, .inl (c1t, 25, .inl bt)), (aE, .inr (0, [.ref bE, .int (v 1), .int (v 2), .int (v 3), .int (v 4), .ref rE, .ref pE, .int (v 7), .int (v 8), .int (v 9), .int (v 10), .int (v 11), .int (v 12), .int (v 13), .int (v 14), .int (v 15)])), (bE, .inl (c1, 25, .inl b)), (rE, .inl (c2, 24, .inl rw)), (pE, .inl (c3, 24, .inl pw))]) (w1 := (wNS aNn bNn aS rS c1n cs q2.2 bn sv sr)) (w' := (wQF aQ aY aDc aS rS aNs aTs aEs aNn bNn aTt bTt aE bE rE pE cs cn ct ce c1n c1t c1 c2 c3 pv sv sr nf tf ef q2.2 bn vt bt v b rw pw)) (va_runV (As := [.ref aS]) (rest := []) ⟨hx, hb, hml, hown, hw⟩ (k_N_fits l D aNn bNn aS rS c1n cs _ vn bn sv sr  q2 hq2) (zcV (C := RX2) 1 hw (zgood zw462) rfl rfl rfl zw210 zw464 zw463 zw465 hdX2_fits ⟨Nat.le_of_ble_eq_true rfl, Nat.le_of_ble_eq_true rfl⟩) (zpreV (zpre zC_ok hX hS hFc hPc hKc hDc) (va_recv hK hP rfl (q0 := 6) rfl)) rfl rfl hl.1 rfl (lv_room (Nat.le_of_ble_eq_true rfl)) dX5_fittingField_10 ⟨Nat.zero_le _, Nat.zero_le _⟩) hP hD hS hFc [6, 7, 1, 2] [0, 3, 4, 5, 8, 9, 10, 11, 12, 13] [0, 12, 13, 1, 2, 3, 10, 11, 4, 5, 6, 7, 8, 9] rfl rfl (by decide) (by decide) rfl (by decide) (fun H locs hP hD hS => ?_)
  refine lv_if_eq (tgt := 40) hx hb dX5_fittingField_13 rfl (fun cd3 => ?_) (fun cd3 => ?_)
  · replace hm := zt cd3 hm
    refine lv_iload_n hx hb dX5_fittingField_40 rfl (lv_at hl 2 rfl) ?_
    refine lv_if_eq (tgt := 46) hx hb dX5_fittingField_41 rfl (fun cd4 => ?_) (fun cd4 => ?_)
    · replace hm := zt cd4 hm
      refine lv_aload_n hx hb dX5_fittingField_46 rfl (lv_at hl 0 rfl) ?_
      refine va_get (D := D) (ci := 4) (v := .ref aTs) (C := RX5) (T := TX5) (N := 8) hx hb hw zinX5 hown hK hP 0 rfl rfl 4 (by decide) (hw _ zw466) (fun _ h9 => h9) rfl dX5_fittingField_47 ?_
      refine lv_iload_n hx hb dX5_fittingField_50 rfl (lv_at hl 1 rfl) ?_
      obtain ⟨hi5, hm⟩ := zix_s hm
      refine va_aldq (i := a0) (f := tf) (n := 8) hx hb hK hP 4 2 rfl rfl hi5 dX5_fittingField_51 ?_
      refine W.eq (g2 := F0 m 52 ls [.ref aTt]) (by rw [hdT]; rfl) ?_
      refine lv_aload_n hx hb dX5_fittingField_52 rfl (lv_at hl 0 rfl) ?_
      refine va_get (D := D) (ci := 4) (v := .ref aS) (C := RX5) (T := TX5) (N := 8) hx hb hw zinX5 hown hK hP 0 rfl rfl 2 (by decide) (hw _ zw461) (fun _ h9 => h9) rfl dX5_fittingField_53 ?_
      obtain ⟨q6, hq6, hm⟩ := zbind hm
      have hPc := hP.sub (ws' := (wTS aTt bTt aS rS c1t cs vt bt sv sr)) [8, 9, 1, 2] rfl
      have hDc := hD.sub (ws' := (wTS aTt bTt aS rS c1t cs vt bt sv sr)) [8, 9, 1, 2] (by decide) rfl
      have hKc := hK.sub (tys' := wTS_t c1t cs) [5, 0] rfl
      have hFc := va_free (wc := (wTS aTt bTt aS rS c1t cs vt bt sv sr)) hD hS hA [8, 9, 1, 2] rfl
      refine zbSi (wr := [(aQ, .inr (4, [.ref aY, .int (pv 1), .ref aS, .ref aNs, .ref aTs, .ref aEs, .ref aDc, .int (pv 7)])), (aNs, .inl (cn, 8, .inr (.inr (.inr (.inr nf))))), (aTs, .inl (ct, 8, .inr (.inr (.inr (.inr tf))))), (aEs, .inl (ce, 8, .inr (.inr (.inr (.inr ef))))), (aNn, .inr (1, [.ref bNn, .int (q2.2 1), .int (q2.2 2), .int (q2.2 3), .int (q2.2 4), .int (q2.2 5), .int (q2.2 6), .int (q2.2 7)])), (bNn, .inl (c1n, 25, .inl bn)), (aE, .inr (0, [.ref bE, .int (v 1), .int (v 2), .int (v 3), .int (v 4), .ref rE, .ref pE, .int (v 7), .int (v 8), .int (v 9), .int (v 10), .int (v 11), .int (v 12), .int (v 13), .int (v 14), .int (v 15)])), (bE, .inl (c1, 25, .inl b)), (rE, .inl (c2, 24, .inl rw)), (pE, .inl (c3, 24, .inl pw))]) (w1 := (wTS aTt bTt aS rS c1t cs q6.2 bt sv sr)) (w' := (wQF aQ aY aDc aS rS aNs aTs aEs aNn bNn aTt bTt aE bE rE pE cs cn ct ce c1n c1t c1 c2 c3 pv sv sr nf tf ef q2.2 bn q6.2 bt v b rw pw)) (va_runV (As := [.ref aS]) (rest := []) ⟨hx, hb, hml, hown, hw⟩ (k_T_fits l D aTt bTt aS rS c1t cs _ vt bt sv sr  q6 hq6) (zcV (C := RX4) 1 hw (zgood zw467) rfl rfl rfl zw402 zw469 zw468 zw470 hdX4_fits ⟨Nat.le_of_ble_eq_true rfl, Nat.le_of_ble_eq_true rfl⟩) (zpreV (zpre zC_ok hX hS hFc hPc hKc hDc) (va_recv hK hP rfl (q0 := 8) rfl)) rfl rfl hl.1 rfl (lv_room (Nat.le_of_ble_eq_true rfl)) dX5_fittingField_56 ⟨Nat.zero_le _, Nat.zero_le _⟩) hP hD hS hFc [8, 9, 1, 2] [0, 3, 4, 5, 6, 7, 10, 11, 12, 13] [0, 12, 13, 1, 2, 3, 4, 5, 10, 11, 6, 7, 8, 9] rfl rfl (by decide) (by decide) rfl (by decide) (fun H locs hP hD hS => ?_)
      refine lv_if_eq (tgt := 69) hx hb dX5_fittingField_59 rfl (fun cd7 => ?_) (fun cd7 => ?_)
      · replace hm := zt cd7 hm
        refine lv_aload_n hx hb dX5_fittingField_69 rfl (lv_at hl 0 rfl) ?_
        refine va_get (D := D) (ci := 4) (v := .ref aEs) (C := RX5) (T := TX5) (N := 8) hx hb hw zinX5 hown hK hP 0 rfl rfl 5 (by decide) (hw _ zw471) (fun _ h9 => h9) rfl dX5_fittingField_70 ?_
        refine lv_iload_n hx hb dX5_fittingField_73 rfl (lv_at hl 1 rfl) ?_
        obtain ⟨hi8, hm⟩ := zix_s hm
        refine va_aldq (i := a0) (f := ef) (n := 8) hx hb hK hP 5 3 rfl rfl hi8 dX5_fittingField_74 ?_
        refine W.eq (g2 := F0 m 75 ls [.ref aE]) (by rw [hdE]; rfl) ?_
        refine lv_aload_n hx hb dX5_fittingField_75 rfl (lv_at hl 0 rfl) ?_
        refine va_get (D := D) (ci := 4) (v := .ref aS) (C := RX5) (T := TX5) (N := 8) hx hb hw zinX5 hown hK hP 0 rfl rfl 2 (by decide) (hw _ zw461) (fun _ h9 => h9) rfl dX5_fittingField_76 ?_
        obtain ⟨q9, hq9, hm⟩ := zbind hm
        have hPc := hP.sub (ws' := (wES aE bE rE pE aS rS c1 c2 c3 cs v b rw pw sv sr)) [10, 11, 12, 13, 1, 2] rfl
        have hDc := hD.sub (ws' := (wES aE bE rE pE aS rS c1 c2 c3 cs v b rw pw sv sr)) [10, 11, 12, 13, 1, 2] (by decide) rfl
        have hKc := hK.sub (tys' := wES_t c1 c2 c3 cs) [6, 7, 8, 0] rfl
        have hFc := va_free (wc := (wES aE bE rE pE aS rS c1 c2 c3 cs v b rw pw sv sr)) hD hS hA [10, 11, 12, 13, 1, 2] rfl
        refine zbSi (wr := [(aQ, .inr (4, [.ref aY, .int (pv 1), .ref aS, .ref aNs, .ref aTs, .ref aEs, .ref aDc, .int (pv 7)])), (aNs, .inl (cn, 8, .inr (.inr (.inr (.inr nf))))), (aTs, .inl (ct, 8, .inr (.inr (.inr (.inr tf))))), (aEs, .inl (ce, 8, .inr (.inr (.inr (.inr ef))))), (aNn, .inr (1, [.ref bNn, .int (q2.2 1), .int (q2.2 2), .int (q2.2 3), .int (q2.2 4), .int (q2.2 5), .int (q2.2 6), .int (q2.2 7)])), (bNn, .inl (c1n, 25, .inl bn)), (aTt, .inr (3, [.ref bTt, .int (q6.2 1), .int (q6.2 2), .int (q6.2 3), .int (q6.2 4)])), (bTt, .inl (c1t, 25, .inl bt))]) (w1 := (wES aE bE rE pE aS rS c1 c2 c3 cs q9.2.1 b q9.2.2.1 q9.2.2.2 sv sr)) (w' := (wQF aQ aY aDc aS rS aNs aTs aEs aNn bNn aTt bTt aE bE rE pE cs cn ct ce c1n c1t c1 c2 c3 pv sv sr nf tf ef q2.2 bn q6.2 bt q9.2.1 b q9.2.2.1 q9.2.2.2)) (va_runV (As := [.ref aS]) (rest := []) ⟨hx, hb, hml, hown, hw⟩ (k_E_fits l D aE bE rE pE aS rS c1 c2 c3 cs _ v b rw pw sv sr  q9 hq9) (zcV (C := RX0) 1 hw (zgood zw472) rfl rfl rfl zw259 zw474 zw473 zw475 hdX0_fits ⟨Nat.le_of_ble_eq_true rfl, Nat.le_of_ble_eq_true rfl⟩) (zpreV (zpre zC_ok hX hS hFc hPc hKc hDc) (va_recv hK hP rfl (q0 := 10) rfl)) rfl rfl hl.1 rfl (lv_room (Nat.le_of_ble_eq_true rfl)) dX5_fittingField_79 ⟨Nat.zero_le _, Nat.zero_le _⟩) hP hD hS hFc [10, 11, 12, 13, 1, 2] [0, 3, 4, 5, 6, 7, 8, 9] [0, 12, 13, 1, 2, 3, 4, 5, 6, 7, 8, 9, 10, 11] rfl rfl (by decide) (by decide) rfl (by decide) (fun H locs hP hD hS => ?_)
        refine lv_if_eq (tgt := 94) hx hb dX5_fittingField_82 rfl (fun cd10 => ?_) (fun cd10 => ?_)
        · replace hm := zt cd10 hm
          refine lv_null hx hb dX5_fittingField_94 ?_
          cases hm
          exact zretn hx hb hr hlk hP hD hS dX5_fittingField_95
        · replace hm := zf cd10 hm
          refine lv_aload_n hx hb dX5_fittingField_85 rfl (lv_at hl 0 rfl) ?_
          refine va_get (D := D) (ci := 4) (v := .ref aEs) (C := RX5) (T := TX5) (N := 8) hx hb hw zinX5 hown hK hP 0 rfl rfl 5 (by decide) (hw _ zw471) (fun _ h9 => h9) rfl dX5_fittingField_86 ?_
          refine lv_iload_n hx hb dX5_fittingField_89 rfl (lv_at hl 1 rfl) ?_
          obtain ⟨hi11, hm⟩ := zix_s hm
          refine va_aldq (i := a0) (f := ef) (n := 8) hx hb hK hP 5 3 rfl rfl hi11 dX5_fittingField_90 ?_
          refine W.eq (g2 := F0 m 91 ls [.ref aE]) (by rw [hdE]; rfl) ?_
          refine lv_goto (tgt := 95) hx hb dX5_fittingField_91 rfl ?_
          cases hm
      · replace hm := zf cd7 hm
        refine lv_aload_n hx hb dX5_fittingField_62 rfl (lv_at hl 0 rfl) ?_
        refine va_get (D := D) (ci := 4) (v := .ref aTs) (C := RX5) (T := TX5) (N := 8) hx hb hw zinX5 hown hK hP 0 rfl rfl 4 (by decide) (hw _ zw466) (fun _ h9 => h9) rfl dX5_fittingField_63 ?_
        refine lv_iload_n hx hb dX5_fittingField_66 rfl (lv_at hl 1 rfl) ?_
        obtain ⟨hi12, hm⟩ := zix_s hm
        refine va_aldq (i := a0) (f := tf) (n := 8) hx hb hK hP 4 2 rfl rfl hi12 dX5_fittingField_67 ?_
        refine W.eq (g2 := F0 m 68 ls [.ref aTt]) (by rw [hdT]; rfl) ?_
        cases hm
    · replace hm := zf cd4 hm
      refine lv_null hx hb dX5_fittingField_44 ?_
      cases hm
      exact zretn hx hb hr hlk hP hD hS dX5_fittingField_45
  · replace hm := zf cd3 hm
    refine lv_aload_n hx hb dX5_fittingField_16 rfl (lv_at hl 0 rfl) ?_
    refine va_get (D := D) (ci := 4) (v := .ref aNs) (C := RX5) (T := TX5) (N := 8) hx hb hw zinX5 hown hK hP 0 rfl rfl 3 (by decide) (hw _ zw460) (fun _ h9 => h9) rfl dX5_fittingField_17 ?_
    refine lv_iload_n hx hb dX5_fittingField_20 rfl (lv_at hl 1 rfl) ?_
    obtain ⟨hi13, hm⟩ := zix_s hm
    refine va_aldq (i := a0) (f := nf) (n := 8) hx hb hK hP 3 1 rfl rfl hi13 dX5_fittingField_21 ?_
    refine W.eq (g2 := F0 m 22 ls [.ref aNn]) (by rw [hdN]; rfl) ?_
    refine lv_iload_n hx hb dX5_fittingField_22 rfl (lv_at hl 2 rfl) ?_
    obtain ⟨q14, hq14, hm⟩ := zbind hm
    have hPc := hP.sub (ws' := (wN aNn bNn c1n q2.2 bn)) [6, 7] rfl
    have hDc := hD.sub (ws' := (wN aNn bNn c1n q2.2 bn)) [6, 7] (by decide) rfl
    have hKc := hK.sub (tys' := wN_t c1n) [4] rfl
    have hFc := va_free (wc := (wN aNn bNn c1n q2.2 bn)) hD hS hA [6, 7] rfl
    refine zbSi (wr := [(aQ, .inr (4, [.ref aY, .int (pv 1), .ref aS, .ref aNs, .ref aTs, .ref aEs, .ref aDc, .int (pv 7)])), (aS, .inr (2, [.ref rS, .int (sv 1)])), (rS, .inl (cs, 24, .inl sr)), (aNs, .inl (cn, 8, .inr (.inr (.inr (.inr nf))))), (aTs, .inl (ct, 8, .inr (.inr (.inr (.inr tf))))), (aEs, .inl (ce, 8, .inr (.inr (.inr (.inr ef))))), (aTt, .inr (3, [.ref bTt, .int (vt 1), .int (vt 2), .int (vt 3), .int (vt 4)])), (bTt, .inl (c1t, 25, .inl bt)), (aE, .inr (0, [.ref bE, .int (v 1), .int (v 2), .int (v 3), .int (v 4), .ref rE, .ref pE, .int (v 7), .int (v 8), .int (v 9), .int (v 10), .int (v 11), .int (v 12), .int (v 13), .int (v 14), .int (v 15)])), (bE, .inl (c1, 25, .inl b)), (rE, .inl (c2, 24, .inl rw)), (pE, .inl (c3, 24, .inl pw))]) (w1 := (wN aNn bNn c1n q14.2 bn)) (w' := (wQF aQ aY aDc aS rS aNs aTs aEs aNn bNn aTt bTt aE bE rE pE cs cn ct ce c1n c1t c1 c2 c3 pv sv sr nf tf ef q14.2 bn vt bt v b rw pw)) (va_runV (As := [.int a1]) (rest := []) ⟨hx, hb, hml, hown, hw⟩ (k_N_takesUsage l D aNn bNn c1n _ a1 q2.2 bn  q14 hq14) (zcV (C := RX2) 1 hw (zgood zw476) rfl rfl rfl zw210 zw478 zw477 zw479 hdX2_takesUsage ⟨Nat.le_of_ble_eq_true rfl, Nat.le_of_ble_eq_true rfl⟩) (zpreV (zpre zC_ok hX hS hFc hPc hKc hDc) (va_recv hK hP rfl (q0 := 6) rfl)) rfl rfl hl.1 rfl (lv_room (Nat.le_of_ble_eq_true rfl)) dX5_fittingField_23 ⟨Nat.zero_le _, Nat.zero_le _⟩) hP hD hS hFc [6, 7] [0, 1, 2, 3, 4, 5, 8, 9, 10, 11, 12, 13] [0, 1, 2, 3, 4, 5, 12, 13, 6, 7, 8, 9, 10, 11] rfl rfl (by decide) (by decide) rfl (by decide) (fun H locs hP hD hS => ?_)
    refine lv_if_eq (tgt := 38) hx hb dX5_fittingField_26 rfl (fun cd15 => ?_) (fun cd15 => ?_)
    · replace hm := zt cd15 hm
      refine lv_null hx hb dX5_fittingField_38 ?_
      cases hm
      exact zretn hx hb hr hlk hP hD hS dX5_fittingField_39
    · replace hm := zf cd15 hm
      refine lv_aload_n hx hb dX5_fittingField_29 rfl (lv_at hl 0 rfl) ?_
      refine va_get (D := D) (ci := 4) (v := .ref aNs) (C := RX5) (T := TX5) (N := 8) hx hb hw zinX5 hown hK hP 0 rfl rfl 3 (by decide) (hw _ zw460) (fun _ h9 => h9) rfl dX5_fittingField_30 ?_
      refine lv_iload_n hx hb dX5_fittingField_33 rfl (lv_at hl 1 rfl) ?_
      obtain ⟨hi16, hm⟩ := zix_s hm
      refine va_aldq (i := a0) (f := nf) (n := 8) hx hb hK hP 3 1 rfl rfl hi16 dX5_fittingField_34 ?_
      refine W.eq (g2 := F0 m 35 ls [.ref aNn]) (by rw [hdN]; rfl) ?_
      refine lv_goto (tgt := 39) hx hb dX5_fittingField_35 rfl ?_
      cases hm

theorem dX5_declare_0 : decode cX5_declare 0 = .ok (.aload_n 0, 1) := by decide +kernel
theorem dX5_declare_1 : decode cX5_declare 1 = .ok (.getfield 48, 3) := by decide +kernel
theorem dX5_declare_4 : decode cX5_declare 4 = .ok (.bipush 8, 2) := by decide +kernel
theorem dX5_declare_6 : decode cX5_declare 6 = .ok (.if_icmp .lt 13, 3) := by decide +kernel
theorem dX5_declare_9 : decode cX5_declare 9 = .ok (.new 54, 3) := by decide +kernel
theorem dX5_declare_12 : decode cX5_declare 12 = .ok (.dup, 1) := by decide +kernel
theorem dX5_declare_13 : decode cX5_declare 13 = .ok (.ldc 56, 2) := by decide +kernel
theorem dX5_declare_15 : decode cX5_declare 15 = .ok (.invokespecial 58, 3) := by decide +kernel
theorem dX5_declare_18 : decode cX5_declare 18 = .ok (.athrow, 1) := by decide +kernel
theorem dX5_declare_19 : decode cX5_declare 19 = .ok (.aload_n 0, 1) := by decide +kernel
theorem dX5_declare_20 : decode cX5_declare 20 = .ok (.getfield 20, 3) := by decide +kernel
theorem dX5_declare_23 : decode cX5_declare 23 = .ok (.aload_n 0, 1) := by decide +kernel
theorem dX5_declare_24 : decode cX5_declare 24 = .ok (.getfield 9, 3) := by decide +kernel
theorem dX5_declare_27 : decode cX5_declare 27 = .ok (.aload_n 0, 1) := by decide +kernel
theorem dX5_declare_28 : decode cX5_declare 28 = .ok (.getfield 13, 3) := by decide +kernel
theorem dX5_declare_31 : decode cX5_declare 31 = .ok (.invokevirtual 61, 3) := by decide +kernel
theorem dX5_declare_34 : decode cX5_declare 34 = .ok (.istore_n 2, 1) := by decide +kernel
theorem dX5_declare_35 : decode cX5_declare 35 = .ok (.aload_n 0, 1) := by decide +kernel
theorem dX5_declare_36 : decode cX5_declare 36 = .ok (.iconst 0, 1) := by decide +kernel
theorem dX5_declare_37 : decode cX5_declare 37 = .ok (.putfield 13, 3) := by decide +kernel
theorem dX5_declare_40 : decode cX5_declare 40 = .ok (.iload_n 2, 1) := by decide +kernel
theorem dX5_declare_41 : decode cX5_declare 41 = .ok (.ifCond .eq 15, 3) := by decide +kernel
theorem dX5_declare_44 : decode cX5_declare 44 = .ok (.aload_n 0, 1) := by decide +kernel
theorem dX5_declare_45 : decode cX5_declare 45 = .ok (.aload_n 0, 1) := by decide +kernel
theorem dX5_declare_46 : decode cX5_declare 46 = .ok (.getfield 48, 3) := by decide +kernel
theorem dX5_declare_49 : decode cX5_declare 49 = .ok (.iload_n 1, 1) := by decide +kernel
theorem dX5_declare_50 : decode cX5_declare 50 = .ok (.invokevirtual 65, 3) := by decide +kernel
theorem dX5_declare_53 : decode cX5_declare 53 = .ok (.goto 4, 3) := by decide +kernel
theorem dX5_declare_56 : decode cX5_declare 56 = .ok (.aconst_null, 1) := by decide +kernel
theorem dX5_declare_57 : decode cX5_declare 57 = .ok (.astore_n 3, 1) := by decide +kernel
theorem dX5_declare_58 : decode cX5_declare 58 = .ok (.aload_n 3, 1) := by decide +kernel
theorem dX5_declare_59 : decode cX5_declare 59 = .ok (.ifnonnull 13, 3) := by decide +kernel
theorem dX5_declare_62 : decode cX5_declare 62 = .ok (.new 69, 3) := by decide +kernel
theorem dX5_declare_65 : decode cX5_declare 65 = .ok (.dup, 1) := by decide +kernel
theorem dX5_declare_66 : decode cX5_declare 66 = .ok (.ldc 71, 2) := by decide +kernel
theorem dX5_declare_68 : decode cX5_declare 68 = .ok (.invokespecial 73, 3) := by decide +kernel
theorem dX5_declare_71 : decode cX5_declare 71 = .ok (.athrow, 1) := by decide +kernel
theorem dX5_declare_72 : decode cX5_declare 72 = .ok (.aload_n 3, 1) := by decide +kernel
theorem dX5_declare_73 : decode cX5_declare 73 = .ok (.invokevirtual 74, 3) := by decide +kernel
theorem dX5_declare_76 : decode cX5_declare 76 = .ok (.aload_n 0, 1) := by decide +kernel
theorem dX5_declare_77 : decode cX5_declare 77 = .ok (.getfield 44, 3) := by decide +kernel
theorem dX5_declare_80 : decode cX5_declare 80 = .ok (.aload_n 0, 1) := by decide +kernel
theorem dX5_declare_81 : decode cX5_declare 81 = .ok (.getfield 48, 3) := by decide +kernel
theorem dX5_declare_84 : decode cX5_declare 84 = .ok (.aload_n 3, 1) := by decide +kernel
theorem dX5_declare_85 : decode cX5_declare 85 = .ok (.aastore, 1) := by decide +kernel
theorem dX5_declare_86 : decode cX5_declare 86 = .ok (.aload_n 0, 1) := by decide +kernel
theorem dX5_declare_87 : decode cX5_declare 87 = .ok (.dup, 1) := by decide +kernel
theorem dX5_declare_88 : decode cX5_declare 88 = .ok (.getfield 48, 3) := by decide +kernel
theorem dX5_declare_91 : decode cX5_declare 91 = .ok (.iconst 1, 1) := by decide +kernel
theorem dX5_declare_92 : decode cX5_declare 92 = .ok (.iadd, 1) := by decide +kernel
theorem dX5_declare_93 : decode cX5_declare 93 = .ok (.putfield 48, 3) := by decide +kernel
theorem dX5_declare_96 : decode cX5_declare 96 = .ok (.aload_n 0, 1) := by decide +kernel
theorem dX5_declare_97 : decode cX5_declare 97 = .ok (.getfield 48, 3) := by decide +kernel
theorem dX5_declare_100 : decode cX5_declare 100 = .ok (.iconst 1, 1) := by decide +kernel
theorem dX5_declare_101 : decode cX5_declare 101 = .ok (.isub, 1) := by decide +kernel
theorem dX5_declare_102 : decode cX5_declare 102 = .ok (.ireturn, 1) := by decide +kernel
def m_P_declare_N_57 (y : Nat → Int32) (nf : Nat → Option Nat) (tf : Nat → Option Nat) (ef : Nat → Option Nat) (bt : Nat → Int32) (b : Nat → Int32) (aNn : Nat)  (pv : Nat → Int32) (sv : Nat → Int32) (sr : Nat → Int32) (dc : Nat → Option Nat) (vn : Nat → Int32) (bn : Nat → Int32) (vt : Nat → Int32) (v : Nat → Int32) (rw : Nat → Int32) (pw : Nat → Int32) : Option ((Int32) × (Nat → Int32) × (Nat → Int32) × (Nat → Int32) × (Nat → Option Nat) × (Nat → Int32) × (Nat → Int32) × (Nat → Int32) × (Nat → Int32) × (Nat → Int32) × (Nat → Int32)) := (m_F_empty_N vn bn).bind (fun q5 => zix (pv 7) 8 ((some ((((upd pv 7 ((pv 7) + 1)) 7) - 1), (upd pv 7 ((pv 7) + 1)), sv, sr, (va_up dc (pv 7).toNatClampNeg (some aNn)), vn, q5, vt, v, rw, pw))))
def m_P_declare_N (a0 : Int32) (pv : Nat → Int32) (y : Nat → Int32) (sv : Nat → Int32) (sr : Nat → Int32) (nf : Nat → Option Nat) (tf : Nat → Option Nat) (ef : Nat → Option Nat) (dc : Nat → Option Nat) (vn : Nat → Int32) (bn : Nat → Int32) (vt : Nat → Int32) (bt : Nat → Int32) (v : Nat → Int32) (b : Nat → Int32) (rw : Nat → Int32) (pw : Nat → Int32) (aNn : Nat) : Option ((Int32) × (Nat → Int32) × (Nat → Int32) × (Nat → Int32) × (Nat → Option Nat) × (Nat → Int32) × (Nat → Int32) × (Nat → Int32) × (Nat → Int32) × (Nat → Int32) × (Nat → Int32)) := (if (pv 7) < 8 then (m_S_expand (pv 1) sv sr y).bind (fun q2 => (if q2.1 = 0 then none else (m_P_fitting_N ((upd pv 1 0) 7) a0 (upd pv 1 0) q2.2.1 q2.2.2 nf tf ef vn bn vt bt v b rw pw).bind (fun q4 => m_P_declare_N_57 y nf tf ef bt b aNn (upd pv 1 0) q2.2.1 q2.2.2 dc q4.1 bn q4.2.1 q4.2.2.1 q4.2.2.2.1 q4.2.2.2.2))) else none)
section
variable {p : Program} {l : Launch} {e : Env} {s : State} {m : MethodId} {args : Array Value} {below : List Frame} {meth : Method} {c : Code} {D : va_G} {w0 : va_W} {aQ aY aS rS aNs aTs aEs aDc aNn bNn aTt bTt aE bE rE pE : Nat} {cy cs cn ct ce cd c1n c1t c1 c2 c3 : ClassId} {y : Nat → Int32} {nf : Nat → Option Nat} {tf : Nat → Option Nat} {ef : Nat → Option Nat} {bt : Nat → Int32} {b : Nat → Int32}
set_option maxRecDepth 100000 in
set_option maxHeartbeats 4000000 in
theorem b_P_declare_N_57 (G : zG p s m args meth c cX5_declare RX5 4 (some .int)) (hK : va_K D vwCl (wQA_t cy cs cn ct ce cd c1n c1t c1 c2 c3) s) (hX : zC (va_A w0 s.heap.size) s) {res : (Int32) × (Nat → Int32) × (Nat → Int32) × (Nat → Int32) × (Nat → Option Nat) × (Nat → Int32) × (Nat → Int32) × (Nat → Int32) × (Nat → Int32) × (Nat → Int32) × (Nat → Int32)} : ∀ (pv : Nat → Int32) (sv : Nat → Int32) (sr : Nat → Int32) (dc : Nat → Option Nat) (vn : Nat → Int32) (bn : Nat → Int32) (vt : Nat → Int32) (v : Nat → Int32) (rw : Nat → Int32) (pw : Nat → Int32), m_P_declare_N_57 y nf tf ef bt b aNn pv sv sr dc vn bn vt v rw pw = some res → zB p l e (zR 6 127) s m args below meth c D vwCl (va_A w0 s.heap.size) (MQ below (zQi D vwCl w0 (wQA aQ aY aS rS aNs aTs aEs aDc aNn bNn aTt bTt aE bE rE pE cy cs cn ct ce cd c1n c1t c1 c2 c3 res.2.1 y res.2.2.1 res.2.2.2.1 nf tf ef res.2.2.2.2.1 res.2.2.2.2.2.1 res.2.2.2.2.2.2.1 res.2.2.2.2.2.2.2.1 bt res.2.2.2.2.2.2.2.2.1 b res.2.2.2.2.2.2.2.2.2.1 res.2.2.2.2.2.2.2.2.2.2) s.heap.size res.1) args s 0 0 (va_A w0 s.heap.size)) 4 (wQA aQ aY aS rS aNs aTs aEs aDc aNn bNn aTt bTt aE bE rE pE cy cs cn ct ce cd c1n c1t c1 c2 c3 pv y sv sr nf tf ef dc vn bn vt bt v b rw pw) [(0, .ref aQ)] 57 [.ref aNn] := by
  intro pv sv sr dc vn bn vt v rw pw hm H locs ls hP hD hS hl
  unfold m_P_declare_N_57 at hm
  have G0 := G
  obtain ⟨hx, hb, hr, hml, hown, hw, hlk⟩ := G
  have hA : ∀ q, s.heap.size ≤ q → va_A w0 s.heap.size q := fun q h => Or.inr h
  refine lv_astore_n (lv' := [(3, .ref aNn), (0, .ref aQ)]) hx hb dX5_declare_57 rfl hl (by decide) rfl (fun ls hl => ?_)
  refine lv_aload_n hx hb dX5_declare_58 rfl (lv_at hl 0 rfl) ?_
  refine lv_ifnonnull (tgt := 72) hx hb dX5_declare_59 rfl ?_
  refine lv_aload_n hx hb dX5_declare_72 rfl (lv_at hl 0 rfl) ?_
  obtain ⟨q5, hq5, hm⟩ := zbind hm
  have hPc := hP.sub (ws' := (wN aNn bNn c1n vn bn)) [8, 9] rfl
  have hDc := hD.sub (ws' := (wN aNn bNn c1n vn bn)) [8, 9] (by decide) rfl
  have hKc := hK.sub (tys' := wN_t c1n) [6] rfl
  have hFc := va_free (wc := (wN aNn bNn c1n vn bn)) hD hS hA [8, 9] rfl
  refine zbSv (wr := [(aQ, .inr (4, [.ref aY, .int (pv 1), .ref aS, .ref aNs, .ref aTs, .ref aEs, .ref aDc, .int (pv 7)])), (aY, .inl (cy, 24, .inl y)), (aS, .inr (2, [.ref rS, .int (sv 1)])), (rS, .inl (cs, 24, .inl sr)), (aNs, .inl (cn, 8, .inr (.inr (.inr (.inr nf))))), (aTs, .inl (ct, 8, .inr (.inr (.inr (.inr tf))))), (aEs, .inl (ce, 8, .inr (.inr (.inr (.inr ef))))), (aDc, .inl (cd, 8, .inr (.inr (.inr (.inr dc))))), (aTt, .inr (3, [.ref bTt, .int (vt 1), .int (vt 2), .int (vt 3), .int (vt 4)])), (bTt, .inl (c1t, 25, .inl bt)), (aE, .inr (0, [.ref bE, .int (v 1), .int (v 2), .int (v 3), .int (v 4), .ref rE, .ref pE, .int (v 7), .int (v 8), .int (v 9), .int (v 10), .int (v 11), .int (v 12), .int (v 13), .int (v 14), .int (v 15)])), (bE, .inl (c1, 25, .inl b)), (rE, .inl (c2, 24, .inl rw)), (pE, .inl (c3, 24, .inl pw))]) (w1 := (wN aNn bNn c1n vn q5)) (w' := (wQA aQ aY aS rS aNs aTs aEs aDc aNn bNn aTt bTt aE bE rE pE cy cs cn ct ce cd c1n c1t c1 c2 c3 pv y sv sr nf tf ef dc vn q5 vt bt v b rw pw)) (va_runU (As := []) (rest := []) ⟨hx, hb, hml, hown, hw⟩ (k_F_empty_N l D aNn bNn c1n _ vn bn  q5 hq5) (va_cwU (C := RX2) (owner := RX1) (x := ⟨RX1, "empty", "()V"⟩) 0 hw (zgoodL (List.forall_mem_cons.mpr ⟨zw490, List.forall_mem_cons.mpr ⟨zw491, List.forall_mem_cons.mpr ⟨zw492, List.forall_mem_cons.mpr ⟨zw489, List.forall_mem_cons.mpr ⟨zw409, fun _ h => absurd h List.not_mem_nil⟩⟩⟩⟩⟩) zw488) rfl rfl rfl rfl (by decide +kernel) ⟨Nat.le_of_ble_eq_true rfl, Nat.le_of_ble_eq_true rfl⟩) (zpreV (zpre zC_ok hX hS hFc hPc hKc hDc) (va_recv hK hP rfl (q0 := 8) rfl)) rfl rfl hl.1 rfl (lv_room (Nat.le_of_ble_eq_true rfl)) dX5_declare_73 ⟨Nat.zero_le _, Nat.zero_le _⟩) hP hD hS hFc [8, 9] [0, 1, 2, 3, 4, 5, 6, 7, 10, 11, 12, 13, 14, 15] [0, 1, 2, 3, 4, 5, 6, 7, 14, 15, 8, 9, 10, 11, 12, 13] rfl rfl (by decide) (by decide) rfl (by decide) (fun H locs hP hD hS => ?_)
  refine lv_aload_n hx hb dX5_declare_76 rfl (lv_at hl 1 rfl) ?_
  refine va_get (D := D) (ci := 4) (v := .ref aDc) (C := RX5) (T := TX5) (N := 8) hx hb hw zinX5 hown hK hP 0 rfl rfl 6 (by decide) (hw _ zw421) (fun _ h9 => h9) rfl dX5_declare_77 ?_
  refine lv_aload_n hx hb dX5_declare_80 rfl (lv_at hl 1 rfl) ?_
  refine va_get (D := D) (ci := 4) (v := .int (pv 7)) (C := RX5) (T := TX5) (N := 8) hx hb hw zinX5 hown hK hP 0 rfl rfl 7 (by decide) (hw _ zw420) (fun _ h9 => h9) rfl dX5_declare_81 ?_
  refine lv_aload_n hx hb dX5_declare_84 rfl (lv_at hl 0 rfl) ?_
  obtain ⟨hi6, hm⟩ := zix_s hm
  refine va_astqO (E := RX1) (i := (pv 7)) (f := dc) (n := 8) hx hb hK hP hD hS 7 5 8 1 rfl rfl (hX.1 _ zn14) rfl rfl hi6 dX5_declare_85 (fun H locs hP hD hS => ?_)
  have hP : va_P D vwCl (wQA aQ aY aS rS aNs aTs aEs aDc aNn bNn aTt bTt aE bE rE pE cy cs cn ct ce cd c1n c1t c1 c2 c3 pv y sv sr nf tf ef (va_up dc (pv 7).toNatClampNeg (some aNn)) vn q5 vt bt v b rw pw) H := hP
  have hD : va_D _ (wQA aQ aY aS rS aNs aTs aEs aDc aNn bNn aTt bTt aE bE rE pE cy cs cn ct ce cd c1n c1t c1 c2 c3 pv y sv sr nf tf ef (va_up dc (pv 7).toNatClampNeg (some aNn)) vn q5 vt bt v b rw pw) := hD
  refine lv_aload_n hx hb dX5_declare_86 rfl (lv_at hl 1 rfl) ?_
  refine lv_dup hx hb dX5_declare_87 rfl ?_
  refine va_get (D := D) (ci := 4) (v := .int (pv 7)) (C := RX5) (T := TX5) (N := 8) hx hb hw zinX5 hown hK hP 0 rfl rfl 7 (by decide) (hw _ zw420) (fun _ h9 => h9) rfl dX5_declare_88 ?_
  refine lv_iconst (v := 1) hx hb dX5_declare_91 (by decide) ?_
  refine lv_iadd hx hb dX5_declare_92 ?_
  refine va_put (D := D) (ci := 4) (v := .int ((pv 7) + 1)) (ty := .int) (C := RX5) (T := TX5) (N := 8) hx hb hw zinX5 tyX5 tyX5_ok nmX5 hown hK hP hD hS 0 rfl rfl 7 (by decide) (hw _ zw420) (fun _ h9 => h9) rfl (by decide +kernel) rfl rfl (Nat.le_of_ble_eq_true rfl) dX5_declare_93 (fun H locs hP hD hS => ?_)
  have hP : va_P D vwCl (wQA aQ aY aS rS aNs aTs aEs aDc aNn bNn aTt bTt aE bE rE pE cy cs cn ct ce cd c1n c1t c1 c2 c3 (upd pv 7 ((pv 7) + 1)) y sv sr nf tf ef (va_up dc (pv 7).toNatClampNeg (some aNn)) vn q5 vt bt v b rw pw) H := hP
  have hD : va_D _ (wQA aQ aY aS rS aNs aTs aEs aDc aNn bNn aTt bTt aE bE rE pE cy cs cn ct ce cd c1n c1t c1 c2 c3 (upd pv 7 ((pv 7) + 1)) y sv sr nf tf ef (va_up dc (pv 7).toNatClampNeg (some aNn)) vn q5 vt bt v b rw pw) := hD
  refine lv_aload_n hx hb dX5_declare_96 rfl (lv_at hl 1 rfl) ?_
  refine va_get (D := D) (ci := 4) (v := .int ((upd pv 7 ((pv 7) + 1)) 7)) (C := RX5) (T := TX5) (N := 8) hx hb hw zinX5 hown hK hP 0 rfl rfl 7 (by decide) (hw _ zw420) (fun _ h9 => h9) rfl dX5_declare_97 ?_
  refine lv_iconst (v := 1) hx hb dX5_declare_100 (by decide) ?_
  refine lv_isub hx hb dX5_declare_101 ?_
  cases hm
  exact zreti hx hb hr hlk hP hD hS dX5_declare_102
end
set_option maxRecDepth 100000 in
set_option maxHeartbeats 4000000 in
theorem k_P_declare_N (l : Launch) (D : va_G) (aQ aY aS rS aNs aTs aEs aDc aNn bNn aTt bTt aE bE rE pE : Nat) (cy cs cn ct ce cd c1n c1t c1 c2 c3 : ClassId) (sz : Nat) (a0 : Int32) (pv : Nat → Int32) (y : Nat → Int32) (sv : Nat → Int32) (sr : Nat → Int32) (nf : Nat → Option Nat) (tf : Nat → Option Nat) (ef : Nat → Option Nat) (dc : Nat → Option Nat) (vn : Nat → Int32) (bn : Nat → Int32) (vt : Nat → Int32) (bt : Nat → Int32) (v : Nat → Int32) (b : Nat → Int32) (rw : Nat → Int32) (pw : Nat → Int32) (hdN : nf (pv 7).toNatClampNeg = some aNn) (hdT : tf (pv 7).toNatClampNeg = some aTt) (hdE : ef (pv 7).toNatClampNeg = some aE) (res : (Int32) × (Nat → Int32) × (Nat → Int32) × (Nat → Int32) × (Nat → Option Nat) × (Nat → Int32) × (Nat → Int32) × (Nat → Int32) × (Nat → Int32) × (Nat → Int32) × (Nat → Int32)) (hm : m_P_declare_N a0 pv y sv sr nf tf ef dc vn bn vt bt v b rw pw aNn = some res) : Met l yX5_declare (Cond.code yX5_declare cX5_declare 4 (some .int) :: zBIG) (zR 6 127) (va_Pc [.ref aQ, .int a0] (zP zC D vwCl (wQA_t cy cs cn ct ce cd c1n c1t c1 c2 c3) (wQA aQ aY aS rS aNs aTs aEs aDc aNn bNn aTt bTt aE bE rE pE cy cs cn ct ce cd c1n c1t c1 c2 c3 pv y sv sr nf tf ef dc vn bn vt bt v b rw pw) sz)) (zQi D vwCl (wQA aQ aY aS rS aNs aTs aEs aDc aNn bNn aTt bTt aE bE rE pE cy cs cn ct ce cd c1n c1t c1 c2 c3 pv y sv sr nf tf ef dc vn bn vt bt v b rw pw) (wQA aQ aY aS rS aNs aTs aEs aDc aNn bNn aTt bTt aE bE rE pE cy cs cn ct ce cd c1n c1t c1 c2 c3 res.2.1 y res.2.2.1 res.2.2.2.1 nf tf ef res.2.2.2.2.1 res.2.2.2.2.2.1 res.2.2.2.2.2.2.1 res.2.2.2.2.2.2.2.1 bt res.2.2.2.2.2.2.2.2.1 b res.2.2.2.2.2.2.2.2.2.1 res.2.2.2.2.2.2.2.2.2.2) sz res.1) 0 0 (va_A (wQA aQ aY aS rS aNs aTs aEs aDc aNn bNn aTt bTt aE bE rE pE cy cs cn ct ce cd c1n c1t c1 c2 c3 pv y sv sr nf tf ef dc vn bn vt bt v b rw pw) sz) := by
  refine zEnter RX5 [.ref aQ, .int a0] (by decide) rfl (Nat.le_of_ble_eq_true rfl) (fun p e s m below meth c ls G hK hX hP hD hsz hl => ?_)
  subst hsz
  unfold m_P_declare_N at hm
  have hl : lv_has ls 4 [(0, .ref aQ), (1, .int a0)] := hl
  have hS : va_S (va_A (wQA aQ aY aS rS aNs aTs aEs aDc aNn bNn aTt bTt aE bE rE pE cy cs cn ct ce cd c1n c1t c1 c2 c3 pv y sv sr nf tf ef dc vn bn vt bt v b rw pw) s.heap.size) s.heap s.heap [] := va_S.rf
  have hA : ∀ q, s.heap.size ≤ q → va_A (wQA aQ aY aS rS aNs aTs aEs aDc aNn bNn aTt bTt aE bE rE pE cy cs cn ct ce cd c1n c1t c1 c2 c3 pv y sv sr nf tf ef dc vn bn vt bt v b rw pw) s.heap.size q := fun q h => Or.inr h
  have G0 := G
  obtain ⟨hx, hb, hr, hml, hown, hw, hlk⟩ := G
  refine lv_aload_n hx hb dX5_declare_0 rfl (lv_at hl 0 rfl) ?_
  refine va_get (D := D) (ci := 4) (v := .int (pv 7)) (C := RX5) (T := TX5) (N := 8) hx hb hw zinX5 hown hK hP 0 rfl rfl 7 (by decide) (hw _ zw420) (fun _ h9 => h9) rfl dX5_declare_1 ?_
  refine lv_bipush (v := 8) hx hb dX5_declare_4 (by decide) ?_
  refine lv_icmp_lt (tgt := 19) hx hb dX5_declare_6 rfl (fun cd1 => ?_) (fun cd1 => ?_)
  · replace hm := zt cd1 hm
    refine lv_aload_n hx hb dX5_declare_19 rfl (lv_at hl 0 rfl) ?_
    refine va_get (D := D) (ci := 4) (v := .ref aS) (C := RX5) (T := TX5) (N := 8) hx hb hw zinX5 hown hK hP 0 rfl rfl 2 (by decide) (hw _ zw461) (fun _ h9 => h9) rfl dX5_declare_20 ?_
    refine lv_aload_n hx hb dX5_declare_23 rfl (lv_at hl 0 rfl) ?_
    refine va_get (D := D) (ci := 4) (v := .ref aY) (C := RX5) (T := TX5) (N := 8) hx hb hw zinX5 hown hK hP 0 rfl rfl 0 (by decide) (hw _ zw419) (fun _ h9 => h9) rfl dX5_declare_24 ?_
    refine lv_aload_n hx hb dX5_declare_27 rfl (lv_at hl 0 rfl) ?_
    refine va_get (D := D) (ci := 4) (v := .int (pv 1)) (C := RX5) (T := TX5) (N := 8) hx hb hw zinX5 hown hK hP 0 rfl rfl 1 (by decide) (hw _ zw418) (fun _ h9 => h9) rfl dX5_declare_28 ?_
    obtain ⟨q2, hq2, hm⟩ := zbind hm
    have hPc := hP.sub (ws' := (wSY aS rS aY cs cy sv sr y)) [2, 3, 1] rfl
    have hDc := hD.sub (ws' := (wSY aS rS aY cs cy sv sr y)) [2, 3, 1] (by decide) rfl
    have hKc := hK.sub (tys' := wSY_t cs cy) [1, 0] rfl
    have hFc := va_free (wc := (wSY aS rS aY cs cy sv sr y)) hD hS hA [2, 3, 1] rfl
    refine zbSi (wr := [(aQ, .inr (4, [.ref aY, .int (pv 1), .ref aS, .ref aNs, .ref aTs, .ref aEs, .ref aDc, .int (pv 7)])), (aNs, .inl (cn, 8, .inr (.inr (.inr (.inr nf))))), (aTs, .inl (ct, 8, .inr (.inr (.inr (.inr tf))))), (aEs, .inl (ce, 8, .inr (.inr (.inr (.inr ef))))), (aDc, .inl (cd, 8, .inr (.inr (.inr (.inr dc))))), (aNn, .inr (1, [.ref bNn, .int (vn 1), .int (vn 2), .int (vn 3), .int (vn 4), .int (vn 5), .int (vn 6), .int (vn 7)])), (bNn, .inl (c1n, 25, .inl bn)), (aTt, .inr (3, [.ref bTt, .int (vt 1), .int (vt 2), .int (vt 3), .int (vt 4)])), (bTt, .inl (c1t, 25, .inl bt)), (aE, .inr (0, [.ref bE, .int (v 1), .int (v 2), .int (v 3), .int (v 4), .ref rE, .ref pE, .int (v 7), .int (v 8), .int (v 9), .int (v 10), .int (v 11), .int (v 12), .int (v 13), .int (v 14), .int (v 15)])), (bE, .inl (c1, 25, .inl b)), (rE, .inl (c2, 24, .inl rw)), (pE, .inl (c3, 24, .inl pw))]) (w1 := (wSY aS rS aY cs cy q2.2.1 q2.2.2 y)) (w' := (wQA aQ aY aS rS aNs aTs aEs aDc aNn bNn aTt bTt aE bE rE pE cy cs cn ct ce cd c1n c1t c1 c2 c3 pv y q2.2.1 q2.2.2 nf tf ef dc vn bn vt bt v b rw pw)) (va_runV (As := [.ref aY, .int (pv 1)]) (rest := []) ⟨hx, hb, hml, hown, hw⟩ (k_S_expand l D aS rS aY cs cy _ (pv 1) sv sr y  q2 hq2) (zcV (C := RX3) 2 hw (zgood zw480) rfl rfl rfl zw179 zw482 zw481 zw483 hdX3_expand ⟨Nat.le_of_ble_eq_true rfl, Nat.le_of_ble_eq_true rfl⟩) (zpreV (zpre zC_ok hX hS hFc hPc hKc hDc) (va_recv hK hP rfl (q0 := 2) rfl)) rfl rfl hl.1 rfl (lv_room (Nat.le_of_ble_eq_true rfl)) dX5_declare_31 ⟨Nat.zero_le _, Nat.zero_le _⟩) hP hD hS hFc [2, 3, 1] [0, 4, 5, 6, 7, 8, 9, 10, 11, 12, 13, 14, 15] [0, 15, 13, 14, 1, 2, 3, 4, 5, 6, 7, 8, 9, 10, 11, 12] rfl rfl (by decide) (by decide) rfl (by decide) (fun H locs hP hD hS => ?_)
    refine lv_istore_n (lv' := [(2, .int q2.1), (0, .ref aQ), (1, .int a0)]) hx hb dX5_declare_34 rfl hl (by decide) rfl (fun ls hl => ?_)
    refine lv_aload_n hx hb dX5_declare_35 rfl (lv_at hl 1 rfl) ?_
    refine lv_iconst (v := 0) hx hb dX5_declare_36 (by decide) ?_
    refine va_put (D := D) (ci := 4) (v := .int 0) (ty := .int) (C := RX5) (T := TX5) (N := 8) hx hb hw zinX5 tyX5 tyX5_ok nmX5 hown hK hP hD hS 0 rfl rfl 1 (by decide) (hw _ zw418) (fun _ h9 => h9) rfl (by decide +kernel) rfl rfl (Nat.le_of_ble_eq_true rfl) dX5_declare_37 (fun H locs hP hD hS => ?_)
    have hP : va_P D vwCl (wQA aQ aY aS rS aNs aTs aEs aDc aNn bNn aTt bTt aE bE rE pE cy cs cn ct ce cd c1n c1t c1 c2 c3 (upd pv 1 0) y q2.2.1 q2.2.2 nf tf ef dc vn bn vt bt v b rw pw) H := hP
    have hD : va_D _ (wQA aQ aY aS rS aNs aTs aEs aDc aNn bNn aTt bTt aE bE rE pE cy cs cn ct ce cd c1n c1t c1 c2 c3 (upd pv 1 0) y q2.2.1 q2.2.2 nf tf ef dc vn bn vt bt v b rw pw) := hD
    refine lv_iload_n hx hb dX5_declare_40 rfl (lv_at hl 0 rfl) ?_
    refine lv_if_eq (tgt := 56) hx hb dX5_declare_41 rfl (fun cd3 => ?_) (fun cd3 => ?_)
    · replace hm := zt cd3 hm
      cases hm
    · replace hm := zf cd3 hm
      refine lv_aload_n hx hb dX5_declare_44 rfl (lv_at hl 1 rfl) ?_
      refine lv_aload_n hx hb dX5_declare_45 rfl (lv_at hl 1 rfl) ?_
      refine va_get (D := D) (ci := 4) (v := .int ((upd pv 1 0) 7)) (C := RX5) (T := TX5) (N := 8) hx hb hw zinX5 hown hK hP 0 rfl rfl 7 (by decide) (hw _ zw420) (fun _ h9 => h9) rfl dX5_declare_46 ?_
      refine lv_iload_n hx hb dX5_declare_49 rfl (lv_at hl 2 rfl) ?_
      obtain ⟨q4, hq4, hm⟩ := zbind hm
      have hPc := hP.sub (ws' := (wQF aQ aY aDc aS rS aNs aTs aEs aNn bNn aTt bTt aE bE rE pE cs cn ct ce c1n c1t c1 c2 c3 (upd pv 1 0) q2.2.1 q2.2.2 nf tf ef vn bn vt bt v b rw pw)) [0, 2, 3, 4, 5, 6, 8, 9, 10, 11, 12, 13, 14, 15] rfl
      have hDc := hD.sub (ws' := (wQF aQ aY aDc aS rS aNs aTs aEs aNn bNn aTt bTt aE bE rE pE cs cn ct ce c1n c1t c1 c2 c3 (upd pv 1 0) q2.2.1 q2.2.2 nf tf ef vn bn vt bt v b rw pw)) [0, 2, 3, 4, 5, 6, 8, 9, 10, 11, 12, 13, 14, 15] (by decide) rfl
      have hKc := hK.sub (tys' := wQF_t cs cn ct ce c1n c1t c1 c2 c3) [1, 2, 3, 4, 6, 7, 8, 9, 10] rfl
      have hFc := va_free (wc := (wQF aQ aY aDc aS rS aNs aTs aEs aNn bNn aTt bTt aE bE rE pE cs cn ct ce c1n c1t c1 c2 c3 (upd pv 1 0) q2.2.1 q2.2.2 nf tf ef vn bn vt bt v b rw pw)) hD hS hA [0, 2, 3, 4, 5, 6, 8, 9, 10, 11, 12, 13, 14, 15] rfl
      refine zbSq (wr := [(aY, .inl (cy, 24, .inl y)), (aDc, .inl (cd, 8, .inr (.inr (.inr (.inr dc)))))]) (w1 := (wQF aQ aY aDc aS rS aNs aTs aEs aNn bNn aTt bTt aE bE rE pE cs cn ct ce c1n c1t c1 c2 c3 (upd pv 1 0) q2.2.1 q2.2.2 nf tf ef q4.1 bn q4.2.1 bt q4.2.2.1 b q4.2.2.2.1 q4.2.2.2.2)) (w' := (wQA aQ aY aS rS aNs aTs aEs aDc aNn bNn aTt bTt aE bE rE pE cy cs cn ct ce cd c1n c1t c1 c2 c3 (upd pv 1 0) y q2.2.1 q2.2.2 nf tf ef dc q4.1 bn q4.2.1 bt q4.2.2.1 b q4.2.2.2.1 q4.2.2.2.2)) (va_runV (As := [.int ((upd pv 1 0) 7), .int a0]) (rest := []) ⟨hx, hb, hml, hown, hw⟩ (k_P_fitting_N l D aQ aY aDc aS rS aNs aTs aEs aNn bNn aTt bTt aE bE rE pE cs cn ct ce c1n c1t c1 c2 c3 _ ((upd pv 1 0) 7) a0 (upd pv 1 0) q2.2.1 q2.2.2 nf tf ef vn bn vt bt v b rw pw hdN hdT hdE q4 hq4) (zcV (C := RX5) 2 hw (zgood zw484) rfl rfl rfl zw176 zw486 zw485 zw487 hdX5_fittingField ⟨Nat.le_of_ble_eq_true rfl, Nat.le_of_ble_eq_true rfl⟩) (zpreV (zpre zC_ok hX hS hFc hPc hKc hDc) (va_recv hK hP rfl (q0 := 0) rfl)) rfl rfl hl.1 rfl (lv_room (Nat.le_of_ble_eq_true rfl)) dX5_declare_50 ⟨Nat.zero_le _, Nat.zero_le _⟩) hP hD hS hFc [0, 2, 3, 4, 5, 6, 8, 9, 10, 11, 12, 13, 14, 15] [1, 7] [2, 0, 3, 4, 5, 6, 7, 1, 8, 9, 10, 11, 12, 13, 14, 15] rfl rfl (by decide) (by decide) rfl (by decide) (fun H locs hP hD hS => ?_)
      refine lv_goto (tgt := 57) hx hb dX5_declare_53 rfl ?_
      exact b_P_declare_N_57 G0 hK hX _ _ _ _ _ _ _ _ _ _ hm _ _ _ hP hD hS (lv_sub hl [1] rfl)
  · replace hm := zf cd1 hm
    cases hm

def m_P_declare_T_57 (y : Nat → Int32) (nf : Nat → Option Nat) (tf : Nat → Option Nat) (ef : Nat → Option Nat) (bn : Nat → Int32) (b : Nat → Int32) (aTt : Nat)  (pv : Nat → Int32) (sv : Nat → Int32) (sr : Nat → Int32) (dc : Nat → Option Nat) (vn : Nat → Int32) (vt : Nat → Int32) (bt : Nat → Int32) (v : Nat → Int32) (rw : Nat → Int32) (pw : Nat → Int32) : Option ((Int32) × (Nat → Int32) × (Nat → Int32) × (Nat → Int32) × (Nat → Option Nat) × (Nat → Int32) × (Nat → Int32) × (Nat → Int32) × (Nat → Int32) × (Nat → Int32) × (Nat → Int32)) := (m_T_empty vt bt).bind (fun q5 => zix (pv 7) 8 ((some ((((upd pv 7 ((pv 7) + 1)) 7) - 1), (upd pv 7 ((pv 7) + 1)), sv, sr, (va_up dc (pv 7).toNatClampNeg (some aTt)), vn, vt, q5, v, rw, pw))))
def m_P_declare_T (a0 : Int32) (pv : Nat → Int32) (y : Nat → Int32) (sv : Nat → Int32) (sr : Nat → Int32) (nf : Nat → Option Nat) (tf : Nat → Option Nat) (ef : Nat → Option Nat) (dc : Nat → Option Nat) (vn : Nat → Int32) (bn : Nat → Int32) (vt : Nat → Int32) (bt : Nat → Int32) (v : Nat → Int32) (b : Nat → Int32) (rw : Nat → Int32) (pw : Nat → Int32) (aTt : Nat) : Option ((Int32) × (Nat → Int32) × (Nat → Int32) × (Nat → Int32) × (Nat → Option Nat) × (Nat → Int32) × (Nat → Int32) × (Nat → Int32) × (Nat → Int32) × (Nat → Int32) × (Nat → Int32)) := (if (pv 7) < 8 then (m_S_expand (pv 1) sv sr y).bind (fun q2 => (if q2.1 = 0 then none else (m_P_fitting_T ((upd pv 1 0) 7) a0 (upd pv 1 0) q2.2.1 q2.2.2 nf tf ef vn bn vt bt v b rw pw).bind (fun q4 => m_P_declare_T_57 y nf tf ef bn b aTt (upd pv 1 0) q2.2.1 q2.2.2 dc q4.1 q4.2.1 bt q4.2.2.1 q4.2.2.2.1 q4.2.2.2.2))) else none)
section
variable {p : Program} {l : Launch} {e : Env} {s : State} {m : MethodId} {args : Array Value} {below : List Frame} {meth : Method} {c : Code} {D : va_G} {w0 : va_W} {aQ aY aS rS aNs aTs aEs aDc aNn bNn aTt bTt aE bE rE pE : Nat} {cy cs cn ct ce cd c1n c1t c1 c2 c3 : ClassId} {y : Nat → Int32} {nf : Nat → Option Nat} {tf : Nat → Option Nat} {ef : Nat → Option Nat} {bn : Nat → Int32} {b : Nat → Int32}
set_option maxRecDepth 100000 in
set_option maxHeartbeats 4000000 in
theorem b_P_declare_T_57 (G : zG p s m args meth c cX5_declare RX5 4 (some .int)) (hK : va_K D vwCl (wQA_t cy cs cn ct ce cd c1n c1t c1 c2 c3) s) (hX : zC (va_A w0 s.heap.size) s) {res : (Int32) × (Nat → Int32) × (Nat → Int32) × (Nat → Int32) × (Nat → Option Nat) × (Nat → Int32) × (Nat → Int32) × (Nat → Int32) × (Nat → Int32) × (Nat → Int32) × (Nat → Int32)} : ∀ (pv : Nat → Int32) (sv : Nat → Int32) (sr : Nat → Int32) (dc : Nat → Option Nat) (vn : Nat → Int32) (vt : Nat → Int32) (bt : Nat → Int32) (v : Nat → Int32) (rw : Nat → Int32) (pw : Nat → Int32), m_P_declare_T_57 y nf tf ef bn b aTt pv sv sr dc vn vt bt v rw pw = some res → zB p l e (zR 6 127) s m args below meth c D vwCl (va_A w0 s.heap.size) (MQ below (zQi D vwCl w0 (wQA aQ aY aS rS aNs aTs aEs aDc aNn bNn aTt bTt aE bE rE pE cy cs cn ct ce cd c1n c1t c1 c2 c3 res.2.1 y res.2.2.1 res.2.2.2.1 nf tf ef res.2.2.2.2.1 res.2.2.2.2.2.1 bn res.2.2.2.2.2.2.1 res.2.2.2.2.2.2.2.1 res.2.2.2.2.2.2.2.2.1 b res.2.2.2.2.2.2.2.2.2.1 res.2.2.2.2.2.2.2.2.2.2) s.heap.size res.1) args s 0 0 (va_A w0 s.heap.size)) 4 (wQA aQ aY aS rS aNs aTs aEs aDc aNn bNn aTt bTt aE bE rE pE cy cs cn ct ce cd c1n c1t c1 c2 c3 pv y sv sr nf tf ef dc vn bn vt bt v b rw pw) [(0, .ref aQ)] 57 [.ref aTt] := by
  intro pv sv sr dc vn vt bt v rw pw hm H locs ls hP hD hS hl
  unfold m_P_declare_T_57 at hm
  have G0 := G
  obtain ⟨hx, hb, hr, hml, hown, hw, hlk⟩ := G
  have hA : ∀ q, s.heap.size ≤ q → va_A w0 s.heap.size q := fun q h => Or.inr h
  refine lv_astore_n (lv' := [(3, .ref aTt), (0, .ref aQ)]) hx hb dX5_declare_57 rfl hl (by decide) rfl (fun ls hl => ?_)
  refine lv_aload_n hx hb dX5_declare_58 rfl (lv_at hl 0 rfl) ?_
  refine lv_ifnonnull (tgt := 72) hx hb dX5_declare_59 rfl ?_
  refine lv_aload_n hx hb dX5_declare_72 rfl (lv_at hl 0 rfl) ?_
  obtain ⟨q5, hq5, hm⟩ := zbind hm
  have hPc := hP.sub (ws' := (wT aTt bTt c1t vt bt)) [10, 11] rfl
  have hDc := hD.sub (ws' := (wT aTt bTt c1t vt bt)) [10, 11] (by decide) rfl
  have hKc := hK.sub (tys' := wT_t c1t) [7] rfl
  have hFc := va_free (wc := (wT aTt bTt c1t vt bt)) hD hS hA [10, 11] rfl
  refine zbSv (wr := [(aQ, .inr (4, [.ref aY, .int (pv 1), .ref aS, .ref aNs, .ref aTs, .ref aEs, .ref aDc, .int (pv 7)])), (aY, .inl (cy, 24, .inl y)), (aS, .inr (2, [.ref rS, .int (sv 1)])), (rS, .inl (cs, 24, .inl sr)), (aNs, .inl (cn, 8, .inr (.inr (.inr (.inr nf))))), (aTs, .inl (ct, 8, .inr (.inr (.inr (.inr tf))))), (aEs, .inl (ce, 8, .inr (.inr (.inr (.inr ef))))), (aDc, .inl (cd, 8, .inr (.inr (.inr (.inr dc))))), (aNn, .inr (1, [.ref bNn, .int (vn 1), .int (vn 2), .int (vn 3), .int (vn 4), .int (vn 5), .int (vn 6), .int (vn 7)])), (bNn, .inl (c1n, 25, .inl bn)), (aE, .inr (0, [.ref bE, .int (v 1), .int (v 2), .int (v 3), .int (v 4), .ref rE, .ref pE, .int (v 7), .int (v 8), .int (v 9), .int (v 10), .int (v 11), .int (v 12), .int (v 13), .int (v 14), .int (v 15)])), (bE, .inl (c1, 25, .inl b)), (rE, .inl (c2, 24, .inl rw)), (pE, .inl (c3, 24, .inl pw))]) (w1 := (wT aTt bTt c1t vt q5)) (w' := (wQA aQ aY aS rS aNs aTs aEs aDc aNn bNn aTt bTt aE bE rE pE cy cs cn ct ce cd c1n c1t c1 c2 c3 pv y sv sr nf tf ef dc vn bn vt q5 v b rw pw)) (va_runU (As := []) (rest := []) ⟨hx, hb, hml, hown, hw⟩ (k_T_empty l D aTt bTt c1t _ vt bt  q5 hq5) (va_cwO (C := RX4) (owner := RX1) (x := ⟨RX1, "empty", "()V"⟩) 0 hw (zgoodL (List.forall_mem_cons.mpr ⟨zw490, List.forall_mem_cons.mpr ⟨zw491, List.forall_mem_cons.mpr ⟨zw489, List.forall_mem_cons.mpr ⟨zw495, List.forall_mem_cons.mpr ⟨zw494, List.forall_mem_cons.mpr ⟨zw402, fun _ h => absurd h List.not_mem_nil⟩⟩⟩⟩⟩⟩) zw493) rfl rfl rfl zw488 (by decide +kernel) ⟨Nat.le_of_ble_eq_true rfl, Nat.le_of_ble_eq_true rfl⟩) (zpreV (zpre zC_ok hX hS hFc hPc hKc hDc) (va_recv hK hP rfl (q0 := 10) rfl)) rfl rfl hl.1 rfl (lv_room (Nat.le_of_ble_eq_true rfl)) dX5_declare_73 ⟨Nat.zero_le _, Nat.zero_le _⟩) hP hD hS hFc [10, 11] [0, 1, 2, 3, 4, 5, 6, 7, 8, 9, 12, 13, 14, 15] [0, 1, 2, 3, 4, 5, 6, 7, 8, 9, 14, 15, 10, 11, 12, 13] rfl rfl (by decide) (by decide) rfl (by decide) (fun H locs hP hD hS => ?_)
  refine lv_aload_n hx hb dX5_declare_76 rfl (lv_at hl 1 rfl) ?_
  refine va_get (D := D) (ci := 4) (v := .ref aDc) (C := RX5) (T := TX5) (N := 8) hx hb hw zinX5 hown hK hP 0 rfl rfl 6 (by decide) (hw _ zw421) (fun _ h9 => h9) rfl dX5_declare_77 ?_
  refine lv_aload_n hx hb dX5_declare_80 rfl (lv_at hl 1 rfl) ?_
  refine va_get (D := D) (ci := 4) (v := .int (pv 7)) (C := RX5) (T := TX5) (N := 8) hx hb hw zinX5 hown hK hP 0 rfl rfl 7 (by decide) (hw _ zw420) (fun _ h9 => h9) rfl dX5_declare_81 ?_
  refine lv_aload_n hx hb dX5_declare_84 rfl (lv_at hl 0 rfl) ?_
  obtain ⟨hi6, hm⟩ := zix_s hm
  refine va_astqO (E := RX1) (i := (pv 7)) (f := dc) (n := 8) hx hb hK hP hD hS 7 5 10 3 rfl rfl (hX.1 _ zn15) rfl rfl hi6 dX5_declare_85 (fun H locs hP hD hS => ?_)
  have hP : va_P D vwCl (wQA aQ aY aS rS aNs aTs aEs aDc aNn bNn aTt bTt aE bE rE pE cy cs cn ct ce cd c1n c1t c1 c2 c3 pv y sv sr nf tf ef (va_up dc (pv 7).toNatClampNeg (some aTt)) vn bn vt q5 v b rw pw) H := hP
  have hD : va_D _ (wQA aQ aY aS rS aNs aTs aEs aDc aNn bNn aTt bTt aE bE rE pE cy cs cn ct ce cd c1n c1t c1 c2 c3 pv y sv sr nf tf ef (va_up dc (pv 7).toNatClampNeg (some aTt)) vn bn vt q5 v b rw pw) := hD
  refine lv_aload_n hx hb dX5_declare_86 rfl (lv_at hl 1 rfl) ?_
  refine lv_dup hx hb dX5_declare_87 rfl ?_
  refine va_get (D := D) (ci := 4) (v := .int (pv 7)) (C := RX5) (T := TX5) (N := 8) hx hb hw zinX5 hown hK hP 0 rfl rfl 7 (by decide) (hw _ zw420) (fun _ h9 => h9) rfl dX5_declare_88 ?_
  refine lv_iconst (v := 1) hx hb dX5_declare_91 (by decide) ?_
  refine lv_iadd hx hb dX5_declare_92 ?_
  refine va_put (D := D) (ci := 4) (v := .int ((pv 7) + 1)) (ty := .int) (C := RX5) (T := TX5) (N := 8) hx hb hw zinX5 tyX5 tyX5_ok nmX5 hown hK hP hD hS 0 rfl rfl 7 (by decide) (hw _ zw420) (fun _ h9 => h9) rfl (by decide +kernel) rfl rfl (Nat.le_of_ble_eq_true rfl) dX5_declare_93 (fun H locs hP hD hS => ?_)
  have hP : va_P D vwCl (wQA aQ aY aS rS aNs aTs aEs aDc aNn bNn aTt bTt aE bE rE pE cy cs cn ct ce cd c1n c1t c1 c2 c3 (upd pv 7 ((pv 7) + 1)) y sv sr nf tf ef (va_up dc (pv 7).toNatClampNeg (some aTt)) vn bn vt q5 v b rw pw) H := hP
  have hD : va_D _ (wQA aQ aY aS rS aNs aTs aEs aDc aNn bNn aTt bTt aE bE rE pE cy cs cn ct ce cd c1n c1t c1 c2 c3 (upd pv 7 ((pv 7) + 1)) y sv sr nf tf ef (va_up dc (pv 7).toNatClampNeg (some aTt)) vn bn vt q5 v b rw pw) := hD
  refine lv_aload_n hx hb dX5_declare_96 rfl (lv_at hl 1 rfl) ?_
  refine va_get (D := D) (ci := 4) (v := .int ((upd pv 7 ((pv 7) + 1)) 7)) (C := RX5) (T := TX5) (N := 8) hx hb hw zinX5 hown hK hP 0 rfl rfl 7 (by decide) (hw _ zw420) (fun _ h9 => h9) rfl dX5_declare_97 ?_
  refine lv_iconst (v := 1) hx hb dX5_declare_100 (by decide) ?_
  refine lv_isub hx hb dX5_declare_101 ?_
  cases hm
  exact zreti hx hb hr hlk hP hD hS dX5_declare_102
end
set_option maxRecDepth 100000 in
set_option maxHeartbeats 4000000 in
theorem k_P_declare_T (l : Launch) (D : va_G) (aQ aY aS rS aNs aTs aEs aDc aNn bNn aTt bTt aE bE rE pE : Nat) (cy cs cn ct ce cd c1n c1t c1 c2 c3 : ClassId) (sz : Nat) (a0 : Int32) (pv : Nat → Int32) (y : Nat → Int32) (sv : Nat → Int32) (sr : Nat → Int32) (nf : Nat → Option Nat) (tf : Nat → Option Nat) (ef : Nat → Option Nat) (dc : Nat → Option Nat) (vn : Nat → Int32) (bn : Nat → Int32) (vt : Nat → Int32) (bt : Nat → Int32) (v : Nat → Int32) (b : Nat → Int32) (rw : Nat → Int32) (pw : Nat → Int32) (hdN : nf (pv 7).toNatClampNeg = some aNn) (hdT : tf (pv 7).toNatClampNeg = some aTt) (hdE : ef (pv 7).toNatClampNeg = some aE) (res : (Int32) × (Nat → Int32) × (Nat → Int32) × (Nat → Int32) × (Nat → Option Nat) × (Nat → Int32) × (Nat → Int32) × (Nat → Int32) × (Nat → Int32) × (Nat → Int32) × (Nat → Int32)) (hm : m_P_declare_T a0 pv y sv sr nf tf ef dc vn bn vt bt v b rw pw aTt = some res) : Met l yX5_declare (Cond.code yX5_declare cX5_declare 4 (some .int) :: zBIG) (zR 6 127) (va_Pc [.ref aQ, .int a0] (zP zC D vwCl (wQA_t cy cs cn ct ce cd c1n c1t c1 c2 c3) (wQA aQ aY aS rS aNs aTs aEs aDc aNn bNn aTt bTt aE bE rE pE cy cs cn ct ce cd c1n c1t c1 c2 c3 pv y sv sr nf tf ef dc vn bn vt bt v b rw pw) sz)) (zQi D vwCl (wQA aQ aY aS rS aNs aTs aEs aDc aNn bNn aTt bTt aE bE rE pE cy cs cn ct ce cd c1n c1t c1 c2 c3 pv y sv sr nf tf ef dc vn bn vt bt v b rw pw) (wQA aQ aY aS rS aNs aTs aEs aDc aNn bNn aTt bTt aE bE rE pE cy cs cn ct ce cd c1n c1t c1 c2 c3 res.2.1 y res.2.2.1 res.2.2.2.1 nf tf ef res.2.2.2.2.1 res.2.2.2.2.2.1 bn res.2.2.2.2.2.2.1 res.2.2.2.2.2.2.2.1 res.2.2.2.2.2.2.2.2.1 b res.2.2.2.2.2.2.2.2.2.1 res.2.2.2.2.2.2.2.2.2.2) sz res.1) 0 0 (va_A (wQA aQ aY aS rS aNs aTs aEs aDc aNn bNn aTt bTt aE bE rE pE cy cs cn ct ce cd c1n c1t c1 c2 c3 pv y sv sr nf tf ef dc vn bn vt bt v b rw pw) sz) := by
  refine zEnter RX5 [.ref aQ, .int a0] (by decide) rfl (Nat.le_of_ble_eq_true rfl) (fun p e s m below meth c ls G hK hX hP hD hsz hl => ?_)
  subst hsz
  unfold m_P_declare_T at hm
  have hl : lv_has ls 4 [(0, .ref aQ), (1, .int a0)] := hl
  have hS : va_S (va_A (wQA aQ aY aS rS aNs aTs aEs aDc aNn bNn aTt bTt aE bE rE pE cy cs cn ct ce cd c1n c1t c1 c2 c3 pv y sv sr nf tf ef dc vn bn vt bt v b rw pw) s.heap.size) s.heap s.heap [] := va_S.rf
  have hA : ∀ q, s.heap.size ≤ q → va_A (wQA aQ aY aS rS aNs aTs aEs aDc aNn bNn aTt bTt aE bE rE pE cy cs cn ct ce cd c1n c1t c1 c2 c3 pv y sv sr nf tf ef dc vn bn vt bt v b rw pw) s.heap.size q := fun q h => Or.inr h
  have G0 := G
  obtain ⟨hx, hb, hr, hml, hown, hw, hlk⟩ := G
  refine lv_aload_n hx hb dX5_declare_0 rfl (lv_at hl 0 rfl) ?_
  refine va_get (D := D) (ci := 4) (v := .int (pv 7)) (C := RX5) (T := TX5) (N := 8) hx hb hw zinX5 hown hK hP 0 rfl rfl 7 (by decide) (hw _ zw420) (fun _ h9 => h9) rfl dX5_declare_1 ?_
  refine lv_bipush (v := 8) hx hb dX5_declare_4 (by decide) ?_
  refine lv_icmp_lt (tgt := 19) hx hb dX5_declare_6 rfl (fun cd1 => ?_) (fun cd1 => ?_)
  · replace hm := zt cd1 hm
    refine lv_aload_n hx hb dX5_declare_19 rfl (lv_at hl 0 rfl) ?_
    refine va_get (D := D) (ci := 4) (v := .ref aS) (C := RX5) (T := TX5) (N := 8) hx hb hw zinX5 hown hK hP 0 rfl rfl 2 (by decide) (hw _ zw461) (fun _ h9 => h9) rfl dX5_declare_20 ?_
    refine lv_aload_n hx hb dX5_declare_23 rfl (lv_at hl 0 rfl) ?_
    refine va_get (D := D) (ci := 4) (v := .ref aY) (C := RX5) (T := TX5) (N := 8) hx hb hw zinX5 hown hK hP 0 rfl rfl 0 (by decide) (hw _ zw419) (fun _ h9 => h9) rfl dX5_declare_24 ?_
    refine lv_aload_n hx hb dX5_declare_27 rfl (lv_at hl 0 rfl) ?_
    refine va_get (D := D) (ci := 4) (v := .int (pv 1)) (C := RX5) (T := TX5) (N := 8) hx hb hw zinX5 hown hK hP 0 rfl rfl 1 (by decide) (hw _ zw418) (fun _ h9 => h9) rfl dX5_declare_28 ?_
    obtain ⟨q2, hq2, hm⟩ := zbind hm
    have hPc := hP.sub (ws' := (wSY aS rS aY cs cy sv sr y)) [2, 3, 1] rfl
    have hDc := hD.sub (ws' := (wSY aS rS aY cs cy sv sr y)) [2, 3, 1] (by decide) rfl
    have hKc := hK.sub (tys' := wSY_t cs cy) [1, 0] rfl
    have hFc := va_free (wc := (wSY aS rS aY cs cy sv sr y)) hD hS hA [2, 3, 1] rfl
    refine zbSi (wr := [(aQ, .inr (4, [.ref aY, .int (pv 1), .ref aS, .ref aNs, .ref aTs, .ref aEs, .ref aDc, .int (pv 7)])), (aNs, .inl (cn, 8, .inr (.inr (.inr (.inr nf))))), (aTs, .inl (ct, 8, .inr (.inr (.inr (.inr tf))))), (aEs, .inl (ce, 8, .inr (.inr (.inr (.inr ef))))), (aDc, .inl (cd, 8, .inr (.inr (.inr (.inr dc))))), (aNn, .inr (1, [.ref bNn, .int (vn 1), .int (vn 2), .int (vn 3), .int (vn 4), .int (vn 5), .int (vn 6), .int (vn 7)])), (bNn, .inl (c1n, 25, .inl bn)), (aTt, .inr (3, [.ref bTt, .int (vt 1), .int (vt 2), .int (vt 3), .int (vt 4)])), (bTt, .inl (c1t, 25, .inl bt)), (aE, .inr (0, [.ref bE, .int (v 1), .int (v 2), .int (v 3), .int (v 4), .ref rE, .ref pE, .int (v 7), .int (v 8), .int (v 9), .int (v 10), .int (v 11), .int (v 12), .int (v 13), .int (v 14), .int (v 15)])), (bE, .inl (c1, 25, .inl b)), (rE, .inl (c2, 24, .inl rw)), (pE, .inl (c3, 24, .inl pw))]) (w1 := (wSY aS rS aY cs cy q2.2.1 q2.2.2 y)) (w' := (wQA aQ aY aS rS aNs aTs aEs aDc aNn bNn aTt bTt aE bE rE pE cy cs cn ct ce cd c1n c1t c1 c2 c3 pv y q2.2.1 q2.2.2 nf tf ef dc vn bn vt bt v b rw pw)) (va_runV (As := [.ref aY, .int (pv 1)]) (rest := []) ⟨hx, hb, hml, hown, hw⟩ (k_S_expand l D aS rS aY cs cy _ (pv 1) sv sr y  q2 hq2) (zcV (C := RX3) 2 hw (zgood zw480) rfl rfl rfl zw179 zw482 zw481 zw483 hdX3_expand ⟨Nat.le_of_ble_eq_true rfl, Nat.le_of_ble_eq_true rfl⟩) (zpreV (zpre zC_ok hX hS hFc hPc hKc hDc) (va_recv hK hP rfl (q0 := 2) rfl)) rfl rfl hl.1 rfl (lv_room (Nat.le_of_ble_eq_true rfl)) dX5_declare_31 ⟨Nat.zero_le _, Nat.zero_le _⟩) hP hD hS hFc [2, 3, 1] [0, 4, 5, 6, 7, 8, 9, 10, 11, 12, 13, 14, 15] [0, 15, 13, 14, 1, 2, 3, 4, 5, 6, 7, 8, 9, 10, 11, 12] rfl rfl (by decide) (by decide) rfl (by decide) (fun H locs hP hD hS => ?_)
    refine lv_istore_n (lv' := [(2, .int q2.1), (0, .ref aQ), (1, .int a0)]) hx hb dX5_declare_34 rfl hl (by decide) rfl (fun ls hl => ?_)
    refine lv_aload_n hx hb dX5_declare_35 rfl (lv_at hl 1 rfl) ?_
    refine lv_iconst (v := 0) hx hb dX5_declare_36 (by decide) ?_
    refine va_put (D := D) (ci := 4) (v := .int 0) (ty := .int) (C := RX5) (T := TX5) (N := 8) hx hb hw zinX5 tyX5 tyX5_ok nmX5 hown hK hP hD hS 0 rfl rfl 1 (by decide) (hw _ zw418) (fun _ h9 => h9) rfl (by decide +kernel) rfl rfl (Nat.le_of_ble_eq_true rfl) dX5_declare_37 (fun H locs hP hD hS => ?_)
    have hP : va_P D vwCl (wQA aQ aY aS rS aNs aTs aEs aDc aNn bNn aTt bTt aE bE rE pE cy cs cn ct ce cd c1n c1t c1 c2 c3 (upd pv 1 0) y q2.2.1 q2.2.2 nf tf ef dc vn bn vt bt v b rw pw) H := hP
    have hD : va_D _ (wQA aQ aY aS rS aNs aTs aEs aDc aNn bNn aTt bTt aE bE rE pE cy cs cn ct ce cd c1n c1t c1 c2 c3 (upd pv 1 0) y q2.2.1 q2.2.2 nf tf ef dc vn bn vt bt v b rw pw) := hD
    refine lv_iload_n hx hb dX5_declare_40 rfl (lv_at hl 0 rfl) ?_
    refine lv_if_eq (tgt := 56) hx hb dX5_declare_41 rfl (fun cd3 => ?_) (fun cd3 => ?_)
    · replace hm := zt cd3 hm
      cases hm
    · replace hm := zf cd3 hm
      refine lv_aload_n hx hb dX5_declare_44 rfl (lv_at hl 1 rfl) ?_
      refine lv_aload_n hx hb dX5_declare_45 rfl (lv_at hl 1 rfl) ?_
      refine va_get (D := D) (ci := 4) (v := .int ((upd pv 1 0) 7)) (C := RX5) (T := TX5) (N := 8) hx hb hw zinX5 hown hK hP 0 rfl rfl 7 (by decide) (hw _ zw420) (fun _ h9 => h9) rfl dX5_declare_46 ?_
      refine lv_iload_n hx hb dX5_declare_49 rfl (lv_at hl 2 rfl) ?_
      obtain ⟨q4, hq4, hm⟩ := zbind hm
      have hPc := hP.sub (ws' := (wQF aQ aY aDc aS rS aNs aTs aEs aNn bNn aTt bTt aE bE rE pE cs cn ct ce c1n c1t c1 c2 c3 (upd pv 1 0) q2.2.1 q2.2.2 nf tf ef vn bn vt bt v b rw pw)) [0, 2, 3, 4, 5, 6, 8, 9, 10, 11, 12, 13, 14, 15] rfl
      have hDc := hD.sub (ws' := (wQF aQ aY aDc aS rS aNs aTs aEs aNn bNn aTt bTt aE bE rE pE cs cn ct ce c1n c1t c1 c2 c3 (upd pv 1 0) q2.2.1 q2.2.2 nf tf ef vn bn vt bt v b rw pw)) [0, 2, 3, 4, 5, 6, 8, 9, 10, 11, 12, 13, 14, 15] (by decide) rfl
      have hKc := hK.sub (tys' := wQF_t cs cn ct ce c1n c1t c1 c2 c3) [1, 2, 3, 4, 6, 7, 8, 9, 10] rfl
      have hFc := va_free (wc := (wQF aQ aY aDc aS rS aNs aTs aEs aNn bNn aTt bTt aE bE rE pE cs cn ct ce c1n c1t c1 c2 c3 (upd pv 1 0) q2.2.1 q2.2.2 nf tf ef vn bn vt bt v b rw pw)) hD hS hA [0, 2, 3, 4, 5, 6, 8, 9, 10, 11, 12, 13, 14, 15] rfl
      refine zbSq (wr := [(aY, .inl (cy, 24, .inl y)), (aDc, .inl (cd, 8, .inr (.inr (.inr (.inr dc)))))]) (w1 := (wQF aQ aY aDc aS rS aNs aTs aEs aNn bNn aTt bTt aE bE rE pE cs cn ct ce c1n c1t c1 c2 c3 (upd pv 1 0) q2.2.1 q2.2.2 nf tf ef q4.1 bn q4.2.1 bt q4.2.2.1 b q4.2.2.2.1 q4.2.2.2.2)) (w' := (wQA aQ aY aS rS aNs aTs aEs aDc aNn bNn aTt bTt aE bE rE pE cy cs cn ct ce cd c1n c1t c1 c2 c3 (upd pv 1 0) y q2.2.1 q2.2.2 nf tf ef dc q4.1 bn q4.2.1 bt q4.2.2.1 b q4.2.2.2.1 q4.2.2.2.2)) (va_runV (As := [.int ((upd pv 1 0) 7), .int a0]) (rest := []) ⟨hx, hb, hml, hown, hw⟩ (k_P_fitting_T l D aQ aY aDc aS rS aNs aTs aEs aNn bNn aTt bTt aE bE rE pE cs cn ct ce c1n c1t c1 c2 c3 _ ((upd pv 1 0) 7) a0 (upd pv 1 0) q2.2.1 q2.2.2 nf tf ef vn bn vt bt v b rw pw hdN hdT hdE q4 hq4) (zcV (C := RX5) 2 hw (zgood zw484) rfl rfl rfl zw176 zw486 zw485 zw487 hdX5_fittingField ⟨Nat.le_of_ble_eq_true rfl, Nat.le_of_ble_eq_true rfl⟩) (zpreV (zpre zC_ok hX hS hFc hPc hKc hDc) (va_recv hK hP rfl (q0 := 0) rfl)) rfl rfl hl.1 rfl (lv_room (Nat.le_of_ble_eq_true rfl)) dX5_declare_50 ⟨Nat.zero_le _, Nat.zero_le _⟩) hP hD hS hFc [0, 2, 3, 4, 5, 6, 8, 9, 10, 11, 12, 13, 14, 15] [1, 7] [2, 0, 3, 4, 5, 6, 7, 1, 8, 9, 10, 11, 12, 13, 14, 15] rfl rfl (by decide) (by decide) rfl (by decide) (fun H locs hP hD hS => ?_)
      refine lv_goto (tgt := 57) hx hb dX5_declare_53 rfl ?_
      exact b_P_declare_T_57 G0 hK hX _ _ _ _ _ _ _ _ _ _ hm _ _ _ hP hD hS (lv_sub hl [1] rfl)
  · replace hm := zf cd1 hm
    cases hm

def m_P_declare_E_57 (y : Nat → Int32) (nf : Nat → Option Nat) (tf : Nat → Option Nat) (ef : Nat → Option Nat) (bn : Nat → Int32) (bt : Nat → Int32) (aE : Nat)  (pv : Nat → Int32) (sv : Nat → Int32) (sr : Nat → Int32) (dc : Nat → Option Nat) (vn : Nat → Int32) (vt : Nat → Int32) (v : Nat → Int32) (b : Nat → Int32) (rw : Nat → Int32) (pw : Nat → Int32) : Option ((Int32) × (Nat → Int32) × (Nat → Int32) × (Nat → Int32) × (Nat → Option Nat) × (Nat → Int32) × (Nat → Int32) × (Nat → Int32) × (Nat → Int32) × (Nat → Int32) × (Nat → Int32)) := (m_F_empty_E v b rw pw).bind (fun q5 => zix (pv 7) 8 ((some ((((upd pv 7 ((pv 7) + 1)) 7) - 1), (upd pv 7 ((pv 7) + 1)), sv, sr, (va_up dc (pv 7).toNatClampNeg (some aE)), vn, vt, v, q5, rw, pw))))
def m_P_declare_E (a0 : Int32) (pv : Nat → Int32) (y : Nat → Int32) (sv : Nat → Int32) (sr : Nat → Int32) (nf : Nat → Option Nat) (tf : Nat → Option Nat) (ef : Nat → Option Nat) (dc : Nat → Option Nat) (vn : Nat → Int32) (bn : Nat → Int32) (vt : Nat → Int32) (bt : Nat → Int32) (v : Nat → Int32) (b : Nat → Int32) (rw : Nat → Int32) (pw : Nat → Int32) (aE : Nat) : Option ((Int32) × (Nat → Int32) × (Nat → Int32) × (Nat → Int32) × (Nat → Option Nat) × (Nat → Int32) × (Nat → Int32) × (Nat → Int32) × (Nat → Int32) × (Nat → Int32) × (Nat → Int32)) := (if (pv 7) < 8 then (m_S_expand (pv 1) sv sr y).bind (fun q2 => (if q2.1 = 0 then none else (m_P_fitting_E ((upd pv 1 0) 7) a0 (upd pv 1 0) q2.2.1 q2.2.2 nf tf ef vn bn vt bt v b rw pw).bind (fun q4 => m_P_declare_E_57 y nf tf ef bn bt aE (upd pv 1 0) q2.2.1 q2.2.2 dc q4.1 q4.2.1 q4.2.2.1 b q4.2.2.2.1 q4.2.2.2.2))) else none)
section
variable {p : Program} {l : Launch} {e : Env} {s : State} {m : MethodId} {args : Array Value} {below : List Frame} {meth : Method} {c : Code} {D : va_G} {w0 : va_W} {aQ aY aS rS aNs aTs aEs aDc aNn bNn aTt bTt aE bE rE pE : Nat} {cy cs cn ct ce cd c1n c1t c1 c2 c3 : ClassId} {y : Nat → Int32} {nf : Nat → Option Nat} {tf : Nat → Option Nat} {ef : Nat → Option Nat} {bn : Nat → Int32} {bt : Nat → Int32}
set_option maxRecDepth 100000 in
set_option maxHeartbeats 4000000 in
theorem b_P_declare_E_57 (G : zG p s m args meth c cX5_declare RX5 4 (some .int)) (hK : va_K D vwCl (wQA_t cy cs cn ct ce cd c1n c1t c1 c2 c3) s) (hX : zC (va_A w0 s.heap.size) s) {res : (Int32) × (Nat → Int32) × (Nat → Int32) × (Nat → Int32) × (Nat → Option Nat) × (Nat → Int32) × (Nat → Int32) × (Nat → Int32) × (Nat → Int32) × (Nat → Int32) × (Nat → Int32)} : ∀ (pv : Nat → Int32) (sv : Nat → Int32) (sr : Nat → Int32) (dc : Nat → Option Nat) (vn : Nat → Int32) (vt : Nat → Int32) (v : Nat → Int32) (b : Nat → Int32) (rw : Nat → Int32) (pw : Nat → Int32), m_P_declare_E_57 y nf tf ef bn bt aE pv sv sr dc vn vt v b rw pw = some res → zB p l e (zR 6 139) s m args below meth c D vwCl (va_A w0 s.heap.size) (MQ below (zQi D vwCl w0 (wQA aQ aY aS rS aNs aTs aEs aDc aNn bNn aTt bTt aE bE rE pE cy cs cn ct ce cd c1n c1t c1 c2 c3 res.2.1 y res.2.2.1 res.2.2.2.1 nf tf ef res.2.2.2.2.1 res.2.2.2.2.2.1 bn res.2.2.2.2.2.2.1 bt res.2.2.2.2.2.2.2.1 res.2.2.2.2.2.2.2.2.1 res.2.2.2.2.2.2.2.2.2.1 res.2.2.2.2.2.2.2.2.2.2) s.heap.size res.1) args s 0 0 (va_A w0 s.heap.size)) 4 (wQA aQ aY aS rS aNs aTs aEs aDc aNn bNn aTt bTt aE bE rE pE cy cs cn ct ce cd c1n c1t c1 c2 c3 pv y sv sr nf tf ef dc vn bn vt bt v b rw pw) [(0, .ref aQ)] 57 [.ref aE] := by
  intro pv sv sr dc vn vt v b rw pw hm H locs ls hP hD hS hl
  unfold m_P_declare_E_57 at hm
  have G0 := G
  obtain ⟨hx, hb, hr, hml, hown, hw, hlk⟩ := G
  have hA : ∀ q, s.heap.size ≤ q → va_A w0 s.heap.size q := fun q h => Or.inr h
  refine lv_astore_n (lv' := [(3, .ref aE), (0, .ref aQ)]) hx hb dX5_declare_57 rfl hl (by decide) rfl (fun ls hl => ?_)
  refine lv_aload_n hx hb dX5_declare_58 rfl (lv_at hl 0 rfl) ?_
  refine lv_ifnonnull (tgt := 72) hx hb dX5_declare_59 rfl ?_
  refine lv_aload_n hx hb dX5_declare_72 rfl (lv_at hl 0 rfl) ?_
  obtain ⟨q5, hq5, hm⟩ := zbind hm
  have hPc := hP.sub (ws' := (wE aE bE rE pE c1 c2 c3 v b rw pw)) [12, 13, 14, 15] rfl
  have hDc := hD.sub (ws' := (wE aE bE rE pE c1 c2 c3 v b rw pw)) [12, 13, 14, 15] (by decide) rfl
  have hKc := hK.sub (tys' := wE_t c1 c2 c3) [8, 9, 10] rfl
  have hFc := va_free (wc := (wE aE bE rE pE c1 c2 c3 v b rw pw)) hD hS hA [12, 13, 14, 15] rfl
  refine zbSv (wr := [(aQ, .inr (4, [.ref aY, .int (pv 1), .ref aS, .ref aNs, .ref aTs, .ref aEs, .ref aDc, .int (pv 7)])), (aY, .inl (cy, 24, .inl y)), (aS, .inr (2, [.ref rS, .int (sv 1)])), (rS, .inl (cs, 24, .inl sr)), (aNs, .inl (cn, 8, .inr (.inr (.inr (.inr nf))))), (aTs, .inl (ct, 8, .inr (.inr (.inr (.inr tf))))), (aEs, .inl (ce, 8, .inr (.inr (.inr (.inr ef))))), (aDc, .inl (cd, 8, .inr (.inr (.inr (.inr dc))))), (aNn, .inr (1, [.ref bNn, .int (vn 1), .int (vn 2), .int (vn 3), .int (vn 4), .int (vn 5), .int (vn 6), .int (vn 7)])), (bNn, .inl (c1n, 25, .inl bn)), (aTt, .inr (3, [.ref bTt, .int (vt 1), .int (vt 2), .int (vt 3), .int (vt 4)])), (bTt, .inl (c1t, 25, .inl bt))]) (w1 := (wE aE bE rE pE c1 c2 c3 v q5 rw pw)) (w' := (wQA aQ aY aS rS aNs aTs aEs aDc aNn bNn aTt bTt aE bE rE pE cy cs cn ct ce cd c1n c1t c1 c2 c3 pv y sv sr nf tf ef dc vn bn vt bt v q5 rw pw)) (va_runU (As := []) (rest := []) ⟨hx, hb, hml, hown, hw⟩ (k_F_empty_E l D aE bE rE pE c1 c2 c3 _ v b rw pw  q5 hq5) (va_cwU (C := RX0) (owner := RX1) (x := ⟨RX1, "empty", "()V"⟩) 0 hw (zgoodL (List.forall_mem_cons.mpr ⟨zw490, List.forall_mem_cons.mpr ⟨zw491, List.forall_mem_cons.mpr ⟨zw496, List.forall_mem_cons.mpr ⟨zw489, List.forall_mem_cons.mpr ⟨zw409, fun _ h => absurd h List.not_mem_nil⟩⟩⟩⟩⟩) zw488) rfl rfl rfl rfl (by decide +kernel) ⟨Nat.le_of_ble_eq_true rfl, Nat.le_of_ble_eq_true rfl⟩) (zpreV (zpre zC_ok hX hS hFc hPc hKc hDc) (va_recv hK hP rfl (q0 := 12) rfl)) rfl rfl hl.1 rfl (lv_room (Nat.le_of_ble_eq_true rfl)) dX5_declare_73 ⟨Nat.zero_le _, Nat.zero_le _⟩) hP hD hS hFc [12, 13, 14, 15] [0, 1, 2, 3, 4, 5, 6, 7, 8, 9, 10, 11] [0, 1, 2, 3, 4, 5, 6, 7, 8, 9, 10, 11, 12, 13, 14, 15] rfl rfl (by decide) (by decide) rfl (by decide) (fun H locs hP hD hS => ?_)
  refine lv_aload_n hx hb dX5_declare_76 rfl (lv_at hl 1 rfl) ?_
  refine va_get (D := D) (ci := 4) (v := .ref aDc) (C := RX5) (T := TX5) (N := 8) hx hb hw zinX5 hown hK hP 0 rfl rfl 6 (by decide) (hw _ zw421) (fun _ h9 => h9) rfl dX5_declare_77 ?_
  refine lv_aload_n hx hb dX5_declare_80 rfl (lv_at hl 1 rfl) ?_
  refine va_get (D := D) (ci := 4) (v := .int (pv 7)) (C := RX5) (T := TX5) (N := 8) hx hb hw zinX5 hown hK hP 0 rfl rfl 7 (by decide) (hw _ zw420) (fun _ h9 => h9) rfl dX5_declare_81 ?_
  refine lv_aload_n hx hb dX5_declare_84 rfl (lv_at hl 0 rfl) ?_
  obtain ⟨hi6, hm⟩ := zix_s hm
  refine va_astqO (E := RX1) (i := (pv 7)) (f := dc) (n := 8) hx hb hK hP hD hS 7 5 12 0 rfl rfl (hX.1 _ zn16) rfl rfl hi6 dX5_declare_85 (fun H locs hP hD hS => ?_)
  have hP : va_P D vwCl (wQA aQ aY aS rS aNs aTs aEs aDc aNn bNn aTt bTt aE bE rE pE cy cs cn ct ce cd c1n c1t c1 c2 c3 pv y sv sr nf tf ef (va_up dc (pv 7).toNatClampNeg (some aE)) vn bn vt bt v q5 rw pw) H := hP
  have hD : va_D _ (wQA aQ aY aS rS aNs aTs aEs aDc aNn bNn aTt bTt aE bE rE pE cy cs cn ct ce cd c1n c1t c1 c2 c3 pv y sv sr nf tf ef (va_up dc (pv 7).toNatClampNeg (some aE)) vn bn vt bt v q5 rw pw) := hD
  refine lv_aload_n hx hb dX5_declare_86 rfl (lv_at hl 1 rfl) ?_
  refine lv_dup hx hb dX5_declare_87 rfl ?_
  refine va_get (D := D) (ci := 4) (v := .int (pv 7)) (C := RX5) (T := TX5) (N := 8) hx hb hw zinX5 hown hK hP 0 rfl rfl 7 (by decide) (hw _ zw420) (fun _ h9 => h9) rfl dX5_declare_88 ?_
  refine lv_iconst (v := 1) hx hb dX5_declare_91 (by decide) ?_
  refine lv_iadd hx hb dX5_declare_92 ?_
  refine va_put (D := D) (ci := 4) (v := .int ((pv 7) + 1)) (ty := .int) (C := RX5) (T := TX5) (N := 8) hx hb hw zinX5 tyX5 tyX5_ok nmX5 hown hK hP hD hS 0 rfl rfl 7 (by decide) (hw _ zw420) (fun _ h9 => h9) rfl (by decide +kernel) rfl rfl (Nat.le_of_ble_eq_true rfl) dX5_declare_93 (fun H locs hP hD hS => ?_)
  have hP : va_P D vwCl (wQA aQ aY aS rS aNs aTs aEs aDc aNn bNn aTt bTt aE bE rE pE cy cs cn ct ce cd c1n c1t c1 c2 c3 (upd pv 7 ((pv 7) + 1)) y sv sr nf tf ef (va_up dc (pv 7).toNatClampNeg (some aE)) vn bn vt bt v q5 rw pw) H := hP
  have hD : va_D _ (wQA aQ aY aS rS aNs aTs aEs aDc aNn bNn aTt bTt aE bE rE pE cy cs cn ct ce cd c1n c1t c1 c2 c3 (upd pv 7 ((pv 7) + 1)) y sv sr nf tf ef (va_up dc (pv 7).toNatClampNeg (some aE)) vn bn vt bt v q5 rw pw) := hD
  refine lv_aload_n hx hb dX5_declare_96 rfl (lv_at hl 1 rfl) ?_
  refine va_get (D := D) (ci := 4) (v := .int ((upd pv 7 ((pv 7) + 1)) 7)) (C := RX5) (T := TX5) (N := 8) hx hb hw zinX5 hown hK hP 0 rfl rfl 7 (by decide) (hw _ zw420) (fun _ h9 => h9) rfl dX5_declare_97 ?_
  refine lv_iconst (v := 1) hx hb dX5_declare_100 (by decide) ?_
  refine lv_isub hx hb dX5_declare_101 ?_
  cases hm
  exact zreti hx hb hr hlk hP hD hS dX5_declare_102
end
set_option maxRecDepth 100000 in
set_option maxHeartbeats 4000000 in
theorem k_P_declare_E (l : Launch) (D : va_G) (aQ aY aS rS aNs aTs aEs aDc aNn bNn aTt bTt aE bE rE pE : Nat) (cy cs cn ct ce cd c1n c1t c1 c2 c3 : ClassId) (sz : Nat) (a0 : Int32) (pv : Nat → Int32) (y : Nat → Int32) (sv : Nat → Int32) (sr : Nat → Int32) (nf : Nat → Option Nat) (tf : Nat → Option Nat) (ef : Nat → Option Nat) (dc : Nat → Option Nat) (vn : Nat → Int32) (bn : Nat → Int32) (vt : Nat → Int32) (bt : Nat → Int32) (v : Nat → Int32) (b : Nat → Int32) (rw : Nat → Int32) (pw : Nat → Int32) (hdN : nf (pv 7).toNatClampNeg = some aNn) (hdT : tf (pv 7).toNatClampNeg = some aTt) (hdE : ef (pv 7).toNatClampNeg = some aE) (res : (Int32) × (Nat → Int32) × (Nat → Int32) × (Nat → Int32) × (Nat → Option Nat) × (Nat → Int32) × (Nat → Int32) × (Nat → Int32) × (Nat → Int32) × (Nat → Int32) × (Nat → Int32)) (hm : m_P_declare_E a0 pv y sv sr nf tf ef dc vn bn vt bt v b rw pw aE = some res) : Met l yX5_declare (Cond.code yX5_declare cX5_declare 4 (some .int) :: zBIG) (zR 6 139) (va_Pc [.ref aQ, .int a0] (zP zC D vwCl (wQA_t cy cs cn ct ce cd c1n c1t c1 c2 c3) (wQA aQ aY aS rS aNs aTs aEs aDc aNn bNn aTt bTt aE bE rE pE cy cs cn ct ce cd c1n c1t c1 c2 c3 pv y sv sr nf tf ef dc vn bn vt bt v b rw pw) sz)) (zQi D vwCl (wQA aQ aY aS rS aNs aTs aEs aDc aNn bNn aTt bTt aE bE rE pE cy cs cn ct ce cd c1n c1t c1 c2 c3 pv y sv sr nf tf ef dc vn bn vt bt v b rw pw) (wQA aQ aY aS rS aNs aTs aEs aDc aNn bNn aTt bTt aE bE rE pE cy cs cn ct ce cd c1n c1t c1 c2 c3 res.2.1 y res.2.2.1 res.2.2.2.1 nf tf ef res.2.2.2.2.1 res.2.2.2.2.2.1 bn res.2.2.2.2.2.2.1 bt res.2.2.2.2.2.2.2.1 res.2.2.2.2.2.2.2.2.1 res.2.2.2.2.2.2.2.2.2.1 res.2.2.2.2.2.2.2.2.2.2) sz res.1) 0 0 (va_A (wQA aQ aY aS rS aNs aTs aEs aDc aNn bNn aTt bTt aE bE rE pE cy cs cn ct ce cd c1n c1t c1 c2 c3 pv y sv sr nf tf ef dc vn bn vt bt v b rw pw) sz) := by
  refine zEnter RX5 [.ref aQ, .int a0] (by decide) rfl (Nat.le_of_ble_eq_true rfl) (fun p e s m below meth c ls G hK hX hP hD hsz hl => ?_)
  subst hsz
  unfold m_P_declare_E at hm
  have hl : lv_has ls 4 [(0, .ref aQ), (1, .int a0)] := hl
  have hS : va_S (va_A (wQA aQ aY aS rS aNs aTs aEs aDc aNn bNn aTt bTt aE bE rE pE cy cs cn ct ce cd c1n c1t c1 c2 c3 pv y sv sr nf tf ef dc vn bn vt bt v b rw pw) s.heap.size) s.heap s.heap [] := va_S.rf
  have hA : ∀ q, s.heap.size ≤ q → va_A (wQA aQ aY aS rS aNs aTs aEs aDc aNn bNn aTt bTt aE bE rE pE cy cs cn ct ce cd c1n c1t c1 c2 c3 pv y sv sr nf tf ef dc vn bn vt bt v b rw pw) s.heap.size q := fun q h => Or.inr h
  have G0 := G
  obtain ⟨hx, hb, hr, hml, hown, hw, hlk⟩ := G
  refine lv_aload_n hx hb dX5_declare_0 rfl (lv_at hl 0 rfl) ?_
  refine va_get (D := D) (ci := 4) (v := .int (pv 7)) (C := RX5) (T := TX5) (N := 8) hx hb hw zinX5 hown hK hP 0 rfl rfl 7 (by decide) (hw _ zw420) (fun _ h9 => h9) rfl dX5_declare_1 ?_
  refine lv_bipush (v := 8) hx hb dX5_declare_4 (by decide) ?_
  refine lv_icmp_lt (tgt := 19) hx hb dX5_declare_6 rfl (fun cd1 => ?_) (fun cd1 => ?_)
  · replace hm := zt cd1 hm
    refine lv_aload_n hx hb dX5_declare_19 rfl (lv_at hl 0 rfl) ?_
    refine va_get (D := D) (ci := 4) (v := .ref aS) (C := RX5) (T := TX5) (N := 8) hx hb hw zinX5 hown hK hP 0 rfl rfl 2 (by decide) (hw _ zw461) (fun _ h9 => h9) rfl dX5_declare_20 ?_
    refine lv_aload_n hx hb dX5_declare_23 rfl (lv_at hl 0 rfl) ?_
    refine va_get (D := D) (ci := 4) (v := .ref aY) (C := RX5) (T := TX5) (N := 8) hx hb hw zinX5 hown hK hP 0 rfl rfl 0 (by decide) (hw _ zw419) (fun _ h9 => h9) rfl dX5_declare_24 ?_
    refine lv_aload_n hx hb dX5_declare_27 rfl (lv_at hl 0 rfl) ?_
    refine va_get (D := D) (ci := 4) (v := .int (pv 1)) (C := RX5) (T := TX5) (N := 8) hx hb hw zinX5 hown hK hP 0 rfl rfl 1 (by decide) (hw _ zw418) (fun _ h9 => h9) rfl dX5_declare_28 ?_
    obtain ⟨q2, hq2, hm⟩ := zbind hm
    have hPc := hP.sub (ws' := (wSY aS rS aY cs cy sv sr y)) [2, 3, 1] rfl
    have hDc := hD.sub (ws' := (wSY aS rS aY cs cy sv sr y)) [2, 3, 1] (by decide) rfl
    have hKc := hK.sub (tys' := wSY_t cs cy) [1, 0] rfl
    have hFc := va_free (wc := (wSY aS rS aY cs cy sv sr y)) hD hS hA [2, 3, 1] rfl
    refine zbSi (wr := [(aQ, .inr (4, [.ref aY, .int (pv 1), .ref aS, .ref aNs, .ref aTs, .ref aEs, .ref aDc, .int (pv 7)])), (aNs, .inl (cn, 8, .inr (.inr (.inr (.inr nf))))), (aTs, .inl (ct, 8, .inr (.inr (.inr (.inr tf))))), (aEs, .inl (ce, 8, .inr (.inr (.inr (.inr ef))))), (aDc, .inl (cd, 8, .inr (.inr (.inr (.inr dc))))), (aNn, .inr (1, [.ref bNn, .int (vn 1), .int (vn 2), .int (vn 3), .int (vn 4), .int (vn 5), .int (vn 6), .int (vn 7)])), (bNn, .inl (c1n, 25, .inl bn)), (aTt, .inr (3, [.ref bTt, .int (vt 1), .int (vt 2), .int (vt 3), .int (vt 4)])), (bTt, .inl (c1t, 25, .inl bt)), (aE, .inr (0, [.ref bE, .int (v 1), .int (v 2), .int (v 3), .int (v 4), .ref rE, .ref pE, .int (v 7), .int (v 8), .int (v 9), .int (v 10), .int (v 11), .int (v 12), .int (v 13), .int (v 14), .int (v 15)])), (bE, .inl (c1, 25, .inl b)), (rE, .inl (c2, 24, .inl rw)), (pE, .inl (c3, 24, .inl pw))]) (w1 := (wSY aS rS aY cs cy q2.2.1 q2.2.2 y)) (w' := (wQA aQ aY aS rS aNs aTs aEs aDc aNn bNn aTt bTt aE bE rE pE cy cs cn ct ce cd c1n c1t c1 c2 c3 pv y q2.2.1 q2.2.2 nf tf ef dc vn bn vt bt v b rw pw)) (va_runV (As := [.ref aY, .int (pv 1)]) (rest := []) ⟨hx, hb, hml, hown, hw⟩ (k_S_expand l D aS rS aY cs cy _ (pv 1) sv sr y  q2 hq2) (zcV (C := RX3) 2 hw (zgood zw480) rfl rfl rfl zw179 zw482 zw481 zw483 hdX3_expand ⟨Nat.le_of_ble_eq_true rfl, Nat.le_of_ble_eq_true rfl⟩) (zpreV (zpre zC_ok hX hS hFc hPc hKc hDc) (va_recv hK hP rfl (q0 := 2) rfl)) rfl rfl hl.1 rfl (lv_room (Nat.le_of_ble_eq_true rfl)) dX5_declare_31 ⟨Nat.zero_le _, Nat.zero_le _⟩) hP hD hS hFc [2, 3, 1] [0, 4, 5, 6, 7, 8, 9, 10, 11, 12, 13, 14, 15] [0, 15, 13, 14, 1, 2, 3, 4, 5, 6, 7, 8, 9, 10, 11, 12] rfl rfl (by decide) (by decide) rfl (by decide) (fun H locs hP hD hS => ?_)
    refine lv_istore_n (lv' := [(2, .int q2.1), (0, .ref aQ), (1, .int a0)]) hx hb dX5_declare_34 rfl hl (by decide) rfl (fun ls hl => ?_)
    refine lv_aload_n hx hb dX5_declare_35 rfl (lv_at hl 1 rfl) ?_
    refine lv_iconst (v := 0) hx hb dX5_declare_36 (by decide) ?_
    refine va_put (D := D) (ci := 4) (v := .int 0) (ty := .int) (C := RX5) (T := TX5) (N := 8) hx hb hw zinX5 tyX5 tyX5_ok nmX5 hown hK hP hD hS 0 rfl rfl 1 (by decide) (hw _ zw418) (fun _ h9 => h9) rfl (by decide +kernel) rfl rfl (Nat.le_of_ble_eq_true rfl) dX5_declare_37 (fun H locs hP hD hS => ?_)
    have hP : va_P D vwCl (wQA aQ aY aS rS aNs aTs aEs aDc aNn bNn aTt bTt aE bE rE pE cy cs cn ct ce cd c1n c1t c1 c2 c3 (upd pv 1 0) y q2.2.1 q2.2.2 nf tf ef dc vn bn vt bt v b rw pw) H := hP
    have hD : va_D _ (wQA aQ aY aS rS aNs aTs aEs aDc aNn bNn aTt bTt aE bE rE pE cy cs cn ct ce cd c1n c1t c1 c2 c3 (upd pv 1 0) y q2.2.1 q2.2.2 nf tf ef dc vn bn vt bt v b rw pw) := hD
    refine lv_iload_n hx hb dX5_declare_40 rfl (lv_at hl 0 rfl) ?_
    refine lv_if_eq (tgt := 56) hx hb dX5_declare_41 rfl (fun cd3 => ?_) (fun cd3 => ?_)
    · replace hm := zt cd3 hm
      cases hm
    · replace hm := zf cd3 hm
      refine lv_aload_n hx hb dX5_declare_44 rfl (lv_at hl 1 rfl) ?_
      refine lv_aload_n hx hb dX5_declare_45 rfl (lv_at hl 1 rfl) ?_
      refine va_get (D := D) (ci := 4) (v := .int ((upd pv 1 0) 7)) (C := RX5) (T := TX5) (N := 8) hx hb hw zinX5 hown hK hP 0 rfl rfl 7 (by decide) (hw _ zw420) (fun _ h9 => h9) rfl dX5_declare_46 ?_
      refine lv_iload_n hx hb dX5_declare_49 rfl (lv_at hl 2 rfl) ?_
      obtain ⟨q4, hq4, hm⟩ := zbind hm
      have hPc := hP.sub (ws' := (wQF aQ aY aDc aS rS aNs aTs aEs aNn bNn aTt bTt aE bE rE pE cs cn ct ce c1n c1t c1 c2 c3 (upd pv 1 0) q2.2.1 q2.2.2 nf tf ef vn bn vt bt v b rw pw)) [0, 2, 3, 4, 5, 6, 8, 9, 10, 11, 12, 13, 14, 15] rfl
      have hDc := hD.sub (ws' := (wQF aQ aY aDc aS rS aNs aTs aEs aNn bNn aTt bTt aE bE rE pE cs cn ct ce c1n c1t c1 c2 c3 (upd pv 1 0) q2.2.1 q2.2.2 nf tf ef vn bn vt bt v b rw pw)) [0, 2, 3, 4, 5, 6, 8, 9, 10, 11, 12, 13, 14, 15] (by decide) rfl
      have hKc := hK.sub (tys' := wQF_t cs cn ct ce c1n c1t c1 c2 c3) [1, 2, 3, 4, 6, 7, 8, 9, 10] rfl
      have hFc := va_free (wc := (wQF aQ aY aDc aS rS aNs aTs aEs aNn bNn aTt bTt aE bE rE pE cs cn ct ce c1n c1t c1 c2 c3 (upd pv 1 0) q2.2.1 q2.2.2 nf tf ef vn bn vt bt v b rw pw)) hD hS hA [0, 2, 3, 4, 5, 6, 8, 9, 10, 11, 12, 13, 14, 15] rfl
      refine zbSq (wr := [(aY, .inl (cy, 24, .inl y)), (aDc, .inl (cd, 8, .inr (.inr (.inr (.inr dc)))))]) (w1 := (wQF aQ aY aDc aS rS aNs aTs aEs aNn bNn aTt bTt aE bE rE pE cs cn ct ce c1n c1t c1 c2 c3 (upd pv 1 0) q2.2.1 q2.2.2 nf tf ef q4.1 bn q4.2.1 bt q4.2.2.1 b q4.2.2.2.1 q4.2.2.2.2)) (w' := (wQA aQ aY aS rS aNs aTs aEs aDc aNn bNn aTt bTt aE bE rE pE cy cs cn ct ce cd c1n c1t c1 c2 c3 (upd pv 1 0) y q2.2.1 q2.2.2 nf tf ef dc q4.1 bn q4.2.1 bt q4.2.2.1 b q4.2.2.2.1 q4.2.2.2.2)) (va_runV (As := [.int ((upd pv 1 0) 7), .int a0]) (rest := []) ⟨hx, hb, hml, hown, hw⟩ (k_P_fitting_E l D aQ aY aDc aS rS aNs aTs aEs aNn bNn aTt bTt aE bE rE pE cs cn ct ce c1n c1t c1 c2 c3 _ ((upd pv 1 0) 7) a0 (upd pv 1 0) q2.2.1 q2.2.2 nf tf ef vn bn vt bt v b rw pw hdN hdT hdE q4 hq4) (zcV (C := RX5) 2 hw (zgood zw484) rfl rfl rfl zw176 zw486 zw485 zw487 hdX5_fittingField ⟨Nat.le_of_ble_eq_true rfl, Nat.le_of_ble_eq_true rfl⟩) (zpreV (zpre zC_ok hX hS hFc hPc hKc hDc) (va_recv hK hP rfl (q0 := 0) rfl)) rfl rfl hl.1 rfl (lv_room (Nat.le_of_ble_eq_true rfl)) dX5_declare_50 ⟨Nat.zero_le _, Nat.zero_le _⟩) hP hD hS hFc [0, 2, 3, 4, 5, 6, 8, 9, 10, 11, 12, 13, 14, 15] [1, 7] [2, 0, 3, 4, 5, 6, 7, 1, 8, 9, 10, 11, 12, 13, 14, 15] rfl rfl (by decide) (by decide) rfl (by decide) (fun H locs hP hD hS => ?_)
      refine lv_goto (tgt := 57) hx hb dX5_declare_53 rfl ?_
      exact b_P_declare_E_57 G0 hK hX _ _ _ _ _ _ _ _ _ _ hm _ _ _ hP hD hS (lv_sub hl [1] rfl)
  · replace hm := zf cd1 hm
    cases hm

