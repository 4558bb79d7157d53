def m_F_L_move_E (xs : Nat → Int32) (L : Nat) (x4 : Int32) (pv : Nat → Int32) (dc : Nat → Option Nat) (v : Nat → Int32) (b : Nat → Int32) (rw : Nat → Int32) (pw : Nat → Int32) (ov : Nat → Int64) (mv : Nat → Int32) (mu : Nat → Nat → Int32)  : Option ((Nat → Int32) × (Nat → Int32) × (Nat → Nat → Int32)) := zix (x4 + 1) L (zix (x4 + 2) L ((m_L_move_E (xs (x4 + 1).toNatClampNeg) (xs (x4 + 2).toNatClampNeg) pv dc v b rw pw).bind (fun q3 => zix (x4 + 1) L (zix (x4 + 2) L ((m_M_move (xs (x4 + 1).toNatClampNeg) (xs (x4 + 2).toNatClampNeg) mv mu).bind (fun q6 => (m_M_thrown q6.1 q6.2).bind (fun q7 => (if q7 = q3.1 then (some (q3.2, q6.1, q6.2)) else none))))))))
set_option maxRecDepth 100000 in
set_option maxHeartbeats 4000000 in
theorem f_F_L_move_E {p : Program} {l : Launch} {e : Env} {s : State} {m : MethodId} {args : Array Value} {below : List Frame} {meth : Method} {c : Code} {D : va_G} {w0 : va_W} {H0 : Heap} {Q : State → Prop} {sb L : Nat} {xs : Nat → Int32} {x4 : Int32} {c0 s0 : Nat} (aQ aY aS aNs aTs aEs aDc aE bE rE pE aO : Nat) (ad : Nat → Nat) (cd c1 c2 c3 co : ClassId) (ca : Nat → ClassId) (pv : Nat → Int32) (dc : Nat → Option Nat) (v : Nat → Int32) (b : Nat → Int32) (rw : Nat → Int32) (pw : Nat → Int32) (ov : Nat → Int64) (mv : Nat → Int32) (mu : Nat → Nat → Int32) (G : zG p s m args meth c cL_law RL 8 (some .boolean)) (hK : va_K D vwCl (wQDEOM_t cd c1 c2 c3 co ca) s) (hX : zW (fun q => s.heap.size ≤ q) s) (hl0 : l.stackTraces = false) (hSg : va_S (fun q => s.heap.size ≤ q) s.heap H0 []) (hAs : ∀ q, (va_A w0 H0.size) q → s.heap.size ≤ q) (hsb : va_X sb L xs s H0) (hbl : sb < H0.size) (hbA : ¬ (va_A w0 H0.size) sb) (hc0 : c0 + 1 ≤ 601024) (hs0 : s0 + 6 ≤ 7293034) (hd : dc (xs (x4 + 1).toNatClampNeg).toNatClampNeg = some aE) (hd2 : dc (xs (x4 + 2).toNatClampNeg).toNatClampNeg = some aE) {res : (Nat → Int32) × (Nat → Int32) × (Nat → Nat → Int32)} (hm : m_F_L_move_E xs L x4 pv dc v b rw pw ov mv mu  = some res)
    (kk : ∀ (H : Heap) (locs : List Loc) (ls : Array Slot), va_P D vwCl (wQDEOM aQ aY aS aNs aTs aEs aDc aE bE rE pE aO ad cd c1 c2 c3 co ca pv dc v res.1 rw pw ov res.2.1 res.2.2) H → va_D (va_A w0 H0.size) (wQDEOM aQ aY aS aNs aTs aEs aDc aE bE rE pE aO ad cd c1 c2 c3 co ca pv dc v res.1 rw pw ov res.2.1 res.2.2) → va_S (va_A w0 H0.size) H0 H locs → lv_has ls 8 [(0, .ref sb), (1, .ref aQ), (2, .ref (ad 0)), (3, .ref aO), (4, .int x4)] → W p l e room_1 s m args below meth c H locs (c0 + 1) (s0 + 6) Q (F0 m 588 ls []))
    (H : Heap) (locs : List Loc) (ls : Array Slot) (hP : va_P D vwCl (wQDEOM aQ aY aS aNs aTs aEs aDc aE bE rE pE aO ad cd c1 c2 c3 co ca pv dc v b rw pw ov mv mu) H) (hD : va_D (va_A w0 H0.size) (wQDEOM aQ aY aS aNs aTs aEs aDc aE bE rE pE aO ad cd c1 c2 c3 co ca pv dc v b rw pw ov mv mu)) (hS : va_S (va_A w0 H0.size) H0 H locs) (hl : lv_has ls 8 [(0, .ref sb), (1, .ref aQ), (2, .ref (ad 0)), (3, .ref aO), (4, .int x4)]) : W p l e room_1 s m args below meth c H locs c0 s0 Q (F0 m 485 ls []) := by
  obtain ⟨hx, hb, hr, hml, hown, hw, hlk⟩ := G
  have hA : ∀ q, H0.size ≤ q → (va_A w0 H0.size) q := fun q h => Or.inr h
  unfold m_F_L_move_E at hm
  refine lv_aload_n hx hb dL_law_485 rfl (lv_at hl 1 rfl) ?_
  refine lv_aload_n hx hb dL_law_486 rfl (lv_at hl 0 rfl) ?_
  refine lv_iload hx hb dL_law_487 (lv_at hl 4 rfl) ?_
  refine lv_iconst (v := 1) hx hb dL_law_489 (by decide) ?_
  refine lv_iadd hx hb dL_law_490 ?_
  obtain ⟨hi1, hm⟩ := zix_s hm
  refine va_sld (i := (x4 + 1)) (xs := xs) hx hb hsb hbl hbA hS hi1 dL_law_491 ?_
  refine lv_aload_n hx hb dL_law_492 rfl (lv_at hl 0 rfl) ?_
  refine lv_iload hx hb dL_law_493 (lv_at hl 4 rfl) ?_
  refine lv_iconst (v := 2) hx hb dL_law_495 (by decide) ?_
  refine lv_iadd hx hb dL_law_496 ?_
  obtain ⟨hi2, hm⟩ := zix_s hm
  refine va_sld (i := (x4 + 2)) (xs := xs) hx hb hsb hbl hbA hS hi2 dL_law_497 ?_
  obtain ⟨q3, hq3, hm⟩ := zbind hm
  have hPc := hP.sub (ws' := (wQDE aQ aY aS aNs aTs aEs aDc aE bE rE pE cd c1 c2 c3 pv dc v b rw pw)) [0, 1, 2, 3, 4, 5] rfl
  have hDc := hD.sub (ws' := (wQDE aQ aY aS aNs aTs aEs aDc aE bE rE pE cd c1 c2 c3 pv dc v b rw pw)) [0, 1, 2, 3, 4, 5] (by decide) rfl
  have hKc := hK.sub (tys' := wQDE_t cd c1 c2 c3) [0, 1, 2, 3] rfl
  have hFc := va_free (wc := (wQDE aQ aY aS aNs aTs aEs aDc aE bE rE pE cd c1 c2 c3 pv dc v b rw pw)) hD hS hA [0, 1, 2, 3, 4, 5] rfl
  refine zlSi (wr := [(aO, .inl (co, 1, .inr (.inl ov))), ((ad 0), .inr (5, [.int (mv 0), .int (mv 1), .ref (ad 1), .int (mv 3), .ref (ad 2), .ref (ad 3), .ref (ad 4), .ref (ad 5), .ref (ad 6), .ref (ad 7), .ref (ad 8), .ref (ad 9), .ref (ad 10), .ref (ad 11), .ref (ad 12), .ref (ad 13), .ref (ad 14), .ref (ad 15), .ref (ad 16), .ref (ad 17), .int (mv 20), .int (mv 21), .ref (ad 18), .int (mv 23)])), ((ad 1), .inl ((ca 1), 24, .inl (mu 1))), ((ad 2), .inl ((ca 2), 9, .inl (mu 2))), ((ad 3), .inl ((ca 3), 216, .inl (mu 3))), ((ad 4), .inl ((ca 4), 216, .inl (mu 4))), ((ad 5), .inl ((ca 5), 9, .inl (mu 5))), ((ad 6), .inl ((ca 6), 9, .inl (mu 6))), ((ad 7), .inl ((ca 7), 9, .inl (mu 7))), ((ad 8), .inl ((ca 8), 9, .inl (mu 8))), ((ad 9), .inl ((ca 9), 9, .inl (mu 9))), ((ad 10), .inl ((ca 10), 9, .inl (mu 10))), ((ad 11), .inl ((ca 11), 9, .inl (mu 11))), ((ad 12), .inl ((ca 12), 9, .inl (mu 12))), ((ad 13), .inl ((ca 13), 9, .inl (mu 13))), ((ad 14), .inl ((ca 14), 9, .inl (mu 14))), ((ad 15), .inl ((ca 15), 9, .inl (mu 15))), ((ad 16), .inl ((ca 16), 256, .inl (mu 16))), ((ad 17), .inl ((ca 17), 48, .inl (mu 17))), ((ad 18), .inl ((ca 18), 32, .inl (mu 18)))]) (w1 := (wQDE aQ aY aS aNs aTs aEs aDc aE bE rE pE cd c1 c2 c3 pv dc v q3.2 rw pw)) (w' := (wQDEOM aQ aY aS aNs aTs aEs aDc aE bE rE pE aO ad cd c1 c2 c3 co ca pv dc v q3.2 rw pw ov mv mu)) (vx_runSW (As := [.ref aQ, .int (xs (x4 + 1).toNatClampNeg), .int (xs (x4 + 2).toNatClampNeg)]) (rest := []) ⟨hx, hb, hml, hown, hw⟩ (k_L_move_E l D aQ aY aS aNs aTs aEs aDc aE bE rE pE cd c1 c2 c3 _ (xs (x4 + 1).toNatClampNeg) (xs (x4 + 2).toNatClampNeg) pv dc v b rw pw hd hd2 q3 hq3) (vx_cwSW 3 hw (zgoodW (List.forall_mem_cons.mpr ⟨zw643, List.forall_mem_cons.mpr ⟨zw644, List.forall_mem_cons.mpr ⟨zw587, fun _ h => absurd h List.not_mem_nil⟩⟩⟩) zw645) rfl rfl rfl hdL_move ⟨Nat.le_of_ble_eq_true rfl, Nat.le_of_ble_eq_true rfl⟩) (zpre zW_ok (A := fun q => s.heap.size ≤ q) hX (zglob hSg hAs hS) (fun q h => hAs q (hFc q h)) hPc hKc (hDc.weaken (fun _ _ _ h => hAs _ h))) rfl rfl hl.1 rfl (lv_room (Nat.le_of_ble_eq_true rfl)) dL_law_498 ⟨by show c0 + 0 ≤ 601024; omega, by show s0 + 0 ≤ 7293034; omega⟩) hP hD hS hFc [0, 1, 2, 3, 4, 5] [6, 7, 8, 9, 10, 11, 12, 13, 14, 15, 16, 17, 18, 19, 20, 21, 22, 23, 24, 25] [20, 21, 22, 23, 24, 25, 0, 1, 2, 3, 4, 5, 6, 7, 8, 9, 10, 11, 12, 13, 14, 15, 16, 17, 18, 19] rfl rfl (by decide) (by decide) rfl (by decide) (fun H locs hP hD hS => ?_)
  refine W.widen (k := c0 + 0) (n := s0 + 0) (by omega) (by omega) ?_
  refine lv_istore (lv' := [(5, .int q3.1), (0, .ref sb), (1, .ref aQ), (2, .ref (ad 0)), (3, .ref aO), (4, .int x4)]) hx hb dL_law_501 hl (by decide) rfl (fun ls hl => ?_)
  refine lv_aload_n hx hb dL_law_503 rfl (lv_at hl 3 rfl) ?_
  refine lv_aload_n hx hb dL_law_504 rfl (lv_at hl 1 rfl) ?_
  refine lv_iload hx hb dL_law_505 (lv_at hl 5 rfl) ?_
  refine lv_iconst (v := 1) hx hb dL_law_507 (by decide) ?_
  refine lv_iadd hx hb dL_law_508 ?_
  obtain ⟨hi4, hm⟩ := zix_s hm
  refine va_sld (i := (x4 + 1)) (xs := xs) hx hb hsb hbl hbA hS hi4 dL_law_509 ?_
  refine lv_aload_n hx hb dL_law_510 rfl (lv_at hl 1 rfl) ?_
  refine lv_iload hx hb dL_law_511 (lv_at hl 5 rfl) ?_
  refine lv_iconst (v := 2) hx hb dL_law_513 (by decide) ?_
  refine lv_iadd hx hb dL_law_514 ?_
  obtain ⟨hi5, hm⟩ := zix_s hm
  refine va_sld (i := (x4 + 2)) (xs := xs) hx hb hsb hbl hbA hS hi5 dL_law_515 ?_
  obtain ⟨q6, hq6, hm⟩ := zbind hm
  have hPc := hP.sub (ws' := (wM ad ca mv mu)) [7, 8, 9, 10, 11, 12, 13, 14, 15, 16, 17, 18, 19, 20, 21, 22, 23, 24, 25] rfl
  have hDc := hD.sub (ws' := (wM ad ca mv mu)) [7, 8, 9, 10, 11, 12, 13, 14, 15, 16, 17, 18, 19, 20, 21, 22, 23, 24, 25] (by decide) rfl
  have hKc := hK.sub (tys' := wM_t ca) [5, 6, 7, 8, 9, 10, 11, 12, 13, 14, 15, 16, 17, 18, 19, 20, 21, 22] rfl
  have hFc := va_free (wc := (wM ad ca mv mu)) hD hS hA [7, 8, 9, 10, 11, 12, 13, 14, 15, 16, 17, 18, 19, 20, 21, 22, 23, 24, 25] rfl
  refine zlSv (wr := [(aQ, .inr (4, [.ref aY, .int (pv 1), .ref aS, .ref aNs, .ref aTs, .ref aEs, .ref aDc, .int (pv 7)])), (aDc, .inl (cd, 8, .inr (.inr (.inr (.inr dc))))), (aE, .inr (0, [.ref bE, .int (v 1), .int (v 2), .int (v 3), .int (v 4), .ref rE, .ref pE, .int (v 7), .int (v 8), .int (v 9), .int (v 10), .int (v 11), .int (v 12), .int (v 13), .int (v 14), .int (v 15)])), (bE, .inl (c1, 25, .inl q3.2)), (rE, .inl (c2, 24, .inl rw)), (pE, .inl (c3, 24, .inl pw)), (aO, .inl (co, 1, .inr (.inl ov)))]) (w1 := (wM ad ca q6.1 q6.2)) (w' := (wQDEOM aQ aY aS aNs aTs aEs aDc aE bE rE pE aO ad cd c1 c2 c3 co ca pv dc v q3.2 rw pw ov q6.1 q6.2)) (va_runV (As := [.int (xs (x4 + 1).toNatClampNeg), .int (xs (x4 + 2).toNatClampNeg)]) (rest := []) ⟨hx, hb, hml, hown, hw⟩ (k_M_move l D ad ca _ (xs (x4 + 1).toNatClampNeg) (xs (x4 + 2).toNatClampNeg) mv mu  q6 hq6) (zcV (C := RX6) 2 hw (zgood zw648) rfl rfl rfl zw7 zw646 zw647 zw649 hdX6_move ⟨Nat.le_of_ble_eq_true rfl, Nat.le_of_ble_eq_true rfl⟩) (zpreV (zpre zN_ok (A := fun q => s.heap.size ≤ q) trivial (zglob hSg hAs hS) (fun q h => hAs q (hFc q h)) hPc hKc (hDc.weaken (fun _ _ _ h => hAs _ h))) (va_recv hK hP rfl (q0 := 7) rfl)) rfl rfl hl.1 rfl (lv_room (Nat.le_of_ble_eq_true rfl)) dL_law_516 ⟨by show c0 + 0 ≤ 601024; omega, by show s0 + 0 ≤ 7293034; omega⟩) hP hD hS hFc [7, 8, 9, 10, 11, 12, 13, 14, 15, 16, 17, 18, 19, 20, 21, 22, 23, 24, 25] [0, 1, 2, 3, 4, 5, 6] [0, 1, 2, 3, 4, 5, 6, 7, 8, 9, 10, 11, 12, 13, 14, 15, 16, 17, 18, 19, 20, 21, 22, 23, 24, 25] rfl rfl (by decide) (by decide) rfl (by decide) (fun H locs hP hD hS => ?_)
  refine W.widen (k := c0 + 0) (n := s0 + 0) (by omega) (by omega) ?_
  refine lv_aload_n hx hb dL_law_519 rfl (lv_at hl 3 rfl) ?_
  obtain ⟨q7, hq7, hm⟩ := zbind hm
  have hPc := hP.sub (ws' := (wM ad ca q6.1 q6.2)) [7, 8, 9, 10, 11, 12, 13, 14, 15, 16, 17, 18, 19, 20, 21, 22, 23, 24, 25] rfl
  have hDc := hD.sub (ws' := (wM ad ca q6.1 q6.2)) [7, 8, 9, 10, 11, 12, 13, 14, 15, 16, 17, 18, 19, 20, 21, 22, 23, 24, 25] (by decide) rfl
  have hKc := hK.sub (tys' := wM_t ca) [5, 6, 7, 8, 9, 10, 11, 12, 13, 14, 15, 16, 17, 18, 19, 20, 21, 22] rfl
  have hFc := va_free (wc := (wM ad ca q6.1 q6.2)) hD hS hA [7, 8, 9, 10, 11, 12, 13, 14, 15, 16, 17, 18, 19, 20, 21, 22, 23, 24, 25] rfl
  refine zlSi (wr := [(aQ, .inr (4, [.ref aY, .int (pv 1), .ref aS, .ref aNs, .ref aTs, .ref aEs, .ref aDc, .int (pv 7)])), (aDc, .inl (cd, 8, .inr (.inr (.inr (.inr dc))))), (aE, .inr (0, [.ref bE, .int (v 1), .int (v 2), .int (v 3), .int (v 4), .ref rE, .ref pE, .int (v 7), .int (v 8), .int (v 9), .int (v 10), .int (v 11), .int (v 12), .int (v 13), .int (v 14), .int (v 15)])), (bE, .inl (c1, 25, .inl q3.2)), (rE, .inl (c2, 24, .inl rw)), (pE, .inl (c3, 24, .inl pw)), (aO, .inl (co, 1, .inr (.inl ov)))]) (w1 := (wM ad ca q6.1 q6.2)) (w' := (wQDEOM aQ aY aS aNs aTs aEs aDc aE bE rE pE aO ad cd c1 c2 c3 co ca pv dc v q3.2 rw pw ov q6.1 q6.2)) (va_runV (As := []) (rest := []) ⟨hx, hb, hml, hown, hw⟩ (k_M_thrown l D ad ca _ q6.1 q6.2  q7 hq7) (zcV (C := RX6) 0 hw (zgood zw596) rfl rfl rfl zw7 zw594 zw595 zw597 hdX6_thrown ⟨Nat.le_of_ble_eq_true rfl, Nat.le_of_ble_eq_true rfl⟩) (zpreV (zpre zN_ok (A := fun q => s.heap.size ≤ q) trivial (zglob hSg hAs hS) (fun q h => hAs q (hFc q h)) hPc hKc (hDc.weaken (fun _ _ _ h => hAs _ h))) (va_recv hK hP rfl (q0 := 7) rfl)) rfl rfl hl.1 rfl (lv_room (Nat.le_of_ble_eq_true rfl)) dL_law_520 ⟨by show c0 + 0 ≤ 601024; omega, by show s0 + 0 ≤ 7293034; omega⟩) hP hD hS hFc [7, 8, 9, 10, 11, 12, 13, 14, 15, 16, 17, 18, 19, 20, 21, 22, 23, 24, 25] [0, 1, 2, 3, 4, 5, 6] [0, 1, 2, 3, 4, 5, 6, 7, 8, 9, 10, 11, 12, 13, 14, 15, 16, 17, 18, 19, 20, 21, 22, 23, 24, 25] rfl rfl (by decide) (by decide) rfl (by decide) (fun H locs hP hD hS => ?_)
  refine W.widen (k := c0 + 0) (n := s0 + 0) (by omega) (by omega) ?_
  refine lv_iload hx hb dL_law_523 (lv_at hl 0 rfl) ?_
  refine lv_icmp_eq (tgt := 530) hx hb dL_law_525 rfl (fun cd8 => ?_) (fun cd8 => ?_)
  · replace hm := zt cd8 hm
    refine lv_goto (tgt := 588) hx hb dL_law_530 rfl ?_
    cases hm
    refine W.widen (k := c0 + 1) (n := s0 + 6) (by omega) (by omega) ?_
    exact kk _ _ _ hP hD hS (lv_sub hl [1, 2, 3, 4, 5] rfl)
  · replace hm := zf cd8 hm
    refine lv_iconst (v := 0) hx hb dL_law_528 (by decide) ?_
    cases hm

def m_F_L_move_EN (xs : Nat → Int32) (L : Nat) (x4 : Int32) (pv : Nat → Int32) (dc : Nat → Option Nat) (v : Nat → Int32) (b : Nat → Int32) (rw : Nat → Int32) (pw : Nat → Int32) (v2 : Nat → Int32) (b2 : Nat → Int32) (ov : Nat → Int64) (mv : Nat → Int32) (mu : Nat → Nat → Int32)  : Option ((Nat → Int32) × (Nat → Int32) × (Nat → Nat → Int32)) := zix (x4 + 1) L (zix (x4 + 2) L ((m_L_move_EN (xs (x4 + 1).toNatClampNeg) (xs (x4 + 2).toNatClampNeg) pv dc v b rw pw v2 b2).bind (fun q3 => zix (x4 + 1) L (zix (x4 + 2) L ((m_M_move (xs (x4 + 1).toNatClampNeg) (xs (x4 + 2).toNatClampNeg) mv mu).bind (fun q6 => (m_M_thrown q6.1 q6.2).bind (fun q7 => (if q7 = q3.1 then (some (q3.2, q6.1, q6.2)) else none))))))))
set_option maxRecDepth 100000 in
set_option maxHeartbeats 4000000 in
theorem f_F_L_move_EN {p : Program} {l : Launch} {e : Env} {s : State} {m : MethodId} {args : Array Value} {below : List Frame} {meth : Method} {c : Code} {D : va_G} {w0 : va_W} {H0 : Heap} {Q : State → Prop} {sb L : Nat} {xs : Nat → Int32} {x4 : Int32} {c0 s0 : Nat} (aQ aY aS aNs aTs aEs aDc aE bE rE pE aN2 bN2 aO : Nat) (ad : Nat → Nat) (cd c1 c2 c3 c12 co : ClassId) (ca : Nat → ClassId) (pv : Nat → Int32) (dc : Nat → Option Nat) (v : Nat → Int32) (b : Nat → Int32) (rw : Nat → Int32) (pw : Nat → Int32) (v2 : Nat → Int32) (b2 : Nat → Int32) (ov : Nat → Int64) (mv : Nat → Int32) (mu : Nat → Nat → Int32) (G : zG p s m args meth c cL_law RL 8 (some .boolean)) (hK : va_K D vwCl (wQDEN2OM_t cd c1 c2 c3 c12 co ca) s) (hX : zW (fun q => s.heap.size ≤ q) s) (hl0 : l.stackTraces = false) (hSg : va_S (fun q => s.heap.size ≤ q) s.heap H0 []) (hAs : ∀ q, (va_A w0 H0.size) q → s.heap.size ≤ q) (hsb : va_X sb L xs s H0) (hbl : sb < H0.size) (hbA : ¬ (va_A w0 H0.size) sb) (hc0 : c0 + 1 ≤ 601024) (hs0 : s0 + 6 ≤ 7293034) (hd : dc (xs (x4 + 1).toNatClampNeg).toNatClampNeg = some aN2) (hd2 : dc (xs (x4 + 2).toNatClampNeg).toNatClampNeg = some aE) {res : (Nat → Int32) × (Nat → Int32) × (Nat → Nat → Int32)} (hm : m_F_L_move_EN xs L x4 pv dc v b rw pw v2 b2 ov mv mu  = some res)
    (kk : ∀ (H : Heap) (locs : List Loc) (ls : Array Slot), va_P D vwCl (wQDEN2OM aQ aY aS aNs aTs aEs aDc aE bE rE pE aN2 bN2 aO ad cd c1 c2 c3 c12 co ca pv dc v res.1 rw pw v2 b2 ov res.2.1 res.2.2) H → va_D (va_A w0 H0.size) (wQDEN2OM aQ aY aS aNs aTs aEs aDc aE bE rE pE aN2 bN2 aO ad cd c1 c2 c3 c12 co ca pv dc v res.1 rw pw v2 b2 ov res.2.1 res.2.2) → va_S (va_A w0 H0.size) H0 H locs → lv_has ls 8 [(0, .ref sb), (1, .ref aQ), (2, .ref (ad 0)), (3, .ref aO), (4, .int x4)] → W p l e room_1 s m args below meth c H locs (c0 + 1) (s0 + 6) Q (F0 m 588 ls []))
    (H : Heap) (locs : List Loc) (ls : Array Slot) (hP : va_P D vwCl (wQDEN2OM aQ aY aS aNs aTs aEs aDc aE bE rE pE aN2 bN2 aO ad cd c1 c2 c3 c12 co ca pv dc v b rw pw v2 b2 ov mv mu) H) (hD : va_D (va_A w0 H0.size) (wQDEN2OM aQ aY aS aNs aTs aEs aDc aE bE rE pE aN2 bN2 aO ad cd c1 c2 c3 c12 co ca pv dc v b rw pw v2 b2 ov mv mu)) (hS : va_S (va_A w0 H0.size) H0 H locs) (hl : lv_has ls 8 [(0, .ref sb), (1, .ref aQ), (2, .ref (ad 0)), (3, .ref aO), (4, .int x4)]) : W p l e room_1 s m args below meth c H locs c0 s0 Q (F0 m 485 ls []) := by
  obtain ⟨hx, hb, hr, hml, hown, hw, hlk⟩ := G
  have hA : ∀ q, H0.size ≤ q → (va_A w0 H0.size) q := fun q h => Or.inr h
  unfold m_F_L_move_EN at hm
  refine lv_aload_n hx hb dL_law_485 rfl (lv_at hl 1 rfl) ?_
  refine lv_aload_n hx hb dL_law_486 rfl (lv_at hl 0 rfl) ?_
  refine lv_iload hx hb dL_law_487 (lv_at hl 4 rfl) ?_
  refine lv_iconst (v := 1) hx hb dL_law_489 (by decide) ?_
  refine lv_iadd hx hb dL_law_490 ?_
  obtain ⟨hi1, hm⟩ := zix_s hm
  refine va_sld (i := (x4 + 1)) (xs := xs) hx hb hsb hbl hbA hS hi1 dL_law_491 ?_
  refine lv_aload_n hx hb dL_law_492 rfl (lv_at hl 0 rfl) ?_
  refine lv_iload hx hb dL_law_493 (lv_at hl 4 rfl) ?_
  refine lv_iconst (v := 2) hx hb dL_law_495 (by decide) ?_
  refine lv_iadd hx hb dL_law_496 ?_
  obtain ⟨hi2, hm⟩ := zix_s hm
  refine va_sld (i := (x4 + 2)) (xs := xs) hx hb hsb hbl hbA hS hi2 dL_law_497 ?_
  obtain ⟨q3, hq3, hm⟩ := zbind hm
  have hPc := hP.sub (ws' := (wQDEN2 aQ aY aS aNs aTs aEs aDc aE bE rE pE aN2 bN2 cd c1 c2 c3 c12 pv dc v b rw pw v2 b2)) [0, 1, 2, 3, 4, 5, 6, 7] rfl
  have hDc := hD.sub (ws' := (wQDEN2 aQ aY aS aNs aTs aEs aDc aE bE rE pE aN2 bN2 cd c1 c2 c3 c12 pv dc v b rw pw v2 b2)) [0, 1, 2, 3, 4, 5, 6, 7] (by decide) rfl
  have hKc := hK.sub (tys' := wQDEN2_t cd c1 c2 c3 c12) [0, 1, 2, 3, 4] rfl
  have hFc := va_free (wc := (wQDEN2 aQ aY aS aNs aTs aEs aDc aE bE rE pE aN2 bN2 cd c1 c2 c3 c12 pv dc v b rw pw v2 b2)) hD hS hA [0, 1, 2, 3, 4, 5, 6, 7] rfl
  refine zlSi (wr := [(aO, .inl (co, 1, .inr (.inl ov))), ((ad 0), .inr (5, [.int (mv 0), .int (mv 1), .ref (ad 1), .int (mv 3), .ref (ad 2), .ref (ad 3), .ref (ad 4), .ref (ad 5), .ref (ad 6), .ref (ad 7), .ref (ad 8), .ref (ad 9), .ref (ad 10), .ref (ad 11), .ref (ad 12), .ref (ad 13), .ref (ad 14), .ref (ad 15), .ref (ad 16), .ref (ad 17), .int (mv 20), .int (mv 21), .ref (ad 18), .int (mv 23)])), ((ad 1), .inl ((ca 1), 24, .inl (mu 1))), ((ad 2), .inl ((ca 2), 9, .inl (mu 2))), ((ad 3), .inl ((ca 3), 216, .inl (mu 3))), ((ad 4), .inl ((ca 4), 216, .inl (mu 4))), ((ad 5), .inl ((ca 5), 9, .inl (mu 5))), ((ad 6), .inl ((ca 6), 9, .inl (mu 6))), ((ad 7), .inl ((ca 7), 9, .inl (mu 7))), ((ad 8), .inl ((ca 8), 9, .inl (mu 8))), ((ad 9), .inl ((ca 9), 9, .inl (mu 9))), ((ad 10), .inl ((ca 10), 9, .inl (mu 10))), ((ad 11), .inl ((ca 11), 9, .inl (mu 11))), ((ad 12), .inl ((ca 12), 9, .inl (mu 12))), ((ad 13), .inl ((ca 13), 9, .inl (mu 13))), ((ad 14), .inl ((ca 14), 9, .inl (mu 14))), ((ad 15), .inl ((ca 15), 9, .inl (mu 15))), ((ad 16), .inl ((ca 16), 256, .inl (mu 16))), ((ad 17), .inl ((ca 17), 48, .inl (mu 17))), ((ad 18), .inl ((ca 18), 32, .inl (mu 18)))]) (w1 := (wQDEN2 aQ aY aS aNs aTs aEs aDc aE bE rE pE aN2 bN2 cd c1 c2 c3 c12 pv dc v q3.2 rw pw v2 b2)) (w' := (wQDEN2OM aQ aY aS aNs aTs aEs aDc aE bE rE pE aN2 bN2 aO ad cd c1 c2 c3 c12 co ca pv dc v q3.2 rw pw v2 b2 ov mv mu)) (vx_runSW (As := [.ref aQ, .int (xs (x4 + 1).toNatClampNeg), .int (xs (x4 + 2).toNatClampNeg)]) (rest := []) ⟨hx, hb, hml, hown, hw⟩ (k_L_move_EN l D aQ aY aS aNs aTs aEs aDc aE bE rE pE aN2 bN2 cd c1 c2 c3 c12 _ (xs (x4 + 1).toNatClampNeg) (xs (x4 + 2).toNatClampNeg) pv dc v b rw pw v2 b2 hd hd2 q3 hq3) (vx_cwSW 3 hw (zgoodW (List.forall_mem_cons.mpr ⟨zw643, List.forall_mem_cons.mpr ⟨zw644, List.forall_mem_cons.mpr ⟨zw587, fun _ h => absurd h List.not_mem_nil⟩⟩⟩) zw645) rfl rfl rfl hdL_move ⟨Nat.le_of_ble_eq_true rfl, Nat.le_of_ble_eq_true rfl⟩) (zpre zW_ok (A := fun q => s.heap.size ≤ q) hX (zglob hSg hAs hS) (fun q h => hAs q (hFc q h)) hPc hKc (hDc.weaken (fun _ _ _ h => hAs _ h))) rfl rfl hl.1 rfl (lv_room (Nat.le_of_ble_eq_true rfl)) dL_law_498 ⟨by show c0 + 0 ≤ 601024; omega, by show s0 + 0 ≤ 7293034; omega⟩) hP hD hS hFc [0, 1, 2, 3, 4, 5, 6, 7] [8, 9, 10, 11, 12, 13, 14, 15, 16, 17, 18, 19, 20, 21, 22, 23, 24, 25, 26, 27] [20, 21, 22, 23, 24, 25, 26, 27, 0, 1, 2, 3, 4, 5, 6, 7, 8, 9, 10, 11, 12, 13, 14, 15, 16, 17, 18, 19] rfl rfl (by decide) (by decide) rfl (by decide) (fun H locs hP hD hS => ?_)
  refine W.widen (k := c0 + 0) (n := s0 + 0) (by omega) (by omega) ?_
  refine lv_istore (lv' := [(5, .int q3.1), (0, .ref sb), (1, .ref aQ), (2, .ref (ad 0)), (3, .ref aO), (4, .int x4)]) hx hb dL_law_501 hl (by decide) rfl (fun ls hl => ?_)
  refine lv_aload_n hx hb dL_law_503 rfl (lv_at hl 3 rfl) ?_
  refine lv_aload_n hx hb dL_law_504 rfl (lv_at hl 1 rfl) ?_
  refine lv_iload hx hb dL_law_505 (lv_at hl 5 rfl) ?_
  refine lv_iconst (v := 1) hx hb dL_law_507 (by decide) ?_
  refine lv_iadd hx hb dL_law_508 ?_
  obtain ⟨hi4, hm⟩ := zix_s hm
  refine va_sld (i := (x4 + 1)) (xs := xs) hx hb hsb hbl hbA hS hi4 dL_law_509 ?_
  refine lv_aload_n hx hb dL_law_510 rfl (lv_at hl 1 rfl) ?_
  refine lv_iload hx hb dL_law_511 (lv_at hl 5 rfl) ?_
  refine lv_iconst (v := 2) hx hb dL_law_513 (by decide) ?_
  refine lv_iadd hx hb dL_law_514 ?_
  obtain ⟨hi5, hm⟩ := zix_s hm
  refine va_sld (i := (x4 + 2)) (xs := xs) hx hb hsb hbl hbA hS hi5 dL_law_515 ?_
  obtain ⟨q6, hq6, hm⟩ := zbind hm
  have hPc := hP.sub (ws' := (wM ad ca mv mu)) [9, 10, 11, 12, 13, 14, 15, 16, 17, 18, 19, 20, 21, 22, 23, 24, 25, 26, 27] rfl
  have hDc := hD.sub (ws' := (wM ad ca mv mu)) [9, 10, 11, 12, 13, 14, 15, 16, 17, 18, 19, 20, 21, 22, 23, 24, 25, 26, 27] (by decide) rfl
  have hKc := hK.sub (tys' := wM_t ca) [6, 7, 8, 9, 10, 11, 12, 13, 14, 15, 16, 17, 18, 19, 20, 21, 22, 23] rfl
  have hFc := va_free (wc := (wM ad ca mv mu)) hD hS hA [9, 10, 11, 12, 13, 14, 15, 16, 17, 18, 19, 20, 21, 22, 23, 24, 25, 26, 27] rfl
  refine zlSv (wr := [(aQ, .inr (4, [.ref aY, .int (pv 1), .ref aS, .ref aNs, .ref aTs, .ref aEs, .ref aDc, .int (pv 7)])), (aDc, .inl (cd, 8, .inr (.inr (.inr (.inr dc))))), (aE, .inr (0, [.ref bE, .int (v 1), .int (v 2), .int (v 3), .int (v 4), .ref rE, .ref pE, .int (v 7), .int (v 8), .int (v 9), .int (v 10), .int (v 11), .int (v 12), .int (v 13), .int (v 14), .int (v 15)])), (bE, .inl (c1, 25, .inl q3.2)), (rE, .inl (c2, 24, .inl rw)), (pE, .inl (c3, 24, .inl pw)), (aN2, .inr (1, [.ref bN2, .int (v2 1), .int (v2 2), .int (v2 3), .int (v2 4), .int (v2 5), .int (v2 6), .int (v2 7)])), (bN2, .inl (c12, 25, .inl b2)), (aO, .inl (co, 1, .inr (.inl ov)))]) (w1 := (wM ad ca q6.1 q6.2)) (w' := (wQDEN2OM aQ aY aS aNs aTs aEs aDc aE bE rE pE aN2 bN2 aO ad cd c1 c2 c3 c12 co ca pv dc v q3.2 rw pw v2 b2 ov q6.1 q6.2)) (va_runV (As := [.int (xs (x4 + 1).toNatClampNeg), .int (xs (x4 + 2).toNatClampNeg)]) (rest := []) ⟨hx, hb, hml, hown, hw⟩ (k_M_move l D ad ca _ (xs (x4 + 1).toNatClampNeg) (xs (x4 + 2).toNatClampNeg) mv mu  q6 hq6) (zcV (C := RX6) 2 hw (zgood zw648) rfl rfl rfl zw7 zw646 zw647 zw649 hdX6_move ⟨Nat.le_of_ble_eq_true rfl, Nat.le_of_ble_eq_true rfl⟩) (zpreV (zpre zN_ok (A := fun q => s.heap.size ≤ q) trivial (zglob hSg hAs hS) (fun q h => hAs q (hFc q h)) hPc hKc (hDc.weaken (fun _ _ _ h => hAs _ h))) (va_recv hK hP rfl (q0 := 9) rfl)) rfl rfl hl.1 rfl (lv_room (Nat.le_of_ble_eq_true rfl)) dL_law_516 ⟨by show c0 + 0 ≤ 601024; omega, by show s0 + 0 ≤ 7293034; omega⟩) hP hD hS hFc [9, 10, 11, 12, 13, 14, 15, 16, 17, 18, 19, 20, 21, 22, 23, 24, 25, 26, 27] [0, 1, 2, 3, 4, 5, 6, 7, 8] [0, 1, 2, 3, 4, 5, 6, 7, 8, 9, 10, 11, 12, 13, 14, 15, 16, 17, 18, 19, 20, 21, 22, 23, 24, 25, 26, 27] rfl rfl (by decide) (by decide) rfl (by decide) (fun H locs hP hD hS => ?_)
  refine W.widen (k := c0 + 0) (n := s0 + 0) (by omega) (by omega) ?_
  refine lv_aload_n hx hb dL_law_519 rfl (lv_at hl 3 rfl) ?_
  obtain ⟨q7, hq7, hm⟩ := zbind hm
  have hPc := hP.sub (ws' := (wM ad ca q6.1 q6.2)) [9, 10, 11, 12, 13, 14, 15, 16, 17, 18, 19, 20, 21, 22, 23, 24, 25, 26, 27] rfl
  have hDc := hD.sub (ws' := (wM ad ca q6.1 q6.2)) [9, 10, 11, 12, 13, 14, 15, 16, 17, 18, 19, 20, 21, 22, 23, 24, 25, 26, 27] (by decide) rfl
  have hKc := hK.sub (tys' := wM_t ca) [6, 7, 8, 9, 10, 11, 12, 13, 14, 15, 16, 17, 18, 19, 20, 21, 22, 23] rfl
  have hFc := va_free (wc := (wM ad ca q6.1 q6.2)) hD hS hA [9, 10, 11, 12, 13, 14, 15, 16, 17, 18, 19, 20, 21, 22, 23, 24, 25, 26, 27] rfl
  refine zlSi (wr := [(aQ, .inr (4, [.ref aY, .int (pv 1), .ref aS, .ref aNs, .ref aTs, .ref aEs, .ref aDc, .int (pv 7)])), (aDc, .inl (cd, 8, .inr (.inr (.inr (.inr dc))))), (aE, .inr (0, [.ref bE, .int (v 1), .int (v 2), .int (v 3), .int (v 4), .ref rE, .ref pE, .int (v 7), .int (v 8), .int (v 9), .int (v 10), .int (v 11), .int (v 12), .int (v 13), .int (v 14), .int (v 15)])), (bE, .inl (c1, 25, .inl q3.2)), (rE, .inl (c2, 24, .inl rw)), (pE, .inl (c3, 24, .inl pw)), (aN2, .inr (1, [.ref bN2, .int (v2 1), .int (v2 2), .int (v2 3), .int (v2 4), .int (v2 5), .int (v2 6), .int (v2 7)])), (bN2, .inl (c12, 25, .inl b2)), (aO, .inl (co, 1, .inr (.inl ov)))]) (w1 := (wM ad ca q6.1 q6.2)) (w' := (wQDEN2OM aQ aY aS aNs aTs aEs aDc aE bE rE pE aN2 bN2 aO ad cd c1 c2 c3 c12 co ca pv dc v q3.2 rw pw v2 b2 ov q6.1 q6.2)) (va_runV (As := []) (rest := []) ⟨hx, hb, hml, hown, hw⟩ (k_M_thrown l D ad ca _ q6.1 q6.2  q7 hq7) (zcV (C := RX6) 0 hw (zgood zw596) rfl rfl rfl zw7 zw594 zw595 zw597 hdX6_thrown ⟨Nat.le_of_ble_eq_true rfl, Nat.le_of_ble_eq_true rfl⟩) (zpreV (zpre zN_ok (A := fun q => s.heap.size ≤ q) trivial (zglob hSg hAs hS) (fun q h => hAs q (hFc q h)) hPc hKc (hDc.weaken (fun _ _ _ h => hAs _ h))) (va_recv hK hP rfl (q0 := 9) rfl)) rfl rfl hl.1 rfl (lv_room (Nat.le_of_ble_eq_true rfl)) dL_law_520 ⟨by show c0 + 0 ≤ 601024; omega, by show s0 + 0 ≤ 7293034; omega⟩) hP hD hS hFc [9, 10, 11, 12, 13, 14, 15, 16, 17, 18, 19, 20, 21, 22, 23, 24, 25, 26, 27] [0, 1, 2, 3, 4, 5, 6, 7, 8] [0, 1, 2, 3, 4, 5, 6, 7, 8, 9, 10, 11, 12, 13, 14, 15, 16, 17, 18, 19, 20, 21, 22, 23, 24, 25, 26, 27] rfl rfl (by decide) (by decide) rfl (by decide) (fun H locs hP hD hS => ?_)
  refine W.widen (k := c0 + 0) (n := s0 + 0) (by omega) (by omega) ?_
  refine lv_iload hx hb dL_law_523 (lv_at hl 0 rfl) ?_
  refine lv_icmp_eq (tgt := 530) hx hb dL_law_525 rfl (fun cd8 => ?_) (fun cd8 => ?_)
  · replace hm := zt cd8 hm
    refine lv_goto (tgt := 588) hx hb dL_law_530 rfl ?_
    cases hm
    refine W.widen (k := c0 + 1) (n := s0 + 6) (by omega) (by omega) ?_
    exact kk _ _ _ hP hD hS (lv_sub hl [1, 2, 3, 4, 5] rfl)
  · replace hm := zf cd8 hm
    refine lv_iconst (v := 0) hx hb dL_law_528 (by decide) ?_
    cases hm

def m_F_L_move_ET (xs : Nat → Int32) (L : Nat) (x4 : Int32) (pv : Nat → Int32) (dc : Nat → Option Nat) (v : Nat → Int32) (b : Nat → Int32) (rw : Nat → Int32) (pw : Nat → Int32) (v2 : Nat → Int32) (b2 : Nat → Int32) (ov : Nat → Int64) (mv : Nat → Int32) (mu : Nat → Nat → Int32)  : Option ((Nat → Int32) × (Nat → Int32) × (Nat → Nat → Int32)) := zix (x4 + 1) L (zix (x4 + 2) L ((m_L_move_ET (xs (x4 + 1).toNatClampNeg) (xs (x4 + 2).toNatClampNeg) pv dc v b rw pw v2 b2).bind (fun q3 => zix (x4 + 1) L (zix (x4 + 2) L ((m_M_move (xs (x4 + 1).toNatClampNeg) (xs (x4 + 2).toNatClampNeg) mv mu).bind (fun q6 => (m_M_thrown q6.1 q6.2).bind (fun q7 => (if q7 = q3.1 then (some (q3.2, q6.1, q6.2)) else none))))))))
set_option maxRecDepth 100000 in
set_option maxHeartbeats 4000000 in
theorem f_F_L_move_ET {p : Program} {l : Launch} {e : Env} {s : State} {m : MethodId} {args : Array Value} {below : List Frame} {meth : Method} {c : Code} {D : va_G} {w0 : va_W} {H0 : Heap} {Q : State → Prop} {sb L : Nat} {xs : Nat → Int32} {x4 : Int32} {c0 s0 : Nat} (aQ aY aS aNs aTs aEs aDc aE bE rE pE aT2 bT2 aO : Nat) (ad : Nat → Nat) (cd c1 c2 c3 c12 co : ClassId) (ca : Nat → ClassId) (pv : Nat → Int32) (dc : Nat → Option Nat) (v : Nat → Int32) (b : Nat → Int32) (rw : Nat → Int32) (pw : Nat → Int32) (v2 : Nat → Int32) (b2 : Nat → Int32) (ov : Nat → Int64) (mv : Nat → Int32) (mu : Nat → Nat → Int32) (G : zG p s m args meth c cL_law RL 8 (some .boolean)) (hK : va_K D vwCl (wQDET2OM_t cd c1 c2 c3 c12 co ca) s) (hX : zW (fun q => s.heap.size ≤ q) s) (hl0 : l.stackTraces = false) (hSg : va_S (fun q => s.heap.size ≤ q) s.heap H0 []) (hAs : ∀ q, (va_A w0 H0.size) q → s.heap.size ≤ q) (hsb : va_X sb L xs s H0) (hbl : sb < H0.size) (hbA : ¬ (va_A w0 H0.size) sb) (hc0 : c0 + 1 ≤ 601024) (hs0 : s0 + 6 ≤ 7293034) (hd : dc (xs (x4 + 1).toNatClampNeg).toNatClampNeg = some aT2) (hd2 : dc (xs (x4 + 2).toNatClampNeg).toNatClampNeg = some aE) {res : (Nat → Int32) × (Nat → Int32) × (Nat → Nat → Int32)} (hm : m_F_L_move_ET xs L x4 pv dc v b rw pw v2 b2 ov mv mu  = some res)
    (kk : ∀ (H : Heap) (locs : List Loc) (ls : Array Slot), va_P D vwCl (wQDET2OM aQ aY aS aNs aTs aEs aDc aE bE rE pE aT2 bT2 aO ad cd c1 c2 c3 c12 co ca pv dc v res.1 rw pw v2 b2 ov res.2.1 res.2.2) H → va_D (va_A w0 H0.size) (wQDET2OM aQ aY aS aNs aTs aEs aDc aE bE rE pE aT2 bT2 aO ad cd c1 c2 c3 c12 co ca pv dc v res.1 rw pw v2 b2 ov res.2.1 res.2.2) → va_S (va_A w0 H0.size) H0 H locs → lv_has ls 8 [(0, .ref sb), (1, .ref aQ), (2, .ref (ad 0)), (3, .ref aO), (4, .int x4)] → W p l e room_1 s m args below meth c H locs (c0 + 1) (s0 + 6) Q (F0 m 588 ls []))
    (H : Heap) (locs : List Loc) (ls : Array Slot) (hP : va_P D vwCl (wQDET2OM aQ aY aS aNs aTs aEs aDc aE bE rE pE aT2 bT2 aO ad cd c1 c2 c3 c12 co ca pv dc v b rw pw v2 b2 ov mv mu) H) (hD : va_D (va_A w0 H0.size) (wQDET2OM aQ aY aS aNs aTs aEs aDc aE bE rE pE aT2 bT2 aO ad cd c1 c2 c3 c12 co ca pv dc v b rw pw v2 b2 ov mv mu)) (hS : va_S (va_A w0 H0.size) H0 H locs) (hl : lv_has ls 8 [(0, .ref sb), (1, .ref aQ), (2, .ref (ad 0)), (3, .ref aO), (4, .int x4)]) : W p l e room_1 s m args below meth c H locs c0 s0 Q (F0 m 485 ls []) := by
  obtain ⟨hx, hb, hr, hml, hown, hw, hlk⟩ := G
  have hA : ∀ q, H0.size ≤ q → (va_A w0 H0.size) q := fun q h => Or.inr h
  unfold m_F_L_move_ET at hm
  refine lv_aload_n hx hb dL_law_485 rfl (lv_at hl 1 rfl) ?_
  refine lv_aload_n hx hb dL_law_486 rfl (lv_at hl 0 rfl) ?_
  refine lv_iload hx hb dL_law_487 (lv_at hl 4 rfl) ?_
  refine lv_iconst (v := 1) hx hb dL_law_489 (by decide) ?_
  refine lv_iadd hx hb dL_law_490 ?_
  obtain ⟨hi1, hm⟩ := zix_s hm
  refine va_sld (i := (x4 + 1)) (xs := xs) hx hb hsb hbl hbA hS hi1 dL_law_491 ?_
  refine lv_aload_n hx hb dL_law_492 rfl (lv_at hl 0 rfl) ?_
  refine lv_iload hx hb dL_law_493 (lv_at hl 4 rfl) ?_
  refine lv_iconst (v := 2) hx hb dL_law_495 (by decide) ?_
  refine lv_iadd hx hb dL_law_496 ?_
  obtain ⟨hi2, hm⟩ := zix_s hm
  refine va_sld (i := (x4 + 2)) (xs := xs) hx hb hsb hbl hbA hS hi2 dL_law_497 ?_
  obtain ⟨q3, hq3, hm⟩ := zbind hm
  have hPc := hP.sub (ws' := (wQDET2 aQ aY aS aNs aTs aEs aDc aE bE rE pE aT2 bT2 cd c1 c2 c3 c12 pv dc v b rw pw v2 b2)) [0, 1, 2, 3, 4, 5, 6, 7] rfl
  have hDc := hD.sub (ws' := (wQDET2 aQ aY aS aNs aTs aEs aDc aE bE rE pE aT2 bT2 cd c1 c2 c3 c12 pv dc v b rw pw v2 b2)) [0, 1, 2, 3, 4, 5, 6, 7] (by decide) rfl
  have hKc := hK.sub (tys' := wQDET2_t cd c1 c2 c3 c12) [0, 1, 2, 3, 4] rfl
  have hFc := va_free (wc := (wQDET2 aQ aY aS aNs aTs aEs aDc aE bE rE pE aT2 bT2 cd c1 c2 c3 c12 pv dc v b rw pw v2 b2)) hD hS hA [0, 1, 2, 3, 4, 5, 6, 7] rfl
  refine zlSi (wr := [(aO, .inl (co, 1, .inr (.inl ov))), ((ad 0), .inr (5, [.int (mv 0), .int (mv 1), .ref (ad 1), .int (mv 3), .ref (ad 2), .ref (ad 3), .ref (ad 4), .ref (ad 5), .ref (ad 6), .ref (ad 7), .ref (ad 8), .ref (ad 9), .ref (ad 10), .ref (ad 11), .ref (ad 12), .ref (ad 13), .ref (ad 14), .ref (ad 15), .ref (ad 16), .ref (ad 17), .int (mv 20), .int (mv 21), .ref (ad 18), .int (mv 23)])), ((ad 1), .inl ((ca 1), 24, .inl (mu 1))), ((ad 2), .inl ((ca 2), 9, .inl (mu 2))), ((ad 3), .inl ((ca 3), 216, .inl (mu 3))), ((ad 4), .inl ((ca 4), 216, .inl (mu 4))), ((ad 5), .inl ((ca 5), 9, .inl (mu 5))), ((ad 6), .inl ((ca 6), 9, .inl (mu 6))), ((ad 7), .inl ((ca 7), 9, .inl (mu 7))), ((ad 8), .inl ((ca 8), 9, .inl (mu 8))), ((ad 9), .inl ((ca 9), 9, .inl (mu 9))), ((ad 10), .inl ((ca 10), 9, .inl (mu 10))), ((ad 11), .inl ((ca 11), 9, .inl (mu 11))), ((ad 12), .inl ((ca 12), 9, .inl (mu 12))), ((ad 13), .inl ((ca 13), 9, .inl (mu 13))), ((ad 14), .inl ((ca 14), 9, .inl (mu 14))), ((ad 15), .inl ((ca 15), 9, .inl (mu 15))), ((ad 16), .inl ((ca 16), 256, .inl (mu 16))), ((ad 17), .inl ((ca 17), 48, .inl (mu 17))), ((ad 18), .inl ((ca 18), 32, .inl (mu 18)))]) (w1 := (wQDET2 aQ aY aS aNs aTs aEs aDc aE bE rE pE aT2 bT2 cd c1 c2 c3 c12 pv dc v q3.2 rw pw v2 b2)) (w' := (wQDET2OM aQ aY aS aNs aTs aEs aDc aE bE rE pE aT2 bT2 aO ad cd c1 c2 c3 c12 co ca pv dc v q3.2 rw pw v2 b2 ov mv mu)) (vx_runSW (As := [.ref aQ, .int (xs (x4 + 1).toNatClampNeg), .int (xs (x4 + 2).toNatClampNeg)]) (rest := []) ⟨hx, hb, hml, hown, hw⟩ (k_L_move_ET l D aQ aY aS aNs aTs aEs aDc aE bE rE pE aT2 bT2 cd c1 c2 c3 c12 _ (xs (x4 + 1).toNatClampNeg) (xs (x4 + 2).toNatClampNeg) pv dc v b rw pw v2 b2 hd hd2 q3 hq3) (vx_cwSW 3 hw (zgoodW (List.forall_mem_cons.mpr ⟨zw643, List.forall_mem_cons.mpr ⟨zw644, List.forall_mem_cons.mpr ⟨zw587, fun _ h => absurd h List.not_mem_nil⟩⟩⟩) zw645) rfl rfl rfl hdL_move ⟨Nat.le_of_ble_eq_true rfl, Nat.le_of_ble_eq_true rfl⟩) (zpre zW_ok (A := fun q => s.heap.size ≤ q) hX (zglob hSg hAs hS) (fun q h => hAs q (hFc q h)) hPc hKc (hDc.weaken (fun _ _ _ h => hAs _ h))) rfl rfl hl.1 rfl (lv_room (Nat.le_of_ble_eq_true rfl)) dL_law_498 ⟨by show c0 + 0 ≤ 601024; omega, by show s0 + 0 ≤ 7293034; omega⟩) hP hD hS hFc [0, 1, 2, 3, 4, 5, 6, 7] [8, 9, 10, 11, 12, 13, 14, 15, 16, 17, 18, 19, 20, 21, 22, 23, 24, 25, 26, 27] [20, 21, 22, 23, 24, 25, 26, 27, 0, 1, 2, 3, 4, 5, 6, 7, 8, 9, 10, 11, 12, 13, 14, 15, 16, 17, 18, 19] rfl rfl (by decide) (by decide) rfl (by decide) (fun H locs hP hD hS => ?_)
  refine W.widen (k := c0 + 0) (n := s0 + 0) (by omega) (by omega) ?_
  refine lv_istore (lv' := [(5, .int q3.1), (0, .ref sb), (1, .ref aQ), (2, .ref (ad 0)), (3, .ref aO), (4, .int x4)]) hx hb dL_law_501 hl (by decide) rfl (fun ls hl => ?_)
  refine lv_aload_n hx hb dL_law_503 rfl (lv_at hl 3 rfl) ?_
  refine lv_aload_n hx hb dL_law_504 rfl (lv_at hl 1 rfl) ?_
  refine lv_iload hx hb dL_law_505 (lv_at hl 5 rfl) ?_
  refine lv_iconst (v := 1) hx hb dL_law_507 (by decide) ?_
  refine lv_iadd hx hb dL_law_508 ?_
  obtain ⟨hi4, hm⟩ := zix_s hm
  refine va_sld (i := (x4 + 1)) (xs := xs) hx hb hsb hbl hbA hS hi4 dL_law_509 ?_
  refine lv_aload_n hx hb dL_law_510 rfl (lv_at hl 1 rfl) ?_
  refine lv_iload hx hb dL_law_511 (lv_at hl 5 rfl) ?_
  refine lv_iconst (v := 2) hx hb dL_law_513 (by decide) ?_
  refine lv_iadd hx hb dL_law_514 ?_
  obtain ⟨hi5, hm⟩ := zix_s hm
  refine va_sld (i := (x4 + 2)) (xs := xs) hx hb hsb hbl hbA hS hi5 dL_law_515 ?_
  obtain ⟨q6, hq6, hm⟩ := zbind hm
  have hPc := hP.sub (ws' := (wM ad ca mv mu)) [9, 10, 11, 12, 13, 14, 15, 16, 17, 18, 19, 20, 21, 22, 23, 24, 25, 26, 27] rfl
  have hDc := hD.sub (ws' := (wM ad ca mv mu)) [9, 10, 11, 12, 13, 14, 15, 16, 17, 18, 19, 20, 21, 22, 23, 24, 25, 26, 27] (by decide) rfl
  have hKc := hK.sub (tys' := wM_t ca) [6, 7, 8, 9, 10, 11, 12, 13, 14, 15, 16, 17, 18, 19, 20, 21, 22, 23] rfl
  have hFc := va_free (wc := (wM ad ca mv mu)) hD hS hA [9, 10, 11, 12, 13, 14, 15, 16, 17, 18, 19, 20, 21, 22, 23, 24, 25, 26, 27] rfl
  refine zlSv (wr := [(aQ, .inr (4, [.ref aY, .int (pv 1), .ref aS, .ref aNs, .ref aTs, .ref aEs, .ref aDc, .int (pv 7)])), (aDc, .inl (cd, 8, .inr (.inr (.inr (.inr dc))))), (aE, .inr (0, [.ref bE, .int (v 1), .int (v 2), .int (v 3), .int (v 4), .ref rE, .ref pE, .int (v 7), .int (v 8), .int (v 9), .int (v 10), .int (v 11), .int (v 12), .int (v 13), .int (v 14), .int (v 15)])), (bE, .inl (c1, 25, .inl q3.2)), (rE, .inl (c2, 24, .inl rw)), (pE, .inl (c3, 24, .inl pw)), (aT2, .inr (3, [.ref bT2, .int (v2 1), .int (v2 2), .int (v2 3), .int (v2 4)])), (bT2, .inl (c12, 25, .inl b2)), (aO, .inl (co, 1, .inr (.inl ov)))]) (w1 := (wM ad ca q6.1 q6.2)) (w' := (wQDET2OM aQ aY aS aNs aTs aEs aDc aE bE rE pE aT2 bT2 aO ad cd c1 c2 c3 c12 co ca pv dc v q3.2 rw pw v2 b2 ov q6.1 q6.2)) (va_runV (As := [.int (xs (x4 + 1).toNatClampNeg), .int (xs (x4 + 2).toNatClampNeg)]) (rest := []) ⟨hx, hb, hml, hown, hw⟩ (k_M_move l D ad ca _ (xs (x4 + 1).toNatClampNeg) (xs (x4 + 2).toNatClampNeg) mv mu  q6 hq6) (zcV (C := RX6) 2 hw (zgood zw648) rfl rfl rfl zw7 zw646 zw647 zw649 hdX6_move ⟨Nat.le_of_ble_eq_true rfl, Nat.le_of_ble_eq_true rfl⟩) (zpreV (zpre zN_ok (A := fun q => s.heap.size ≤ q) trivial (zglob hSg hAs hS) (fun q h => hAs q (hFc q h)) hPc hKc (hDc.weaken (fun _ _ _ h => hAs _ h))) (va_recv hK hP rfl (q0 := 9) rfl)) rfl rfl hl.1 rfl (lv_room (Nat.le_of_ble_eq_true rfl)) dL_law_516 ⟨by show c0 + 0 ≤ 601024; omega, by show s0 + 0 ≤ 7293034; omega⟩) hP hD hS hFc [9, 10, 11, 12, 13, 14, 15, 16, 17, 18, 19, 20, 21, 22, 23, 24, 25, 26, 27] [0, 1, 2, 3, 4, 5, 6, 7, 8] [0, 1, 2, 3, 4, 5, 6, 7, 8, 9, 10, 11, 12, 13, 14, 15, 16, 17, 18, 19, 20, 21, 22, 23, 24, 25, 26, 27] rfl rfl (by decide) (by decide) rfl (by decide) (fun H locs hP hD hS => ?_)
  refine W.widen (k := c0 + 0) (n := s0 + 0) (by omega) (by omega) ?_
  refine lv_aload_n hx hb dL_law_519 rfl (lv_at hl 3 rfl) ?_
  obtain ⟨q7, hq7, hm⟩ := zbind hm
  have hPc := hP.sub (ws' := (wM ad ca q6.1 q6.2)) [9, 10, 11, 12, 13, 14, 15, 16, 17, 18, 19, 20, 21, 22, 23, 24, 25, 26, 27] rfl
  have hDc := hD.sub (ws' := (wM ad ca q6.1 q6.2)) [9, 10, 11, 12, 13, 14, 15, 16, 17, 18, 19, 20, 21, 22, 23, 24, 25, 26, 27] (by decide) rfl
  have hKc := hK.sub (tys' := wM_t ca) [6, 7, 8, 9, 10, 11, 12, 13, 14, 15, 16, 17, 18, 19, 20, 21, 22, 23] rfl
  have hFc := va_free (wc := (wM ad ca q6.1 q6.2)) hD hS hA [9, 10, 11, 12, 13, 14, 15, 16, 17, 18, 19, 20, 21, 22, 23, 24, 25, 26, 27] rfl
  refine zlSi (wr := [(aQ, .inr (4, [.ref aY, .int (pv 1), .ref aS, .ref aNs, .ref aTs, .ref aEs, .ref aDc, .int (pv 7)])), (aDc, .inl (cd, 8, .inr (.inr (.inr (.inr dc))))), (aE, .inr (0, [.ref bE, .int (v 1), .int (v 2), .int (v 3), .int (v 4), .ref rE, .ref pE, .int (v 7), .int (v 8), .int (v 9), .int (v 10), .int (v 11), .int (v 12), .int (v 13), .int (v 14), .int (v 15)])), (bE, .inl (c1, 25, .inl q3.2)), (rE, .inl (c2, 24, .inl rw)), (pE, .inl (c3, 24, .inl pw)), (aT2, .inr (3, [.ref bT2, .int (v2 1), .int (v2 2), .int (v2 3), .int (v2 4)])), (bT2, .inl (c12, 25, .inl b2)), (aO, .inl (co, 1, .inr (.inl ov)))]) (w1 := (wM ad ca q6.1 q6.2)) (w' := (wQDET2OM aQ aY aS aNs aTs aEs aDc aE bE rE pE aT2 bT2 aO ad cd c1 c2 c3 c12 co ca pv dc v q3.2 rw pw v2 b2 ov q6.1 q6.2)) (va_runV (As := []) (rest := []) ⟨hx, hb, hml, hown, hw⟩ (k_M_thrown l D ad ca _ q6.1 q6.2  q7 hq7) (zcV (C := RX6) 0 hw (zgood zw596) rfl rfl rfl zw7 zw594 zw595 zw597 hdX6_thrown ⟨Nat.le_of_ble_eq_true rfl, Nat.le_of_ble_eq_true rfl⟩) (zpreV (zpre zN_ok (A := fun q => s.heap.size ≤ q) trivial (zglob hSg hAs hS) (fun q h => hAs q (hFc q h)) hPc hKc (hDc.weaken (fun _ _ _ h => hAs _ h))) (va_recv hK hP rfl (q0 := 9) rfl)) rfl rfl hl.1 rfl (lv_room (Nat.le_of_ble_eq_true rfl)) dL_law_520 ⟨by show c0 + 0 ≤ 601024; omega, by show s0 + 0 ≤ 7293034; omega⟩) hP hD hS hFc [9, 10, 11, 12, 13, 14, 15, 16, 17, 18, 19, 20, 21, 22, 23, 24, 25, 26, 27] [0, 1, 2, 3, 4, 5, 6, 7, 8] [0, 1, 2, 3, 4, 5, 6, 7, 8, 9, 10, 11, 12, 13, 14, 15, 16, 17, 18, 19, 20, 21, 22, 23, 24, 25, 26, 27] rfl rfl (by decide) (by decide) rfl (by decide) (fun H locs hP hD hS => ?_)
  refine W.widen (k := c0 + 0) (n := s0 + 0) (by omega) (by omega) ?_
  refine lv_iload hx hb dL_law_523 (lv_at hl 0 rfl) ?_
  refine lv_icmp_eq (tgt := 530) hx hb dL_law_525 rfl (fun cd8 => ?_) (fun cd8 => ?_)
  · replace hm := zt cd8 hm
    refine lv_goto (tgt := 588) hx hb dL_law_530 rfl ?_
    cases hm
    refine W.widen (k := c0 + 1) (n := s0 + 6) (by omega) (by omega) ?_
    exact kk _ _ _ hP hD hS (lv_sub hl [1, 2, 3, 4, 5] rfl)
  · replace hm := zf cd8 hm
    refine lv_iconst (v := 0) hx hb dL_law_528 (by decide) ?_
    cases hm

def m_F_L_move_EE (xs : Nat → Int32) (L : Nat) (x4 : Int32) (pv : Nat → Int32) (dc : Nat → Option Nat) (v : Nat → Int32) (b : Nat → Int32) (rw : Nat → Int32) (pw : Nat → Int32) (v2 : Nat → Int32) (b2 : Nat → Int32) (rw2 : Nat → Int32) (pw2 : Nat → Int32) (ov : Nat → Int64) (mv : Nat → Int32) (mu : Nat → Nat → Int32)  : Option ((Nat → Int32) × (Nat → Int32) × (Nat → Nat → Int32)) := zix (x4 + 1) L (zix (x4 + 2) L ((m_L_move_EE (xs (x4 + 1).toNatClampNeg) (xs (x4 + 2).toNatClampNeg) pv dc v b rw pw v2 b2 rw2 pw2).bind (fun q3 => zix (x4 + 1) L (zix (x4 + 2) L ((m_M_move (xs (x4 + 1).toNatClampNeg) (xs (x4 + 2).toNatClampNeg) mv mu).bind (fun q6 => (m_M_thrown q6.1 q6.2).bind (fun q7 => (if q7 = q3.1 then (some (q3.2, q6.1, q6.2)) else none))))))))
set_option maxRecDepth 100000 in
set_option maxHeartbeats 4000000 in
theorem f_F_L_move_EE {p : Program} {l : Launch} {e : Env} {s : State} {m : MethodId} {args : Array Value} {below : List Frame} {meth : Method} {c : Code} {D : va_G} {w0 : va_W} {H0 : Heap} {Q : State → Prop} {sb L : Nat} {xs : Nat → Int32} {x4 : Int32} {c0 s0 : Nat} (aQ aY aS aNs aTs aEs aDc aE bE rE pE aE2 bE2 rE2 pE2 aO : Nat) (ad : Nat → Nat) (cd c1 c2 c3 c12 c22 c32 co : ClassId) (ca : Nat → ClassId) (pv : Nat → Int32) (dc : Nat → Option Nat) (v : Nat → Int32) (b : Nat → Int32) (rw : Nat → Int32) (pw : Nat → Int32) (v2 : Nat → Int32) (b2 : Nat → Int32) (rw2 : Nat → Int32) (pw2 : Nat → Int32) (ov : Nat → Int64) (mv : Nat → Int32) (mu : Nat → Nat → Int32) (G : zG p s m args meth c cL_law RL 8 (some .boolean)) (hK : va_K D vwCl (wQDEE2OM_t cd c1 c2 c3 c12 c22 c32 co ca) s) (hX : zW (fun q => s.heap.size ≤ q) s) (hl0 : l.stackTraces = false) (hSg : va_S (fun q => s.heap.size ≤ q) s.heap H0 []) (hAs : ∀ q, (va_A w0 H0.size) q → s.heap.size ≤ q) (hsb : va_X sb L xs s H0) (hbl : sb < H0.size) (hbA : ¬ (va_A w0 H0.size) sb) (hc0 : c0 + 1 ≤ 601024) (hs0 : s0 + 6 ≤ 7293034) (hd : dc (xs (x4 + 1).toNatClampNeg).toNatClampNeg = some aE2) (hd2 : dc (xs (x4 + 2).toNatClampNeg).toNatClampNeg = some aE) {res : (Nat → Int32) × (Nat → Int32) × (Nat → Nat → Int32)} (hm : m_F_L_move_EE xs L x4 pv dc v b rw pw v2 b2 rw2 pw2 ov mv mu  = some res)
    (kk : ∀ (H : Heap) (locs : List Loc) (ls : Array Slot), va_P D vwCl (wQDEE2OM aQ aY aS aNs aTs aEs aDc aE bE rE pE aE2 bE2 rE2 pE2 aO ad cd c1 c2 c3 c12 c22 c32 co ca pv dc v res.1 rw pw v2 b2 rw2 pw2 ov res.2.1 res.2.2) H → va_D (va_A w0 H0.size) (wQDEE2OM aQ aY aS aNs aTs aEs aDc aE bE rE pE aE2 bE2 rE2 pE2 aO ad cd c1 c2 c3 c12 c22 c32 co ca pv dc v res.1 rw pw v2 b2 rw2 pw2 ov res.2.1 res.2.2) → va_S (va_A w0 H0.size) H0 H locs → lv_has ls 8 [(0, .ref sb), (1, .ref aQ), (2, .ref (ad 0)), (3, .ref aO), (4, .int x4)] → W p l e room_1 s m args below meth c H locs (c0 + 1) (s0 + 6) Q (F0 m 588 ls []))
    (H : Heap) (locs : List Loc) (ls : Array Slot) (hP : va_P D vwCl (wQDEE2OM aQ aY aS aNs aTs aEs aDc aE bE rE pE aE2 bE2 rE2 pE2 aO ad cd c1 c2 c3 c12 c22 c32 co ca pv dc v b rw pw v2 b2 rw2 pw2 ov mv mu) H) (hD : va_D (va_A w0 H0.size) (wQDEE2OM aQ aY aS aNs aTs aEs aDc aE bE rE pE aE2 bE2 rE2 pE2 aO ad cd c1 c2 c3 c12 c22 c32 co ca pv dc v b rw pw v2 b2 rw2 pw2 ov mv mu)) (hS : va_S (va_A w0 H0.size) H0 H locs) (hl : lv_has ls 8 [(0, .ref sb), (1, .ref aQ), (2, .ref (ad 0)), (3, .ref aO), (4, .int x4)]) : W p l e room_1 s m args below meth c H locs c0 s0 Q (F0 m 485 ls []) := by
  obtain ⟨hx, hb, hr, hml, hown, hw, hlk⟩ := G
  have hA : ∀ q, H0.size ≤ q → (va_A w0 H0.size) q := fun q h => Or.inr h
  unfold m_F_L_move_EE at hm
  refine lv_aload_n hx hb dL_law_485 rfl (lv_at hl 1 rfl) ?_
  refine lv_aload_n hx hb dL_law_486 rfl (lv_at hl 0 rfl) ?_
  refine lv_iload hx hb dL_law_487 (lv_at hl 4 rfl) ?_
  refine lv_iconst (v := 1) hx hb dL_law_489 (by decide) ?_
  refine lv_iadd hx hb dL_law_490 ?_
  obtain ⟨hi1, hm⟩ := zix_s hm
  refine va_sld (i := (x4 + 1)) (xs := xs) hx hb hsb hbl hbA hS hi1 dL_law_491 ?_
  refine lv_aload_n hx hb dL_law_492 rfl (lv_at hl 0 rfl) ?_
  refine lv_iload hx hb dL_law_493 (lv_at hl 4 rfl) ?_
  refine lv_iconst (v := 2) hx hb dL_law_495 (by decide) ?_
  refine lv_iadd hx hb dL_law_496 ?_
  obtain ⟨hi2, hm⟩ := zix_s hm
  refine va_sld (i := (x4 + 2)) (xs := xs) hx hb hsb hbl hbA hS hi2 dL_law_497 ?_
  obtain ⟨q3, hq3, hm⟩ := zbind hm
  have hPc := hP.sub (ws' := (wQDEE2 aQ aY aS aNs aTs aEs aDc aE bE rE pE aE2 bE2 rE2 pE2 cd c1 c2 c3 c12 c22 c32 pv dc v b rw pw v2 b2 rw2 pw2)) [0, 1, 2, 3, 4, 5, 6, 7, 8, 9] rfl
  have hDc := hD.sub (ws' := (wQDEE2 aQ aY aS aNs aTs aEs aDc aE bE rE pE aE2 bE2 rE2 pE2 cd c1 c2 c3 c12 c22 c32 pv dc v b rw pw v2 b2 rw2 pw2)) [0, 1, 2, 3, 4, 5, 6, 7, 8, 9] (by decide) rfl
  have hKc := hK.sub (tys' := wQDEE2_t cd c1 c2 c3 c12 c22 c32) [0, 1, 2, 3, 4, 5, 6] rfl
  have hFc := va_free (wc := (wQDEE2 aQ aY aS aNs aTs aEs aDc aE bE rE pE aE2 bE2 rE2 pE2 cd c1 c2 c3 c12 c22 c32 pv dc v b rw pw v2 b2 rw2 pw2)) hD hS hA [0, 1, 2, 3, 4, 5, 6, 7, 8, 9] rfl
  refine zlSi (wr := [(aO, .inl (co, 1, .inr (.inl ov))), ((ad 0), .inr (5, [.int (mv 0), .int (mv 1), .ref (ad 1), .int (mv 3), .ref (ad 2), .ref (ad 3), .ref (ad 4), .ref (ad 5), .ref (ad 6), .ref (ad 7), .ref (ad 8), .ref (ad 9), .ref (ad 10), .ref (ad 11), .ref (ad 12), .ref (ad 13), .ref (ad 14), .ref (ad 15), .ref (ad 16), .ref (ad 17), .int (mv 20), .int (mv 21), .ref (ad 18), .int (mv 23)])), ((ad 1), .inl ((ca 1), 24, .inl (mu 1))), ((ad 2), .inl ((ca 2), 9, .inl (mu 2))), ((ad 3), .inl ((ca 3), 216, .inl (mu 3))), ((ad 4), .inl ((ca 4), 216, .inl (mu 4))), ((ad 5), .inl ((ca 5), 9, .inl (mu 5))), ((ad 6), .inl ((ca 6), 9, .inl (mu 6))), ((ad 7), .inl ((ca 7), 9, .inl (mu 7))), ((ad 8), .inl ((ca 8), 9, .inl (mu 8))), ((ad 9), .inl ((ca 9), 9, .inl (mu 9))), ((ad 10), .inl ((ca 10), 9, .inl (mu 10))), ((ad 11), .inl ((ca 11), 9, .inl (mu 11))), ((ad 12), .inl ((ca 12), 9, .inl (mu 12))), ((ad 13), .inl ((ca 13), 9, .inl (mu 13))), ((ad 14), .inl ((ca 14), 9, .inl (mu 14))), ((ad 15), .inl ((ca 15), 9, .inl (mu 15))), ((ad 16), .inl ((ca 16), 256, .inl (mu 16))), ((ad 17), .inl ((ca 17), 48, .inl (mu 17))), ((ad 18), .inl ((ca 18), 32, .inl (mu 18)))]) (w1 := (wQDEE2 aQ aY aS aNs aTs aEs aDc aE bE rE pE aE2 bE2 rE2 pE2 cd c1 c2 c3 c12 c22 c32 pv dc v q3.2 rw pw v2 b2 rw2 pw2)) (w' := (wQDEE2OM aQ aY aS aNs aTs aEs aDc aE bE rE pE aE2 bE2 rE2 pE2 aO ad cd c1 c2 c3 c12 c22 c32 co ca pv dc v q3.2 rw pw v2 b2 rw2 pw2 ov mv mu)) (vx_runSW (As := [.ref aQ, .int (xs (x4 + 1).toNatClampNeg), .int (xs (x4 + 2).toNatClampNeg)]) (rest := []) ⟨hx, hb, hml, hown, hw⟩ (k_L_move_EE l D aQ aY aS aNs aTs aEs aDc aE bE rE pE aE2 bE2 rE2 pE2 cd c1 c2 c3 c12 c22 c32 _ (xs (x4 + 1).toNatClampNeg) (xs (x4 + 2).toNatClampNeg) pv dc v b rw pw v2 b2 rw2 pw2 hd hd2 q3 hq3) (vx_cwSW 3 hw (zgoodW (List.forall_mem_cons.mpr ⟨zw643, List.forall_mem_cons.mpr ⟨zw644, List.forall_mem_cons.mpr ⟨zw587, fun _ h => absurd h List.not_mem_nil⟩⟩⟩) zw645) rfl rfl rfl hdL_move ⟨Nat.le_of_ble_eq_true rfl, Nat.le_of_ble_eq_true rfl⟩) (zpre zW_ok (A := fun q => s.heap.size ≤ q) hX (zglob hSg hAs hS) (fun q h => hAs q (hFc q h)) hPc hKc (hDc.weaken (fun _ _ _ h => hAs _ h))) rfl rfl hl.1 rfl (lv_room (Nat.le_of_ble_eq_true rfl)) dL_law_498 ⟨by show c0 + 0 ≤ 601024; omega, by show s0 + 0 ≤ 7293034; omega⟩) hP hD hS hFc [0, 1, 2, 3, 4, 5, 6, 7, 8, 9] [10, 11, 12, 13, 14, 15, 16, 17, 18, 19, 20, 21, 22, 23, 24, 25, 26, 27, 28, 29] [20, 21, 22, 23, 24, 25, 26, 27, 28, 29, 0, 1, 2, 3, 4, 5, 6, 7, 8, 9, 10, 11, 12, 13, 14, 15, 16, 17, 18, 19] rfl rfl (by decide) (by decide) rfl (by decide) (fun H locs hP hD hS => ?_)
  refine W.widen (k := c0 + 0) (n := s0 + 0) (by omega) (by omega) ?_
  refine lv_istore (lv' := [(5, .int q3.1), (0, .ref sb), (1, .ref aQ), (2, .ref (ad 0)), (3, .ref aO), (4, .int x4)]) hx hb dL_law_501 hl (by decide) rfl (fun ls hl => ?_)
  refine lv_aload_n hx hb dL_law_503 rfl (lv_at hl 3 rfl) ?_
  refine lv_aload_n hx hb dL_law_504 rfl (lv_at hl 1 rfl) ?_
  refine lv_iload hx hb dL_law_505 (lv_at hl 5 rfl) ?_
  refine lv_iconst (v := 1) hx hb dL_law_507 (by decide) ?_
  refine lv_iadd hx hb dL_law_508 ?_
  obtain ⟨hi4, hm⟩ := zix_s hm
  refine va_sld (i := (x4 + 1)) (xs := xs) hx hb hsb hbl hbA hS hi4 dL_law_509 ?_
  refine lv_aload_n hx hb dL_law_510 rfl (lv_at hl 1 rfl) ?_
  refine lv_iload hx hb dL_law_511 (lv_at hl 5 rfl) ?_
  refine lv_iconst (v := 2) hx hb dL_law_513 (by decide) ?_
  refine lv_iadd hx hb dL_law_514 ?_
  obtain ⟨hi5, hm⟩ := zix_s hm
  refine va_sld (i := (x4 + 2)) (xs := xs) hx hb hsb hbl hbA hS hi5 dL_law_515 ?_
  obtain ⟨q6, hq6, hm⟩ := zbind hm
  have hPc := hP.sub (ws' := (wM ad ca mv mu)) [11, 12, 13, 14, 15, 16, 17, 18, 19, 20, 21, 22, 23, 24, 25, 26, 27, 28, 29] rfl
  have hDc := hD.sub (ws' := (wM ad ca mv mu)) [11, 12, 13, 14, 15, 16, 17, 18, 19, 20, 21, 22, 23, 24, 25, 26, 27, 28, 29] (by decide) rfl
  have hKc := hK.sub (tys' := wM_t ca) [8, 9, 10, 11, 12, 13, 14, 15, 16, 17, 18, 19, 20, 21, 22, 23, 24, 25] rfl
  have hFc := va_free (wc := (wM ad ca mv mu)) hD hS hA [11, 12, 13, 14, 15, 16, 17, 18, 19, 20, 21, 22, 23, 24, 25, 26, 27, 28, 29] rfl
  refine zlSv (wr := [(aQ, .inr (4, [.ref aY, .int (pv 1), .ref aS, .ref aNs, .ref aTs, .ref aEs, .ref aDc, .int (pv 7)])), (aDc, .inl (cd, 8, .inr (.inr (.inr (.inr dc))))), (aE, .inr (0, [.ref bE, .int (v 1), .int (v 2), .int (v 3), .int (v 4), .ref rE, .ref pE, .int (v 7), .int (v 8), .int (v 9), .int (v 10), .int (v 11), .int (v 12), .int (v 13), .int (v 14), .int (v 15)])), (bE, .inl (c1, 25, .inl q3.2)), (rE, .inl (c2, 24, .inl rw)), (pE, .inl (c3, 24, .inl pw)), (aE2, .inr (0, [.ref bE2, .int (v2 1), .int (v2 2), .int (v2 3), .int (v2 4), .ref rE2, .ref pE2, .int (v2 7), .int (v2 8), .int (v2 9), .int (v2 10), .int (v2 11), .int (v2 12), .int (v2 13), .int (v2 14), .int (v2 15)])), (bE2, .inl (c12, 25, .inl b2)), (rE2, .inl (c22, 24, .inl rw2)), (pE2, .inl (c32, 24, .inl pw2)), (aO, .inl (co, 1, .inr (.inl ov)))]) (w1 := (wM ad ca q6.1 q6.2)) (w' := (wQDEE2OM aQ aY aS aNs aTs aEs aDc aE bE rE pE aE2 bE2 rE2 pE2 aO ad cd c1 c2 c3 c12 c22 c32 co ca pv dc v q3.2 rw pw v2 b2 rw2 pw2 ov q6.1 q6.2)) (va_runV (As := [.int (xs (x4 + 1).toNatClampNeg), .int (xs (x4 + 2).toNatClampNeg)]) (rest := []) ⟨hx, hb, hml, hown, hw⟩ (k_M_move l D ad ca _ (xs (x4 + 1).toNatClampNeg) (xs (x4 + 2).toNatClampNeg) mv mu  q6 hq6) (zcV (C := RX6) 2 hw (zgood zw648) rfl rfl rfl zw7 zw646 zw647 zw649 hdX6_move ⟨Nat.le_of_ble_eq_true rfl, Nat.le_of_ble_eq_true rfl⟩) (zpreV (zpre zN_ok (A := fun q => s.heap.size ≤ q) trivial (zglob hSg hAs hS) (fun q h => hAs q (hFc q h)) hPc hKc (hDc.weaken (fun _ _ _ h => hAs _ h))) (va_recv hK hP rfl (q0 := 11) rfl)) rfl rfl hl.1 rfl (lv_room (Nat.le_of_ble_eq_true rfl)) dL_law_516 ⟨by show c0 + 0 ≤ 601024; omega, by show s0 + 0 ≤ 7293034; omega⟩) hP hD hS hFc [11, 12, 13, 14, 15, 16, 17, 18, 19, 20, 21, 22, 23, 24, 25, 26, 27, 28, 29] [0, 1, 2, 3, 4, 5, 6, 7, 8, 9, 10] [0, 1, 2, 3, 4, 5, 6, 7, 8, 9, 10, 11, 12, 13, 14, 15, 16, 17, 18, 19, 20, 21, 22, 23, 24, 25, 26, 27, 28, 29] rfl rfl (by decide) (by decide) rfl (by decide) (fun H locs hP hD hS => ?_)
  refine W.widen (k := c0 + 0) (n := s0 + 0) (by omega) (by omega) ?_
  refine lv_aload_n hx hb dL_law_519 rfl (lv_at hl 3 rfl) ?_
  obtain ⟨q7, hq7, hm⟩ := zbind hm
  have hPc := hP.sub (ws' := (wM ad ca q6.1 q6.2)) [11, 12, 13, 14, 15, 16, 17, 18, 19, 20, 21, 22, 23, 24, 25, 26, 27, 28, 29] rfl
  have hDc := hD.sub (ws' := (wM ad ca q6.1 q6.2)) [11, 12, 13, 14, 15, 16, 17, 18, 19, 20, 21, 22, 23, 24, 25, 26, 27, 28, 29] (by decide) rfl
  have hKc := hK.sub (tys' := wM_t ca) [8, 9, 10, 11, 12, 13, 14, 15, 16, 17, 18, 19, 20, 21, 22, 23, 24, 25] rfl
  have hFc := va_free (wc := (wM ad ca q6.1 q6.2)) hD hS hA [11, 12, 13, 14, 15, 16, 17, 18, 19, 20, 21, 22, 23, 24, 25, 26, 27, 28, 29] rfl
  refine zlSi (wr := [(aQ, .inr (4, [.ref aY, .int (pv 1), .ref aS, .ref aNs, .ref aTs, .ref aEs, .ref aDc, .int (pv 7)])), (aDc, .inl (cd, 8, .inr (.inr (.inr (.inr dc))))), (aE, .inr (0, [.ref bE, .int (v 1), .int (v 2), .int (v 3), .int (v 4), .ref rE, .ref pE, .int (v 7), .int (v 8), .int (v 9), .int (v 10), .int (v 11), .int (v 12), .int (v 13), .int (v 14), .int (v 15)])), (bE, .inl (c1, 25, .inl q3.2)), (rE, .inl (c2, 24, .inl rw)), (pE, .inl (c3, 24, .inl pw)), (aE2, .inr (0, [.ref bE2, .int (v2 1), .int (v2 2), .int (v2 3), .int (v2 4), .ref rE2, .ref pE2, .int (v2 7), .int (v2 8), .int (v2 9), .int (v2 10), .int (v2 11), .int (v2 12), .int (v2 13), .int (v2 14), .int (v2 15)])), (bE2, .inl (c12, 25, .inl b2)), (rE2, .inl (c22, 24, .inl rw2)), (pE2, .inl (c32, 24, .inl pw2)), (aO, .inl (co, 1, .inr (.inl ov)))]) (w1 := (wM ad ca q6.1 q6.2)) (w' := (wQDEE2OM aQ aY aS aNs aTs aEs aDc aE bE rE pE aE2 bE2 rE2 pE2 aO ad cd c1 c2 c3 c12 c22 c32 co ca pv dc v q3.2 rw pw v2 b2 rw2 pw2 ov q6.1 q6.2)) (va_runV (As := []) (rest := []) ⟨hx, hb, hml, hown, hw⟩ (k_M_thrown l D ad ca _ q6.1 q6.2  q7 hq7) (zcV (C := RX6) 0 hw (zgood zw596) rfl rfl rfl zw7 zw594 zw595 zw597 hdX6_thrown ⟨Nat.le_of_ble_eq_true rfl, Nat.le_of_ble_eq_true rfl⟩) (zpreV (zpre zN_ok (A := fun q => s.heap.size ≤ q) trivial (zglob hSg hAs hS) (fun q h => hAs q (hFc q h)) hPc hKc (hDc.weaken (fun _ _ _ h => hAs _ h))) (va_recv hK hP rfl (q0 := 11) rfl)) rfl rfl hl.1 rfl (lv_room (Nat.le_of_ble_eq_true rfl)) dL_law_520 ⟨by show c0 + 0 ≤ 601024; omega, by show s0 + 0 ≤ 7293034; omega⟩) hP hD hS hFc [11, 12, 13, 14, 15, 16, 17, 18, 19, 20, 21, 22, 23, 24, 25, 26, 27, 28, 29] [0, 1, 2, 3, 4, 5, 6, 7, 8, 9, 10] [0, 1, 2, 3, 4, 5, 6, 7, 8, 9, 10, 11, 12, 13, 14, 15, 16, 17, 18, 19, 20, 21, 22, 23, 24, 25, 26, 27, 28, 29] rfl rfl (by decide) (by decide) rfl (by decide) (fun H locs hP hD hS => ?_)
  refine W.widen (k := c0 + 0) (n := s0 + 0) (by omega) (by omega) ?_
  refine lv_iload hx hb dL_law_523 (lv_at hl 0 rfl) ?_
  refine lv_icmp_eq (tgt := 530) hx hb dL_law_525 rfl (fun cd8 => ?_) (fun cd8 => ?_)
  · replace hm := zt cd8 hm
    refine lv_goto (tgt := 588) hx hb dL_law_530 rfl ?_
    cases hm
    refine W.widen (k := c0 + 1) (n := s0 + 6) (by omega) (by omega) ?_
    exact kk _ _ _ hP hD hS (lv_sub hl [1, 2, 3, 4, 5] rfl)
  · replace hm := zf cd8 hm
    refine lv_iconst (v := 0) hx hb dL_law_528 (by decide) ?_
    cases hm

def m_F_L_move_n (xs : Nat → Int32) (L : Nat) (x4 : Int32) (pv : Nat → Int32) (dc : Nat → Option Nat) (ov : Nat → Int64) (mv : Nat → Int32) (mu : Nat → Nat → Int32)  : Option ((Nat → Int32) × (Nat → Nat → Int32)) := zix (x4 + 1) L (zix (x4 + 2) L ((m_L_move_n (xs (x4 + 1).toNatClampNeg) (xs (x4 + 2).toNatClampNeg) pv dc).bind (fun q3 => zix (x4 + 1) L (zix (x4 + 2) L ((m_M_move (xs (x4 + 1).toNatClampNeg) (xs (x4 + 2).toNatClampNeg) mv mu).bind (fun q6 => (m_M_thrown q6.1 q6.2).bind (fun q7 => (if q7 = q3 then (some (q6.1, q6.2)) else none))))))))
set_option maxRecDepth 100000 in
set_option maxHeartbeats 4000000 in
theorem f_F_L_move_n {p : Program} {l : Launch} {e : Env} {s : State} {m : MethodId} {args : Array Value} {below : List Frame} {meth : Method} {c : Code} {D : va_G} {w0 : va_W} {H0 : Heap} {Q : State → Prop} {sb L : Nat} {xs : Nat → Int32} {x4 : Int32} {c0 s0 : Nat} (aQ aY aS aNs aTs aEs aDc aO : Nat) (ad : Nat → Nat) (cd co : ClassId) (ca : Nat → ClassId) (pv : Nat → Int32) (dc : Nat → Option Nat) (ov : Nat → Int64) (mv : Nat → Int32) (mu : Nat → Nat → Int32) (G : zG p s m args meth c cL_law RL 8 (some .boolean)) (hK : va_K D vwCl (wQDOM_t cd co ca) s) (hX : zW (fun q => s.heap.size ≤ q) s) (hl0 : l.stackTraces = false) (hSg : va_S (fun q => s.heap.size ≤ q) s.heap H0 []) (hAs : ∀ q, (va_A w0 H0.size) q → s.heap.size ≤ q) (hsb : va_X sb L xs s H0) (hbl : sb < H0.size) (hbA : ¬ (va_A w0 H0.size) sb) (hc0 : c0 + 1 ≤ 601024) (hs0 : s0 + 6 ≤ 7293034) {res : (Nat → Int32) × (Nat → Nat → Int32)} (hm : m_F_L_move_n xs L x4 pv dc ov mv mu  = some res)
    (kk : ∀ (H : Heap) (locs : List Loc) (ls : Array Slot), va_P D vwCl (wQDOM aQ aY aS aNs aTs aEs aDc aO ad cd co ca pv dc ov res.1 res.2) H → va_D (va_A w0 H0.size) (wQDOM aQ aY aS aNs aTs aEs aDc aO ad cd co ca pv dc ov res.1 res.2) → va_S (va_A w0 H0.size) H0 H locs → lv_has ls 8 [(0, .ref sb), (1, .ref aQ), (2, .ref (ad 0)), (3, .ref aO), (4, .int x4)] → W p l e room_1 s m args below meth c H locs (c0 + 1) (s0 + 6) Q (F0 m 588 ls []))
    (H : Heap) (locs : List Loc) (ls : Array Slot) (hP : va_P D vwCl (wQDOM aQ aY aS aNs aTs aEs aDc aO ad cd co ca pv dc ov mv mu) H) (hD : va_D (va_A w0 H0.size) (wQDOM aQ aY aS aNs aTs aEs aDc aO ad cd co ca pv dc ov mv mu)) (hS : va_S (va_A w0 H0.size) H0 H locs) (hl : lv_has ls 8 [(0, .ref sb), (1, .ref aQ), (2, .ref (ad 0)), (3, .ref aO), (4, .int x4)]) : W p l e room_1 s m args below meth c H locs c0 s0 Q (F0 m 485 ls []) := by
  obtain ⟨hx, hb, hr, hml, hown, hw, hlk⟩ := G
  have hA : ∀ q, H0.size ≤ q → (va_A w0 H0.size) q := fun q h => Or.inr h
  unfold m_F_L_move_n at hm
  refine lv_aload_n hx hb dL_law_485 rfl (lv_at hl 1 rfl) ?_
  refine lv_aload_n hx hb dL_law_486 rfl (lv_at hl 0 rfl) ?_
  refine lv_iload hx hb dL_law_487 (lv_at hl 4 rfl) ?_
  refine lv_iconst (v := 1) hx hb dL_law_489 (by decide) ?_
  refine lv_iadd hx hb dL_law_490 ?_
  obtain ⟨hi1, hm⟩ := zix_s hm
  refine va_sld (i := (x4 + 1)) (xs := xs) hx hb hsb hbl hbA hS hi1 dL_law_491 ?_
  refine lv_aload_n hx hb dL_law_492 rfl (lv_at hl 0 rfl) ?_
  refine lv_iload hx hb dL_law_493 (lv_at hl 4 rfl) ?_
  refine lv_iconst (v := 2) hx hb dL_law_495 (by decide) ?_
  refine lv_iadd hx hb dL_law_496 ?_
  obtain ⟨hi2, hm⟩ := zix_s hm
  refine va_sld (i := (x4 + 2)) (xs := xs) hx hb hsb hbl hbA hS hi2 dL_law_497 ?_
  obtain ⟨q3, hq3, hm⟩ := zbind hm
  have hPc := hP.sub (ws' := (wQD aQ aY aS aNs aTs aEs aDc cd pv dc)) [0, 1] rfl
  have hDc := hD.sub (ws' := (wQD aQ aY aS aNs aTs aEs aDc cd pv dc)) [0, 1] (by decide) rfl
  have hKc := hK.sub (tys' := wQD_t cd) [0] rfl
  have hFc := va_free (wc := (wQD aQ aY aS aNs aTs aEs aDc cd pv dc)) hD hS hA [0, 1] rfl
  refine zlSi (wr := [(aO, .inl (co, 1, .inr (.inl ov))), ((ad 0), .inr (5, [.int (mv 0), .int (mv 1), .ref (ad 1), .int (mv 3), .ref (ad 2), .ref (ad 3), .ref (ad 4), .ref (ad 5), .ref (ad 6), .ref (ad 7), .ref (ad 8), .ref (ad 9), .ref (ad 10), .ref (ad 11), .ref (ad 12), .ref (ad 13), .ref (ad 14), .ref (ad 15), .ref (ad 16), .ref (ad 17), .int (mv 20), .int (mv 21), .ref (ad 18), .int (mv 23)])), ((ad 1), .inl ((ca 1), 24, .inl (mu 1))), ((ad 2), .inl ((ca 2), 9, .inl (mu 2))), ((ad 3), .inl ((ca 3), 216, .inl (mu 3))), ((ad 4), .inl ((ca 4), 216, .inl (mu 4))), ((ad 5), .inl ((ca 5), 9, .inl (mu 5))), ((ad 6), .inl ((ca 6), 9, .inl (mu 6))), ((ad 7), .inl ((ca 7), 9, .inl (mu 7))), ((ad 8), .inl ((ca 8), 9, .inl (mu 8))), ((ad 9), .inl ((ca 9), 9, .inl (mu 9))), ((ad 10), .inl ((ca 10), 9, .inl (mu 10))), ((ad 11), .inl ((ca 11), 9, .inl (mu 11))), ((ad 12), .inl ((ca 12), 9, .inl (mu 12))), ((ad 13), .inl ((ca 13), 9, .inl (mu 13))), ((ad 14), .inl ((ca 14), 9, .inl (mu 14))), ((ad 15), .inl ((ca 15), 9, .inl (mu 15))), ((ad 16), .inl ((ca 16), 256, .inl (mu 16))), ((ad 17), .inl ((ca 17), 48, .inl (mu 17))), ((ad 18), .inl ((ca 18), 32, .inl (mu 18)))]) (w1 := (wQD aQ aY aS aNs aTs aEs aDc cd pv dc)) (w' := (wQDOM aQ aY aS aNs aTs aEs aDc aO ad cd co ca pv dc ov mv mu)) (vx_runSW (As := [.ref aQ, .int (xs (x4 + 1).toNatClampNeg), .int (xs (x4 + 2).toNatClampNeg)]) (rest := []) ⟨hx, hb, hml, hown, hw⟩ (k_L_move_n l D aQ aY aS aNs aTs aEs aDc cd _ (xs (x4 + 1).toNatClampNeg) (xs (x4 + 2).toNatClampNeg) pv dc hl0 q3 hq3) (vx_cwSW 3 hw (zgoodW (List.forall_mem_cons.mpr ⟨zw643, List.forall_mem_cons.mpr ⟨zw644, List.forall_mem_cons.mpr ⟨zw587, fun _ h => absurd h List.not_mem_nil⟩⟩⟩) zw645) rfl rfl rfl hdL_move ⟨Nat.le_of_ble_eq_true rfl, Nat.le_of_ble_eq_true rfl⟩) (zpre zW_ok (A := fun q => s.heap.size ≤ q) hX (zglob hSg hAs hS) (fun q h => hAs q (hFc q h)) hPc hKc (hDc.weaken (fun _ _ _ h => hAs _ h))) rfl rfl hl.1 rfl (lv_room (Nat.le_of_ble_eq_true rfl)) dL_law_498 ⟨by show c0 + 1 ≤ 601024; omega, by show s0 + 6 ≤ 7293034; omega⟩) hP hD hS hFc [0, 1] [2, 3, 4, 5, 6, 7, 8, 9, 10, 11, 12, 13, 14, 15, 16, 17, 18, 19, 20, 21] [20, 21, 0, 1, 2, 3, 4, 5, 6, 7, 8, 9, 10, 11, 12, 13, 14, 15, 16, 17, 18, 19] rfl rfl (by decide) (by decide) rfl (by decide) (fun H locs hP hD hS => ?_)
  refine W.widen (k := c0 + 1) (n := s0 + 6) (by omega) (by omega) ?_
  refine lv_istore (lv' := [(5, .int q3), (0, .ref sb), (1, .ref aQ), (2, .ref (ad 0)), (3, .ref aO), (4, .int x4)]) hx hb dL_law_501 hl (by decide) rfl (fun ls hl => ?_)
  refine lv_aload_n hx hb dL_law_503 rfl (lv_at hl 3 rfl) ?_
  refine lv_aload_n hx hb dL_law_504 rfl (lv_at hl 1 rfl) ?_
  refine lv_iload hx hb dL_law_505 (lv_at hl 5 rfl) ?_
  refine lv_iconst (v := 1) hx hb dL_law_507 (by decide) ?_
  refine lv_iadd hx hb dL_law_508 ?_
  obtain ⟨hi4, hm⟩ := zix_s hm
  refine va_sld (i := (x4 + 1)) (xs := xs) hx hb hsb hbl hbA hS hi4 dL_law_509 ?_
  refine lv_aload_n hx hb dL_law_510 rfl (lv_at hl 1 rfl) ?_
  refine lv_iload hx hb dL_law_511 (lv_at hl 5 rfl) ?_
  refine lv_iconst (v := 2) hx hb dL_law_513 (by decide) ?_
  refine lv_iadd hx hb dL_law_514 ?_
  obtain ⟨hi5, hm⟩ := zix_s hm
  refine va_sld (i := (x4 + 2)) (xs := xs) hx hb hsb hbl hbA hS hi5 dL_law_515 ?_
  obtain ⟨q6, hq6, hm⟩ := zbind hm
  have hPc := hP.sub (ws' := (wM ad ca mv mu)) [3, 4, 5, 6, 7, 8, 9, 10, 11, 12, 13, 14, 15, 16, 17, 18, 19, 20, 21] rfl
  have hDc := hD.sub (ws' := (wM ad ca mv mu)) [3, 4, 5, 6, 7, 8, 9, 10, 11, 12, 13, 14, 15, 16, 17, 18, 19, 20, 21] (by decide) rfl
  have hKc := hK.sub (tys' := wM_t ca) [2, 3, 4, 5, 6, 7, 8, 9, 10, 11, 12, 13, 14, 15, 16, 17, 18, 19] rfl
  have hFc := va_free (wc := (wM ad ca mv mu)) hD hS hA [3, 4, 5, 6, 7, 8, 9, 10, 11, 12, 13, 14, 15, 16, 17, 18, 19, 20, 21] rfl
  refine zlSv (wr := [(aQ, .inr (4, [.ref aY, .int (pv 1), .ref aS, .ref aNs, .ref aTs, .ref aEs, .ref aDc, .int (pv 7)])), (aDc, .inl (cd, 8, .inr (.inr (.inr (.inr dc))))), (aO, .inl (co, 1, .inr (.inl ov)))]) (w1 := (wM ad ca q6.1 q6.2)) (w' := (wQDOM aQ aY aS aNs aTs aEs aDc aO ad cd co ca pv dc ov q6.1 q6.2)) (va_runV (As := [.int (xs (x4 + 1).toNatClampNeg), .int (xs (x4 + 2).toNatClampNeg)]) (rest := []) ⟨hx, hb, hml, hown, hw⟩ (k_M_move l D ad ca _ (xs (x4 + 1).toNatClampNeg) (xs (x4 + 2).toNatClampNeg) mv mu  q6 hq6) (zcV (C := RX6) 2 hw (zgood zw648) rfl rfl rfl zw7 zw646 zw647 zw649 hdX6_move ⟨Nat.le_of_ble_eq_true rfl, Nat.le_of_ble_eq_true rfl⟩) (zpreV (zpre zN_ok (A := fun q => s.heap.size ≤ q) trivial (zglob hSg hAs hS) (fun q h => hAs q (hFc q h)) hPc hKc (hDc.weaken (fun _ _ _ h => hAs _ h))) (va_recv hK hP rfl (q0 := 3) rfl)) rfl rfl hl.1 rfl (lv_room (Nat.le_of_ble_eq_true rfl)) dL_law_516 ⟨by show c0 + 1 ≤ 601024; omega, by show s0 + 6 ≤ 7293034; omega⟩) hP hD hS hFc [3, 4, 5, 6, 7, 8, 9, 10, 11, 12, 13, 14, 15, 16, 17, 18, 19, 20, 21] [0, 1, 2] [0, 1, 2, 3, 4, 5, 6, 7, 8, 9, 10, 11, 12, 13, 14, 15, 16, 17, 18, 19, 20, 21] rfl rfl (by decide) (by decide) rfl (by decide) (fun H locs hP hD hS => ?_)
  refine W.widen (k := c0 + 1) (n := s0 + 6) (by omega) (by omega) ?_
  refine lv_aload_n hx hb dL_law_519 rfl (lv_at hl 3 rfl) ?_
  obtain ⟨q7, hq7, hm⟩ := zbind hm
  have hPc := hP.sub (ws' := (wM ad ca q6.1 q6.2)) [3, 4, 5, 6, 7, 8, 9, 10, 11, 12, 13, 14, 15, 16, 17, 18, 19, 20, 21] rfl
  have hDc := hD.sub (ws' := (wM ad ca q6.1 q6.2)) [3, 4, 5, 6, 7, 8, 9, 10, 11, 12, 13, 14, 15, 16, 17, 18, 19, 20, 21] (by decide) rfl
  have hKc := hK.sub (tys' := wM_t ca) [2, 3, 4, 5, 6, 7, 8, 9, 10, 11, 12, 13, 14, 15, 16, 17, 18, 19] rfl
  have hFc := va_free (wc := (wM ad ca q6.1 q6.2)) hD hS hA [3, 4, 5, 6, 7, 8, 9, 10, 11, 12, 13, 14, 15, 16, 17, 18, 19, 20, 21] rfl
  refine zlSi (wr := [(aQ, .inr (4, [.ref aY, .int (pv 1), .ref aS, .ref aNs, .ref aTs, .ref aEs, .ref aDc, .int (pv 7)])), (aDc, .inl (cd, 8, .inr (.inr (.inr (.inr dc))))), (aO, .inl (co, 1, .inr (.inl ov)))]) (w1 := (wM ad ca q6.1 q6.2)) (w' := (wQDOM aQ aY aS aNs aTs aEs aDc aO ad cd co ca pv dc ov q6.1 q6.2)) (va_runV (As := []) (rest := []) ⟨hx, hb, hml, hown, hw⟩ (k_M_thrown l D ad ca _ q6.1 q6.2  q7 hq7) (zcV (C := RX6) 0 hw (zgood zw596) rfl rfl rfl zw7 zw594 zw595 zw597 hdX6_thrown ⟨Nat.le_of_ble_eq_true rfl, Nat.le_of_ble_eq_true rfl⟩) (zpreV (zpre zN_ok (A := fun q => s.heap.size ≤ q) trivial (zglob hSg hAs hS) (fun q h => hAs q (hFc q h)) hPc hKc (hDc.weaken (fun _ _ _ h => hAs _ h))) (va_recv hK hP rfl (q0 := 3) rfl)) rfl rfl hl.1 rfl (lv_room (Nat.le_of_ble_eq_true rfl)) dL_law_520 ⟨by show c0 + 1 ≤ 601024; omega, by show s0 + 6 ≤ 7293034; omega⟩) hP hD hS hFc [3, 4, 5, 6, 7, 8, 9, 10, 11, 12, 13, 14, 15, 16, 17, 18, 19, 20, 21] [0, 1, 2] [0, 1, 2, 3, 4, 5, 6, 7, 8, 9, 10, 11, 12, 13, 14, 15, 16, 17, 18, 19, 20, 21] rfl rfl (by decide) (by decide) rfl (by decide) (fun H locs hP hD hS => ?_)
  refine W.widen (k := c0 + 1) (n := s0 + 6) (by omega) (by omega) ?_
  refine lv_iload hx hb dL_law_523 (lv_at hl 0 rfl) ?_
  refine lv_icmp_eq (tgt := 530) hx hb dL_law_525 rfl (fun cd8 => ?_) (fun cd8 => ?_)
  · replace hm := zt cd8 hm
    refine lv_goto (tgt := 588) hx hb dL_law_530 rfl ?_
    cases hm
    refine W.widen (k := c0 + 1) (n := s0 + 6) (by omega) (by omega) ?_
    exact kk _ _ _ hP hD hS (lv_sub hl [1, 2, 3, 4, 5] rfl)
  · replace hm := zf cd8 hm
    refine lv_iconst (v := 0) hx hb dL_law_528 (by decide) ?_
    cases hm

def m_F_L_move_n2 (xs : Nat → Int32) (L : Nat) (x4 : Int32) (pv : Nat → Int32) (dc : Nat → Option Nat) (ov : Nat → Int64) (mv : Nat → Int32) (mu : Nat → Nat → Int32)  : Option ((Nat → Int32) × (Nat → Nat → Int32)) := zix (x4 + 1) L (zix (x4 + 2) L ((m_L_move_n2 (xs (x4 + 1).toNatClampNeg) (xs (x4 + 2).toNatClampNeg) pv dc).bind (fun q3 => zix (x4 + 1) L (zix (x4 + 2) L ((m_M_move (xs (x4 + 1).toNatClampNeg) (xs (x4 + 2).toNatClampNeg) mv mu).bind (fun q6 => (m_M_thrown q6.1 q6.2).bind (fun q7 => (if q7 = q3 then (some (q6.1, q6.2)) else none))))))))
set_option maxRecDepth 100000 in
set_option maxHeartbeats 4000000 in
theorem f_F_L_move_n2 {p : Program} {l : Launch} {e : Env} {s : State} {m : MethodId} {args : Array Value} {below : List Frame} {meth : Method} {c : Code} {D : va_G} {w0 : va_W} {H0 : Heap} {Q : State → Prop} {sb L : Nat} {xs : Nat → Int32} {x4 : Int32} {c0 s0 : Nat} (aQ aY aS aNs aTs aEs aDc aO aF : Nat) (ad : Nat → Nat) (cd co : ClassId) (ca : Nat → ClassId) (pv : Nat → Int32) (dc : Nat → Option Nat) (ov : Nat → Int64) (mv : Nat → Int32) (mu : Nat → Nat → Int32) (G : zG p s m args meth c cL_law RL 8 (some .boolean)) (hK : va_K D vwCl (wQDfOM_t cd co ca) s) (hX : zW (fun q => s.heap.size ≤ q) s) (hl0 : l.stackTraces = false) (hSg : va_S (fun q => s.heap.size ≤ q) s.heap H0 []) (hAs : ∀ q, (va_A w0 H0.size) q → s.heap.size ≤ q) (hsb : va_X sb L xs s H0) (hbl : sb < H0.size) (hbA : ¬ (va_A w0 H0.size) sb) (hc0 : c0 + 1 ≤ 601024) (hs0 : s0 + 6 ≤ 7293034) (hd : dc (xs (x4 + 1).toNatClampNeg).toNatClampNeg = some aF) {res : (Nat → Int32) × (Nat → Nat → Int32)} (hm : m_F_L_move_n2 xs L x4 pv dc ov mv mu  = some res)
    (kk : ∀ (H : Heap) (locs : List Loc) (ls : Array Slot), va_P D vwCl (wQDfOM aQ aY aS aNs aTs aEs aDc aO aF ad cd co ca pv dc ov res.1 res.2) H → va_D (va_A w0 H0.size) (wQDfOM aQ aY aS aNs aTs aEs aDc aO aF ad cd co ca pv dc ov res.1 res.2) → va_S (va_A w0 H0.size) H0 H locs → lv_has ls 8 [(0, .ref sb), (1, .ref aQ), (2, .ref (ad 0)), (3, .ref aO), (4, .int x4)] → W p l e room_1 s m args below meth c H locs (c0 + 1) (s0 + 6) Q (F0 m 588 ls []))
    (H : Heap) (locs : List Loc) (ls : Array Slot) (hP : va_P D vwCl (wQDfOM aQ aY aS aNs aTs aEs aDc aO aF ad cd co ca pv dc ov mv mu) H) (hD : va_D (va_A w0 H0.size) (wQDfOM aQ aY aS aNs aTs aEs aDc aO aF ad cd co ca pv dc ov mv mu)) (hS : va_S (va_A w0 H0.size) H0 H locs) (hl : lv_has ls 8 [(0, .ref sb), (1, .ref aQ), (2, .ref (ad 0)), (3, .ref aO), (4, .int x4)]) : W p l e room_1 s m args below meth c H locs c0 s0 Q (F0 m 485 ls []) := by
  obtain ⟨hx, hb, hr, hml, hown, hw, hlk⟩ := G
  have hA : ∀ q, H0.size ≤ q → (va_A w0 H0.size) q := fun q h => Or.inr h
  unfold m_F_L_move_n2 at hm
  refine lv_aload_n hx hb dL_law_485 rfl (lv_at hl 1 rfl) ?_
  refine lv_aload_n hx hb dL_law_486 rfl (lv_at hl 0 rfl) ?_
  refine lv_iload hx hb dL_law_487 (lv_at hl 4 rfl) ?_
  refine lv_iconst (v := 1) hx hb dL_law_489 (by decide) ?_
  refine lv_iadd hx hb dL_law_490 ?_
  obtain ⟨hi1, hm⟩ := zix_s hm
  refine va_sld (i := (x4 + 1)) (xs := xs) hx hb hsb hbl hbA hS hi1 dL_law_491 ?_
  refine lv_aload_n hx hb dL_law_492 rfl (lv_at hl 0 rfl) ?_
  refine lv_iload hx hb dL_law_493 (lv_at hl 4 rfl) ?_
  refine lv_iconst (v := 2) hx hb dL_law_495 (by decide) ?_
  refine lv_iadd hx hb dL_law_496 ?_
  obtain ⟨hi2, hm⟩ := zix_s hm
  refine va_sld (i := (x4 + 2)) (xs := xs) hx hb hsb hbl hbA hS hi2 dL_law_497 ?_
  obtain ⟨q3, hq3, hm⟩ := zbind hm
  have hPc := hP.sub (ws' := (wQDf aQ aY aS aNs aTs aEs aDc aF cd pv dc)) [0, 1] rfl
  have hDc := hD.sub (ws' := (wQDf aQ aY aS aNs aTs aEs aDc aF cd pv dc)) [0, 1] (by decide) rfl
  have hKc := hK.sub (tys' := wQDf_t cd) [0] rfl
  have hFc := va_free (wc := (wQDf aQ aY aS aNs aTs aEs aDc aF cd pv dc)) hD hS hA [0, 1] rfl
  refine zlSi (wr := [(aO, .inl (co, 1, .inr (.inl ov))), ((ad 0), .inr (5, [.int (mv 0), .int (mv 1), .ref (ad 1), .int (mv 3), .ref (ad 2), .ref (ad 3), .ref (ad 4), .ref (ad 5), .ref (ad 6), .ref (ad 7), .ref (ad 8), .ref (ad 9), .ref (ad 10), .ref (ad 11), .ref (ad 12), .ref (ad 13), .ref (ad 14), .ref (ad 15), .ref (ad 16), .ref (ad 17), .int (mv 20), .int (mv 21), .ref (ad 18), .int (mv 23)])), ((ad 1), .inl ((ca 1), 24, .inl (mu 1))), ((ad 2), .inl ((ca 2), 9, .inl (mu 2))), ((ad 3), .inl ((ca 3), 216, .inl (mu 3))), ((ad 4), .inl ((ca 4), 216, .inl (mu 4))), ((ad 5), .inl ((ca 5), 9, .inl (mu 5))), ((ad 6), .inl ((ca 6), 9, .inl (mu 6))), ((ad 7), .inl ((ca 7), 9, .inl (mu 7))), ((ad 8), .inl ((ca 8), 9, .inl (mu 8))), ((ad 9), .inl ((ca 9), 9, .inl (mu 9))), ((ad 10), .inl ((ca 10), 9, .inl (mu 10))), ((ad 11), .inl ((ca 11), 9, .inl (mu 11))), ((ad 12), .inl ((ca 12), 9, .inl (mu 12))), ((ad 13), .inl ((ca 13), 9, .inl (mu 13))), ((ad 14), .inl ((ca 14), 9, .inl (mu 14))), ((ad 15), .inl ((ca 15), 9, .inl (mu 15))), ((ad 16), .inl ((ca 16), 256, .inl (mu 16))), ((ad 17), .inl ((ca 17), 48, .inl (mu 17))), ((ad 18), .inl ((ca 18), 32, .inl (mu 18)))]) (w1 := (wQDf aQ aY aS aNs aTs aEs aDc aF cd pv dc)) (w' := (wQDfOM aQ aY aS aNs aTs aEs aDc aO aF ad cd co ca pv dc ov mv mu)) (vx_runSW (As := [.ref aQ, .int (xs (x4 + 1).toNatClampNeg), .int (xs (x4 + 2).toNatClampNeg)]) (rest := []) ⟨hx, hb, hml, hown, hw⟩ (k_L_move_n2 l D aQ aY aS aNs aTs aEs aDc aF cd _ (xs (x4 + 1).toNatClampNeg) (xs (x4 + 2).toNatClampNeg) pv dc hl0 hd q3 hq3) (vx_cwSW 3 hw (zgoodW (List.forall_mem_cons.mpr ⟨zw643, List.forall_mem_cons.mpr ⟨zw644, List.forall_mem_cons.mpr ⟨zw587, fun _ h => absurd h List.not_mem_nil⟩⟩⟩) zw645) rfl rfl rfl hdL_move ⟨Nat.le_of_ble_eq_true rfl, Nat.le_of_ble_eq_true rfl⟩) (zpre zW_ok (A := fun q => s.heap.size ≤ q) hX (zglob hSg hAs hS) (fun q h => hAs q (hFc q h)) hPc hKc (hDc.weaken (fun _ _ _ h => hAs _ h))) rfl rfl hl.1 rfl (lv_room (Nat.le_of_ble_eq_true rfl)) dL_law_498 ⟨by show c0 + 1 ≤ 601024; omega, by show s0 + 6 ≤ 7293034; omega⟩) hP hD hS hFc [0, 1] [2, 3, 4, 5, 6, 7, 8, 9, 10, 11, 12, 13, 14, 15, 16, 17, 18, 19, 20, 21] [20, 21, 0, 1, 2, 3, 4, 5, 6, 7, 8, 9, 10, 11, 12, 13, 14, 15, 16, 17, 18, 19] rfl rfl (by decide) (by decide) rfl (by decide) (fun H locs hP hD hS => ?_)
  refine W.widen (k := c0 + 1) (n := s0 + 6) (by omega) (by omega) ?_
  refine lv_istore (lv' := [(5, .int q3), (0, .ref sb), (1, .ref aQ), (2, .ref (ad 0)), (3, .ref aO), (4, .int x4)]) hx hb dL_law_501 hl (by decide) rfl (fun ls hl => ?_)
  refine lv_aload_n hx hb dL_law_503 rfl (lv_at hl 3 rfl) ?_
  refine lv_aload_n hx hb dL_law_504 rfl (lv_at hl 1 rfl) ?_
  refine lv_iload hx hb dL_law_505 (lv_at hl 5 rfl) ?_
  refine lv_iconst (v := 1) hx hb dL_law_507 (by decide) ?_
  refine lv_iadd hx hb dL_law_508 ?_
  obtain ⟨hi4, hm⟩ := zix_s hm
  refine va_sld (i := (x4 + 1)) (xs := xs) hx hb hsb hbl hbA hS hi4 dL_law_509 ?_
  refine lv_aload_n hx hb dL_law_510 rfl (lv_at hl 1 rfl) ?_
  refine lv_iload hx hb dL_law_511 (lv_at hl 5 rfl) ?_
  refine lv_iconst (v := 2) hx hb dL_law_513 (by decide) ?_
  refine lv_iadd hx hb dL_law_514 ?_
  obtain ⟨hi5, hm⟩ := zix_s hm
  refine va_sld (i := (x4 + 2)) (xs := xs) hx hb hsb hbl hbA hS hi5 dL_law_515 ?_
  obtain ⟨q6, hq6, hm⟩ := zbind hm
  have hPc := hP.sub (ws' := (wM ad ca mv mu)) [3, 4, 5, 6, 7, 8, 9, 10, 11, 12, 13, 14, 15, 16, 17, 18, 19, 20, 21] rfl
  have hDc := hD.sub (ws' := (wM ad ca mv mu)) [3, 4, 5, 6, 7, 8, 9, 10, 11, 12, 13, 14, 15, 16, 17, 18, 19, 20, 21] (by decide) rfl
  have hKc := hK.sub (tys' := wM_t ca) [2, 3, 4, 5, 6, 7, 8, 9, 10, 11, 12, 13, 14, 15, 16, 17, 18, 19] rfl
  have hFc := va_free (wc := (wM ad ca mv mu)) hD hS hA [3, 4, 5, 6, 7, 8, 9, 10, 11, 12, 13, 14, 15, 16, 17, 18, 19, 20, 21] rfl
  refine zlSv (wr := [(aQ, .inr (4, [.ref aY, .int (pv 1), .ref aS, .ref aNs, .ref aTs, .ref aEs, .ref aDc, .int (pv 7)])), (aDc, .inl (cd, 8, .inr (.inr (.inr (.inr dc))))), (aO, .inl (co, 1, .inr (.inl ov)))]) (w1 := (wM ad ca q6.1 q6.2)) (w' := (wQDfOM aQ aY aS aNs aTs aEs aDc aO aF ad cd co ca pv dc ov q6.1 q6.2)) (va_runV (As := [.int (xs (x4 + 1).toNatClampNeg), .int (xs (x4 + 2).toNatClampNeg)]) (rest := []) ⟨hx, hb, hml, hown, hw⟩ (k_M_move l D ad ca _ (xs (x4 + 1).toNatClampNeg) (xs (x4 + 2).toNatClampNeg) mv mu  q6 hq6) (zcV (C := RX6) 2 hw (zgood zw648) rfl rfl rfl zw7 zw646 zw647 zw649 hdX6_move ⟨Nat.le_of_ble_eq_true rfl, Nat.le_of_ble_eq_true rfl⟩) (zpreV (zpre zN_ok (A := fun q => s.heap.size ≤ q) trivial (zglob hSg hAs hS) (fun q h => hAs q (hFc q h)) hPc hKc (hDc.weaken (fun _ _ _ h => hAs _ h))) (va_recv hK hP rfl (q0 := 3) rfl)) rfl rfl hl.1 rfl (lv_room (Nat.le_of_ble_eq_true rfl)) dL_law_516 ⟨by show c0 + 1 ≤ 601024; omega, by show s0 + 6 ≤ 7293034; omega⟩) hP hD hS hFc [3, 4, 5, 6, 7, 8, 9, 10, 11, 12, 13, 14, 15, 16, 17, 18, 19, 20, 21] [0, 1, 2] [0, 1, 2, 3, 4, 5, 6, 7, 8, 9, 10, 11, 12, 13, 14, 15, 16, 17, 18, 19, 20, 21] rfl rfl (by decide) (by decide) rfl (by decide) (fun H locs hP hD hS => ?_)
  refine W.widen (k := c0 + 1) (n := s0 + 6) (by omega) (by omega) ?_
  refine lv_aload_n hx hb dL_law_519 rfl (lv_at hl 3 rfl) ?_
  obtain ⟨q7, hq7, hm⟩ := zbind hm
  have hPc := hP.sub (ws' := (wM ad ca q6.1 q6.2)) [3, 4, 5, 6, 7, 8, 9, 10, 11, 12, 13, 14, 15, 16, 17, 18, 19, 20, 21] rfl
  have hDc := hD.sub (ws' := (wM ad ca q6.1 q6.2)) [3, 4, 5, 6, 7, 8, 9, 10, 11, 12, 13, 14, 15, 16, 17, 18, 19, 20, 21] (by decide) rfl
  have hKc := hK.sub (tys' := wM_t ca) [2, 3, 4, 5, 6, 7, 8, 9, 10, 11, 12, 13, 14, 15, 16, 17, 18, 19] rfl
  have hFc := va_free (wc := (wM ad ca q6.1 q6.2)) hD hS hA [3, 4, 5, 6, 7, 8, 9, 10, 11, 12, 13, 14, 15, 16, 17, 18, 19, 20, 21] rfl
  refine zlSi (wr := [(aQ, .inr (4, [.ref aY, .int (pv 1), .ref aS, .ref aNs, .ref aTs, .ref aEs, .ref aDc, .int (pv 7)])), (aDc, .inl (cd, 8, .inr (.inr (.inr (.inr dc))))), (aO, .inl (co, 1, .inr (.inl ov)))]) (w1 := (wM ad ca q6.1 q6.2)) (w' := (wQDfOM aQ aY aS aNs aTs aEs aDc aO aF ad cd co ca pv dc ov q6.1 q6.2)) (va_runV (As := []) (rest := []) ⟨hx, hb, hml, hown, hw⟩ (k_M_thrown l D ad ca _ q6.1 q6.2  q7 hq7) (zcV (C := RX6) 0 hw (zgood zw596) rfl rfl rfl zw7 zw594 zw595 zw597 hdX6_thrown ⟨Nat.le_of_ble_eq_true rfl, Nat.le_of_ble_eq_true rfl⟩) (zpreV (zpre zN_ok (A := fun q => s.heap.size ≤ q) trivial (zglob hSg hAs hS) (fun q h => hAs q (hFc q h)) hPc hKc (hDc.weaken (fun _ _ _ h => hAs _ h))) (va_recv hK hP rfl (q0 := 3) rfl)) rfl rfl hl.1 rfl (lv_room (Nat.le_of_ble_eq_true rfl)) dL_law_520 ⟨by show c0 + 1 ≤ 601024; omega, by show s0 + 6 ≤ 7293034; omega⟩) hP hD hS hFc [3, 4, 5, 6, 7, 8, 9, 10, 11, 12, 13, 14, 15, 16, 17, 18, 19, 20, 21] [0, 1, 2] [0, 1, 2, 3, 4, 5, 6, 7, 8, 9, 10, 11, 12, 13, 14, 15, 16, 17, 18, 19, 20, 21] rfl rfl (by decide) (by decide) rfl (by decide) (fun H locs hP hD hS => ?_)
  refine W.widen (k := c0 + 1) (n := s0 + 6) (by omega) (by omega) ?_
  refine lv_iload hx hb dL_law_523 (lv_at hl 0 rfl) ?_
  refine lv_icmp_eq (tgt := 530) hx hb dL_law_525 rfl (fun cd8 => ?_) (fun cd8 => ?_)
  · replace hm := zt cd8 hm
    refine lv_goto (tgt := 588) hx hb dL_law_530 rfl ?_
    cases hm
    refine W.widen (k := c0 + 1) (n := s0 + 6) (by omega) (by omega) ?_
    exact kk _ _ _ hP hD hS (lv_sub hl [1, 2, 3, 4, 5] rfl)
  · replace hm := zf cd8 hm
    refine lv_iconst (v := 0) hx hb dL_law_528 (by decide) ?_
    cases hm

def m_F_L_move_u (xs : Nat → Int32) (L : Nat) (x4 : Int32) (pv : Nat → Int32) (dc : Nat → Option Nat) (v : Nat → Int32) (b : Nat → Int32) (v2 : Nat → Int32) (b2 : Nat → Int32) (ov : Nat → Int64) (mv : Nat → Int32) (mu : Nat → Nat → Int32)  : Option ((Nat → Int32) × (Nat → Int32) × (Nat → Nat → Int32)) := zix (x4 + 1) L (zix (x4 + 2) L ((m_L_move_u (xs (x4 + 1).toNatClampNeg) (xs (x4 + 2).toNatClampNeg) pv dc v b v2 b2).bind (fun q3 => zix (x4 + 1) L (zix (x4 + 2) L ((m_M_move (xs (x4 + 1).toNatClampNeg) (xs (x4 + 2).toNatClampNeg) mv mu).bind (fun q6 => (m_M_thrown q6.1 q6.2).bind (fun q7 => (if q7 = q3.1 then (some (q3.2, q6.1, q6.2)) else none))))))))
set_option maxRecDepth 100000 in
set_option maxHeartbeats 4000000 in
theorem f_F_L_move_u {p : Program} {l : Launch} {e : Env} {s : State} {m : MethodId} {args : Array Value} {below : List Frame} {meth : Method} {c : Code} {D : va_G} {w0 : va_W} {H0 : Heap} {Q : State → Prop} {sb L : Nat} {xs : Nat → Int32} {x4 : Int32} {c0 s0 : Nat} (aQ aY aS aNs aTs aEs aDc aT bT aN2 bN2 aO : Nat) (ad : Nat → Nat) (cd c1 c12 co : ClassId) (ca : Nat → ClassId) (pv : Nat → Int32) (dc : Nat → Option Nat) (v : Nat → Int32) (b : Nat → Int32) (v2 : Nat → Int32) (b2 : Nat → Int32) (ov : Nat → Int64) (mv : Nat → Int32) (mu : Nat → Nat → Int32) (G : zG p s m args meth c cL_law RL 8 (some .boolean)) (hK : va_K D vwCl (wQDTN2OM_t cd c1 c12 co ca) s) (hX : zW (fun q => s.heap.size ≤ q) s) (hl0 : l.stackTraces = false) (hSg : va_S (fun q => s.heap.size ≤ q) s.heap H0 []) (hAs : ∀ q, (va_A w0 H0.size) q → s.heap.size ≤ q) (hsb : va_X sb L xs s H0) (hbl : sb < H0.size) (hbA : ¬ (va_A w0 H0.size) sb) (hc0 : c0 + 1 ≤ 601024) (hs0 : s0 + 6 ≤ 7293034) (hd : dc (xs (x4 + 1).toNatClampNeg).toNatClampNeg = some aN2) (hd2 : dc (xs (x4 + 2).toNatClampNeg).toNatClampNeg = some aT) {res : (Nat → Int32) × (Nat → Int32) × (Nat → Nat → Int32)} (hm : m_F_L_move_u xs L x4 pv dc v b v2 b2 ov mv mu  = some res)
    (kk : ∀ (H : Heap) (locs : List Loc) (ls : Array Slot), va_P D vwCl (wQDTN2OM aQ aY aS aNs aTs aEs aDc aT bT aN2 bN2 aO ad cd c1 c12 co ca pv dc v res.1 v2 b2 ov res.2.1 res.2.2) H → va_D (va_A w0 H0.size) (wQDTN2OM aQ aY aS aNs aTs aEs aDc aT bT aN2 bN2 aO ad cd c1 c12 co ca pv dc v res.1 v2 b2 ov res.2.1 res.2.2) → va_S (va_A w0 H0.size) H0 H locs → lv_has ls 8 [(0, .ref sb), (1, .ref aQ), (2, .ref (ad 0)), (3, .ref aO), (4, .int x4)] → W p l e room_1 s m args below meth c H locs (c0 + 1) (s0 + 6) Q (F0 m 588 ls []))
    (H : Heap) (locs : List Loc) (ls : Array Slot) (hP : va_P D vwCl (wQDTN2OM aQ aY aS aNs aTs aEs aDc aT bT aN2 bN2 aO ad cd c1 c12 co ca pv dc v b v2 b2 ov mv mu) H) (hD : va_D (va_A w0 H0.size) (wQDTN2OM aQ aY aS aNs aTs aEs aDc aT bT aN2 bN2 aO ad cd c1 c12 co ca pv dc v b v2 b2 ov mv mu)) (hS : va_S (va_A w0 H0.size) H0 H locs) (hl : lv_has ls 8 [(0, .ref sb), (1, .ref aQ), (2, .ref (ad 0)), (3, .ref aO), (4, .int x4)]) : W p l e room_1 s m args below meth c H locs c0 s0 Q (F0 m 485 ls []) := by
  obtain ⟨hx, hb, hr, hml, hown, hw, hlk⟩ := G
  have hA : ∀ q, H0.size ≤ q → (va_A w0 H0.size) q := fun q h => Or.inr h
  unfold m_F_L_move_u at hm
  refine lv_aload_n hx hb dL_law_485 rfl (lv_at hl 1 rfl) ?_
  refine lv_aload_n hx hb dL_law_486 rfl (lv_at hl 0 rfl) ?_
  refine lv_iload hx hb dL_law_487 (lv_at hl 4 rfl) ?_
  refine lv_iconst (v := 1) hx hb dL_law_489 (by decide) ?_
  refine lv_iadd hx hb dL_law_490 ?_
  obtain ⟨hi1, hm⟩ := zix_s hm
  refine va_sld (i := (x4 + 1)) (xs := xs) hx hb hsb hbl hbA hS hi1 dL_law_491 ?_
  refine lv_aload_n hx hb dL_law_492 rfl (lv_at hl 0 rfl) ?_
  refine lv_iload hx hb dL_law_493 (lv_at hl 4 rfl) ?_
  refine lv_iconst (v := 2) hx hb dL_law_495 (by decide) ?_
  refine lv_iadd hx hb dL_law_496 ?_
  obtain ⟨hi2, hm⟩ := zix_s hm
  refine va_sld (i := (x4 + 2)) (xs := xs) hx hb hsb hbl hbA hS hi2 dL_law_497 ?_
  obtain ⟨q3, hq3, hm⟩ := zbind hm
  have hPc := hP.sub (ws' := (wQDTN2 aQ aY aS aNs aTs aEs aDc aT bT aN2 bN2 cd c1 c12 pv dc v b v2 b2)) [0, 1, 2, 3, 4, 5] rfl
  have hDc := hD.sub (ws' := (wQDTN2 aQ aY aS aNs aTs aEs aDc aT bT aN2 bN2 cd c1 c12 pv dc v b v2 b2)) [0, 1, 2, 3, 4, 5] (by decide) rfl
  have hKc := hK.sub (tys' := wQDTN2_t cd c1 c12) [0, 1, 2] rfl
  have hFc := va_free (wc := (wQDTN2 aQ aY aS aNs aTs aEs aDc aT bT aN2 bN2 cd c1 c12 pv dc v b v2 b2)) hD hS hA [0, 1, 2, 3, 4, 5] rfl
  refine zlSi (wr := [(aO, .inl (co, 1, .inr (.inl ov))), ((ad 0), .inr (5, [.int (mv 0), .int (mv 1), .ref (ad 1), .int (mv 3), .ref (ad 2), .ref (ad 3), .ref (ad 4), .ref (ad 5), .ref (ad 6), .ref (ad 7), .ref (ad 8), .ref (ad 9), .ref (ad 10), .ref (ad 11), .ref (ad 12), .ref (ad 13), .ref (ad 14), .ref (ad 15), .ref (ad 16), .ref (ad 17), .int (mv 20), .int (mv 21), .ref (ad 18), .int (mv 23)])), ((ad 1), .inl ((ca 1), 24, .inl (mu 1))), ((ad 2), .inl ((ca 2), 9, .inl (mu 2))), ((ad 3), .inl ((ca 3), 216, .inl (mu 3))), ((ad 4), .inl ((ca 4), 216, .inl (mu 4))), ((ad 5), .inl ((ca 5), 9, .inl (mu 5))), ((ad 6), .inl ((ca 6), 9, .inl (mu 6))), ((ad 7), .inl ((ca 7), 9, .inl (mu 7))), ((ad 8), .inl ((ca 8), 9, .inl (mu 8))), ((ad 9), .inl ((ca 9), 9, .inl (mu 9))), ((ad 10), .inl ((ca 10), 9, .inl (mu 10))), ((ad 11), .inl ((ca 11), 9, .inl (mu 11))), ((ad 12), .inl ((ca 12), 9, .inl (mu 12))), ((ad 13), .inl ((ca 13), 9, .inl (mu 13))), ((ad 14), .inl ((ca 14), 9, .inl (mu 14))), ((ad 15), .inl ((ca 15), 9, .inl (mu 15))), ((ad 16), .inl ((ca 16), 256, .inl (mu 16))), ((ad 17), .inl ((ca 17), 48, .inl (mu 17))), ((ad 18), .inl ((ca 18), 32, .inl (mu 18)))]) (w1 := (wQDTN2 aQ aY aS aNs aTs aEs aDc aT bT aN2 bN2 cd c1 c12 pv dc v q3.2 v2 b2)) (w' := (wQDTN2OM aQ aY aS aNs aTs aEs aDc aT bT aN2 bN2 aO ad cd c1 c12 co ca pv dc v q3.2 v2 b2 ov mv mu)) (vx_runSW (As := [.ref aQ, .int (xs (x4 + 1).toNatClampNeg), .int (xs (x4 + 2).toNatClampNeg)]) (rest := []) ⟨hx, hb, hml, hown, hw⟩ (k_L_move_u l D aQ aY aS aNs aTs aEs aDc aT bT aN2 bN2 cd c1 c12 _ (xs (x4 + 1).toNatClampNeg) (xs (x4 + 2).toNatClampNeg) pv dc v b v2 b2 hl0 hd hd2 q3 hq3) (vx_cwSW 3 hw (zgoodW (List.forall_mem_cons.mpr ⟨zw643, List.forall_mem_cons.mpr ⟨zw644, List.forall_mem_cons.mpr ⟨zw587, fun _ h => absurd h List.not_mem_nil⟩⟩⟩) zw645) rfl rfl rfl hdL_move ⟨Nat.le_of_ble_eq_true rfl, Nat.le_of_ble_eq_true rfl⟩) (zpre zW_ok (A := fun q => s.heap.size ≤ q) hX (zglob hSg hAs hS) (fun q h => hAs q (hFc q h)) hPc hKc (hDc.weaken (fun _ _ _ h => hAs _ h))) rfl rfl hl.1 rfl (lv_room (Nat.le_of_ble_eq_true rfl)) dL_law_498 ⟨by show c0 + 1 ≤ 601024; omega, by show s0 + 6 ≤ 7293034; omega⟩) hP hD hS hFc [0, 1, 2, 3, 4, 5] [6, 7, 8, 9, 10, 11, 12, 13, 14, 15, 16, 17, 18, 19, 20, 21, 22, 23, 24, 25] [20, 21, 22, 23, 24, 25, 0, 1, 2, 3, 4, 5, 6, 7, 8, 9, 10, 11, 12, 13, 14, 15, 16, 17, 18, 19] rfl rfl (by decide) (by decide) rfl (by decide) (fun H locs hP hD hS => ?_)
  refine W.widen (k := c0 + 1) (n := s0 + 6) (by omega) (by omega) ?_
  refine lv_istore (lv' := [(5, .int q3.1), (0, .ref sb), (1, .ref aQ), (2, .ref (ad 0)), (3, .ref aO), (4, .int x4)]) hx hb dL_law_501 hl (by decide) rfl (fun ls hl => ?_)
  refine lv_aload_n hx hb dL_law_503 rfl (lv_at hl 3 rfl) ?_
  refine lv_aload_n hx hb dL_law_504 rfl (lv_at hl 1 rfl) ?_
  refine lv_iload hx hb dL_law_505 (lv_at hl 5 rfl) ?_
  refine lv_iconst (v := 1) hx hb dL_law_507 (by decide) ?_
  refine lv_iadd hx hb dL_law_508 ?_
  obtain ⟨hi4, hm⟩ := zix_s hm
  refine va_sld (i := (x4 + 1)) (xs := xs) hx hb hsb hbl hbA hS hi4 dL_law_509 ?_
  refine lv_aload_n hx hb dL_law_510 rfl (lv_at hl 1 rfl) ?_
  refine lv_iload hx hb dL_law_511 (lv_at hl 5 rfl) ?_
  refine lv_iconst (v := 2) hx hb dL_law_513 (by decide) ?_
  refine lv_iadd hx hb dL_law_514 ?_
  obtain ⟨hi5, hm⟩ := zix_s hm
  refine va_sld (i := (x4 + 2)) (xs := xs) hx hb hsb hbl hbA hS hi5 dL_law_515 ?_
  obtain ⟨q6, hq6, hm⟩ := zbind hm
  have hPc := hP.sub (ws' := (wM ad ca mv mu)) [7, 8, 9, 10, 11, 12, 13, 14, 15, 16, 17, 18, 19, 20, 21, 22, 23, 24, 25] rfl
  have hDc := hD.sub (ws' := (wM ad ca mv mu)) [7, 8, 9, 10, 11, 12, 13, 14, 15, 16, 17, 18, 19, 20, 21, 22, 23, 24, 25] (by decide) rfl
  have hKc := hK.sub (tys' := wM_t ca) [4, 5, 6, 7, 8, 9, 10, 11, 12, 13, 14, 15, 16, 17, 18, 19, 20, 21] rfl
  have hFc := va_free (wc := (wM ad ca mv mu)) hD hS hA [7, 8, 9, 10, 11, 12, 13, 14, 15, 16, 17, 18, 19, 20, 21, 22, 23, 24, 25] rfl
  refine zlSv (wr := [(aQ, .inr (4, [.ref aY, .int (pv 1), .ref aS, .ref aNs, .ref aTs, .ref aEs, .ref aDc, .int (pv 7)])), (aDc, .inl (cd, 8, .inr (.inr (.inr (.inr dc))))), (aT, .inr (3, [.ref bT, .int (v 1), .int (v 2), .int (v 3), .int (v 4)])), (bT, .inl (c1, 25, .inl q3.2)), (aN2, .inr (1, [.ref bN2, .int (v2 1), .int (v2 2), .int (v2 3), .int (v2 4), .int (v2 5), .int (v2 6), .int (v2 7)])), (bN2, .inl (c12, 25, .inl b2)), (aO, .inl (co, 1, .inr (.inl ov)))]) (w1 := (wM ad ca q6.1 q6.2)) (w' := (wQDTN2OM aQ aY aS aNs aTs aEs aDc aT bT aN2 bN2 aO ad cd c1 c12 co ca pv dc v q3.2 v2 b2 ov q6.1 q6.2)) (va_runV (As := [.int (xs (x4 + 1).toNatClampNeg), .int (xs (x4 + 2).toNatClampNeg)]) (rest := []) ⟨hx, hb, hml, hown, hw⟩ (k_M_move l D ad ca _ (xs (x4 + 1).toNatClampNeg) (xs (x4 + 2).toNatClampNeg) mv mu  q6 hq6) (zcV (C := RX6) 2 hw (zgood zw648) rfl rfl rfl zw7 zw646 zw647 zw649 hdX6_move ⟨Nat.le_of_ble_eq_true rfl, Nat.le_of_ble_eq_true rfl⟩) (zpreV (zpre zN_ok (A := fun q => s.heap.size ≤ q) trivial (zglob hSg hAs hS) (fun q h => hAs q (hFc q h)) hPc hKc (hDc.weaken (fun _ _ _ h => hAs _ h))) (va_recv hK hP rfl (q0 := 7) rfl)) rfl rfl hl.1 rfl (lv_room (Nat.le_of_ble_eq_true rfl)) dL_law_516 ⟨by show c0 + 1 ≤ 601024; omega, by show s0 + 6 ≤ 7293034; omega⟩) hP hD hS hFc [7, 8, 9, 10, 11, 12, 13, 14, 15, 16, 17, 18, 19, 20, 21, 22, 23, 24, 25] [0, 1, 2, 3, 4, 5, 6] [0, 1, 2, 3, 4, 5, 6, 7, 8, 9, 10, 11, 12, 13, 14, 15, 16, 17, 18, 19, 20, 21, 22, 23, 24, 25] rfl rfl (by decide) (by decide) rfl (by decide) (fun H locs hP hD hS => ?_)
  refine W.widen (k := c0 + 1) (n := s0 + 6) (by omega) (by omega) ?_
  refine lv_aload_n hx hb dL_law_519 rfl (lv_at hl 3 rfl) ?_
  obtain ⟨q7, hq7, hm⟩ := zbind hm
  have hPc := hP.sub (ws' := (wM ad ca q6.1 q6.2)) [7, 8, 9, 10, 11, 12, 13, 14, 15, 16, 17, 18, 19, 20, 21, 22, 23, 24, 25] rfl
  have hDc := hD.sub (ws' := (wM ad ca q6.1 q6.2)) [7, 8, 9, 10, 11, 12, 13, 14, 15, 16, 17, 18, 19, 20, 21, 22, 23, 24, 25] (by decide) rfl
  have hKc := hK.sub (tys' := wM_t ca) [4, 5, 6, 7, 8, 9, 10, 11, 12, 13, 14, 15, 16, 17, 18, 19, 20, 21] rfl
  have hFc := va_free (wc := (wM ad ca q6.1 q6.2)) hD hS hA [7, 8, 9, 10, 11, 12, 13, 14, 15, 16, 17, 18, 19, 20, 21, 22, 23, 24, 25] rfl
  refine zlSi (wr := [(aQ, .inr (4, [.ref aY, .int (pv 1), .ref aS, .ref aNs, .ref aTs, .ref aEs, .ref aDc, .int (pv 7)])), (aDc, .inl (cd, 8, .inr (.inr (.inr (.inr dc))))), (aT, .inr (3, [.ref bT, .int (v 1), .int (v 2), .int (v 3), .int (v 4)])), (bT, .inl (c1, 25, .inl q3.2)), (aN2, .inr (1, [.ref bN2, .int (v2 1), .int (v2 2), .int (v2 3), .int (v2 4), .int (v2 5), .int (v2 6), .int (v2 7)])), (bN2, .inl (c12, 25, .inl b2)), (aO, .inl (co, 1, .inr (.inl ov)))]) (w1 := (wM ad ca q6.1 q6.2)) (w' := (wQDTN2OM aQ aY aS aNs aTs aEs aDc aT bT aN2 bN2 aO ad cd c1 c12 co ca pv dc v q3.2 v2 b2 ov q6.1 q6.2)) (va_runV (As := []) (rest := []) ⟨hx, hb, hml, hown, hw⟩ (k_M_thrown l D ad ca _ q6.1 q6.2  q7 hq7) (zcV (C := RX6) 0 hw (zgood zw596) rfl rfl rfl zw7 zw594 zw595 zw597 hdX6_thrown ⟨Nat.le_of_ble_eq_true rfl, Nat.le_of_ble_eq_true rfl⟩) (zpreV (zpre zN_ok (A := fun q => s.heap.size ≤ q) trivial (zglob hSg hAs hS) (fun q h => hAs q (hFc q h)) hPc hKc (hDc.weaken (fun _ _ _ h => hAs _ h))) (va_recv hK hP rfl (q0 := 7) rfl)) rfl rfl hl.1 rfl (lv_room (Nat.le_of_ble_eq_true rfl)) dL_law_520 ⟨by show c0 + 1 ≤ 601024; omega, by show s0 + 6 ≤ 7293034; omega⟩) hP hD hS hFc [7, 8, 9, 10, 11, 12, 13, 14, 15, 16, 17, 18, 19, 20, 21, 22, 23, 24, 25] [0, 1, 2, 3, 4, 5, 6] [0, 1, 2, 3, 4, 5, 6, 7, 8, 9, 10, 11, 12, 13, 14, 15, 16, 17, 18, 19, 20, 21, 22, 23, 24, 25] rfl rfl (by decide) (by decide) rfl (by decide) (fun H locs hP hD hS => ?_)
  refine W.widen (k := c0 + 1) (n := s0 + 6) (by omega) (by omega) ?_
  refine lv_iload hx hb dL_law_523 (lv_at hl 0 rfl) ?_
  refine lv_icmp_eq (tgt := 530) hx hb dL_law_525 rfl (fun cd8 => ?_) (fun cd8 => ?_)
  · replace hm := zt cd8 hm
    refine lv_goto (tgt := 588) hx hb dL_law_530 rfl ?_
    cases hm
    refine W.widen (k := c0 + 1) (n := s0 + 6) (by omega) (by omega) ?_
    exact kk _ _ _ hP hD hS (lv_sub hl [1, 2, 3, 4, 5] rfl)
  · replace hm := zf cd8 hm
    refine lv_iconst (v := 0) hx hb dL_law_528 (by decide) ?_
    cases hm

