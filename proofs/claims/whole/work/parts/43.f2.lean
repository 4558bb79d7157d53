def m_F_L_set_T (xs : Nat → Int32) (L : Nat) (x4 : Int32) (pv : Nat → Int32) (dc : Nat → Option Nat) (v : Nat → Int32) (b : Nat → Int32) (ov : Nat → Int64) (mv : Nat → Int32) (mu : Nat → Nat → Int32)  : Option ((Nat → Int32) × (Nat → Int32) × (Nat → Nat → Int32)) := zix (x4 + 1) L (zix (x4 + 2) L (zix (x4 + 3) L ((m_L_set_T (xs (x4 + 1).toNatClampNeg) (xs (x4 + 2).toNatClampNeg) (xs (x4 + 3).toNatClampNeg) pv dc v b).bind (fun q4 => zix (x4 + 1) L (zix (x4 + 2) L (zix (x4 + 3) L ((m_M_set (xs (x4 + 1).toNatClampNeg) (xs (x4 + 2).toNatClampNeg) (xs (x4 + 3).toNatClampNeg) mv mu).bind (fun q8 => (m_M_thrown q8.1 q8.2).bind (fun q9 => (if q9 = q4.1 then (some (q4.2, q8.1, q8.2)) else none))))))))))
set_option maxRecDepth 100000 in
set_option maxHeartbeats 4000000 in
theorem f_F_L_set_T {p : Program} {l : Launch} {e : Env} {s : State} {m : MethodId} {args : Array Value} {below : List Frame} {meth : Method} {c : Code} {D : va_G} {w0 : va_W} {H0 : Heap} {Q : State → Prop} {sb L : Nat} {xs : Nat → Int32} {x4 : Int32} {c0 s0 : Nat} (aQ aY aS aNs aTs aEs aDc aT bT aO : Nat) (ad : Nat → Nat) (cd c1 co : ClassId) (ca : Nat → ClassId) (pv : Nat → Int32) (dc : Nat → Option Nat) (v : Nat → Int32) (b : Nat → Int32) (ov : Nat → Int64) (mv : Nat → Int32) (mu : Nat → Nat → Int32) (G : zG p s m args meth c cL_law RL 8 (some .boolean)) (hK : va_K D vwCl (wQDTOM_t cd c1 co ca) s) (hX : zW (fun q => s.heap.size ≤ q) s) (hl0 : l.stackTraces = false) (hSg : va_S (fun q => s.heap.size ≤ q) s.heap H0 []) (hAs : ∀ q, (va_A w0 H0.size) q → s.heap.size ≤ q) (hsb : va_X sb L xs s H0) (hbl : sb < H0.size) (hbA : ¬ (va_A w0 H0.size) sb) (hc0 : c0 + 1 ≤ 601024) (hs0 : s0 + 6 ≤ 7293034) (hd : dc (xs (x4 + 1).toNatClampNeg).toNatClampNeg = some aT) {res : (Nat → Int32) × (Nat → Int32) × (Nat → Nat → Int32)} (hm : m_F_L_set_T xs L x4 pv dc v b ov mv mu  = some res)
    (kk : ∀ (H : Heap) (locs : List Loc) (ls : Array Slot), va_P D vwCl (wQDTOM aQ aY aS aNs aTs aEs aDc aT bT aO ad cd c1 co ca pv dc v res.1 ov res.2.1 res.2.2) H → va_D (va_A w0 H0.size) (wQDTOM aQ aY aS aNs aTs aEs aDc aT bT aO ad cd c1 co ca pv dc v res.1 ov res.2.1 res.2.2) → va_S (va_A w0 H0.size) H0 H locs → lv_has ls 8 [(0, .ref sb), (1, .ref aQ), (2, .ref (ad 0)), (3, .ref aO), (4, .int x4)] → W p l e room_1 s m args below meth c H locs (c0 + 1) (s0 + 6) Q (F0 m 588 ls []))
    (H : Heap) (locs : List Loc) (ls : Array Slot) (hP : va_P D vwCl (wQDTOM aQ aY aS aNs aTs aEs aDc aT bT aO ad cd c1 co ca pv dc v b ov mv mu) H) (hD : va_D (va_A w0 H0.size) (wQDTOM aQ aY aS aNs aTs aEs aDc aT bT aO ad cd c1 co ca pv dc v b ov mv mu)) (hS : va_S (va_A w0 H0.size) H0 H locs) (hl : lv_has ls 8 [(0, .ref sb), (1, .ref aQ), (2, .ref (ad 0)), (3, .ref aO), (4, .int x4)]) : W p l e room_1 s m args below meth c H locs c0 s0 Q (F0 m 333 ls []) := by
  obtain ⟨hx, hb, hr, hml, hown, hw, hlk⟩ := G
  have hA : ∀ q, H0.size ≤ q → (va_A w0 H0.size) q := fun q h => Or.inr h
  unfold m_F_L_set_T at hm
  refine lv_aload_n hx hb dL_law_333 rfl (lv_at hl 1 rfl) ?_
  refine lv_aload_n hx hb dL_law_334 rfl (lv_at hl 0 rfl) ?_
  refine lv_iload hx hb dL_law_335 (lv_at hl 4 rfl) ?_
  refine lv_iconst (v := 1) hx hb dL_law_337 (by decide) ?_
  refine lv_iadd hx hb dL_law_338 ?_
  obtain ⟨hi1, hm⟩ := zix_s hm
  refine va_sld (i := (x4 + 1)) (xs := xs) hx hb hsb hbl hbA hS hi1 dL_law_339 ?_
  refine lv_aload_n hx hb dL_law_340 rfl (lv_at hl 0 rfl) ?_
  refine lv_iload hx hb dL_law_341 (lv_at hl 4 rfl) ?_
  refine lv_iconst (v := 2) hx hb dL_law_343 (by decide) ?_
  refine lv_iadd hx hb dL_law_344 ?_
  obtain ⟨hi2, hm⟩ := zix_s hm
  refine va_sld (i := (x4 + 2)) (xs := xs) hx hb hsb hbl hbA hS hi2 dL_law_345 ?_
  refine lv_aload_n hx hb dL_law_346 rfl (lv_at hl 0 rfl) ?_
  refine lv_iload hx hb dL_law_347 (lv_at hl 4 rfl) ?_
  refine lv_iconst (v := 3) hx hb dL_law_349 (by decide) ?_
  refine lv_iadd hx hb dL_law_350 ?_
  obtain ⟨hi3, hm⟩ := zix_s hm
  refine va_sld (i := (x4 + 3)) (xs := xs) hx hb hsb hbl hbA hS hi3 dL_law_351 ?_
  obtain ⟨q4, hq4, hm⟩ := zbind hm
  have hPc := hP.sub (ws' := (wQDT aQ aY aS aNs aTs aEs aDc aT bT cd c1 pv dc v b)) [0, 1, 2, 3] rfl
  have hDc := hD.sub (ws' := (wQDT aQ aY aS aNs aTs aEs aDc aT bT cd c1 pv dc v b)) [0, 1, 2, 3] (by decide) rfl
  have hKc := hK.sub (tys' := wQDT_t cd c1) [0, 1] rfl
  have hFc := va_free (wc := (wQDT aQ aY aS aNs aTs aEs aDc aT bT cd c1 pv dc v b)) hD hS hA [0, 1, 2, 3] rfl
  refine zlSi (wr := [(aO, .inl (co, 1, .inr (.inl ov))), ((ad 0), .inr (5, [.int (mv 0), .int (mv 1), .ref (ad 1), .int (mv 3), .ref (ad 2), .ref (ad 3), .ref (ad 4), .ref (ad 5), .ref (ad 6), .ref (ad 7), .ref (ad 8), .ref (ad 9), .ref (ad 10), .ref (ad 11), .ref (ad 12), .ref (ad 13), .ref (ad 14), .ref (ad 15), .ref (ad 16), .ref (ad 17), .int (mv 20), .int (mv 21), .ref (ad 18), .int (mv 23)])), ((ad 1), .inl ((ca 1), 24, .inl (mu 1))), ((ad 2), .inl ((ca 2), 9, .inl (mu 2))), ((ad 3), .inl ((ca 3), 216, .inl (mu 3))), ((ad 4), .inl ((ca 4), 216, .inl (mu 4))), ((ad 5), .inl ((ca 5), 9, .inl (mu 5))), ((ad 6), .inl ((ca 6), 9, .inl (mu 6))), ((ad 7), .inl ((ca 7), 9, .inl (mu 7))), ((ad 8), .inl ((ca 8), 9, .inl (mu 8))), ((ad 9), .inl ((ca 9), 9, .inl (mu 9))), ((ad 10), .inl ((ca 10), 9, .inl (mu 10))), ((ad 11), .inl ((ca 11), 9, .inl (mu 11))), ((ad 12), .inl ((ca 12), 9, .inl (mu 12))), ((ad 13), .inl ((ca 13), 9, .inl (mu 13))), ((ad 14), .inl ((ca 14), 9, .inl (mu 14))), ((ad 15), .inl ((ca 15), 9, .inl (mu 15))), ((ad 16), .inl ((ca 16), 256, .inl (mu 16))), ((ad 17), .inl ((ca 17), 48, .inl (mu 17))), ((ad 18), .inl ((ca 18), 32, .inl (mu 18)))]) (w1 := (wQDT aQ aY aS aNs aTs aEs aDc aT bT cd c1 pv dc v q4.2)) (w' := (wQDTOM aQ aY aS aNs aTs aEs aDc aT bT aO ad cd c1 co ca pv dc v q4.2 ov mv mu)) (vx_runSW (As := [.ref aQ, .int (xs (x4 + 1).toNatClampNeg), .int (xs (x4 + 2).toNatClampNeg), .int (xs (x4 + 3).toNatClampNeg)]) (rest := []) ⟨hx, hb, hml, hown, hw⟩ (k_L_set_T l D aQ aY aS aNs aTs aEs aDc aT bT cd c1 _ (xs (x4 + 1).toNatClampNeg) (xs (x4 + 2).toNatClampNeg) (xs (x4 + 3).toNatClampNeg) pv dc v b hd q4 hq4) (vx_cwSW 4 hw (zgoodW (List.forall_mem_cons.mpr ⟨zw628, List.forall_mem_cons.mpr ⟨zw629, List.forall_mem_cons.mpr ⟨zw587, fun _ h => absurd h List.not_mem_nil⟩⟩⟩) zw630) rfl rfl rfl hdL_set ⟨Nat.le_of_ble_eq_true rfl, Nat.le_of_ble_eq_true rfl⟩) (zpre zW_ok (A := fun q => s.heap.size ≤ q) hX (zglob hSg hAs hS) (fun q h => hAs q (hFc q h)) hPc hKc (hDc.weaken (fun _ _ _ h => hAs _ h))) rfl rfl hl.1 rfl (lv_room (Nat.le_of_ble_eq_true rfl)) dL_law_352 ⟨by show c0 + 0 ≤ 601024; omega, by show s0 + 0 ≤ 7293034; omega⟩) hP hD hS hFc [0, 1, 2, 3] [4, 5, 6, 7, 8, 9, 10, 11, 12, 13, 14, 15, 16, 17, 18, 19, 20, 21, 22, 23] [20, 21, 22, 23, 0, 1, 2, 3, 4, 5, 6, 7, 8, 9, 10, 11, 12, 13, 14, 15, 16, 17, 18, 19] rfl rfl (by decide) (by decide) rfl (by decide) (fun H locs hP hD hS => ?_)
  refine W.widen (k := c0 + 0) (n := s0 + 0) (by omega) (by omega) ?_
  refine lv_istore (lv' := [(5, .int q4.1), (0, .ref sb), (1, .ref aQ), (2, .ref (ad 0)), (3, .ref aO), (4, .int x4)]) hx hb dL_law_355 hl (by decide) rfl (fun ls hl => ?_)
  refine lv_aload_n hx hb dL_law_357 rfl (lv_at hl 3 rfl) ?_
  refine lv_aload_n hx hb dL_law_358 rfl (lv_at hl 1 rfl) ?_
  refine lv_iload hx hb dL_law_359 (lv_at hl 5 rfl) ?_
  refine lv_iconst (v := 1) hx hb dL_law_361 (by decide) ?_
  refine lv_iadd hx hb dL_law_362 ?_
  obtain ⟨hi5, hm⟩ := zix_s hm
  refine va_sld (i := (x4 + 1)) (xs := xs) hx hb hsb hbl hbA hS hi5 dL_law_363 ?_
  refine lv_aload_n hx hb dL_law_364 rfl (lv_at hl 1 rfl) ?_
  refine lv_iload hx hb dL_law_365 (lv_at hl 5 rfl) ?_
  refine lv_iconst (v := 2) hx hb dL_law_367 (by decide) ?_
  refine lv_iadd hx hb dL_law_368 ?_
  obtain ⟨hi6, hm⟩ := zix_s hm
  refine va_sld (i := (x4 + 2)) (xs := xs) hx hb hsb hbl hbA hS hi6 dL_law_369 ?_
  refine lv_aload_n hx hb dL_law_370 rfl (lv_at hl 1 rfl) ?_
  refine lv_iload hx hb dL_law_371 (lv_at hl 5 rfl) ?_
  refine lv_iconst (v := 3) hx hb dL_law_373 (by decide) ?_
  refine lv_iadd hx hb dL_law_374 ?_
  obtain ⟨hi7, hm⟩ := zix_s hm
  refine va_sld (i := (x4 + 3)) (xs := xs) hx hb hsb hbl hbA hS hi7 dL_law_375 ?_
  obtain ⟨q8, hq8, hm⟩ := zbind hm
  have hPc := hP.sub (ws' := (wM ad ca mv mu)) [5, 6, 7, 8, 9, 10, 11, 12, 13, 14, 15, 16, 17, 18, 19, 20, 21, 22, 23] rfl
  have hDc := hD.sub (ws' := (wM ad ca mv mu)) [5, 6, 7, 8, 9, 10, 11, 12, 13, 14, 15, 16, 17, 18, 19, 20, 21, 22, 23] (by decide) rfl
  have hKc := hK.sub (tys' := wM_t ca) [3, 4, 5, 6, 7, 8, 9, 10, 11, 12, 13, 14, 15, 16, 17, 18, 19, 20] rfl
  have hFc := va_free (wc := (wM ad ca mv mu)) hD hS hA [5, 6, 7, 8, 9, 10, 11, 12, 13, 14, 15, 16, 17, 18, 19, 20, 21, 22, 23] rfl
  refine zlSv (wr := [(aQ, .inr (4, [.ref aY, .int (pv 1), .ref aS, .ref aNs, .ref aTs, .ref aEs, .ref aDc, .int (pv 7)])), (aDc, .inl (cd, 8, .inr (.inr (.inr (.inr dc))))), (aT, .inr (3, [.ref bT, .int (v 1), .int (v 2), .int (v 3), .int (v 4)])), (bT, .inl (c1, 25, .inl q4.2)), (aO, .inl (co, 1, .inr (.inl ov)))]) (w1 := (wM ad ca q8.1 q8.2)) (w' := (wQDTOM aQ aY aS aNs aTs aEs aDc aT bT aO ad cd c1 co ca pv dc v q4.2 ov q8.1 q8.2)) (va_runV (As := [.int (xs (x4 + 1).toNatClampNeg), .int (xs (x4 + 2).toNatClampNeg), .int (xs (x4 + 3).toNatClampNeg)]) (rest := []) ⟨hx, hb, hml, hown, hw⟩ (k_M_set l D ad ca _ (xs (x4 + 1).toNatClampNeg) (xs (x4 + 2).toNatClampNeg) (xs (x4 + 3).toNatClampNeg) mv mu  q8 hq8) (zcV (C := RX6) 3 hw (zgood zw633) rfl rfl rfl zw7 zw631 zw632 zw634 hdX6_set ⟨Nat.le_of_ble_eq_true rfl, Nat.le_of_ble_eq_true rfl⟩) (zpreV (zpre zN_ok (A := fun q => s.heap.size ≤ q) trivial (zglob hSg hAs hS) (fun q h => hAs q (hFc q h)) hPc hKc (hDc.weaken (fun _ _ _ h => hAs _ h))) (va_recv hK hP rfl (q0 := 5) rfl)) rfl rfl hl.1 rfl (lv_room (Nat.le_of_ble_eq_true rfl)) dL_law_376 ⟨by show c0 + 0 ≤ 601024; omega, by show s0 + 0 ≤ 7293034; omega⟩) hP hD hS hFc [5, 6, 7, 8, 9, 10, 11, 12, 13, 14, 15, 16, 17, 18, 19, 20, 21, 22, 23] [0, 1, 2, 3, 4] [0, 1, 2, 3, 4, 5, 6, 7, 8, 9, 10, 11, 12, 13, 14, 15, 16, 17, 18, 19, 20, 21, 22, 23] rfl rfl (by decide) (by decide) rfl (by decide) (fun H locs hP hD hS => ?_)
  refine W.widen (k := c0 + 0) (n := s0 + 0) (by omega) (by omega) ?_
  refine lv_aload_n hx hb dL_law_379 rfl (lv_at hl 3 rfl) ?_
  obtain ⟨q9, hq9, hm⟩ := zbind hm
  have hPc := hP.sub (ws' := (wM ad ca q8.1 q8.2)) [5, 6, 7, 8, 9, 10, 11, 12, 13, 14, 15, 16, 17, 18, 19, 20, 21, 22, 23] rfl
  have hDc := hD.sub (ws' := (wM ad ca q8.1 q8.2)) [5, 6, 7, 8, 9, 10, 11, 12, 13, 14, 15, 16, 17, 18, 19, 20, 21, 22, 23] (by decide) rfl
  have hKc := hK.sub (tys' := wM_t ca) [3, 4, 5, 6, 7, 8, 9, 10, 11, 12, 13, 14, 15, 16, 17, 18, 19, 20] rfl
  have hFc := va_free (wc := (wM ad ca q8.1 q8.2)) hD hS hA [5, 6, 7, 8, 9, 10, 11, 12, 13, 14, 15, 16, 17, 18, 19, 20, 21, 22, 23] rfl
  refine zlSi (wr := [(aQ, .inr (4, [.ref aY, .int (pv 1), .ref aS, .ref aNs, .ref aTs, .ref aEs, .ref aDc, .int (pv 7)])), (aDc, .inl (cd, 8, .inr (.inr (.inr (.inr dc))))), (aT, .inr (3, [.ref bT, .int (v 1), .int (v 2), .int (v 3), .int (v 4)])), (bT, .inl (c1, 25, .inl q4.2)), (aO, .inl (co, 1, .inr (.inl ov)))]) (w1 := (wM ad ca q8.1 q8.2)) (w' := (wQDTOM aQ aY aS aNs aTs aEs aDc aT bT aO ad cd c1 co ca pv dc v q4.2 ov q8.1 q8.2)) (va_runV (As := []) (rest := []) ⟨hx, hb, hml, hown, hw⟩ (k_M_thrown l D ad ca _ q8.1 q8.2  q9 hq9) (zcV (C := RX6) 0 hw (zgood zw596) rfl rfl rfl zw7 zw594 zw595 zw597 hdX6_thrown ⟨Nat.le_of_ble_eq_true rfl, Nat.le_of_ble_eq_true rfl⟩) (zpreV (zpre zN_ok (A := fun q => s.heap.size ≤ q) trivial (zglob hSg hAs hS) (fun q h => hAs q (hFc q h)) hPc hKc (hDc.weaken (fun _ _ _ h => hAs _ h))) (va_recv hK hP rfl (q0 := 5) rfl)) rfl rfl hl.1 rfl (lv_room (Nat.le_of_ble_eq_true rfl)) dL_law_380 ⟨by show c0 + 0 ≤ 601024; omega, by show s0 + 0 ≤ 7293034; omega⟩) hP hD hS hFc [5, 6, 7, 8, 9, 10, 11, 12, 13, 14, 15, 16, 17, 18, 19, 20, 21, 22, 23] [0, 1, 2, 3, 4] [0, 1, 2, 3, 4, 5, 6, 7, 8, 9, 10, 11, 12, 13, 14, 15, 16, 17, 18, 19, 20, 21, 22, 23] rfl rfl (by decide) (by decide) rfl (by decide) (fun H locs hP hD hS => ?_)
  refine W.widen (k := c0 + 0) (n := s0 + 0) (by omega) (by omega) ?_
  refine lv_iload hx hb dL_law_383 (lv_at hl 0 rfl) ?_
  refine lv_icmp_eq (tgt := 390) hx hb dL_law_385 rfl (fun cd10 => ?_) (fun cd10 => ?_)
  · replace hm := zt cd10 hm
    refine lv_goto (tgt := 588) hx hb dL_law_390 rfl ?_
    cases hm
    refine W.widen (k := c0 + 1) (n := s0 + 6) (by omega) (by omega) ?_
    exact kk _ _ _ hP hD hS (lv_sub hl [1, 2, 3, 4, 5] rfl)
  · replace hm := zf cd10 hm
    refine lv_iconst (v := 0) hx hb dL_law_388 (by decide) ?_
    cases hm

def m_F_L_set_n2T (xs : Nat → Int32) (L : Nat) (x4 : Int32) (pv : Nat → Int32) (dc : Nat → Option Nat) (v : Nat → Int32) (b : Nat → Int32) (ov : Nat → Int64) (mv : Nat → Int32) (mu : Nat → Nat → Int32)  : Option ((Nat → Int32) × (Nat → Int32) × (Nat → Nat → Int32)) := zix (x4 + 1) L (zix (x4 + 2) L (zix (x4 + 3) L ((m_L_set_n2T (xs (x4 + 1).toNatClampNeg) (xs (x4 + 2).toNatClampNeg) (xs (x4 + 3).toNatClampNeg) pv dc v b).bind (fun q4 => zix (x4 + 1) L (zix (x4 + 2) L (zix (x4 + 3) L ((m_M_set (xs (x4 + 1).toNatClampNeg) (xs (x4 + 2).toNatClampNeg) (xs (x4 + 3).toNatClampNeg) mv mu).bind (fun q8 => (m_M_thrown q8.1 q8.2).bind (fun q9 => (if q9 = q4.1 then (some (q4.2, q8.1, q8.2)) else none))))))))))
set_option maxRecDepth 100000 in
set_option maxHeartbeats 4000000 in
theorem f_F_L_set_n2T {p : Program} {l : Launch} {e : Env} {s : State} {m : MethodId} {args : Array Value} {below : List Frame} {meth : Method} {c : Code} {D : va_G} {w0 : va_W} {H0 : Heap} {Q : State → Prop} {sb L : Nat} {xs : Nat → Int32} {x4 : Int32} {c0 s0 : Nat} (aQ aY aS aNs aTs aEs aDc aT bT aO : Nat) (ad : Nat → Nat) (cd c1 co : ClassId) (ca : Nat → ClassId) (pv : Nat → Int32) (dc : Nat → Option Nat) (v : Nat → Int32) (b : Nat → Int32) (ov : Nat → Int64) (mv : Nat → Int32) (mu : Nat → Nat → Int32) (G : zG p s m args meth c cL_law RL 8 (some .boolean)) (hK : va_K D vwCl (wQDTOM_t cd c1 co ca) s) (hX : zW (fun q => s.heap.size ≤ q) s) (hl0 : l.stackTraces = false) (hSg : va_S (fun q => s.heap.size ≤ q) s.heap H0 []) (hAs : ∀ q, (va_A w0 H0.size) q → s.heap.size ≤ q) (hsb : va_X sb L xs s H0) (hbl : sb < H0.size) (hbA : ¬ (va_A w0 H0.size) sb) (hc0 : c0 + 1 ≤ 601024) (hs0 : s0 + 6 ≤ 7293034) (hd : dc (xs (x4 + 1).toNatClampNeg).toNatClampNeg = some aT) {res : (Nat → Int32) × (Nat → Int32) × (Nat → Nat → Int32)} (hm : m_F_L_set_n2T xs L x4 pv dc v b ov mv mu  = some res)
    (kk : ∀ (H : Heap) (locs : List Loc) (ls : Array Slot), va_P D vwCl (wQDTOM aQ aY aS aNs aTs aEs aDc aT bT aO ad cd c1 co ca pv dc v res.1 ov res.2.1 res.2.2) H → va_D (va_A w0 H0.size) (wQDTOM aQ aY aS aNs aTs aEs aDc aT bT aO ad cd c1 co ca pv dc v res.1 ov res.2.1 res.2.2) → va_S (va_A w0 H0.size) H0 H locs → lv_has ls 8 [(0, .ref sb), (1, .ref aQ), (2, .ref (ad 0)), (3, .ref aO), (4, .int x4)] → W p l e room_1 s m args below meth c H locs (c0 + 1) (s0 + 6) Q (F0 m 588 ls []))
    (H : Heap) (locs : List Loc) (ls : Array Slot) (hP : va_P D vwCl (wQDTOM aQ aY aS aNs aTs aEs aDc aT bT aO ad cd c1 co ca pv dc v b ov mv mu) H) (hD : va_D (va_A w0 H0.size) (wQDTOM aQ aY aS aNs aTs aEs aDc aT bT aO ad cd c1 co ca pv dc v b ov mv mu)) (hS : va_S (va_A w0 H0.size) H0 H locs) (hl : lv_has ls 8 [(0, .ref sb), (1, .ref aQ), (2, .ref (ad 0)), (3, .ref aO), (4, .int x4)]) : W p l e room_1 s m args below meth c H locs c0 s0 Q (F0 m 333 ls []) := by
  obtain ⟨hx, hb, hr, hml, hown, hw, hlk⟩ := G
  have hA : ∀ q, H0.size ≤ q → (va_A w0 H0.size) q := fun q h => Or.inr h
  unfold m_F_L_set_n2T at hm
  refine lv_aload_n hx hb dL_law_333 rfl (lv_at hl 1 rfl) ?_
  refine lv_aload_n hx hb dL_law_334 rfl (lv_at hl 0 rfl) ?_
  refine lv_iload hx hb dL_law_335 (lv_at hl 4 rfl) ?_
  refine lv_iconst (v := 1) hx hb dL_law_337 (by decide) ?_
  refine lv_iadd hx hb dL_law_338 ?_
  obtain ⟨hi1, hm⟩ := zix_s hm
  refine va_sld (i := (x4 + 1)) (xs := xs) hx hb hsb hbl hbA hS hi1 dL_law_339 ?_
  refine lv_aload_n hx hb dL_law_340 rfl (lv_at hl 0 rfl) ?_
  refine lv_iload hx hb dL_law_341 (lv_at hl 4 rfl) ?_
  refine lv_iconst (v := 2) hx hb dL_law_343 (by decide) ?_
  refine lv_iadd hx hb dL_law_344 ?_
  obtain ⟨hi2, hm⟩ := zix_s hm
  refine va_sld (i := (x4 + 2)) (xs := xs) hx hb hsb hbl hbA hS hi2 dL_law_345 ?_
  refine lv_aload_n hx hb dL_law_346 rfl (lv_at hl 0 rfl) ?_
  refine lv_iload hx hb dL_law_347 (lv_at hl 4 rfl) ?_
  refine lv_iconst (v := 3) hx hb dL_law_349 (by decide) ?_
  refine lv_iadd hx hb dL_law_350 ?_
  obtain ⟨hi3, hm⟩ := zix_s hm
  refine va_sld (i := (x4 + 3)) (xs := xs) hx hb hsb hbl hbA hS hi3 dL_law_351 ?_
  obtain ⟨q4, hq4, hm⟩ := zbind hm
  have hPc := hP.sub (ws' := (wQDT aQ aY aS aNs aTs aEs aDc aT bT cd c1 pv dc v b)) [0, 1, 2, 3] rfl
  have hDc := hD.sub (ws' := (wQDT aQ aY aS aNs aTs aEs aDc aT bT cd c1 pv dc v b)) [0, 1, 2, 3] (by decide) rfl
  have hKc := hK.sub (tys' := wQDT_t cd c1) [0, 1] rfl
  have hFc := va_free (wc := (wQDT aQ aY aS aNs aTs aEs aDc aT bT cd c1 pv dc v b)) hD hS hA [0, 1, 2, 3] rfl
  refine zlSi (wr := [(aO, .inl (co, 1, .inr (.inl ov))), ((ad 0), .inr (5, [.int (mv 0), .int (mv 1), .ref (ad 1), .int (mv 3), .ref (ad 2), .ref (ad 3), .ref (ad 4), .ref (ad 5), .ref (ad 6), .ref (ad 7), .ref (ad 8), .ref (ad 9), .ref (ad 10), .ref (ad 11), .ref (ad 12), .ref (ad 13), .ref (ad 14), .ref (ad 15), .ref (ad 16), .ref (ad 17), .int (mv 20), .int (mv 21), .ref (ad 18), .int (mv 23)])), ((ad 1), .inl ((ca 1), 24, .inl (mu 1))), ((ad 2), .inl ((ca 2), 9, .inl (mu 2))), ((ad 3), .inl ((ca 3), 216, .inl (mu 3))), ((ad 4), .inl ((ca 4), 216, .inl (mu 4))), ((ad 5), .inl ((ca 5), 9, .inl (mu 5))), ((ad 6), .inl ((ca 6), 9, .inl (mu 6))), ((ad 7), .inl ((ca 7), 9, .inl (mu 7))), ((ad 8), .inl ((ca 8), 9, .inl (mu 8))), ((ad 9), .inl ((ca 9), 9, .inl (mu 9))), ((ad 10), .inl ((ca 10), 9, .inl (mu 10))), ((ad 11), .inl ((ca 11), 9, .inl (mu 11))), ((ad 12), .inl ((ca 12), 9, .inl (mu 12))), ((ad 13), .inl ((ca 13), 9, .inl (mu 13))), ((ad 14), .inl ((ca 14), 9, .inl (mu 14))), ((ad 15), .inl ((ca 15), 9, .inl (mu 15))), ((ad 16), .inl ((ca 16), 256, .inl (mu 16))), ((ad 17), .inl ((ca 17), 48, .inl (mu 17))), ((ad 18), .inl ((ca 18), 32, .inl (mu 18)))]) (w1 := (wQDT aQ aY aS aNs aTs aEs aDc aT bT cd c1 pv dc v q4.2)) (w' := (wQDTOM aQ aY aS aNs aTs aEs aDc aT bT aO ad cd c1 co ca pv dc v q4.2 ov mv mu)) (vx_runSW (As := [.ref aQ, .int (xs (x4 + 1).toNatClampNeg), .int (xs (x4 + 2).toNatClampNeg), .int (xs (x4 + 3).toNatClampNeg)]) (rest := []) ⟨hx, hb, hml, hown, hw⟩ (k_L_set_n2T l D aQ aY aS aNs aTs aEs aDc aT bT cd c1 _ (xs (x4 + 1).toNatClampNeg) (xs (x4 + 2).toNatClampNeg) (xs (x4 + 3).toNatClampNeg) pv dc v b hl0 hd q4 hq4) (vx_cwSW 4 hw (zgoodW (List.forall_mem_cons.mpr ⟨zw628, List.forall_mem_cons.mpr ⟨zw629, List.forall_mem_cons.mpr ⟨zw587, fun _ h => absurd h List.not_mem_nil⟩⟩⟩) zw630) rfl rfl rfl hdL_set ⟨Nat.le_of_ble_eq_true rfl, Nat.le_of_ble_eq_true rfl⟩) (zpre zW_ok (A := fun q => s.heap.size ≤ q) hX (zglob hSg hAs hS) (fun q h => hAs q (hFc q h)) hPc hKc (hDc.weaken (fun _ _ _ h => hAs _ h))) rfl rfl hl.1 rfl (lv_room (Nat.le_of_ble_eq_true rfl)) dL_law_352 ⟨by show c0 + 1 ≤ 601024; omega, by show s0 + 6 ≤ 7293034; omega⟩) hP hD hS hFc [0, 1, 2, 3] [4, 5, 6, 7, 8, 9, 10, 11, 12, 13, 14, 15, 16, 17, 18, 19, 20, 21, 22, 23] [20, 21, 22, 23, 0, 1, 2, 3, 4, 5, 6, 7, 8, 9, 10, 11, 12, 13, 14, 15, 16, 17, 18, 19] rfl rfl (by decide) (by decide) rfl (by decide) (fun H locs hP hD hS => ?_)
  refine W.widen (k := c0 + 1) (n := s0 + 6) (by omega) (by omega) ?_
  refine lv_istore (lv' := [(5, .int q4.1), (0, .ref sb), (1, .ref aQ), (2, .ref (ad 0)), (3, .ref aO), (4, .int x4)]) hx hb dL_law_355 hl (by decide) rfl (fun ls hl => ?_)
  refine lv_aload_n hx hb dL_law_357 rfl (lv_at hl 3 rfl) ?_
  refine lv_aload_n hx hb dL_law_358 rfl (lv_at hl 1 rfl) ?_
  refine lv_iload hx hb dL_law_359 (lv_at hl 5 rfl) ?_
  refine lv_iconst (v := 1) hx hb dL_law_361 (by decide) ?_
  refine lv_iadd hx hb dL_law_362 ?_
  obtain ⟨hi5, hm⟩ := zix_s hm
  refine va_sld (i := (x4 + 1)) (xs := xs) hx hb hsb hbl hbA hS hi5 dL_law_363 ?_
  refine lv_aload_n hx hb dL_law_364 rfl (lv_at hl 1 rfl) ?_
  refine lv_iload hx hb dL_law_365 (lv_at hl 5 rfl) ?_
  refine lv_iconst (v := 2) hx hb dL_law_367 (by decide) ?_
  refine lv_iadd hx hb dL_law_368 ?_
  obtain ⟨hi6, hm⟩ := zix_s hm
  refine va_sld (i := (x4 + 2)) (xs := xs) hx hb hsb hbl hbA hS hi6 dL_law_369 ?_
  refine lv_aload_n hx hb dL_law_370 rfl (lv_at hl 1 rfl) ?_
  refine lv_iload hx hb dL_law_371 (lv_at hl 5 rfl) ?_
  refine lv_iconst (v := 3) hx hb dL_law_373 (by decide) ?_
  refine lv_iadd hx hb dL_law_374 ?_
  obtain ⟨hi7, hm⟩ := zix_s hm
  refine va_sld (i := (x4 + 3)) (xs := xs) hx hb hsb hbl hbA hS hi7 dL_law_375 ?_
  obtain ⟨q8, hq8, hm⟩ := zbind hm
  have hPc := hP.sub (ws' := (wM ad ca mv mu)) [5, 6, 7, 8, 9, 10, 11, 12, 13, 14, 15, 16, 17, 18, 19, 20, 21, 22, 23] rfl
  have hDc := hD.sub (ws' := (wM ad ca mv mu)) [5, 6, 7, 8, 9, 10, 11, 12, 13, 14, 15, 16, 17, 18, 19, 20, 21, 22, 23] (by decide) rfl
  have hKc := hK.sub (tys' := wM_t ca) [3, 4, 5, 6, 7, 8, 9, 10, 11, 12, 13, 14, 15, 16, 17, 18, 19, 20] rfl
  have hFc := va_free (wc := (wM ad ca mv mu)) hD hS hA [5, 6, 7, 8, 9, 10, 11, 12, 13, 14, 15, 16, 17, 18, 19, 20, 21, 22, 23] rfl
  refine zlSv (wr := [(aQ, .inr (4, [.ref aY, .int (pv 1), .ref aS, .ref aNs, .ref aTs, .ref aEs, .ref aDc, .int (pv 7)])), (aDc, .inl (cd, 8, .inr (.inr (.inr (.inr dc))))), (aT, .inr (3, [.ref bT, .int (v 1), .int (v 2), .int (v 3), .int (v 4)])), (bT, .inl (c1, 25, .inl q4.2)), (aO, .inl (co, 1, .inr (.inl ov)))]) (w1 := (wM ad ca q8.1 q8.2)) (w' := (wQDTOM aQ aY aS aNs aTs aEs aDc aT bT aO ad cd c1 co ca pv dc v q4.2 ov q8.1 q8.2)) (va_runV (As := [.int (xs (x4 + 1).toNatClampNeg), .int (xs (x4 + 2).toNatClampNeg), .int (xs (x4 + 3).toNatClampNeg)]) (rest := []) ⟨hx, hb, hml, hown, hw⟩ (k_M_set l D ad ca _ (xs (x4 + 1).toNatClampNeg) (xs (x4 + 2).toNatClampNeg) (xs (x4 + 3).toNatClampNeg) mv mu  q8 hq8) (zcV (C := RX6) 3 hw (zgood zw633) rfl rfl rfl zw7 zw631 zw632 zw634 hdX6_set ⟨Nat.le_of_ble_eq_true rfl, Nat.le_of_ble_eq_true rfl⟩) (zpreV (zpre zN_ok (A := fun q => s.heap.size ≤ q) trivial (zglob hSg hAs hS) (fun q h => hAs q (hFc q h)) hPc hKc (hDc.weaken (fun _ _ _ h => hAs _ h))) (va_recv hK hP rfl (q0 := 5) rfl)) rfl rfl hl.1 rfl (lv_room (Nat.le_of_ble_eq_true rfl)) dL_law_376 ⟨by show c0 + 1 ≤ 601024; omega, by show s0 + 6 ≤ 7293034; omega⟩) hP hD hS hFc [5, 6, 7, 8, 9, 10, 11, 12, 13, 14, 15, 16, 17, 18, 19, 20, 21, 22, 23] [0, 1, 2, 3, 4] [0, 1, 2, 3, 4, 5, 6, 7, 8, 9, 10, 11, 12, 13, 14, 15, 16, 17, 18, 19, 20, 21, 22, 23] rfl rfl (by decide) (by decide) rfl (by decide) (fun H locs hP hD hS => ?_)
  refine W.widen (k := c0 + 1) (n := s0 + 6) (by omega) (by omega) ?_
  refine lv_aload_n hx hb dL_law_379 rfl (lv_at hl 3 rfl) ?_
  obtain ⟨q9, hq9, hm⟩ := zbind hm
  have hPc := hP.sub (ws' := (wM ad ca q8.1 q8.2)) [5, 6, 7, 8, 9, 10, 11, 12, 13, 14, 15, 16, 17, 18, 19, 20, 21, 22, 23] rfl
  have hDc := hD.sub (ws' := (wM ad ca q8.1 q8.2)) [5, 6, 7, 8, 9, 10, 11, 12, 13, 14, 15, 16, 17, 18, 19, 20, 21, 22, 23] (by decide) rfl
  have hKc := hK.sub (tys' := wM_t ca) [3, 4, 5, 6, 7, 8, 9, 10, 11, 12, 13, 14, 15, 16, 17, 18, 19, 20] rfl
  have hFc := va_free (wc := (wM ad ca q8.1 q8.2)) hD hS hA [5, 6, 7, 8, 9, 10, 11, 12, 13, 14, 15, 16, 17, 18, 19, 20, 21, 22, 23] rfl
  refine zlSi (wr := [(aQ, .inr (4, [.ref aY, .int (pv 1), .ref aS, .ref aNs, .ref aTs, .ref aEs, .ref aDc, .int (pv 7)])), (aDc, .inl (cd, 8, .inr (.inr (.inr (.inr dc))))), (aT, .inr (3, [.ref bT, .int (v 1), .int (v 2), .int (v 3), .int (v 4)])), (bT, .inl (c1, 25, .inl q4.2)), (aO, .inl (co, 1, .inr (.inl ov)))]) (w1 := (wM ad ca q8.1 q8.2)) (w' := (wQDTOM aQ aY aS aNs aTs aEs aDc aT bT aO ad cd c1 co ca pv dc v q4.2 ov q8.1 q8.2)) (va_runV (As := []) (rest := []) ⟨hx, hb, hml, hown, hw⟩ (k_M_thrown l D ad ca _ q8.1 q8.2  q9 hq9) (zcV (C := RX6) 0 hw (zgood zw596) rfl rfl rfl zw7 zw594 zw595 zw597 hdX6_thrown ⟨Nat.le_of_ble_eq_true rfl, Nat.le_of_ble_eq_true rfl⟩) (zpreV (zpre zN_ok (A := fun q => s.heap.size ≤ q) trivial (zglob hSg hAs hS) (fun q h => hAs q (hFc q h)) hPc hKc (hDc.weaken (fun _ _ _ h => hAs _ h))) (va_recv hK hP rfl (q0 := 5) rfl)) rfl rfl hl.1 rfl (lv_room (Nat.le_of_ble_eq_true rfl)) dL_law_380 ⟨by show c0 + 1 ≤ 601024; omega, by show s0 + 6 ≤ 7293034; omega⟩) hP hD hS hFc [5, 6, 7, 8, 9, 10, 11, 12, 13, 14, 15, 16, 17, 18, 19, 20, 21, 22, 23] [0, 1, 2, 3, 4] [0, 1, 2, 3, 4, 5, 6, 7, 8, 9, 10, 11, 12, 13, 14, 15, 16, 17, 18, 19, 20, 21, 22, 23] rfl rfl (by decide) (by decide) rfl (by decide) (fun H locs hP hD hS => ?_)
  refine W.widen (k := c0 + 1) (n := s0 + 6) (by omega) (by omega) ?_
  refine lv_iload hx hb dL_law_383 (lv_at hl 0 rfl) ?_
  refine lv_icmp_eq (tgt := 390) hx hb dL_law_385 rfl (fun cd10 => ?_) (fun cd10 => ?_)
  · replace hm := zt cd10 hm
    refine lv_goto (tgt := 588) hx hb dL_law_390 rfl ?_
    cases hm
    refine W.widen (k := c0 + 1) (n := s0 + 6) (by omega) (by omega) ?_
    exact kk _ _ _ hP hD hS (lv_sub hl [1, 2, 3, 4, 5] rfl)
  · replace hm := zf cd10 hm
    refine lv_iconst (v := 0) hx hb dL_law_388 (by decide) ?_
    cases hm

def m_F_L_set_iT (xs : Nat → Int32) (L : Nat) (x4 : Int32) (pv : Nat → Int32) (dc : Nat → Option Nat) (v : Nat → Int32) (b : Nat → Int32) (ov : Nat → Int64) (mv : Nat → Int32) (mu : Nat → Nat → Int32)  : Option ((Nat → Int32) × (Nat → Int32) × (Nat → Nat → Int32)) := zix (x4 + 1) L (zix (x4 + 2) L (zix (x4 + 3) L ((m_L_set_iT (xs (x4 + 1).toNatClampNeg) (xs (x4 + 2).toNatClampNeg) (xs (x4 + 3).toNatClampNeg) pv dc v b).bind (fun q4 => zix (x4 + 1) L (zix (x4 + 2) L (zix (x4 + 3) L ((m_M_set (xs (x4 + 1).toNatClampNeg) (xs (x4 + 2).toNatClampNeg) (xs (x4 + 3).toNatClampNeg) mv mu).bind (fun q8 => (m_M_thrown q8.1 q8.2).bind (fun q9 => (if q9 = q4.1 then (some (q4.2, q8.1, q8.2)) else none))))))))))
set_option maxRecDepth 100000 in
set_option maxHeartbeats 4000000 in
theorem f_F_L_set_iT {p : Program} {l : Launch} {e : Env} {s : State} {m : MethodId} {args : Array Value} {below : List Frame} {meth : Method} {c : Code} {D : va_G} {w0 : va_W} {H0 : Heap} {Q : State → Prop} {sb L : Nat} {xs : Nat → Int32} {x4 : Int32} {c0 s0 : Nat} (aQ aY aS aNs aTs aEs aDc aT bT aO : Nat) (ad : Nat → Nat) (cd c1 co : ClassId) (ca : Nat → ClassId) (pv : Nat → Int32) (dc : Nat → Option Nat) (v : Nat → Int32) (b : Nat → Int32) (ov : Nat → Int64) (mv : Nat → Int32) (mu : Nat → Nat → Int32) (G : zG p s m args meth c cL_law RL 8 (some .boolean)) (hK : va_K D vwCl (wQDTOM_t cd c1 co ca) s) (hX : zW (fun q => s.heap.size ≤ q) s) (hl0 : l.stackTraces = false) (hSg : va_S (fun q => s.heap.size ≤ q) s.heap H0 []) (hAs : ∀ q, (va_A w0 H0.size) q → s.heap.size ≤ q) (hsb : va_X sb L xs s H0) (hbl : sb < H0.size) (hbA : ¬ (va_A w0 H0.size) sb) (hc0 : c0 + 1 ≤ 601024) (hs0 : s0 + 6 ≤ 7293034) (hd : dc (xs (x4 + 1).toNatClampNeg).toNatClampNeg = some aT) {res : (Nat → Int32) × (Nat → Int32) × (Nat → Nat → Int32)} (hm : m_F_L_set_iT xs L x4 pv dc v b ov mv mu  = some res)
    (kk : ∀ (H : Heap) (locs : List Loc) (ls : Array Slot), va_P D vwCl (wQDTOM aQ aY aS aNs aTs aEs aDc aT bT aO ad cd c1 co ca pv dc v res.1 ov res.2.1 res.2.2) H → va_D (va_A w0 H0.size) (wQDTOM aQ aY aS aNs aTs aEs aDc aT bT aO ad cd c1 co ca pv dc v res.1 ov res.2.1 res.2.2) → va_S (va_A w0 H0.size) H0 H locs → lv_has ls 8 [(0, .ref sb), (1, .ref aQ), (2, .ref (ad 0)), (3, .ref aO), (4, .int x4)] → W p l e room_1 s m args below meth c H locs (c0 + 1) (s0 + 6) Q (F0 m 588 ls []))
    (H : Heap) (locs : List Loc) (ls : Array Slot) (hP : va_P D vwCl (wQDTOM aQ aY aS aNs aTs aEs aDc aT bT aO ad cd c1 co ca pv dc v b ov mv mu) H) (hD : va_D (va_A w0 H0.size) (wQDTOM aQ aY aS aNs aTs aEs aDc aT bT aO ad cd c1 co ca pv dc v b ov mv mu)) (hS : va_S (va_A w0 H0.size) H0 H locs) (hl : lv_has ls 8 [(0, .ref sb), (1, .ref aQ), (2, .ref (ad 0)), (3, .ref aO), (4, .int x4)]) : W p l e room_1 s m args below meth c H locs c0 s0 Q (F0 m 333 ls []) := by
  obtain ⟨hx, hb, hr, hml, hown, hw, hlk⟩ := G
  have hA : ∀ q, H0.size ≤ q → (va_A w0 H0.size) q := fun q h => Or.inr h
  unfold m_F_L_set_iT at hm
  refine lv_aload_n hx hb dL_law_333 rfl (lv_at hl 1 rfl) ?_
  refine lv_aload_n hx hb dL_law_334 rfl (lv_at hl 0 rfl) ?_
  refine lv_iload hx hb dL_law_335 (lv_at hl 4 rfl) ?_
  refine lv_iconst (v := 1) hx hb dL_law_337 (by decide) ?_
  refine lv_iadd hx hb dL_law_338 ?_
  obtain ⟨hi1, hm⟩ := zix_s hm
  refine va_sld (i := (x4 + 1)) (xs := xs) hx hb hsb hbl hbA hS hi1 dL_law_339 ?_
  refine lv_aload_n hx hb dL_law_340 rfl (lv_at hl 0 rfl) ?_
  refine lv_iload hx hb dL_law_341 (lv_at hl 4 rfl) ?_
  refine lv_iconst (v := 2) hx hb dL_law_343 (by decide) ?_
  refine lv_iadd hx hb dL_law_344 ?_
  obtain ⟨hi2, hm⟩ := zix_s hm
  refine va_sld (i := (x4 + 2)) (xs := xs) hx hb hsb hbl hbA hS hi2 dL_law_345 ?_
  refine lv_aload_n hx hb dL_law_346 rfl (lv_at hl 0 rfl) ?_
  refine lv_iload hx hb dL_law_347 (lv_at hl 4 rfl) ?_
  refine lv_iconst (v := 3) hx hb dL_law_349 (by decide) ?_
  refine lv_iadd hx hb dL_law_350 ?_
  obtain ⟨hi3, hm⟩ := zix_s hm
  refine va_sld (i := (x4 + 3)) (xs := xs) hx hb hsb hbl hbA hS hi3 dL_law_351 ?_
  obtain ⟨q4, hq4, hm⟩ := zbind hm
  have hPc := hP.sub (ws' := (wQDT aQ aY aS aNs aTs aEs aDc aT bT cd c1 pv dc v b)) [0, 1, 2, 3] rfl
  have hDc := hD.sub (ws' := (wQDT aQ aY aS aNs aTs aEs aDc aT bT cd c1 pv dc v b)) [0, 1, 2, 3] (by decide) rfl
  have hKc := hK.sub (tys' := wQDT_t cd c1) [0, 1] rfl
  have hFc := va_free (wc := (wQDT aQ aY aS aNs aTs aEs aDc aT bT cd c1 pv dc v b)) hD hS hA [0, 1, 2, 3] rfl
  refine zlSi (wr := [(aO, .inl (co, 1, .inr (.inl ov))), ((ad 0), .inr (5, [.int (mv 0), .int (mv 1), .ref (ad 1), .int (mv 3), .ref (ad 2), .ref (ad 3), .ref (ad 4), .ref (ad 5), .ref (ad 6), .ref (ad 7), .ref (ad 8), .ref (ad 9), .ref (ad 10), .ref (ad 11), .ref (ad 12), .ref (ad 13), .ref (ad 14), .ref (ad 15), .ref (ad 16), .ref (ad 17), .int (mv 20), .int (mv 21), .ref (ad 18), .int (mv 23)])), ((ad 1), .inl ((ca 1), 24, .inl (mu 1))), ((ad 2), .inl ((ca 2), 9, .inl (mu 2))), ((ad 3), .inl ((ca 3), 216, .inl (mu 3))), ((ad 4), .inl ((ca 4), 216, .inl (mu 4))), ((ad 5), .inl ((ca 5), 9, .inl (mu 5))), ((ad 6), .inl ((ca 6), 9, .inl (mu 6))), ((ad 7), .inl ((ca 7), 9, .inl (mu 7))), ((ad 8), .inl ((ca 8), 9, .inl (mu 8))), ((ad 9), .inl ((ca 9), 9, .inl (mu 9))), ((ad 10), .inl ((ca 10), 9, .inl (mu 10))), ((ad 11), .inl ((ca 11), 9, .inl (mu 11))), ((ad 12), .inl ((ca 12), 9, .inl (mu 12))), ((ad 13), .inl ((ca 13), 9, .inl (mu 13))), ((ad 14), .inl ((ca 14), 9, .inl (mu 14))), ((ad 15), .inl ((ca 15), 9, .inl (mu 15))), ((ad 16), .inl ((ca 16), 256, .inl (mu 16))), ((ad 17), .inl ((ca 17), 48, .inl (mu 17))), ((ad 18), .inl ((ca 18), 32, .inl (mu 18)))]) (w1 := (wQDT aQ aY aS aNs aTs aEs aDc aT bT cd c1 pv dc v q4.2)) (w' := (wQDTOM aQ aY aS aNs aTs aEs aDc aT bT aO ad cd c1 co ca pv dc v q4.2 ov mv mu)) (vx_runSW (As := [.ref aQ, .int (xs (x4 + 1).toNatClampNeg), .int (xs (x4 + 2).toNatClampNeg), .int (xs (x4 + 3).toNatClampNeg)]) (rest := []) ⟨hx, hb, hml, hown, hw⟩ (k_L_set_iT l D aQ aY aS aNs aTs aEs aDc aT bT cd c1 _ (xs (x4 + 1).toNatClampNeg) (xs (x4 + 2).toNatClampNeg) (xs (x4 + 3).toNatClampNeg) pv dc v b hl0 hd q4 hq4) (vx_cwSW 4 hw (zgoodW (List.forall_mem_cons.mpr ⟨zw628, List.forall_mem_cons.mpr ⟨zw629, List.forall_mem_cons.mpr ⟨zw587, fun _ h => absurd h List.not_mem_nil⟩⟩⟩) zw630) rfl rfl rfl hdL_set ⟨Nat.le_of_ble_eq_true rfl, Nat.le_of_ble_eq_true rfl⟩) (zpre zW_ok (A := fun q => s.heap.size ≤ q) hX (zglob hSg hAs hS) (fun q h => hAs q (hFc q h)) hPc hKc (hDc.weaken (fun _ _ _ h => hAs _ h))) rfl rfl hl.1 rfl (lv_room (Nat.le_of_ble_eq_true rfl)) dL_law_352 ⟨by show c0 + 1 ≤ 601024; omega, by show s0 + 6 ≤ 7293034; omega⟩) hP hD hS hFc [0, 1, 2, 3] [4, 5, 6, 7, 8, 9, 10, 11, 12, 13, 14, 15, 16, 17, 18, 19, 20, 21, 22, 23] [20, 21, 22, 23, 0, 1, 2, 3, 4, 5, 6, 7, 8, 9, 10, 11, 12, 13, 14, 15, 16, 17, 18, 19] rfl rfl (by decide) (by decide) rfl (by decide) (fun H locs hP hD hS => ?_)
  refine W.widen (k := c0 + 1) (n := s0 + 6) (by omega) (by omega) ?_
  refine lv_istore (lv' := [(5, .int q4.1), (0, .ref sb), (1, .ref aQ), (2, .ref (ad 0)), (3, .ref aO), (4, .int x4)]) hx hb dL_law_355 hl (by decide) rfl (fun ls hl => ?_)
  refine lv_aload_n hx hb dL_law_357 rfl (lv_at hl 3 rfl) ?_
  refine lv_aload_n hx hb dL_law_358 rfl (lv_at hl 1 rfl) ?_
  refine lv_iload hx hb dL_law_359 (lv_at hl 5 rfl) ?_
  refine lv_iconst (v := 1) hx hb dL_law_361 (by decide) ?_
  refine lv_iadd hx hb dL_law_362 ?_
  obtain ⟨hi5, hm⟩ := zix_s hm
  refine va_sld (i := (x4 + 1)) (xs := xs) hx hb hsb hbl hbA hS hi5 dL_law_363 ?_
  refine lv_aload_n hx hb dL_law_364 rfl (lv_at hl 1 rfl) ?_
  refine lv_iload hx hb dL_law_365 (lv_at hl 5 rfl) ?_
  refine lv_iconst (v := 2) hx hb dL_law_367 (by decide) ?_
  refine lv_iadd hx hb dL_law_368 ?_
  obtain ⟨hi6, hm⟩ := zix_s hm
  refine va_sld (i := (x4 + 2)) (xs := xs) hx hb hsb hbl hbA hS hi6 dL_law_369 ?_
  refine lv_aload_n hx hb dL_law_370 rfl (lv_at hl 1 rfl) ?_
  refine lv_iload hx hb dL_law_371 (lv_at hl 5 rfl) ?_
  refine lv_iconst (v := 3) hx hb dL_law_373 (by decide) ?_
  refine lv_iadd hx hb dL_law_374 ?_
  obtain ⟨hi7, hm⟩ := zix_s hm
  refine va_sld (i := (x4 + 3)) (xs := xs) hx hb hsb hbl hbA hS hi7 dL_law_375 ?_
  obtain ⟨q8, hq8, hm⟩ := zbind hm
  have hPc := hP.sub (ws' := (wM ad ca mv mu)) [5, 6, 7, 8, 9, 10, 11, 12, 13, 14, 15, 16, 17, 18, 19, 20, 21, 22, 23] rfl
  have hDc := hD.sub (ws' := (wM ad ca mv mu)) [5, 6, 7, 8, 9, 10, 11, 12, 13, 14, 15, 16, 17, 18, 19, 20, 21, 22, 23] (by decide) rfl
  have hKc := hK.sub (tys' := wM_t ca) [3, 4, 5, 6, 7, 8, 9, 10, 11, 12, 13, 14, 15, 16, 17, 18, 19, 20] rfl
  have hFc := va_free (wc := (wM ad ca mv mu)) hD hS hA [5, 6, 7, 8, 9, 10, 11, 12, 13, 14, 15, 16, 17, 18, 19, 20, 21, 22, 23] rfl
  refine zlSv (wr := [(aQ, .inr (4, [.ref aY, .int (pv 1), .ref aS, .ref aNs, .ref aTs, .ref aEs, .ref aDc, .int (pv 7)])), (aDc, .inl (cd, 8, .inr (.inr (.inr (.inr dc))))), (aT, .inr (3, [.ref bT, .int (v 1), .int (v 2), .int (v 3), .int (v 4)])), (bT, .inl (c1, 25, .inl q4.2)), (aO, .inl (co, 1, .inr (.inl ov)))]) (w1 := (wM ad ca q8.1 q8.2)) (w' := (wQDTOM aQ aY aS aNs aTs aEs aDc aT bT aO ad cd c1 co ca pv dc v q4.2 ov q8.1 q8.2)) (va_runV (As := [.int (xs (x4 + 1).toNatClampNeg), .int (xs (x4 + 2).toNatClampNeg), .int (xs (x4 + 3).toNatClampNeg)]) (rest := []) ⟨hx, hb, hml, hown, hw⟩ (k_M_set l D ad ca _ (xs (x4 + 1).toNatClampNeg) (xs (x4 + 2).toNatClampNeg) (xs (x4 + 3).toNatClampNeg) mv mu  q8 hq8) (zcV (C := RX6) 3 hw (zgood zw633) rfl rfl rfl zw7 zw631 zw632 zw634 hdX6_set ⟨Nat.le_of_ble_eq_true rfl, Nat.le_of_ble_eq_true rfl⟩) (zpreV (zpre zN_ok (A := fun q => s.heap.size ≤ q) trivial (zglob hSg hAs hS) (fun q h => hAs q (hFc q h)) hPc hKc (hDc.weaken (fun _ _ _ h => hAs _ h))) (va_recv hK hP rfl (q0 := 5) rfl)) rfl rfl hl.1 rfl (lv_room (Nat.le_of_ble_eq_true rfl)) dL_law_376 ⟨by show c0 + 1 ≤ 601024; omega, by show s0 + 6 ≤ 7293034; omega⟩) hP hD hS hFc [5, 6, 7, 8, 9, 10, 11, 12, 13, 14, 15, 16, 17, 18, 19, 20, 21, 22, 23] [0, 1, 2, 3, 4] [0, 1, 2, 3, 4, 5, 6, 7, 8, 9, 10, 11, 12, 13, 14, 15, 16, 17, 18, 19, 20, 21, 22, 23] rfl rfl (by decide) (by decide) rfl (by decide) (fun H locs hP hD hS => ?_)
  refine W.widen (k := c0 + 1) (n := s0 + 6) (by omega) (by omega) ?_
  refine lv_aload_n hx hb dL_law_379 rfl (lv_at hl 3 rfl) ?_
  obtain ⟨q9, hq9, hm⟩ := zbind hm
  have hPc := hP.sub (ws' := (wM ad ca q8.1 q8.2)) [5, 6, 7, 8, 9, 10, 11, 12, 13, 14, 15, 16, 17, 18, 19, 20, 21, 22, 23] rfl
  have hDc := hD.sub (ws' := (wM ad ca q8.1 q8.2)) [5, 6, 7, 8, 9, 10, 11, 12, 13, 14, 15, 16, 17, 18, 19, 20, 21, 22, 23] (by decide) rfl
  have hKc := hK.sub (tys' := wM_t ca) [3, 4, 5, 6, 7, 8, 9, 10, 11, 12, 13, 14, 15, 16, 17, 18, 19, 20] rfl
  have hFc := va_free (wc := (wM ad ca q8.1 q8.2)) hD hS hA [5, 6, 7, 8, 9, 10, 11, 12, 13, 14, 15, 16, 17, 18, 19, 20, 21, 22, 23] rfl
  refine zlSi (wr := [(aQ, .inr (4, [.ref aY, .int (pv 1), .ref aS, .ref aNs, .ref aTs, .ref aEs, .ref aDc, .int (pv 7)])), (aDc, .inl (cd, 8, .inr (.inr (.inr (.inr dc))))), (aT, .inr (3, [.ref bT, .int (v 1), .int (v 2), .int (v 3), .int (v 4)])), (bT, .inl (c1, 25, .inl q4.2)), (aO, .inl (co, 1, .inr (.inl ov)))]) (w1 := (wM ad ca q8.1 q8.2)) (w' := (wQDTOM aQ aY aS aNs aTs aEs aDc aT bT aO ad cd c1 co ca pv dc v q4.2 ov q8.1 q8.2)) (va_runV (As := []) (rest := []) ⟨hx, hb, hml, hown, hw⟩ (k_M_thrown l D ad ca _ q8.1 q8.2  q9 hq9) (zcV (C := RX6) 0 hw (zgood zw596) rfl rfl rfl zw7 zw594 zw595 zw597 hdX6_thrown ⟨Nat.le_of_ble_eq_true rfl, Nat.le_of_ble_eq_true rfl⟩) (zpreV (zpre zN_ok (A := fun q => s.heap.size ≤ q) trivial (zglob hSg hAs hS) (fun q h => hAs q (hFc q h)) hPc hKc (hDc.weaken (fun _ _ _ h => hAs _ h))) (va_recv hK hP rfl (q0 := 5) rfl)) rfl rfl hl.1 rfl (lv_room (Nat.le_of_ble_eq_true rfl)) dL_law_380 ⟨by show c0 + 1 ≤ 601024; omega, by show s0 + 6 ≤ 7293034; omega⟩) hP hD hS hFc [5, 6, 7, 8, 9, 10, 11, 12, 13, 14, 15, 16, 17, 18, 19, 20, 21, 22, 23] [0, 1, 2, 3, 4] [0, 1, 2, 3, 4, 5, 6, 7, 8, 9, 10, 11, 12, 13, 14, 15, 16, 17, 18, 19, 20, 21, 22, 23] rfl rfl (by decide) (by decide) rfl (by decide) (fun H locs hP hD hS => ?_)
  refine W.widen (k := c0 + 1) (n := s0 + 6) (by omega) (by omega) ?_
  refine lv_iload hx hb dL_law_383 (lv_at hl 0 rfl) ?_
  refine lv_icmp_eq (tgt := 390) hx hb dL_law_385 rfl (fun cd10 => ?_) (fun cd10 => ?_)
  · replace hm := zt cd10 hm
    refine lv_goto (tgt := 588) hx hb dL_law_390 rfl ?_
    cases hm
    refine W.widen (k := c0 + 1) (n := s0 + 6) (by omega) (by omega) ?_
    exact kk _ _ _ hP hD hS (lv_sub hl [1, 2, 3, 4, 5] rfl)
  · replace hm := zf cd10 hm
    refine lv_iconst (v := 0) hx hb dL_law_388 (by decide) ?_
    cases hm

def m_F_L_set_E (xs : Nat → Int32) (L : Nat) (x4 : Int32) (pv : Nat → Int32) (dc : Nat → Option Nat) (v : Nat → Int32) (b : Nat → Int32) (rw : Nat → Int32) (pw : Nat → Int32) (ov : Nat → Int64) (mv : Nat → Int32) (mu : Nat → Nat → Int32)  : Option ((Nat → Int32) × (Nat → Int32) × (Nat → Nat → Int32)) := zix (x4 + 1) L (zix (x4 + 2) L (zix (x4 + 3) L ((m_L_set_E (xs (x4 + 1).toNatClampNeg) (xs (x4 + 2).toNatClampNeg) (xs (x4 + 3).toNatClampNeg) pv dc v b rw pw).bind (fun q4 => zix (x4 + 1) L (zix (x4 + 2) L (zix (x4 + 3) L ((m_M_set (xs (x4 + 1).toNatClampNeg) (xs (x4 + 2).toNatClampNeg) (xs (x4 + 3).toNatClampNeg) mv mu).bind (fun q8 => (m_M_thrown q8.1 q8.2).bind (fun q9 => (if q9 = q4.1 then (some (q4.2, q8.1, q8.2)) else none))))))))))
set_option maxRecDepth 100000 in
set_option maxHeartbeats 4000000 in
theorem f_F_L_set_E {p : Program} {l : Launch} {e : Env} {s : State} {m : MethodId} {args : Array Value} {below : List Frame} {meth : Method} {c : Code} {D : va_G} {w0 : va_W} {H0 : Heap} {Q : State → Prop} {sb L : Nat} {xs : Nat → Int32} {x4 : Int32} {c0 s0 : Nat} (aQ aY aS aNs aTs aEs aDc aE bE rE pE aO : Nat) (ad : Nat → Nat) (cd c1 c2 c3 co : ClassId) (ca : Nat → ClassId) (pv : Nat → Int32) (dc : Nat → Option Nat) (v : Nat → Int32) (b : Nat → Int32) (rw : Nat → Int32) (pw : Nat → Int32) (ov : Nat → Int64) (mv : Nat → Int32) (mu : Nat → Nat → Int32) (G : zG p s m args meth c cL_law RL 8 (some .boolean)) (hK : va_K D vwCl (wQDEOM_t cd c1 c2 c3 co ca) s) (hX : zW (fun q => s.heap.size ≤ q) s) (hl0 : l.stackTraces = false) (hSg : va_S (fun q => s.heap.size ≤ q) s.heap H0 []) (hAs : ∀ q, (va_A w0 H0.size) q → s.heap.size ≤ q) (hsb : va_X sb L xs s H0) (hbl : sb < H0.size) (hbA : ¬ (va_A w0 H0.size) sb) (hc0 : c0 + 1 ≤ 601024) (hs0 : s0 + 6 ≤ 7293034) (hd : dc (xs (x4 + 1).toNatClampNeg).toNatClampNeg = some aE) {res : (Nat → Int32) × (Nat → Int32) × (Nat → Nat → Int32)} (hm : m_F_L_set_E xs L x4 pv dc v b rw pw ov mv mu  = some res)
    (kk : ∀ (H : Heap) (locs : List Loc) (ls : Array Slot), va_P D vwCl (wQDEOM aQ aY aS aNs aTs aEs aDc aE bE rE pE aO ad cd c1 c2 c3 co ca pv dc v res.1 rw pw ov res.2.1 res.2.2) H → va_D (va_A w0 H0.size) (wQDEOM aQ aY aS aNs aTs aEs aDc aE bE rE pE aO ad cd c1 c2 c3 co ca pv dc v res.1 rw pw ov res.2.1 res.2.2) → va_S (va_A w0 H0.size) H0 H locs → lv_has ls 8 [(0, .ref sb), (1, .ref aQ), (2, .ref (ad 0)), (3, .ref aO), (4, .int x4)] → W p l e room_1 s m args below meth c H locs (c0 + 1) (s0 + 6) Q (F0 m 588 ls []))
    (H : Heap) (locs : List Loc) (ls : Array Slot) (hP : va_P D vwCl (wQDEOM aQ aY aS aNs aTs aEs aDc aE bE rE pE aO ad cd c1 c2 c3 co ca pv dc v b rw pw ov mv mu) H) (hD : va_D (va_A w0 H0.size) (wQDEOM aQ aY aS aNs aTs aEs aDc aE bE rE pE aO ad cd c1 c2 c3 co ca pv dc v b rw pw ov mv mu)) (hS : va_S (va_A w0 H0.size) H0 H locs) (hl : lv_has ls 8 [(0, .ref sb), (1, .ref aQ), (2, .ref (ad 0)), (3, .ref aO), (4, .int x4)]) : W p l e room_1 s m args below meth c H locs c0 s0 Q (F0 m 333 ls []) := by
  obtain ⟨hx, hb, hr, hml, hown, hw, hlk⟩ := G
  have hA : ∀ q, H0.size ≤ q → (va_A w0 H0.size) q := fun q h => Or.inr h
  unfold m_F_L_set_E at hm
  refine lv_aload_n hx hb dL_law_333 rfl (lv_at hl 1 rfl) ?_
  refine lv_aload_n hx hb dL_law_334 rfl (lv_at hl 0 rfl) ?_
  refine lv_iload hx hb dL_law_335 (lv_at hl 4 rfl) ?_
  refine lv_iconst (v := 1) hx hb dL_law_337 (by decide) ?_
  refine lv_iadd hx hb dL_law_338 ?_
  obtain ⟨hi1, hm⟩ := zix_s hm
  refine va_sld (i := (x4 + 1)) (xs := xs) hx hb hsb hbl hbA hS hi1 dL_law_339 ?_
  refine lv_aload_n hx hb dL_law_340 rfl (lv_at hl 0 rfl) ?_
  refine lv_iload hx hb dL_law_341 (lv_at hl 4 rfl) ?_
  refine lv_iconst (v := 2) hx hb dL_law_343 (by decide) ?_
  refine lv_iadd hx hb dL_law_344 ?_
  obtain ⟨hi2, hm⟩ := zix_s hm
  refine va_sld (i := (x4 + 2)) (xs := xs) hx hb hsb hbl hbA hS hi2 dL_law_345 ?_
  refine lv_aload_n hx hb dL_law_346 rfl (lv_at hl 0 rfl) ?_
  refine lv_iload hx hb dL_law_347 (lv_at hl 4 rfl) ?_
  refine lv_iconst (v := 3) hx hb dL_law_349 (by decide) ?_
  refine lv_iadd hx hb dL_law_350 ?_
  obtain ⟨hi3, hm⟩ := zix_s hm
  refine va_sld (i := (x4 + 3)) (xs := xs) hx hb hsb hbl hbA hS hi3 dL_law_351 ?_
  obtain ⟨q4, hq4, hm⟩ := zbind hm
  have hPc := hP.sub (ws' := (wQDE aQ aY aS aNs aTs aEs aDc aE bE rE pE cd c1 c2 c3 pv dc v b rw pw)) [0, 1, 2, 3, 4, 5] rfl
  have hDc := hD.sub (ws' := (wQDE aQ aY aS aNs aTs aEs aDc aE bE rE pE cd c1 c2 c3 pv dc v b rw pw)) [0, 1, 2, 3, 4, 5] (by decide) rfl
  have hKc := hK.sub (tys' := wQDE_t cd c1 c2 c3) [0, 1, 2, 3] rfl
  have hFc := va_free (wc := (wQDE aQ aY aS aNs aTs aEs aDc aE bE rE pE cd c1 c2 c3 pv dc v b rw pw)) hD hS hA [0, 1, 2, 3, 4, 5] rfl
  refine zlSi (wr := [(aO, .inl (co, 1, .inr (.inl ov))), ((ad 0), .inr (5, [.int (mv 0), .int (mv 1), .ref (ad 1), .int (mv 3), .ref (ad 2), .ref (ad 3), .ref (ad 4), .ref (ad 5), .ref (ad 6), .ref (ad 7), .ref (ad 8), .ref (ad 9), .ref (ad 10), .ref (ad 11), .ref (ad 12), .ref (ad 13), .ref (ad 14), .ref (ad 15), .ref (ad 16), .ref (ad 17), .int (mv 20), .int (mv 21), .ref (ad 18), .int (mv 23)])), ((ad 1), .inl ((ca 1), 24, .inl (mu 1))), ((ad 2), .inl ((ca 2), 9, .inl (mu 2))), ((ad 3), .inl ((ca 3), 216, .inl (mu 3))), ((ad 4), .inl ((ca 4), 216, .inl (mu 4))), ((ad 5), .inl ((ca 5), 9, .inl (mu 5))), ((ad 6), .inl ((ca 6), 9, .inl (mu 6))), ((ad 7), .inl ((ca 7), 9, .inl (mu 7))), ((ad 8), .inl ((ca 8), 9, .inl (mu 8))), ((ad 9), .inl ((ca 9), 9, .inl (mu 9))), ((ad 10), .inl ((ca 10), 9, .inl (mu 10))), ((ad 11), .inl ((ca 11), 9, .inl (mu 11))), ((ad 12), .inl ((ca 12), 9, .inl (mu 12))), ((ad 13), .inl ((ca 13), 9, .inl (mu 13))), ((ad 14), .inl ((ca 14), 9, .inl (mu 14))), ((ad 15), .inl ((ca 15), 9, .inl (mu 15))), ((ad 16), .inl ((ca 16), 256, .inl (mu 16))), ((ad 17), .inl ((ca 17), 48, .inl (mu 17))), ((ad 18), .inl ((ca 18), 32, .inl (mu 18)))]) (w1 := (wQDE aQ aY aS aNs aTs aEs aDc aE bE rE pE cd c1 c2 c3 pv dc v q4.2 rw pw)) (w' := (wQDEOM aQ aY aS aNs aTs aEs aDc aE bE rE pE aO ad cd c1 c2 c3 co ca pv dc v q4.2 rw pw ov mv mu)) (vx_runSW (As := [.ref aQ, .int (xs (x4 + 1).toNatClampNeg), .int (xs (x4 + 2).toNatClampNeg), .int (xs (x4 + 3).toNatClampNeg)]) (rest := []) ⟨hx, hb, hml, hown, hw⟩ (k_L_set_E l D aQ aY aS aNs aTs aEs aDc aE bE rE pE cd c1 c2 c3 _ (xs (x4 + 1).toNatClampNeg) (xs (x4 + 2).toNatClampNeg) (xs (x4 + 3).toNatClampNeg) pv dc v b rw pw hd q4 hq4) (vx_cwSW 4 hw (zgoodW (List.forall_mem_cons.mpr ⟨zw628, List.forall_mem_cons.mpr ⟨zw629, List.forall_mem_cons.mpr ⟨zw587, fun _ h => absurd h List.not_mem_nil⟩⟩⟩) zw630) rfl rfl rfl hdL_set ⟨Nat.le_of_ble_eq_true rfl, Nat.le_of_ble_eq_true rfl⟩) (zpre zW_ok (A := fun q => s.heap.size ≤ q) hX (zglob hSg hAs hS) (fun q h => hAs q (hFc q h)) hPc hKc (hDc.weaken (fun _ _ _ h => hAs _ h))) rfl rfl hl.1 rfl (lv_room (Nat.le_of_ble_eq_true rfl)) dL_law_352 ⟨by show c0 + 0 ≤ 601024; omega, by show s0 + 0 ≤ 7293034; omega⟩) hP hD hS hFc [0, 1, 2, 3, 4, 5] [6, 7, 8, 9, 10, 11, 12, 13, 14, 15, 16, 17, 18, 19, 20, 21, 22, 23, 24, 25] [20, 21, 22, 23, 24, 25, 0, 1, 2, 3, 4, 5, 6, 7, 8, 9, 10, 11, 12, 13, 14, 15, 16, 17, 18, 19] rfl rfl (by decide) (by decide) rfl (by decide) (fun H locs hP hD hS => ?_)
  refine W.widen (k := c0 + 0) (n := s0 + 0) (by omega) (by omega) ?_
  refine lv_istore (lv' := [(5, .int q4.1), (0, .ref sb), (1, .ref aQ), (2, .ref (ad 0)), (3, .ref aO), (4, .int x4)]) hx hb dL_law_355 hl (by decide) rfl (fun ls hl => ?_)
  refine lv_aload_n hx hb dL_law_357 rfl (lv_at hl 3 rfl) ?_
  refine lv_aload_n hx hb dL_law_358 rfl (lv_at hl 1 rfl) ?_
  refine lv_iload hx hb dL_law_359 (lv_at hl 5 rfl) ?_
  refine lv_iconst (v := 1) hx hb dL_law_361 (by decide) ?_
  refine lv_iadd hx hb dL_law_362 ?_
  obtain ⟨hi5, hm⟩ := zix_s hm
  refine va_sld (i := (x4 + 1)) (xs := xs) hx hb hsb hbl hbA hS hi5 dL_law_363 ?_
  refine lv_aload_n hx hb dL_law_364 rfl (lv_at hl 1 rfl) ?_
  refine lv_iload hx hb dL_law_365 (lv_at hl 5 rfl) ?_
  refine lv_iconst (v := 2) hx hb dL_law_367 (by decide) ?_
  refine lv_iadd hx hb dL_law_368 ?_
  obtain ⟨hi6, hm⟩ := zix_s hm
  refine va_sld (i := (x4 + 2)) (xs := xs) hx hb hsb hbl hbA hS hi6 dL_law_369 ?_
  refine lv_aload_n hx hb dL_law_370 rfl (lv_at hl 1 rfl) ?_
  refine lv_iload hx hb dL_law_371 (lv_at hl 5 rfl) ?_
  refine lv_iconst (v := 3) hx hb dL_law_373 (by decide) ?_
  refine lv_iadd hx hb dL_law_374 ?_
  obtain ⟨hi7, hm⟩ := zix_s hm
  refine va_sld (i := (x4 + 3)) (xs := xs) hx hb hsb hbl hbA hS hi7 dL_law_375 ?_
  obtain ⟨q8, hq8, hm⟩ := zbind hm
  have hPc := hP.sub (ws' := (wM ad ca mv mu)) [7, 8, 9, 10, 11, 12, 13, 14, 15, 16, 17, 18, 19, 20, 21, 22, 23, 24, 25] rfl
  have hDc := hD.sub (ws' := (wM ad ca mv mu)) [7, 8, 9, 10, 11, 12, 13, 14, 15, 16, 17, 18, 19, 20, 21, 22, 23, 24, 25] (by decide) rfl
  have hKc := hK.sub (tys' := wM_t ca) [5, 6, 7, 8, 9, 10, 11, 12, 13, 14, 15, 16, 17, 18, 19, 20, 21, 22] rfl
  have hFc := va_free (wc := (wM ad ca mv mu)) hD hS hA [7, 8, 9, 10, 11, 12, 13, 14, 15, 16, 17, 18, 19, 20, 21, 22, 23, 24, 25] rfl
  refine zlSv (wr := [(aQ, .inr (4, [.ref aY, .int (pv 1), .ref aS, .ref aNs, .ref aTs, .ref aEs, .ref aDc, .int (pv 7)])), (aDc, .inl (cd, 8, .inr (.inr (.inr (.inr dc))))), (aE, .inr (0, [.ref bE, .int (v 1), .int (v 2), .int (v 3), .int (v 4), .ref rE, .ref pE, .int (v 7), .int (v 8), .int (v 9), .int (v 10), .int (v 11), .int (v 12), .int (v 13), .int (v 14), .int (v 15)])), (bE, .inl (c1, 25, .inl q4.2)), (rE, .inl (c2, 24, .inl rw)), (pE, .inl (c3, 24, .inl pw)), (aO, .inl (co, 1, .inr (.inl ov)))]) (w1 := (wM ad ca q8.1 q8.2)) (w' := (wQDEOM aQ aY aS aNs aTs aEs aDc aE bE rE pE aO ad cd c1 c2 c3 co ca pv dc v q4.2 rw pw ov q8.1 q8.2)) (va_runV (As := [.int (xs (x4 + 1).toNatClampNeg), .int (xs (x4 + 2).toNatClampNeg), .int (xs (x4 + 3).toNatClampNeg)]) (rest := []) ⟨hx, hb, hml, hown, hw⟩ (k_M_set l D ad ca _ (xs (x4 + 1).toNatClampNeg) (xs (x4 + 2).toNatClampNeg) (xs (x4 + 3).toNatClampNeg) mv mu  q8 hq8) (zcV (C := RX6) 3 hw (zgood zw633) rfl rfl rfl zw7 zw631 zw632 zw634 hdX6_set ⟨Nat.le_of_ble_eq_true rfl, Nat.le_of_ble_eq_true rfl⟩) (zpreV (zpre zN_ok (A := fun q => s.heap.size ≤ q) trivial (zglob hSg hAs hS) (fun q h => hAs q (hFc q h)) hPc hKc (hDc.weaken (fun _ _ _ h => hAs _ h))) (va_recv hK hP rfl (q0 := 7) rfl)) rfl rfl hl.1 rfl (lv_room (Nat.le_of_ble_eq_true rfl)) dL_law_376 ⟨by show c0 + 0 ≤ 601024; omega, by show s0 + 0 ≤ 7293034; omega⟩) hP hD hS hFc [7, 8, 9, 10, 11, 12, 13, 14, 15, 16, 17, 18, 19, 20, 21, 22, 23, 24, 25] [0, 1, 2, 3, 4, 5, 6] [0, 1, 2, 3, 4, 5, 6, 7, 8, 9, 10, 11, 12, 13, 14, 15, 16, 17, 18, 19, 20, 21, 22, 23, 24, 25] rfl rfl (by decide) (by decide) rfl (by decide) (fun H locs hP hD hS => ?_)
  refine W.widen (k := c0 + 0) (n := s0 + 0) (by omega) (by omega) ?_
  refine lv_aload_n hx hb dL_law_379 rfl (lv_at hl 3 rfl) ?_
  obtain ⟨q9, hq9, hm⟩ := zbind hm
  have hPc := hP.sub (ws' := (wM ad ca q8.1 q8.2)) [7, 8, 9, 10, 11, 12, 13, 14, 15, 16, 17, 18, 19, 20, 21, 22, 23, 24, 25] rfl
  have hDc := hD.sub (ws' := (wM ad ca q8.1 q8.2)) [7, 8, 9, 10, 11, 12, 13, 14, 15, 16, 17, 18, 19, 20, 21, 22, 23, 24, 25] (by decide) rfl
  have hKc := hK.sub (tys' := wM_t ca) [5, 6, 7, 8, 9, 10, 11, 12, 13, 14, 15, 16, 17, 18, 19, 20, 21, 22] rfl
  have hFc := va_free (wc := (wM ad ca q8.1 q8.2)) hD hS hA [7, 8, 9, 10, 11, 12, 13, 14, 15, 16, 17, 18, 19, 20, 21, 22, 23, 24, 25] rfl
  refine zlSi (wr := [(aQ, .inr (4, [.ref aY, .int (pv 1), .ref aS, .ref aNs, .ref aTs, .ref aEs, .ref aDc, .int (pv 7)])), (aDc, .inl (cd, 8, .inr (.inr (.inr (.inr dc))))), (aE, .inr (0, [.ref bE, .int (v 1), .int (v 2), .int (v 3), .int (v 4), .ref rE, .ref pE, .int (v 7), .int (v 8), .int (v 9), .int (v 10), .int (v 11), .int (v 12), .int (v 13), .int (v 14), .int (v 15)])), (bE, .inl (c1, 25, .inl q4.2)), (rE, .inl (c2, 24, .inl rw)), (pE, .inl (c3, 24, .inl pw)), (aO, .inl (co, 1, .inr (.inl ov)))]) (w1 := (wM ad ca q8.1 q8.2)) (w' := (wQDEOM aQ aY aS aNs aTs aEs aDc aE bE rE pE aO ad cd c1 c2 c3 co ca pv dc v q4.2 rw pw ov q8.1 q8.2)) (va_runV (As := []) (rest := []) ⟨hx, hb, hml, hown, hw⟩ (k_M_thrown l D ad ca _ q8.1 q8.2  q9 hq9) (zcV (C := RX6) 0 hw (zgood zw596) rfl rfl rfl zw7 zw594 zw595 zw597 hdX6_thrown ⟨Nat.le_of_ble_eq_true rfl, Nat.le_of_ble_eq_true rfl⟩) (zpreV (zpre zN_ok (A := fun q => s.heap.size ≤ q) trivial (zglob hSg hAs hS) (fun q h => hAs q (hFc q h)) hPc hKc (hDc.weaken (fun _ _ _ h => hAs _ h))) (va_recv hK hP rfl (q0 := 7) rfl)) rfl rfl hl.1 rfl (lv_room (Nat.le_of_ble_eq_true rfl)) dL_law_380 ⟨by show c0 + 0 ≤ 601024; omega, by show s0 + 0 ≤ 7293034; omega⟩) hP hD hS hFc [7, 8, 9, 10, 11, 12, 13, 14, 15, 16, 17, 18, 19, 20, 21, 22, 23, 24, 25] [0, 1, 2, 3, 4, 5, 6] [0, 1, 2, 3, 4, 5, 6, 7, 8, 9, 10, 11, 12, 13, 14, 15, 16, 17, 18, 19, 20, 21, 22, 23, 24, 25] rfl rfl (by decide) (by decide) rfl (by decide) (fun H locs hP hD hS => ?_)
  refine W.widen (k := c0 + 0) (n := s0 + 0) (by omega) (by omega) ?_
  refine lv_iload hx hb dL_law_383 (lv_at hl 0 rfl) ?_
  refine lv_icmp_eq (tgt := 390) hx hb dL_law_385 rfl (fun cd10 => ?_) (fun cd10 => ?_)
  · replace hm := zt cd10 hm
    refine lv_goto (tgt := 588) hx hb dL_law_390 rfl ?_
    cases hm
    refine W.widen (k := c0 + 1) (n := s0 + 6) (by omega) (by omega) ?_
    exact kk _ _ _ hP hD hS (lv_sub hl [1, 2, 3, 4, 5] rfl)
  · replace hm := zf cd10 hm
    refine lv_iconst (v := 0) hx hb dL_law_388 (by decide) ?_
    cases hm

def m_F_L_set_n2E (xs : Nat → Int32) (L : Nat) (x4 : Int32) (pv : Nat → Int32) (dc : Nat → Option Nat) (v : Nat → Int32) (b : Nat → Int32) (rw : Nat → Int32) (pw : Nat → Int32) (ov : Nat → Int64) (mv : Nat → Int32) (mu : Nat → Nat → Int32)  : Option ((Nat → Int32) × (Nat → Int32) × (Nat → Nat → Int32)) := zix (x4 + 1) L (zix (x4 + 2) L (zix (x4 + 3) L ((m_L_set_n2E (xs (x4 + 1).toNatClampNeg) (xs (x4 + 2).toNatClampNeg) (xs (x4 + 3).toNatClampNeg) pv dc v b rw pw).bind (fun q4 => zix (x4 + 1) L (zix (x4 + 2) L (zix (x4 + 3) L ((m_M_set (xs (x4 + 1).toNatClampNeg) (xs (x4 + 2).toNatClampNeg) (xs (x4 + 3).toNatClampNeg) mv mu).bind (fun q8 => (m_M_thrown q8.1 q8.2).bind (fun q9 => (if q9 = q4.1 then (some (q4.2, q8.1, q8.2)) else none))))))))))
set_option maxRecDepth 100000 in
set_option maxHeartbeats 4000000 in
theorem f_F_L_set_n2E {p : Program} {l : Launch} {e : Env} {s : State} {m : MethodId} {args : Array Value} {below : List Frame} {meth : Method} {c : Code} {D : va_G} {w0 : va_W} {H0 : Heap} {Q : State → Prop} {sb L : Nat} {xs : Nat → Int32} {x4 : Int32} {c0 s0 : Nat} (aQ aY aS aNs aTs aEs aDc aE bE rE pE aO : Nat) (ad : Nat → Nat) (cd c1 c2 c3 co : ClassId) (ca : Nat → ClassId) (pv : Nat → Int32) (dc : Nat → Option Nat) (v : Nat → Int32) (b : Nat → Int32) (rw : Nat → Int32) (pw : Nat → Int32) (ov : Nat → Int64) (mv : Nat → Int32) (mu : Nat → Nat → Int32) (G : zG p s m args meth c cL_law RL 8 (some .boolean)) (hK : va_K D vwCl (wQDEOM_t cd c1 c2 c3 co ca) s) (hX : zW (fun q => s.heap.size ≤ q) s) (hl0 : l.stackTraces = false) (hSg : va_S (fun q => s.heap.size ≤ q) s.heap H0 []) (hAs : ∀ q, (va_A w0 H0.size) q → s.heap.size ≤ q) (hsb : va_X sb L xs s H0) (hbl : sb < H0.size) (hbA : ¬ (va_A w0 H0.size) sb) (hc0 : c0 + 1 ≤ 601024) (hs0 : s0 + 6 ≤ 7293034) (hd : dc (xs (x4 + 1).toNatClampNeg).toNatClampNeg = some aE) {res : (Nat → Int32) × (Nat → Int32) × (Nat → Nat → Int32)} (hm : m_F_L_set_n2E xs L x4 pv dc v b rw pw ov mv mu  = some res)
    (kk : ∀ (H : Heap) (locs : List Loc) (ls : Array Slot), va_P D vwCl (wQDEOM aQ aY aS aNs aTs aEs aDc aE bE rE pE aO ad cd c1 c2 c3 co ca pv dc v res.1 rw pw ov res.2.1 res.2.2) H → va_D (va_A w0 H0.size) (wQDEOM aQ aY aS aNs aTs aEs aDc aE bE rE pE aO ad cd c1 c2 c3 co ca pv dc v res.1 rw pw ov res.2.1 res.2.2) → va_S (va_A w0 H0.size) H0 H locs → lv_has ls 8 [(0, .ref sb), (1, .ref aQ), (2, .ref (ad 0)), (3, .ref aO), (4, .int x4)] → W p l e room_1 s m args below meth c H locs (c0 + 1) (s0 + 6) Q (F0 m 588 ls []))
    (H : Heap) (locs : List Loc) (ls : Array Slot) (hP : va_P D vwCl (wQDEOM aQ aY aS aNs aTs aEs aDc aE bE rE pE aO ad cd c1 c2 c3 co ca pv dc v b rw pw ov mv mu) H) (hD : va_D (va_A w0 H0.size) (wQDEOM aQ aY aS aNs aTs aEs aDc aE bE rE pE aO ad cd c1 c2 c3 co ca pv dc v b rw pw ov mv mu)) (hS : va_S (va_A w0 H0.size) H0 H locs) (hl : lv_has ls 8 [(0, .ref sb), (1, .ref aQ), (2, .ref (ad 0)), (3, .ref aO), (4, .int x4)]) : W p l e room_1 s m args below meth c H locs c0 s0 Q (F0 m 333 ls []) := by
  obtain ⟨hx, hb, hr, hml, hown, hw, hlk⟩ := G
  have hA : ∀ q, H0.size ≤ q → (va_A w0 H0.size) q := fun q h => Or.inr h
  unfold m_F_L_set_n2E at hm
  refine lv_aload_n hx hb dL_law_333 rfl (lv_at hl 1 rfl) ?_
  refine lv_aload_n hx hb dL_law_334 rfl (lv_at hl 0 rfl) ?_
  refine lv_iload hx hb dL_law_335 (lv_at hl 4 rfl) ?_
  refine lv_iconst (v := 1) hx hb dL_law_337 (by decide) ?_
  refine lv_iadd hx hb dL_law_338 ?_
  obtain ⟨hi1, hm⟩ := zix_s hm
  refine va_sld (i := (x4 + 1)) (xs := xs) hx hb hsb hbl hbA hS hi1 dL_law_339 ?_
  refine lv_aload_n hx hb dL_law_340 rfl (lv_at hl 0 rfl) ?_
  refine lv_iload hx hb dL_law_341 (lv_at hl 4 rfl) ?_
  refine lv_iconst (v := 2) hx hb dL_law_343 (by decide) ?_
  refine lv_iadd hx hb dL_law_344 ?_
  obtain ⟨hi2, hm⟩ := zix_s hm
  refine va_sld (i := (x4 + 2)) (xs := xs) hx hb hsb hbl hbA hS hi2 dL_law_345 ?_
  refine lv_aload_n hx hb dL_law_346 rfl (lv_at hl 0 rfl) ?_
  refine lv_iload hx hb dL_law_347 (lv_at hl 4 rfl) ?_
  refine lv_iconst (v := 3) hx hb dL_law_349 (by decide) ?_
  refine lv_iadd hx hb dL_law_350 ?_
  obtain ⟨hi3, hm⟩ := zix_s hm
  refine va_sld (i := (x4 + 3)) (xs := xs) hx hb hsb hbl hbA hS hi3 dL_law_351 ?_
  obtain ⟨q4, hq4, hm⟩ := zbind hm
  have hPc := hP.sub (ws' := (wQDE aQ aY aS aNs aTs aEs aDc aE bE rE pE cd c1 c2 c3 pv dc v b rw pw)) [0, 1, 2, 3, 4, 5] rfl
  have hDc := hD.sub (ws' := (wQDE aQ aY aS aNs aTs aEs aDc aE bE rE pE cd c1 c2 c3 pv dc v b rw pw)) [0, 1, 2, 3, 4, 5] (by decide) rfl
  have hKc := hK.sub (tys' := wQDE_t cd c1 c2 c3) [0, 1, 2, 3] rfl
  have hFc := va_free (wc := (wQDE aQ aY aS aNs aTs aEs aDc aE bE rE pE cd c1 c2 c3 pv dc v b rw pw)) hD hS hA [0, 1, 2, 3, 4, 5] rfl
  refine zlSi (wr := [(aO, .inl (co, 1, .inr (.inl ov))), ((ad 0), .inr (5, [.int (mv 0), .int (mv 1), .ref (ad 1), .int (mv 3), .ref (ad 2), .ref (ad 3), .ref (ad 4), .ref (ad 5), .ref (ad 6), .ref (ad 7), .ref (ad 8), .ref (ad 9), .ref (ad 10), .ref (ad 11), .ref (ad 12), .ref (ad 13), .ref (ad 14), .ref (ad 15), .ref (ad 16), .ref (ad 17), .int (mv 20), .int (mv 21), .ref (ad 18), .int (mv 23)])), ((ad 1), .inl ((ca 1), 24, .inl (mu 1))), ((ad 2), .inl ((ca 2), 9, .inl (mu 2))), ((ad 3), .inl ((ca 3), 216, .inl (mu 3))), ((ad 4), .inl ((ca 4), 216, .inl (mu 4))), ((ad 5), .inl ((ca 5), 9, .inl (mu 5))), ((ad 6), .inl ((ca 6), 9, .inl (mu 6))), ((ad 7), .inl ((ca 7), 9, .inl (mu 7))), ((ad 8), .inl ((ca 8), 9, .inl (mu 8))), ((ad 9), .inl ((ca 9), 9, .inl (mu 9))), ((ad 10), .inl ((ca 10), 9, .inl (mu 10))), ((ad 11), .inl ((ca 11), 9, .inl (mu 11))), ((ad 12), .inl ((ca 12), 9, .inl (mu 12))), ((ad 13), .inl ((ca 13), 9, .inl (mu 13))), ((ad 14), .inl ((ca 14), 9, .inl (mu 14))), ((ad 15), .inl ((ca 15), 9, .inl (mu 15))), ((ad 16), .inl ((ca 16), 256, .inl (mu 16))), ((ad 17), .inl ((ca 17), 48, .inl (mu 17))), ((ad 18), .inl ((ca 18), 32, .inl (mu 18)))]) (w1 := (wQDE aQ aY aS aNs aTs aEs aDc aE bE rE pE cd c1 c2 c3 pv dc v q4.2 rw pw)) (w' := (wQDEOM aQ aY aS aNs aTs aEs aDc aE bE rE pE aO ad cd c1 c2 c3 co ca pv dc v q4.2 rw pw ov mv mu)) (vx_runSW (As := [.ref aQ, .int (xs (x4 + 1).toNatClampNeg), .int (xs (x4 + 2).toNatClampNeg), .int (xs (x4 + 3).toNatClampNeg)]) (rest := []) ⟨hx, hb, hml, hown, hw⟩ (k_L_set_n2E l D aQ aY aS aNs aTs aEs aDc aE bE rE pE cd c1 c2 c3 _ (xs (x4 + 1).toNatClampNeg) (xs (x4 + 2).toNatClampNeg) (xs (x4 + 3).toNatClampNeg) pv dc v b rw pw hl0 hd q4 hq4) (vx_cwSW 4 hw (zgoodW (List.forall_mem_cons.mpr ⟨zw628, List.forall_mem_cons.mpr ⟨zw629, List.forall_mem_cons.mpr ⟨zw587, fun _ h => absurd h List.not_mem_nil⟩⟩⟩) zw630) rfl rfl rfl hdL_set ⟨Nat.le_of_ble_eq_true rfl, Nat.le_of_ble_eq_true rfl⟩) (zpre zW_ok (A := fun q => s.heap.size ≤ q) hX (zglob hSg hAs hS) (fun q h => hAs q (hFc q h)) hPc hKc (hDc.weaken (fun _ _ _ h => hAs _ h))) rfl rfl hl.1 rfl (lv_room (Nat.le_of_ble_eq_true rfl)) dL_law_352 ⟨by show c0 + 1 ≤ 601024; omega, by show s0 + 6 ≤ 7293034; omega⟩) hP hD hS hFc [0, 1, 2, 3, 4, 5] [6, 7, 8, 9, 10, 11, 12, 13, 14, 15, 16, 17, 18, 19, 20, 21, 22, 23, 24, 25] [20, 21, 22, 23, 24, 25, 0, 1, 2, 3, 4, 5, 6, 7, 8, 9, 10, 11, 12, 13, 14, 15, 16, 17, 18, 19] rfl rfl (by decide) (by decide) rfl (by decide) (fun H locs hP hD hS => ?_)
  refine W.widen (k := c0 + 1) (n := s0 + 6) (by omega) (by omega) ?_
  refine lv_istore (lv' := [(5, .int q4.1), (0, .ref sb), (1, .ref aQ), (2, .ref (ad 0)), (3, .ref aO), (4, .int x4)]) hx hb dL_law_355 hl (by decide) rfl (fun ls hl => ?_)
  refine lv_aload_n hx hb dL_law_357 rfl (lv_at hl 3 rfl) ?_
  refine lv_aload_n hx hb dL_law_358 rfl (lv_at hl 1 rfl) ?_
  refine lv_iload hx hb dL_law_359 (lv_at hl 5 rfl) ?_
  refine lv_iconst (v := 1) hx hb dL_law_361 (by decide) ?_
  refine lv_iadd hx hb dL_law_362 ?_
  obtain ⟨hi5, hm⟩ := zix_s hm
  refine va_sld (i := (x4 + 1)) (xs := xs) hx hb hsb hbl hbA hS hi5 dL_law_363 ?_
  refine lv_aload_n hx hb dL_law_364 rfl (lv_at hl 1 rfl) ?_
  refine lv_iload hx hb dL_law_365 (lv_at hl 5 rfl) ?_
  refine lv_iconst (v := 2) hx hb dL_law_367 (by decide) ?_
  refine lv_iadd hx hb dL_law_368 ?_
  obtain ⟨hi6, hm⟩ := zix_s hm
  refine va_sld (i := (x4 + 2)) (xs := xs) hx hb hsb hbl hbA hS hi6 dL_law_369 ?_
  refine lv_aload_n hx hb dL_law_370 rfl (lv_at hl 1 rfl) ?_
  refine lv_iload hx hb dL_law_371 (lv_at hl 5 rfl) ?_
  refine lv_iconst (v := 3) hx hb dL_law_373 (by decide) ?_
  refine lv_iadd hx hb dL_law_374 ?_
  obtain ⟨hi7, hm⟩ := zix_s hm
  refine va_sld (i := (x4 + 3)) (xs := xs) hx hb hsb hbl hbA hS hi7 dL_law_375 ?_
  obtain ⟨q8, hq8, hm⟩ := zbind hm
  have hPc := hP.sub (ws' := (wM ad ca mv mu)) [7, 8, 9, 10, 11, 12, 13, 14, 15, 16, 17, 18, 19, 20, 21, 22, 23, 24, 25] rfl
  have hDc := hD.sub (ws' := (wM ad ca mv mu)) [7, 8, 9, 10, 11, 12, 13, 14, 15, 16, 17, 18, 19, 20, 21, 22, 23, 24, 25] (by decide) rfl
  have hKc := hK.sub (tys' := wM_t ca) [5, 6, 7, 8, 9, 10, 11, 12, 13, 14, 15, 16, 17, 18, 19, 20, 21, 22] rfl
  have hFc := va_free (wc := (wM ad ca mv mu)) hD hS hA [7, 8, 9, 10, 11, 12, 13, 14, 15, 16, 17, 18, 19, 20, 21, 22, 23, 24, 25] rfl
  refine zlSv (wr := [(aQ, .inr (4, [.ref aY, .int (pv 1), .ref aS, .ref aNs, .ref aTs, .ref aEs, .ref aDc, .int (pv 7)])), (aDc, .inl (cd, 8, .inr (.inr (.inr (.inr dc))))), (aE, .inr (0, [.ref bE, .int (v 1), .int (v 2), .int (v 3), .int (v 4), .ref rE, .ref pE, .int (v 7), .int (v 8), .int (v 9), .int (v 10), .int (v 11), .int (v 12), .int (v 13), .int (v 14), .int (v 15)])), (bE, .inl (c1, 25, .inl q4.2)), (rE, .inl (c2, 24, .inl rw)), (pE, .inl (c3, 24, .inl pw)), (aO, .inl (co, 1, .inr (.inl ov)))]) (w1 := (wM ad ca q8.1 q8.2)) (w' := (wQDEOM aQ aY aS aNs aTs aEs aDc aE bE rE pE aO ad cd c1 c2 c3 co ca pv dc v q4.2 rw pw ov q8.1 q8.2)) (va_runV (As := [.int (xs (x4 + 1).toNatClampNeg), .int (xs (x4 + 2).toNatClampNeg), .int (xs (x4 + 3).toNatClampNeg)]) (rest := []) ⟨hx, hb, hml, hown, hw⟩ (k_M_set l D ad ca _ (xs (x4 + 1).toNatClampNeg) (xs (x4 + 2).toNatClampNeg) (xs (x4 + 3).toNatClampNeg) mv mu  q8 hq8) (zcV (C := RX6) 3 hw (zgood zw633) rfl rfl rfl zw7 zw631 zw632 zw634 hdX6_set ⟨Nat.le_of_ble_eq_true rfl, Nat.le_of_ble_eq_true rfl⟩) (zpreV (zpre zN_ok (A := fun q => s.heap.size ≤ q) trivial (zglob hSg hAs hS) (fun q h => hAs q (hFc q h)) hPc hKc (hDc.weaken (fun _ _ _ h => hAs _ h))) (va_recv hK hP rfl (q0 := 7) rfl)) rfl rfl hl.1 rfl (lv_room (Nat.le_of_ble_eq_true rfl)) dL_law_376 ⟨by show c0 + 1 ≤ 601024; omega, by show s0 + 6 ≤ 7293034; omega⟩) hP hD hS hFc [7, 8, 9, 10, 11, 12, 13, 14, 15, 16, 17, 18, 19, 20, 21, 22, 23, 24, 25] [0, 1, 2, 3, 4, 5, 6] [0, 1, 2, 3, 4, 5, 6, 7, 8, 9, 10, 11, 12, 13, 14, 15, 16, 17, 18, 19, 20, 21, 22, 23, 24, 25] rfl rfl (by decide) (by decide) rfl (by decide) (fun H locs hP hD hS => ?_)
  refine W.widen (k := c0 + 1) (n := s0 + 6) (by omega) (by omega) ?_
  refine lv_aload_n hx hb dL_law_379 rfl (lv_at hl 3 rfl) ?_
  obtain ⟨q9, hq9, hm⟩ := zbind hm
  have hPc := hP.sub (ws' := (wM ad ca q8.1 q8.2)) [7, 8, 9, 10, 11, 12, 13, 14, 15, 16, 17, 18, 19, 20, 21, 22, 23, 24, 25] rfl
  have hDc := hD.sub (ws' := (wM ad ca q8.1 q8.2)) [7, 8, 9, 10, 11, 12, 13, 14, 15, 16, 17, 18, 19, 20, 21, 22, 23, 24, 25] (by decide) rfl
  have hKc := hK.sub (tys' := wM_t ca) [5, 6, 7, 8, 9, 10, 11, 12, 13, 14, 15, 16, 17, 18, 19, 20, 21, 22] rfl
  have hFc := va_free (wc := (wM ad ca q8.1 q8.2)) hD hS hA [7, 8, 9, 10, 11, 12, 13, 14, 15, 16, 17, 18, 19, 20, 21, 22, 23, 24, 25] rfl
  refine zlSi (wr := [(aQ, .inr (4, [.ref aY, .int (pv 1), .ref aS, .ref aNs, .ref aTs, .ref aEs, .ref aDc, .int (pv 7)])), (aDc, .inl (cd, 8, .inr (.inr (.inr (.inr dc))))), (aE, .inr (0, [.ref bE, .int (v 1), .int (v 2), .int (v 3), .int (v 4), .ref rE, .ref pE, .int (v 7), .int (v 8), .int (v 9), .int (v 10), .int (v 11), .int (v 12), .int (v 13), .int (v 14), .int (v 15)])), (bE, .inl (c1, 25, .inl q4.2)), (rE, .inl (c2, 24, .inl rw)), (pE, .inl (c3, 24, .inl pw)), (aO, .inl (co, 1, .inr (.inl ov)))]) (w1 := (wM ad ca q8.1 q8.2)) (w' := (wQDEOM aQ aY aS aNs aTs aEs aDc aE bE rE pE aO ad cd c1 c2 c3 co ca pv dc v q4.2 rw pw ov q8.1 q8.2)) (va_runV (As := []) (rest := []) ⟨hx, hb, hml, hown, hw⟩ (k_M_thrown l D ad ca _ q8.1 q8.2  q9 hq9) (zcV (C := RX6) 0 hw (zgood zw596) rfl rfl rfl zw7 zw594 zw595 zw597 hdX6_thrown ⟨Nat.le_of_ble_eq_true rfl, Nat.le_of_ble_eq_true rfl⟩) (zpreV (zpre zN_ok (A := fun q => s.heap.size ≤ q) trivial (zglob hSg hAs hS) (fun q h => hAs q (hFc q h)) hPc hKc (hDc.weaken (fun _ _ _ h => hAs _ h))) (va_recv hK hP rfl (q0 := 7) rfl)) rfl rfl hl.1 rfl (lv_room (Nat.le_of_ble_eq_true rfl)) dL_law_380 ⟨by show c0 + 1 ≤ 601024; omega, by show s0 + 6 ≤ 7293034; omega⟩) hP hD hS hFc [7, 8, 9, 10, 11, 12, 13, 14, 15, 16, 17, 18, 19, 20, 21, 22, 23, 24, 25] [0, 1, 2, 3, 4, 5, 6] [0, 1, 2, 3, 4, 5, 6, 7, 8, 9, 10, 11, 12, 13, 14, 15, 16, 17, 18, 19, 20, 21, 22, 23, 24, 25] rfl rfl (by decide) (by decide) rfl (by decide) (fun H locs hP hD hS => ?_)
  refine W.widen (k := c0 + 1) (n := s0 + 6) (by omega) (by omega) ?_
  refine lv_iload hx hb dL_law_383 (lv_at hl 0 rfl) ?_
  refine lv_icmp_eq (tgt := 390) hx hb dL_law_385 rfl (fun cd10 => ?_) (fun cd10 => ?_)
  · replace hm := zt cd10 hm
    refine lv_goto (tgt := 588) hx hb dL_law_390 rfl ?_
    cases hm
    refine W.widen (k := c0 + 1) (n := s0 + 6) (by omega) (by omega) ?_
    exact kk _ _ _ hP hD hS (lv_sub hl [1, 2, 3, 4, 5] rfl)
  · replace hm := zf cd10 hm
    refine lv_iconst (v := 0) hx hb dL_law_388 (by decide) ?_
    cases hm

def m_F_L_set_iE (xs : Nat → Int32) (L : Nat) (x4 : Int32) (pv : Nat → Int32) (dc : Nat → Option Nat) (v : Nat → Int32) (b : Nat → Int32) (rw : Nat → Int32) (pw : Nat → Int32) (ov : Nat → Int64) (mv : Nat → Int32) (mu : Nat → Nat → Int32)  : Option ((Nat → Int32) × (Nat → Int32) × (Nat → Nat → Int32)) := zix (x4 + 1) L (zix (x4 + 2) L (zix (x4 + 3) L ((m_L_set_iE (xs (x4 + 1).toNatClampNeg) (xs (x4 + 2).toNatClampNeg) (xs (x4 + 3).toNatClampNeg) pv dc v b rw pw).bind (fun q4 => zix (x4 + 1) L (zix (x4 + 2) L (zix (x4 + 3) L ((m_M_set (xs (x4 + 1).toNatClampNeg) (xs (x4 + 2).toNatClampNeg) (xs (x4 + 3).toNatClampNeg) mv mu).bind (fun q8 => (m_M_thrown q8.1 q8.2).bind (fun q9 => (if q9 = q4.1 then (some (q4.2, q8.1, q8.2)) else none))))))))))
set_option maxRecDepth 100000 in
set_option maxHeartbeats 4000000 in
theorem f_F_L_set_iE {p : Program} {l : Launch} {e : Env} {s : State} {m : MethodId} {args : Array Value} {below : List Frame} {meth : Method} {c : Code} {D : va_G} {w0 : va_W} {H0 : Heap} {Q : State → Prop} {sb L : Nat} {xs : Nat → Int32} {x4 : Int32} {c0 s0 : Nat} (aQ aY aS aNs aTs aEs aDc aE bE rE pE aO : Nat) (ad : Nat → Nat) (cd c1 c2 c3 co : ClassId) (ca : Nat → ClassId) (pv : Nat → Int32) (dc : Nat → Option Nat) (v : Nat → Int32) (b : Nat → Int32) (rw : Nat → Int32) (pw : Nat → Int32) (ov : Nat → Int64) (mv : Nat → Int32) (mu : Nat → Nat → Int32) (G : zG p s m args meth c cL_law RL 8 (some .boolean)) (hK : va_K D vwCl (wQDEOM_t cd c1 c2 c3 co ca) s) (hX : zW (fun q => s.heap.size ≤ q) s) (hl0 : l.stackTraces = false) (hSg : va_S (fun q => s.heap.size ≤ q) s.heap H0 []) (hAs : ∀ q, (va_A w0 H0.size) q → s.heap.size ≤ q) (hsb : va_X sb L xs s H0) (hbl : sb < H0.size) (hbA : ¬ (va_A w0 H0.size) sb) (hc0 : c0 + 1 ≤ 601024) (hs0 : s0 + 6 ≤ 7293034) (hd : dc (xs (x4 + 1).toNatClampNeg).toNatClampNeg = some aE) {res : (Nat → Int32) × (Nat → Int32) × (Nat → Nat → Int32)} (hm : m_F_L_set_iE xs L x4 pv dc v b rw pw ov mv mu  = some res)
    (kk : ∀ (H : Heap) (locs : List Loc) (ls : Array Slot), va_P D vwCl (wQDEOM aQ aY aS aNs aTs aEs aDc aE bE rE pE aO ad cd c1 c2 c3 co ca pv dc v res.1 rw pw ov res.2.1 res.2.2) H → va_D (va_A w0 H0.size) (wQDEOM aQ aY aS aNs aTs aEs aDc aE bE rE pE aO ad cd c1 c2 c3 co ca pv dc v res.1 rw pw ov res.2.1 res.2.2) → va_S (va_A w0 H0.size) H0 H locs → lv_has ls 8 [(0, .ref sb), (1, .ref aQ), (2, .ref (ad 0)), (3, .ref aO), (4, .int x4)] → W p l e room_1 s m args below meth c H locs (c0 + 1) (s0 + 6) Q (F0 m 588 ls []))
    (H : Heap) (locs : List Loc) (ls : Array Slot) (hP : va_P D vwCl (wQDEOM aQ aY aS aNs aTs aEs aDc aE bE rE pE aO ad cd c1 c2 c3 co ca pv dc v b rw pw ov mv mu) H) (hD : va_D (va_A w0 H0.size) (wQDEOM aQ aY aS aNs aTs aEs aDc aE bE rE pE aO ad cd c1 c2 c3 co ca pv dc v b rw pw ov mv mu)) (hS : va_S (va_A w0 H0.size) H0 H locs) (hl : lv_has ls 8 [(0, .ref sb), (1, .ref aQ), (2, .ref (ad 0)), (3, .ref aO), (4, .int x4)]) : W p l e room_1 s m args below meth c H locs c0 s0 Q (F0 m 333 ls []) := by
  obtain ⟨hx, hb, hr, hml, hown, hw, hlk⟩ := G
  have hA : ∀ q, H0.size ≤ q → (va_A w0 H0.size) q := fun q h => Or.inr h
  unfold m_F_L_set_iE at hm
  refine lv_aload_n hx hb dL_law_333 rfl (lv_at hl 1 rfl) ?_
  refine lv_aload_n hx hb dL_law_334 rfl (lv_at hl 0 rfl) ?_
  refine lv_iload hx hb dL_law_335 (lv_at hl 4 rfl) ?_
  refine lv_iconst (v := 1) hx hb dL_law_337 (by decide) ?_
  refine lv_iadd hx hb dL_law_338 ?_
  obtain ⟨hi1, hm⟩ := zix_s hm
  refine va_sld (i := (x4 + 1)) (xs := xs) hx hb hsb hbl hbA hS hi1 dL_law_339 ?_
  refine lv_aload_n hx hb dL_law_340 rfl (lv_at hl 0 rfl) ?_
  refine lv_iload hx hb dL_law_341 (lv_at hl 4 rfl) ?_
  refine lv_iconst (v := 2) hx hb dL_law_343 (by decide) ?_
  refine lv_iadd hx hb dL_law_344 ?_
  obtain ⟨hi2, hm⟩ := zix_s hm
  refine va_sld (i := (x4 + 2)) (xs := xs) hx hb hsb hbl hbA hS hi2 dL_law_345 ?_
  refine lv_aload_n hx hb dL_law_346 rfl (lv_at hl 0 rfl) ?_
  refine lv_iload hx hb dL_law_347 (lv_at hl 4 rfl) ?_
  refine lv_iconst (v := 3) hx hb dL_law_349 (by decide) ?_
  refine lv_iadd hx hb dL_law_350 ?_
  obtain ⟨hi3, hm⟩ := zix_s hm
  refine va_sld (i := (x4 + 3)) (xs := xs) hx hb hsb hbl hbA hS hi3 dL_law_351 ?_
  obtain ⟨q4, hq4, hm⟩ := zbind hm
  have hPc := hP.sub (ws' := (wQDE aQ aY aS aNs aTs aEs aDc aE bE rE pE cd c1 c2 c3 pv dc v b rw pw)) [0, 1, 2, 3, 4, 5] rfl
  have hDc := hD.sub (ws' := (wQDE aQ aY aS aNs aTs aEs aDc aE bE rE pE cd c1 c2 c3 pv dc v b rw pw)) [0, 1, 2, 3, 4, 5] (by decide) rfl
  have hKc := hK.sub (tys' := wQDE_t cd c1 c2 c3) [0, 1, 2, 3] rfl
  have hFc := va_free (wc := (wQDE aQ aY aS aNs aTs aEs aDc aE bE rE pE cd c1 c2 c3 pv dc v b rw pw)) hD hS hA [0, 1, 2, 3, 4, 5] rfl
  refine zlSi (wr := [(aO, .inl (co, 1, .inr (.inl ov))), ((ad 0), .inr (5, [.int (mv 0), .int (mv 1), .ref (ad 1), .int (mv 3), .ref (ad 2), .ref (ad 3), .ref (ad 4), .ref (ad 5), .ref (ad 6), .ref (ad 7), .ref (ad 8), .ref (ad 9), .ref (ad 10), .ref (ad 11), .ref (ad 12), .ref (ad 13), .ref (ad 14), .ref (ad 15), .ref (ad 16), .ref (ad 17), .int (mv 20), .int (mv 21), .ref (ad 18), .int (mv 23)])), ((ad 1), .inl ((ca 1), 24, .inl (mu 1))), ((ad 2), .inl ((ca 2), 9, .inl (mu 2))), ((ad 3), .inl ((ca 3), 216, .inl (mu 3))), ((ad 4), .inl ((ca 4), 216, .inl (mu 4))), ((ad 5), .inl ((ca 5), 9, .inl (mu 5))), ((ad 6), .inl ((ca 6), 9, .inl (mu 6))), ((ad 7), .inl ((ca 7), 9, .inl (mu 7))), ((ad 8), .inl ((ca 8), 9, .inl (mu 8))), ((ad 9), .inl ((ca 9), 9, .inl (mu 9))), ((ad 10), .inl ((ca 10), 9, .inl (mu 10))), ((ad 11), .inl ((ca 11), 9, .inl (mu 11))), ((ad 12), .inl ((ca 12), 9, .inl (mu 12))), ((ad 13), .inl ((ca 13), 9, .inl (mu 13))), ((ad 14), .inl ((ca 14), 9, .inl (mu 14))), ((ad 15), .inl ((ca 15), 9, .inl (mu 15))), ((ad 16), .inl ((ca 16), 256, .inl (mu 16))), ((ad 17), .inl ((ca 17), 48, .inl (mu 17))), ((ad 18), .inl ((ca 18), 32, .inl (mu 18)))]) (w1 := (wQDE aQ aY aS aNs aTs aEs aDc aE bE rE pE cd c1 c2 c3 pv dc v q4.2 rw pw)) (w' := (wQDEOM aQ aY aS aNs aTs aEs aDc aE bE rE pE aO ad cd c1 c2 c3 co ca pv dc v q4.2 rw pw ov mv mu)) (vx_runSW (As := [.ref aQ, .int (xs (x4 + 1).toNatClampNeg), .int (xs (x4 + 2).toNatClampNeg), .int (xs (x4 + 3).toNatClampNeg)]) (rest := []) ⟨hx, hb, hml, hown, hw⟩ (k_L_set_iE l D aQ aY aS aNs aTs aEs aDc aE bE rE pE cd c1 c2 c3 _ (xs (x4 + 1).toNatClampNeg) (xs (x4 + 2).toNatClampNeg) (xs (x4 + 3).toNatClampNeg) pv dc v b rw pw hl0 hd q4 hq4) (vx_cwSW 4 hw (zgoodW (List.forall_mem_cons.mpr ⟨zw628, List.forall_mem_cons.mpr ⟨zw629, List.forall_mem_cons.mpr ⟨zw587, fun _ h => absurd h List.not_mem_nil⟩⟩⟩) zw630) rfl rfl rfl hdL_set ⟨Nat.le_of_ble_eq_true rfl, Nat.le_of_ble_eq_true rfl⟩) (zpre zW_ok (A := fun q => s.heap.size ≤ q) hX (zglob hSg hAs hS) (fun q h => hAs q (hFc q h)) hPc hKc (hDc.weaken (fun _ _ _ h => hAs _ h))) rfl rfl hl.1 rfl (lv_room (Nat.le_of_ble_eq_true rfl)) dL_law_352 ⟨by show c0 + 1 ≤ 601024; omega, by show s0 + 6 ≤ 7293034; omega⟩) hP hD hS hFc [0, 1, 2, 3, 4, 5] [6, 7, 8, 9, 10, 11, 12, 13, 14, 15, 16, 17, 18, 19, 20, 21, 22, 23, 24, 25] [20, 21, 22, 23, 24, 25, 0, 1, 2, 3, 4, 5, 6, 7, 8, 9, 10, 11, 12, 13, 14, 15, 16, 17, 18, 19] rfl rfl (by decide) (by decide) rfl (by decide) (fun H locs hP hD hS => ?_)
  refine W.widen (k := c0 + 1) (n := s0 + 6) (by omega) (by omega) ?_
  refine lv_istore (lv' := [(5, .int q4.1), (0, .ref sb), (1, .ref aQ), (2, .ref (ad 0)), (3, .ref aO), (4, .int x4)]) hx hb dL_law_355 hl (by decide) rfl (fun ls hl => ?_)
  refine lv_aload_n hx hb dL_law_357 rfl (lv_at hl 3 rfl) ?_
  refine lv_aload_n hx hb dL_law_358 rfl (lv_at hl 1 rfl) ?_
  refine lv_iload hx hb dL_law_359 (lv_at hl 5 rfl) ?_
  refine lv_iconst (v := 1) hx hb dL_law_361 (by decide) ?_
  refine lv_iadd hx hb dL_law_362 ?_
  obtain ⟨hi5, hm⟩ := zix_s hm
  refine va_sld (i := (x4 + 1)) (xs := xs) hx hb hsb hbl hbA hS hi5 dL_law_363 ?_
  refine lv_aload_n hx hb dL_law_364 rfl (lv_at hl 1 rfl) ?_
  refine lv_iload hx hb dL_law_365 (lv_at hl 5 rfl) ?_
  refine lv_iconst (v := 2) hx hb dL_law_367 (by decide) ?_
  refine lv_iadd hx hb dL_law_368 ?_
  obtain ⟨hi6, hm⟩ := zix_s hm
  refine va_sld (i := (x4 + 2)) (xs := xs) hx hb hsb hbl hbA hS hi6 dL_law_369 ?_
  refine lv_aload_n hx hb dL_law_370 rfl (lv_at hl 1 rfl) ?_
  refine lv_iload hx hb dL_law_371 (lv_at hl 5 rfl) ?_
  refine lv_iconst (v := 3) hx hb dL_law_373 (by decide) ?_
  refine lv_iadd hx hb dL_law_374 ?_
  obtain ⟨hi7, hm⟩ := zix_s hm
  refine va_sld (i := (x4 + 3)) (xs := xs) hx hb hsb hbl hbA hS hi7 dL_law_375 ?_
  obtain ⟨q8, hq8, hm⟩ := zbind hm
  have hPc := hP.sub (ws' := (wM ad ca mv mu)) [7, 8, 9, 10, 11, 12, 13, 14, 15, 16, 17, 18, 19, 20, 21, 22, 23, 24, 25] rfl
  have hDc := hD.sub (ws' := (wM ad ca mv mu)) [7, 8, 9, 10, 11, 12, 13, 14, 15, 16, 17, 18, 19, 20, 21, 22, 23, 24, 25] (by decide) rfl
  have hKc := hK.sub (tys' := wM_t ca) [5, 6, 7, 8, 9, 10, 11, 12, 13, 14, 15, 16, 17, 18, 19, 20, 21, 22] rfl
  have hFc := va_free (wc := (wM ad ca mv mu)) hD hS hA [7, 8, 9, 10, 11, 12, 13, 14, 15, 16, 17, 18, 19, 20, 21, 22, 23, 24, 25] rfl
  refine zlSv (wr := [(aQ, .inr (4, [.ref aY, .int (pv 1), .ref aS, .ref aNs, .ref aTs, .ref aEs, .ref aDc, .int (pv 7)])), (aDc, .inl (cd, 8, .inr (.inr (.inr (.inr dc))))), (aE, .inr (0, [.ref bE, .int (v 1), .int (v 2), .int (v 3), .int (v 4), .ref rE, .ref pE, .int (v 7), .int (v 8), .int (v 9), .int (v 10), .int (v 11), .int (v 12), .int (v 13), .int (v 14), .int (v 15)])), (bE, .inl (c1, 25, .inl q4.2)), (rE, .inl (c2, 24, .inl rw)), (pE, .inl (c3, 24, .inl pw)), (aO, .inl (co, 1, .inr (.inl ov)))]) (w1 := (wM ad ca q8.1 q8.2)) (w' := (wQDEOM aQ aY aS aNs aTs aEs aDc aE bE rE pE aO ad cd c1 c2 c3 co ca pv dc v q4.2 rw pw ov q8.1 q8.2)) (va_runV (As := [.int (xs (x4 + 1).toNatClampNeg), .int (xs (x4 + 2).toNatClampNeg), .int (xs (x4 + 3).toNatClampNeg)]) (rest := []) ⟨hx, hb, hml, hown, hw⟩ (k_M_set l D ad ca _ (xs (x4 + 1).toNatClampNeg) (xs (x4 + 2).toNatClampNeg) (xs (x4 + 3).toNatClampNeg) mv mu  q8 hq8) (zcV (C := RX6) 3 hw (zgood zw633) rfl rfl rfl zw7 zw631 zw632 zw634 hdX6_set ⟨Nat.le_of_ble_eq_true rfl, Nat.le_of_ble_eq_true rfl⟩) (zpreV (zpre zN_ok (A := fun q => s.heap.size ≤ q) trivial (zglob hSg hAs hS) (fun q h => hAs q (hFc q h)) hPc hKc (hDc.weaken (fun _ _ _ h => hAs _ h))) (va_recv hK hP rfl (q0 := 7) rfl)) rfl rfl hl.1 rfl (lv_room (Nat.le_of_ble_eq_true rfl)) dL_law_376 ⟨by show c0 + 1 ≤ 601024; omega, by show s0 + 6 ≤ 7293034; omega⟩) hP hD hS hFc [7, 8, 9, 10, 11, 12, 13, 14, 15, 16, 17, 18, 19, 20, 21, 22, 23, 24, 25] [0, 1, 2, 3, 4, 5, 6] [0, 1, 2, 3, 4, 5, 6, 7, 8, 9, 10, 11, 12, 13, 14, 15, 16, 17, 18, 19, 20, 21, 22, 23, 24, 25] rfl rfl (by decide) (by decide) rfl (by decide) (fun H locs hP hD hS => ?_)
  refine W.widen (k := c0 + 1) (n := s0 + 6) (by omega) (by omega) ?_
  refine lv_aload_n hx hb dL_law_379 rfl (lv_at hl 3 rfl) ?_
  obtain ⟨q9, hq9, hm⟩ := zbind hm
  have hPc := hP.sub (ws' := (wM ad ca q8.1 q8.2)) [7, 8, 9, 10, 11, 12, 13, 14, 15, 16, 17, 18, 19, 20, 21, 22, 23, 24, 25] rfl
  have hDc := hD.sub (ws' := (wM ad ca q8.1 q8.2)) [7, 8, 9, 10, 11, 12, 13, 14, 15, 16, 17, 18, 19, 20, 21, 22, 23, 24, 25] (by decide) rfl
  have hKc := hK.sub (tys' := wM_t ca) [5, 6, 7, 8, 9, 10, 11, 12, 13, 14, 15, 16, 17, 18, 19, 20, 21, 22] rfl
  have hFc := va_free (wc := (wM ad ca q8.1 q8.2)) hD hS hA [7, 8, 9, 10, 11, 12, 13, 14, 15, 16, 17, 18, 19, 20, 21, 22, 23, 24, 25] rfl
  refine zlSi (wr := [(aQ, .inr (4, [.ref aY, .int (pv 1), .ref aS, .ref aNs, .ref aTs, .ref aEs, .ref aDc, .int (pv 7)])), (aDc, .inl (cd, 8, .inr (.inr (.inr (.inr dc))))), (aE, .inr (0, [.ref bE, .int (v 1), .int (v 2), .int (v 3), .int (v 4), .ref rE, .ref pE, .int (v 7), .int (v 8), .int (v 9), .int (v 10), .int (v 11), .int (v 12), .int (v 13), .int (v 14), .int (v 15)])), (bE, .inl (c1, 25, .inl q4.2)), (rE, .inl (c2, 24, .inl rw)), (pE, .inl (c3, 24, .inl pw)), (aO, .inl (co, 1, .inr (.inl ov)))]) (w1 := (wM ad ca q8.1 q8.2)) (w' := (wQDEOM aQ aY aS aNs aTs aEs aDc aE bE rE pE aO ad cd c1 c2 c3 co ca pv dc v q4.2 rw pw ov q8.1 q8.2)) (va_runV (As := []) (rest := []) ⟨hx, hb, hml, hown, hw⟩ (k_M_thrown l D ad ca _ q8.1 q8.2  q9 hq9) (zcV (C := RX6) 0 hw (zgood zw596) rfl rfl rfl zw7 zw594 zw595 zw597 hdX6_thrown ⟨Nat.le_of_ble_eq_true rfl, Nat.le_of_ble_eq_true rfl⟩) (zpreV (zpre zN_ok (A := fun q => s.heap.size ≤ q) trivial (zglob hSg hAs hS) (fun q h => hAs q (hFc q h)) hPc hKc (hDc.weaken (fun _ _ _ h => hAs _ h))) (va_recv hK hP rfl (q0 := 7) rfl)) rfl rfl hl.1 rfl (lv_room (Nat.le_of_ble_eq_true rfl)) dL_law_380 ⟨by show c0 + 1 ≤ 601024; omega, by show s0 + 6 ≤ 7293034; omega⟩) hP hD hS hFc [7, 8, 9, 10, 11, 12, 13, 14, 15, 16, 17, 18, 19, 20, 21, 22, 23, 24, 25] [0, 1, 2, 3, 4, 5, 6] [0, 1, 2, 3, 4, 5, 6, 7, 8, 9, 10, 11, 12, 13, 14, 15, 16, 17, 18, 19, 20, 21, 22, 23, 24, 25] rfl rfl (by decide) (by decide) rfl (by decide) (fun H locs hP hD hS => ?_)
  refine W.widen (k := c0 + 1) (n := s0 + 6) (by omega) (by omega) ?_
  refine lv_iload hx hb dL_law_383 (lv_at hl 0 rfl) ?_
  refine lv_icmp_eq (tgt := 390) hx hb dL_law_385 rfl (fun cd10 => ?_) (fun cd10 => ?_)
  · replace hm := zt cd10 hm
    refine lv_goto (tgt := 588) hx hb dL_law_390 rfl ?_
    cases hm
    refine W.widen (k := c0 + 1) (n := s0 + 6) (by omega) (by omega) ?_
    exact kk _ _ _ hP hD hS (lv_sub hl [1, 2, 3, 4, 5] rfl)
  · replace hm := zf cd10 hm
    refine lv_iconst (v := 0) hx hb dL_law_388 (by decide) ?_
    cases hm

def m_F_L_set_n (xs : Nat → Int32) (L : Nat) (x4 : Int32) (pv : Nat → Int32) (dc : Nat → Option Nat) (ov : Nat → Int64) (mv : Nat → Int32) (mu : Nat → Nat → Int32)  : Option ((Nat → Int32) × (Nat → Nat → Int32)) := zix (x4 + 1) L (zix (x4 + 2) L (zix (x4 + 3) L ((m_L_set_n (xs (x4 + 1).toNatClampNeg) (xs (x4 + 2).toNatClampNeg) (xs (x4 + 3).toNatClampNeg) pv dc).bind (fun q4 => zix (x4 + 1) L (zix (x4 + 2) L (zix (x4 + 3) L ((m_M_set (xs (x4 + 1).toNatClampNeg) (xs (x4 + 2).toNatClampNeg) (xs (x4 + 3).toNatClampNeg) mv mu).bind (fun q8 => (m_M_thrown q8.1 q8.2).bind (fun q9 => (if q9 = q4 then (some (q8.1, q8.2)) else none))))))))))
set_option maxRecDepth 100000 in
set_option maxHeartbeats 4000000 in
theorem f_F_L_set_n {p : Program} {l : Launch} {e : Env} {s : State} {m : MethodId} {args : Array Value} {below : List Frame} {meth : Method} {c : Code} {D : va_G} {w0 : va_W} {H0 : Heap} {Q : State → Prop} {sb L : Nat} {xs : Nat → Int32} {x4 : Int32} {c0 s0 : Nat} (aQ aY aS aNs aTs aEs aDc aO : Nat) (ad : Nat → Nat) (cd co : ClassId) (ca : Nat → ClassId) (pv : Nat → Int32) (dc : Nat → Option Nat) (ov : Nat → Int64) (mv : Nat → Int32) (mu : Nat → Nat → Int32) (G : zG p s m args meth c cL_law RL 8 (some .boolean)) (hK : va_K D vwCl (wQDOM_t cd co ca) s) (hX : zW (fun q => s.heap.size ≤ q) s) (hl0 : l.stackTraces = false) (hSg : va_S (fun q => s.heap.size ≤ q) s.heap H0 []) (hAs : ∀ q, (va_A w0 H0.size) q → s.heap.size ≤ q) (hsb : va_X sb L xs s H0) (hbl : sb < H0.size) (hbA : ¬ (va_A w0 H0.size) sb) (hc0 : c0 + 1 ≤ 601024) (hs0 : s0 + 6 ≤ 7293034) {res : (Nat → Int32) × (Nat → Nat → Int32)} (hm : m_F_L_set_n xs L x4 pv dc ov mv mu  = some res)
    (kk : ∀ (H : Heap) (locs : List Loc) (ls : Array Slot), va_P D vwCl (wQDOM aQ aY aS aNs aTs aEs aDc aO ad cd co ca pv dc ov res.1 res.2) H → va_D (va_A w0 H0.size) (wQDOM aQ aY aS aNs aTs aEs aDc aO ad cd co ca pv dc ov res.1 res.2) → va_S (va_A w0 H0.size) H0 H locs → lv_has ls 8 [(0, .ref sb), (1, .ref aQ), (2, .ref (ad 0)), (3, .ref aO), (4, .int x4)] → W p l e room_1 s m args below meth c H locs (c0 + 1) (s0 + 6) Q (F0 m 588 ls []))
    (H : Heap) (locs : List Loc) (ls : Array Slot) (hP : va_P D vwCl (wQDOM aQ aY aS aNs aTs aEs aDc aO ad cd co ca pv dc ov mv mu) H) (hD : va_D (va_A w0 H0.size) (wQDOM aQ aY aS aNs aTs aEs aDc aO ad cd co ca pv dc ov mv mu)) (hS : va_S (va_A w0 H0.size) H0 H locs) (hl : lv_has ls 8 [(0, .ref sb), (1, .ref aQ), (2, .ref (ad 0)), (3, .ref aO), (4, .int x4)]) : W p l e room_1 s m args below meth c H locs c0 s0 Q (F0 m 333 ls []) := by
  obtain ⟨hx, hb, hr, hml, hown, hw, hlk⟩ := G
  have hA : ∀ q, H0.size ≤ q → (va_A w0 H0.size) q := fun q h => Or.inr h
  unfold m_F_L_set_n at hm
  refine lv_aload_n hx hb dL_law_333 rfl (lv_at hl 1 rfl) ?_
  refine lv_aload_n hx hb dL_law_334 rfl (lv_at hl 0 rfl) ?_
  refine lv_iload hx hb dL_law_335 (lv_at hl 4 rfl) ?_
  refine lv_iconst (v := 1) hx hb dL_law_337 (by decide) ?_
  refine lv_iadd hx hb dL_law_338 ?_
  obtain ⟨hi1, hm⟩ := zix_s hm
  refine va_sld (i := (x4 + 1)) (xs := xs) hx hb hsb hbl hbA hS hi1 dL_law_339 ?_
  refine lv_aload_n hx hb dL_law_340 rfl (lv_at hl 0 rfl) ?_
  refine lv_iload hx hb dL_law_341 (lv_at hl 4 rfl) ?_
  refine lv_iconst (v := 2) hx hb dL_law_343 (by decide) ?_
  refine lv_iadd hx hb dL_law_344 ?_
  obtain ⟨hi2, hm⟩ := zix_s hm
  refine va_sld (i := (x4 + 2)) (xs := xs) hx hb hsb hbl hbA hS hi2 dL_law_345 ?_
  refine lv_aload_n hx hb dL_law_346 rfl (lv_at hl 0 rfl) ?_
  refine lv_iload hx hb dL_law_347 (lv_at hl 4 rfl) ?_
  refine lv_iconst (v := 3) hx hb dL_law_349 (by decide) ?_
  refine lv_iadd hx hb dL_law_350 ?_
  obtain ⟨hi3, hm⟩ := zix_s hm
  refine va_sld (i := (x4 + 3)) (xs := xs) hx hb hsb hbl hbA hS hi3 dL_law_351 ?_
  obtain ⟨q4, hq4, hm⟩ := zbind hm
  have hPc := hP.sub (ws' := (wQD aQ aY aS aNs aTs aEs aDc cd pv dc)) [0, 1] rfl
  have hDc := hD.sub (ws' := (wQD aQ aY aS aNs aTs aEs aDc cd pv dc)) [0, 1] (by decide) rfl
  have hKc := hK.sub (tys' := wQD_t cd) [0] rfl
  have hFc := va_free (wc := (wQD aQ aY aS aNs aTs aEs aDc cd pv dc)) hD hS hA [0, 1] rfl
  refine zlSi (wr := [(aO, .inl (co, 1, .inr (.inl ov))), ((ad 0), .inr (5, [.int (mv 0), .int (mv 1), .ref (ad 1), .int (mv 3), .ref (ad 2), .ref (ad 3), .ref (ad 4), .ref (ad 5), .ref (ad 6), .ref (ad 7), .ref (ad 8), .ref (ad 9), .ref (ad 10), .ref (ad 11), .ref (ad 12), .ref (ad 13), .ref (ad 14), .ref (ad 15), .ref (ad 16), .ref (ad 17), .int (mv 20), .int (mv 21), .ref (ad 18), .int (mv 23)])), ((ad 1), .inl ((ca 1), 24, .inl (mu 1))), ((ad 2), .inl ((ca 2), 9, .inl (mu 2))), ((ad 3), .inl ((ca 3), 216, .inl (mu 3))), ((ad 4), .inl ((ca 4), 216, .inl (mu 4))), ((ad 5), .inl ((ca 5), 9, .inl (mu 5))), ((ad 6), .inl ((ca 6), 9, .inl (mu 6))), ((ad 7), .inl ((ca 7), 9, .inl (mu 7))), ((ad 8), .inl ((ca 8), 9, .inl (mu 8))), ((ad 9), .inl ((ca 9), 9, .inl (mu 9))), ((ad 10), .inl ((ca 10), 9, .inl (mu 10))), ((ad 11), .inl ((ca 11), 9, .inl (mu 11))), ((ad 12), .inl ((ca 12), 9, .inl (mu 12))), ((ad 13), .inl ((ca 13), 9, .inl (mu 13))), ((ad 14), .inl ((ca 14), 9, .inl (mu 14))), ((ad 15), .inl ((ca 15), 9, .inl (mu 15))), ((ad 16), .inl ((ca 16), 256, .inl (mu 16))), ((ad 17), .inl ((ca 17), 48, .inl (mu 17))), ((ad 18), .inl ((ca 18), 32, .inl (mu 18)))]) (w1 := (wQD aQ aY aS aNs aTs aEs aDc cd pv dc)) (w' := (wQDOM aQ aY aS aNs aTs aEs aDc aO ad cd co ca pv dc ov mv mu)) (vx_runSW (As := [.ref aQ, .int (xs (x4 + 1).toNatClampNeg), .int (xs (x4 + 2).toNatClampNeg), .int (xs (x4 + 3).toNatClampNeg)]) (rest := []) ⟨hx, hb, hml, hown, hw⟩ (k_L_set_n l D aQ aY aS aNs aTs aEs aDc cd _ (xs (x4 + 1).toNatClampNeg) (xs (x4 + 2).toNatClampNeg) (xs (x4 + 3).toNatClampNeg) pv dc hl0 q4 hq4) (vx_cwSW 4 hw (zgoodW (List.forall_mem_cons.mpr ⟨zw628, List.forall_mem_cons.mpr ⟨zw629, List.forall_mem_cons.mpr ⟨zw587, fun _ h => absurd h List.not_mem_nil⟩⟩⟩) zw630) rfl rfl rfl hdL_set ⟨Nat.le_of_ble_eq_true rfl, Nat.le_of_ble_eq_true rfl⟩) (zpre zW_ok (A := fun q => s.heap.size ≤ q) hX (zglob hSg hAs hS) (fun q h => hAs q (hFc q h)) hPc hKc (hDc.weaken (fun _ _ _ h => hAs _ h))) rfl rfl hl.1 rfl (lv_room (Nat.le_of_ble_eq_true rfl)) dL_law_352 ⟨by show c0 + 1 ≤ 601024; omega, by show s0 + 6 ≤ 7293034; omega⟩) hP hD hS hFc [0, 1] [2, 3, 4, 5, 6, 7, 8, 9, 10, 11, 12, 13, 14, 15, 16, 17, 18, 19, 20, 21] [20, 21, 0, 1, 2, 3, 4, 5, 6, 7, 8, 9, 10, 11, 12, 13, 14, 15, 16, 17, 18, 19] rfl rfl (by decide) (by decide) rfl (by decide) (fun H locs hP hD hS => ?_)
  refine W.widen (k := c0 + 1) (n := s0 + 6) (by omega) (by omega) ?_
  refine lv_istore (lv' := [(5, .int q4), (0, .ref sb), (1, .ref aQ), (2, .ref (ad 0)), (3, .ref aO), (4, .int x4)]) hx hb dL_law_355 hl (by decide) rfl (fun ls hl => ?_)
  refine lv_aload_n hx hb dL_law_357 rfl (lv_at hl 3 rfl) ?_
  refine lv_aload_n hx hb dL_law_358 rfl (lv_at hl 1 rfl) ?_
  refine lv_iload hx hb dL_law_359 (lv_at hl 5 rfl) ?_
  refine lv_iconst (v := 1) hx hb dL_law_361 (by decide) ?_
  refine lv_iadd hx hb dL_law_362 ?_
  obtain ⟨hi5, hm⟩ := zix_s hm
  refine va_sld (i := (x4 + 1)) (xs := xs) hx hb hsb hbl hbA hS hi5 dL_law_363 ?_
  refine lv_aload_n hx hb dL_law_364 rfl (lv_at hl 1 rfl) ?_
  refine lv_iload hx hb dL_law_365 (lv_at hl 5 rfl) ?_
  refine lv_iconst (v := 2) hx hb dL_law_367 (by decide) ?_
  refine lv_iadd hx hb dL_law_368 ?_
  obtain ⟨hi6, hm⟩ := zix_s hm
  refine va_sld (i := (x4 + 2)) (xs := xs) hx hb hsb hbl hbA hS hi6 dL_law_369 ?_
  refine lv_aload_n hx hb dL_law_370 rfl (lv_at hl 1 rfl) ?_
  refine lv_iload hx hb dL_law_371 (lv_at hl 5 rfl) ?_
  refine lv_iconst (v := 3) hx hb dL_law_373 (by decide) ?_
  refine lv_iadd hx hb dL_law_374 ?_
  obtain ⟨hi7, hm⟩ := zix_s hm
  refine va_sld (i := (x4 + 3)) (xs := xs) hx hb hsb hbl hbA hS hi7 dL_law_375 ?_
  obtain ⟨q8, hq8, hm⟩ := zbind hm
  have hPc := hP.sub (ws' := (wM ad ca mv mu)) [3, 4, 5, 6, 7, 8, 9, 10, 11, 12, 13, 14, 15, 16, 17, 18, 19, 20, 21] rfl
  have hDc := hD.sub (ws' := (wM ad ca mv mu)) [3, 4, 5, 6, 7, 8, 9, 10, 11, 12, 13, 14, 15, 16, 17, 18, 19, 20, 21] (by decide) rfl
  have hKc := hK.sub (tys' := wM_t ca) [2, 3, 4, 5, 6, 7, 8, 9, 10, 11, 12, 13, 14, 15, 16, 17, 18, 19] rfl
  have hFc := va_free (wc := (wM ad ca mv mu)) hD hS hA [3, 4, 5, 6, 7, 8, 9, 10, 11, 12, 13, 14, 15, 16, 17, 18, 19, 20, 21] rfl
  refine zlSv (wr := [(aQ, .inr (4, [.ref aY, .int (pv 1), .ref aS, .ref aNs, .ref aTs, .ref aEs, .ref aDc, .int (pv 7)])), (aDc, .inl (cd, 8, .inr (.inr (.inr (.inr dc))))), (aO, .inl (co, 1, .inr (.inl ov)))]) (w1 := (wM ad ca q8.1 q8.2)) (w' := (wQDOM aQ aY aS aNs aTs aEs aDc aO ad cd co ca pv dc ov q8.1 q8.2)) (va_runV (As := [.int (xs (x4 + 1).toNatClampNeg), .int (xs (x4 + 2).toNatClampNeg), .int (xs (x4 + 3).toNatClampNeg)]) (rest := []) ⟨hx, hb, hml, hown, hw⟩ (k_M_set l D ad ca _ (xs (x4 + 1).toNatClampNeg) (xs (x4 + 2).toNatClampNeg) (xs (x4 + 3).toNatClampNeg) mv mu  q8 hq8) (zcV (C := RX6) 3 hw (zgood zw633) rfl rfl rfl zw7 zw631 zw632 zw634 hdX6_set ⟨Nat.le_of_ble_eq_true rfl, Nat.le_of_ble_eq_true rfl⟩) (zpreV (zpre zN_ok (A := fun q => s.heap.size ≤ q) trivial (zglob hSg hAs hS) (fun q h => hAs q (hFc q h)) hPc hKc (hDc.weaken (fun _ _ _ h => hAs _ h))) (va_recv hK hP rfl (q0 := 3) rfl)) rfl rfl hl.1 rfl (lv_room (Nat.le_of_ble_eq_true rfl)) dL_law_376 ⟨by show c0 + 1 ≤ 601024; omega, by show s0 + 6 ≤ 7293034; omega⟩) hP hD hS hFc [3, 4, 5, 6, 7, 8, 9, 10, 11, 12, 13, 14, 15, 16, 17, 18, 19, 20, 21] [0, 1, 2] [0, 1, 2, 3, 4, 5, 6, 7, 8, 9, 10, 11, 12, 13, 14, 15, 16, 17, 18, 19, 20, 21] rfl rfl (by decide) (by decide) rfl (by decide) (fun H locs hP hD hS => ?_)
  refine W.widen (k := c0 + 1) (n := s0 + 6) (by omega) (by omega) ?_
  refine lv_aload_n hx hb dL_law_379 rfl (lv_at hl 3 rfl) ?_
  obtain ⟨q9, hq9, hm⟩ := zbind hm
  have hPc := hP.sub (ws' := (wM ad ca q8.1 q8.2)) [3, 4, 5, 6, 7, 8, 9, 10, 11, 12, 13, 14, 15, 16, 17, 18, 19, 20, 21] rfl
  have hDc := hD.sub (ws' := (wM ad ca q8.1 q8.2)) [3, 4, 5, 6, 7, 8, 9, 10, 11, 12, 13, 14, 15, 16, 17, 18, 19, 20, 21] (by decide) rfl
  have hKc := hK.sub (tys' := wM_t ca) [2, 3, 4, 5, 6, 7, 8, 9, 10, 11, 12, 13, 14, 15, 16, 17, 18, 19] rfl
  have hFc := va_free (wc := (wM ad ca q8.1 q8.2)) hD hS hA [3, 4, 5, 6, 7, 8, 9, 10, 11, 12, 13, 14, 15, 16, 17, 18, 19, 20, 21] rfl
  refine zlSi (wr := [(aQ, .inr (4, [.ref aY, .int (pv 1), .ref aS, .ref aNs, .ref aTs, .ref aEs, .ref aDc, .int (pv 7)])), (aDc, .inl (cd, 8, .inr (.inr (.inr (.inr dc))))), (aO, .inl (co, 1, .inr (.inl ov)))]) (w1 := (wM ad ca q8.1 q8.2)) (w' := (wQDOM aQ aY aS aNs aTs aEs aDc aO ad cd co ca pv dc ov q8.1 q8.2)) (va_runV (As := []) (rest := []) ⟨hx, hb, hml, hown, hw⟩ (k_M_thrown l D ad ca _ q8.1 q8.2  q9 hq9) (zcV (C := RX6) 0 hw (zgood zw596) rfl rfl rfl zw7 zw594 zw595 zw597 hdX6_thrown ⟨Nat.le_of_ble_eq_true rfl, Nat.le_of_ble_eq_true rfl⟩) (zpreV (zpre zN_ok (A := fun q => s.heap.size ≤ q) trivial (zglob hSg hAs hS) (fun q h => hAs q (hFc q h)) hPc hKc (hDc.weaken (fun _ _ _ h => hAs _ h))) (va_recv hK hP rfl (q0 := 3) rfl)) rfl rfl hl.1 rfl (lv_room (Nat.le_of_ble_eq_true rfl)) dL_law_380 ⟨by show c0 + 1 ≤ 601024; omega, by show s0 + 6 ≤ 7293034; omega⟩) hP hD hS hFc [3, 4, 5, 6, 7, 8, 9, 10, 11, 12, 13, 14, 15, 16, 17, 18, 19, 20, 21] [0, 1, 2] [0, 1, 2, 3, 4, 5, 6, 7, 8, 9, 10, 11, 12, 13, 14, 15, 16, 17, 18, 19, 20, 21] rfl rfl (by decide) (by decide) rfl (by decide) (fun H locs hP hD hS => ?_)
  refine W.widen (k := c0 + 1) (n := s0 + 6) (by omega) (by omega) ?_
  refine lv_iload hx hb dL_law_383 (lv_at hl 0 rfl) ?_
  refine lv_icmp_eq (tgt := 390) hx hb dL_law_385 rfl (fun cd10 => ?_) (fun cd10 => ?_)
  · replace hm := zt cd10 hm
    refine lv_goto (tgt := 588) hx hb dL_law_390 rfl ?_
    cases hm
    refine W.widen (k := c0 + 1) (n := s0 + 6) (by omega) (by omega) ?_
    exact kk _ _ _ hP hD hS (lv_sub hl [1, 2, 3, 4, 5] rfl)
  · replace hm := zf cd10 hm
    refine lv_iconst (v := 0) hx hb dL_law_388 (by decide) ?_
    cases hm

def m_F_L_value_N (xs : Nat → Int32) (L : Nat) (x4 : Int32) (pv : Nat → Int32) (dc : Nat → Option Nat) (v : Nat → Int32) (b : Nat → Int32) (ov : Nat → Int64) (mv : Nat → Int32) (mu : Nat → Nat → Int32)  : Option ((Nat → Int64) × (Nat → Int32) × (Nat → Nat → Int32)) := zix (x4 + 1) L ((m_L_value_N (xs (x4 + 1).toNatClampNeg) pv dc v b ov).bind (fun q2 => zix (x4 + 1) L ((m_M_value (xs (x4 + 1).toNatClampNeg) mv mu).bind (fun q4 => (m_M_thrown q4.2.1 q4.2.2).bind (fun q5 => (if q5 = q2.1 then (if q2.1 = 0 then zix 0 1 ((if (lg_cmp (q2.2 (0 : Int32).toNatClampNeg) q4.1) = 0 then (some (q2.2, q4.2.1, q4.2.2)) else none)) else (some (q2.2, q4.2.1, q4.2.2))) else none))))))
set_option maxRecDepth 100000 in
set_option maxHeartbeats 4000000 in
theorem f_F_L_value_N {p : Program} {l : Launch} {e : Env} {s : State} {m : MethodId} {args : Array Value} {below : List Frame} {meth : Method} {c : Code} {D : va_G} {w0 : va_W} {H0 : Heap} {Q : State → Prop} {sb L : Nat} {xs : Nat → Int32} {x4 : Int32} {c0 s0 : Nat} (aQ aY aS aNs aTs aEs aDc aN bN aO : Nat) (ad : Nat → Nat) (cd c1 co : ClassId) (ca : Nat → ClassId) (pv : Nat → Int32) (dc : Nat → Option Nat) (v : Nat → Int32) (b : Nat → Int32) (ov : Nat → Int64) (mv : Nat → Int32) (mu : Nat → Nat → Int32) (G : zG p s m args meth c cL_law RL 8 (some .boolean)) (hK : va_K D vwCl (wQDNOM_t cd c1 co ca) s) (hX : zW (fun q => s.heap.size ≤ q) s) (hl0 : l.stackTraces = false) (hSg : va_S (fun q => s.heap.size ≤ q) s.heap H0 []) (hAs : ∀ q, (va_A w0 H0.size) q → s.heap.size ≤ q) (hsb : va_X sb L xs s H0) (hbl : sb < H0.size) (hbA : ¬ (va_A w0 H0.size) sb) (hc0 : c0 + 1 ≤ 601024) (hs0 : s0 + 6 ≤ 7293034) (hd : dc (xs (x4 + 1).toNatClampNeg).toNatClampNeg = some aN) {res : (Nat → Int64) × (Nat → Int32) × (Nat → Nat → Int32)} (hm : m_F_L_value_N xs L x4 pv dc v b ov mv mu  = some res)
    (kk : ∀ (H : Heap) (locs : List Loc) (ls : Array Slot), va_P D vwCl (wQDNOM aQ aY aS aNs aTs aEs aDc aN bN aO ad cd c1 co ca pv dc v b res.1 res.2.1 res.2.2) H → va_D (va_A w0 H0.size) (wQDNOM aQ aY aS aNs aTs aEs aDc aN bN aO ad cd c1 co ca pv dc v b res.1 res.2.1 res.2.2) → va_S (va_A w0 H0.size) H0 H locs → lv_has ls 8 [(0, .ref sb), (1, .ref aQ), (2, .ref (ad 0)), (3, .ref aO), (4, .int x4)] → W p l e room_1 s m args below meth c H locs (c0 + 1) (s0 + 6) Q (F0 m 588 ls []))
    (H : Heap) (locs : List Loc) (ls : Array Slot) (hP : va_P D vwCl (wQDNOM aQ aY aS aNs aTs aEs aDc aN bN aO ad cd c1 co ca pv dc v b ov mv mu) H) (hD : va_D (va_A w0 H0.size) (wQDNOM aQ aY aS aNs aTs aEs aDc aN bN aO ad cd c1 co ca pv dc v b ov mv mu)) (hS : va_S (va_A w0 H0.size) H0 H locs) (hl : lv_has ls 8 [(0, .ref sb), (1, .ref aQ), (2, .ref (ad 0)), (3, .ref aO), (4, .int x4)]) : W p l e room_1 s m args below meth c H locs c0 s0 Q (F0 m 533 ls []) := by
  obtain ⟨hx, hb, hr, hml, hown, hw, hlk⟩ := G
  have hA : ∀ q, H0.size ≤ q → (va_A w0 H0.size) q := fun q h => Or.inr h
  unfold m_F_L_value_N at hm
  refine lv_aload_n hx hb dL_law_533 rfl (lv_at hl 1 rfl) ?_
  refine lv_aload_n hx hb dL_law_534 rfl (lv_at hl 0 rfl) ?_
  refine lv_iload hx hb dL_law_535 (lv_at hl 4 rfl) ?_
  refine lv_iconst (v := 1) hx hb dL_law_537 (by decide) ?_
  refine lv_iadd hx hb dL_law_538 ?_
  obtain ⟨hi1, hm⟩ := zix_s hm
  refine va_sld (i := (x4 + 1)) (xs := xs) hx hb hsb hbl hbA hS hi1 dL_law_539 ?_
  refine lv_aload_n hx hb dL_law_540 rfl (lv_at hl 3 rfl) ?_
  obtain ⟨q2, hq2, hm⟩ := zbind hm
  have hPc := hP.sub (ws' := (wQDNO aQ aY aS aNs aTs aEs aDc aN bN aO cd c1 co pv dc v b ov)) [0, 1, 2, 3, 4] rfl
  have hDc := hD.sub (ws' := (wQDNO aQ aY aS aNs aTs aEs aDc aN bN aO cd c1 co pv dc v b ov)) [0, 1, 2, 3, 4] (by decide) rfl
  have hKc := hK.sub (tys' := wQDNO_t cd c1 co) [0, 1, 2] rfl
  have hFc := va_free (wc := (wQDNO aQ aY aS aNs aTs aEs aDc aN bN aO cd c1 co pv dc v b ov)) hD hS hA [0, 1, 2, 3, 4] rfl
  refine zlSi (wr := [((ad 0), .inr (5, [.int (mv 0), .int (mv 1), .ref (ad 1), .int (mv 3), .ref (ad 2), .ref (ad 3), .ref (ad 4), .ref (ad 5), .ref (ad 6), .ref (ad 7), .ref (ad 8), .ref (ad 9), .ref (ad 10), .ref (ad 11), .ref (ad 12), .ref (ad 13), .ref (ad 14), .ref (ad 15), .ref (ad 16), .ref (ad 17), .int (mv 20), .int (mv 21), .ref (ad 18), .int (mv 23)])), ((ad 1), .inl ((ca 1), 24, .inl (mu 1))), ((ad 2), .inl ((ca 2), 9, .inl (mu 2))), ((ad 3), .inl ((ca 3), 216, .inl (mu 3))), ((ad 4), .inl ((ca 4), 216, .inl (mu 4))), ((ad 5), .inl ((ca 5), 9, .inl (mu 5))), ((ad 6), .inl ((ca 6), 9, .inl (mu 6))), ((ad 7), .inl ((ca 7), 9, .inl (mu 7))), ((ad 8), .inl ((ca 8), 9, .inl (mu 8))), ((ad 9), .inl ((ca 9), 9, .inl (mu 9))), ((ad 10), .inl ((ca 10), 9, .inl (mu 10))), ((ad 11), .inl ((ca 11), 9, .inl (mu 11))), ((ad 12), .inl ((ca 12), 9, .inl (mu 12))), ((ad 13), .inl ((ca 13), 9, .inl (mu 13))), ((ad 14), .inl ((ca 14), 9, .inl (mu 14))), ((ad 15), .inl ((ca 15), 9, .inl (mu 15))), ((ad 16), .inl ((ca 16), 256, .inl (mu 16))), ((ad 17), .inl ((ca 17), 48, .inl (mu 17))), ((ad 18), .inl ((ca 18), 32, .inl (mu 18)))]) (w1 := (wQDNO aQ aY aS aNs aTs aEs aDc aN bN aO cd c1 co pv dc v b q2.2)) (w' := (wQDNOM aQ aY aS aNs aTs aEs aDc aN bN aO ad cd c1 co ca pv dc v b q2.2 mv mu)) (vx_runSW (As := [.ref aQ, .int (xs (x4 + 1).toNatClampNeg), .ref aO]) (rest := []) ⟨hx, hb, hml, hown, hw⟩ (k_L_value_N l D aQ aY aS aNs aTs aEs aDc aN bN aO cd c1 co _ (xs (x4 + 1).toNatClampNeg) pv dc v b ov hd q2 hq2) (vx_cwSW 3 hw (zgoodW (List.forall_mem_cons.mpr ⟨zw650, List.forall_mem_cons.mpr ⟨zw651, List.forall_mem_cons.mpr ⟨zw587, fun _ h => absurd h List.not_mem_nil⟩⟩⟩) zw652) rfl rfl rfl hdL_value ⟨Nat.le_of_ble_eq_true rfl, Nat.le_of_ble_eq_true rfl⟩) (zpre zW_ok (A := fun q => s.heap.size ≤ q) hX (zglob hSg hAs hS) (fun q h => hAs q (hFc q h)) hPc hKc (hDc.weaken (fun _ _ _ h => hAs _ h))) rfl rfl hl.1 rfl (lv_room (Nat.le_of_ble_eq_true rfl)) dL_law_541 ⟨by show c0 + 0 ≤ 601024; omega, by show s0 + 0 ≤ 7293034; omega⟩) hP hD hS hFc [0, 1, 2, 3, 4] [5, 6, 7, 8, 9, 10, 11, 12, 13, 14, 15, 16, 17, 18, 19, 20, 21, 22, 23] [19, 20, 21, 22, 23, 0, 1, 2, 3, 4, 5, 6, 7, 8, 9, 10, 11, 12, 13, 14, 15, 16, 17, 18] rfl rfl (by decide) (by decide) rfl (by decide) (fun H locs hP hD hS => ?_)
  refine W.widen (k := c0 + 0) (n := s0 + 0) (by omega) (by omega) ?_
  refine lv_istore (lv' := [(5, .int q2.1), (0, .ref sb), (1, .ref aQ), (2, .ref (ad 0)), (3, .ref aO), (4, .int x4)]) hx hb dL_law_544 hl (by decide) rfl (fun ls hl => ?_)
  refine lv_aload_n hx hb dL_law_546 rfl (lv_at hl 3 rfl) ?_
  refine lv_aload_n hx hb dL_law_547 rfl (lv_at hl 1 rfl) ?_
  refine lv_iload hx hb dL_law_548 (lv_at hl 5 rfl) ?_
  refine lv_iconst (v := 1) hx hb dL_law_550 (by decide) ?_
  refine lv_iadd hx hb dL_law_551 ?_
  obtain ⟨hi3, hm⟩ := zix_s hm
  refine va_sld (i := (x4 + 1)) (xs := xs) hx hb hsb hbl hbA hS hi3 dL_law_552 ?_
  obtain ⟨q4, hq4, hm⟩ := zbind hm
  have hPc := hP.sub (ws' := (wM ad ca mv mu)) [5, 6, 7, 8, 9, 10, 11, 12, 13, 14, 15, 16, 17, 18, 19, 20, 21, 22, 23] rfl
  have hDc := hD.sub (ws' := (wM ad ca mv mu)) [5, 6, 7, 8, 9, 10, 11, 12, 13, 14, 15, 16, 17, 18, 19, 20, 21, 22, 23] (by decide) rfl
  have hKc := hK.sub (tys' := wM_t ca) [3, 4, 5, 6, 7, 8, 9, 10, 11, 12, 13, 14, 15, 16, 17, 18, 19, 20] rfl
  have hFc := va_free (wc := (wM ad ca mv mu)) hD hS hA [5, 6, 7, 8, 9, 10, 11, 12, 13, 14, 15, 16, 17, 18, 19, 20, 21, 22, 23] rfl
  refine zlSl (wr := [(aQ, .inr (4, [.ref aY, .int (pv 1), .ref aS, .ref aNs, .ref aTs, .ref aEs, .ref aDc, .int (pv 7)])), (aDc, .inl (cd, 8, .inr (.inr (.inr (.inr dc))))), (aN, .inr (1, [.ref bN, .int (v 1), .int (v 2), .int (v 3), .int (v 4), .int (v 5), .int (v 6), .int (v 7)])), (bN, .inl (c1, 25, .inl b)), (aO, .inl (co, 1, .inr (.inl q2.2)))]) (w1 := (wM ad ca q4.2.1 q4.2.2)) (w' := (wQDNOM aQ aY aS aNs aTs aEs aDc aN bN aO ad cd c1 co ca pv dc v b q2.2 q4.2.1 q4.2.2)) (va_runV (As := [.int (xs (x4 + 1).toNatClampNeg)]) (rest := []) ⟨hx, hb, hml, hown, hw⟩ (k_M_value l D ad ca _ (xs (x4 + 1).toNatClampNeg) mv mu  q4 hq4) (zcV (C := RX6) 1 hw (zgood zw655) rfl rfl rfl zw7 zw653 zw654 zw656 hdX6_value ⟨Nat.le_of_ble_eq_true rfl, Nat.le_of_ble_eq_true rfl⟩) (zpreV (zpre zN_ok (A := fun q => s.heap.size ≤ q) trivial (zglob hSg hAs hS) (fun q h => hAs q (hFc q h)) hPc hKc (hDc.weaken (fun _ _ _ h => hAs _ h))) (va_recv hK hP rfl (q0 := 5) rfl)) rfl rfl hl.1 rfl (lv_room (Nat.le_of_ble_eq_true rfl)) dL_law_553 ⟨by show c0 + 0 ≤ 601024; omega, by show s0 + 0 ≤ 7293034; omega⟩) hP hD hS hFc [5, 6, 7, 8, 9, 10, 11, 12, 13, 14, 15, 16, 17, 18, 19, 20, 21, 22, 23] [0, 1, 2, 3, 4] [0, 1, 2, 3, 4, 5, 6, 7, 8, 9, 10, 11, 12, 13, 14, 15, 16, 17, 18, 19, 20, 21, 22, 23] rfl rfl (by decide) (by decide) rfl (by decide) (fun H locs hP hD hS => ?_)
  refine W.widen (k := c0 + 0) (n := s0 + 0) (by omega) (by omega) ?_
  refine lv_lstore (lv' := [(6, .long q4.1), (5, .int q2.1), (0, .ref sb), (1, .ref aQ), (2, .ref (ad 0)), (3, .ref aO), (4, .int x4)]) hx hb dL_law_556 hl (by decide) rfl (fun ls hl => ?_)
  refine lv_aload_n hx hb dL_law_558 rfl (lv_at hl 4 rfl) ?_
  obtain ⟨q5, hq5, hm⟩ := zbind hm
  have hPc := hP.sub (ws' := (wM ad ca q4.2.1 q4.2.2)) [5, 6, 7, 8, 9, 10, 11, 12, 13, 14, 15, 16, 17, 18, 19, 20, 21, 22, 23] rfl
  have hDc := hD.sub (ws' := (wM ad ca q4.2.1 q4.2.2)) [5, 6, 7, 8, 9, 10, 11, 12, 13, 14, 15, 16, 17, 18, 19, 20, 21, 22, 23] (by decide) rfl
  have hKc := hK.sub (tys' := wM_t ca) [3, 4, 5, 6, 7, 8, 9, 10, 11, 12, 13, 14, 15, 16, 17, 18, 19, 20] rfl
  have hFc := va_free (wc := (wM ad ca q4.2.1 q4.2.2)) hD hS hA [5, 6, 7, 8, 9, 10, 11, 12, 13, 14, 15, 16, 17, 18, 19, 20, 21, 22, 23] rfl
  refine zlSi (wr := [(aQ, .inr (4, [.ref aY, .int (pv 1), .ref aS, .ref aNs, .ref aTs, .ref aEs, .ref aDc, .int (pv 7)])), (aDc, .inl (cd, 8, .inr (.inr (.inr (.inr dc))))), (aN, .inr (1, [.ref bN, .int (v 1), .int (v 2), .int (v 3), .int (v 4), .int (v 5), .int (v 6), .int (v 7)])), (bN, .inl (c1, 25, .inl b)), (aO, .inl (co, 1, .inr (.inl q2.2)))]) (w1 := (wM ad ca q4.2.1 q4.2.2)) (w' := (wQDNOM aQ aY aS aNs aTs aEs aDc aN bN aO ad cd c1 co ca pv dc v b q2.2 q4.2.1 q4.2.2)) (va_runV (As := []) (rest := []) ⟨hx, hb, hml, hown, hw⟩ (k_M_thrown l D ad ca _ q4.2.1 q4.2.2  q5 hq5) (zcV (C := RX6) 0 hw (zgood zw596) rfl rfl rfl zw7 zw594 zw595 zw597 hdX6_thrown ⟨Nat.le_of_ble_eq_true rfl, Nat.le_of_ble_eq_true rfl⟩) (zpreV (zpre zN_ok (A := fun q => s.heap.size ≤ q) trivial (zglob hSg hAs hS) (fun q h => hAs q (hFc q h)) hPc hKc (hDc.weaken (fun _ _ _ h => hAs _ h))) (va_recv hK hP rfl (q0 := 5) rfl)) rfl rfl hl.1 rfl (lv_room (Nat.le_of_ble_eq_true rfl)) dL_law_559 ⟨by show c0 + 0 ≤ 601024; omega, by show s0 + 0 ≤ 7293034; omega⟩) hP hD hS hFc [5, 6, 7, 8, 9, 10, 11, 12, 13, 14, 15, 16, 17, 18, 19, 20, 21, 22, 23] [0, 1, 2, 3, 4] [0, 1, 2, 3, 4, 5, 6, 7, 8, 9, 10, 11, 12, 13, 14, 15, 16, 17, 18, 19, 20, 21, 22, 23] rfl rfl (by decide) (by decide) rfl (by decide) (fun H locs hP hD hS => ?_)
  refine W.widen (k := c0 + 0) (n := s0 + 0) (by omega) (by omega) ?_
  refine lv_iload hx hb dL_law_562 (lv_at hl 1 rfl) ?_
  refine lv_icmp_eq (tgt := 569) hx hb dL_law_564 rfl (fun cd6 => ?_) (fun cd6 => ?_)
  · replace hm := zt cd6 hm
    refine lv_iload hx hb dL_law_569 (lv_at hl 1 rfl) ?_
    refine lv_if_ne (tgt := 585) hx hb dL_law_571 rfl (fun cd7 => ?_) (fun cd7 => ?_)
    · replace hm := zf cd7 hm
      refine lv_goto (tgt := 588) hx hb dL_law_585 rfl ?_
      cases hm
      refine W.widen (k := c0 + 1) (n := s0 + 6) (by omega) (by omega) ?_
      exact kk _ _ _ hP hD hS (lv_sub hl [2, 3, 4, 5, 6] rfl)
    · replace hm := zt cd7 hm
      refine lv_aload_n hx hb dL_law_574 rfl (lv_at hl 5 rfl) ?_
      refine lv_iconst (v := 0) hx hb dL_law_575 (by decide) ?_
      obtain ⟨hi8, hm⟩ := zix_s hm
      refine va_lald (i := 0) (f := q2.2) (n := 1) hx hb hK hP 4 2 rfl rfl hi8 dL_law_576 ?_
      refine lv_lload hx hb dL_law_577 (lv_at hl 0 rfl) ?_
      refine W.lcmp (x := (q2.2 (0 : Int32).toNatClampNeg)) (y := q4.1) hx hb dL_law_579 ?_
      refine lv_if_eq (tgt := 585) hx hb dL_law_580 rfl (fun cd9 => ?_) (fun cd9 => ?_)
      · replace hm := zt cd9 hm
        refine lv_goto (tgt := 588) hx hb dL_law_585 rfl ?_
        cases hm
        refine W.widen (k := c0 + 1) (n := s0 + 6) (by omega) (by omega) ?_
        exact kk _ _ _ hP hD hS (lv_sub hl [2, 3, 4, 5, 6] rfl)
      · replace hm := zf cd9 hm
        refine lv_iconst (v := 0) hx hb dL_law_583 (by decide) ?_
        cases hm
  · replace hm := zf cd6 hm
    refine lv_iconst (v := 0) hx hb dL_law_567 (by decide) ?_
    cases hm

def m_F_L_value_T (xs : Nat → Int32) (L : Nat) (x4 : Int32) (pv : Nat → Int32) (dc : Nat → Option Nat) (v : Nat → Int32) (b : Nat → Int32) (ov : Nat → Int64) (mv : Nat → Int32) (mu : Nat → Nat → Int32)  : Option ((Nat → Int64) × (Nat → Int32) × (Nat → Nat → Int32)) := zix (x4 + 1) L ((m_L_value_T (xs (x4 + 1).toNatClampNeg) pv dc v b ov).bind (fun q2 => zix (x4 + 1) L ((m_M_value (xs (x4 + 1).toNatClampNeg) mv mu).bind (fun q4 => (m_M_thrown q4.2.1 q4.2.2).bind (fun q5 => (if q5 = q2.1 then (if q2.1 = 0 then zix 0 1 ((if (lg_cmp (q2.2 (0 : Int32).toNatClampNeg) q4.1) = 0 then (some (q2.2, q4.2.1, q4.2.2)) else none)) else (some (q2.2, q4.2.1, q4.2.2))) else none))))))
set_option maxRecDepth 100000 in
set_option maxHeartbeats 4000000 in
theorem f_F_L_value_T {p : Program} {l : Launch} {e : Env} {s : State} {m : MethodId} {args : Array Value} {below : List Frame} {meth : Method} {c : Code} {D : va_G} {w0 : va_W} {H0 : Heap} {Q : State → Prop} {sb L : Nat} {xs : Nat → Int32} {x4 : Int32} {c0 s0 : Nat} (aQ aY aS aNs aTs aEs aDc aT bT aO : Nat) (ad : Nat → Nat) (cd c1 co : ClassId) (ca : Nat → ClassId) (pv : Nat → Int32) (dc : Nat → Option Nat) (v : Nat → Int32) (b : Nat → Int32) (ov : Nat → Int64) (mv : Nat → Int32) (mu : Nat → Nat → Int32) (G : zG p s m args meth c cL_law RL 8 (some .boolean)) (hK : va_K D vwCl (wQDTOM_t cd c1 co ca) s) (hX : zW (fun q => s.heap.size ≤ q) s) (hl0 : l.stackTraces = false) (hSg : va_S (fun q => s.heap.size ≤ q) s.heap H0 []) (hAs : ∀ q, (va_A w0 H0.size) q → s.heap.size ≤ q) (hsb : va_X sb L xs s H0) (hbl : sb < H0.size) (hbA : ¬ (va_A w0 H0.size) sb) (hc0 : c0 + 1 ≤ 601024) (hs0 : s0 + 6 ≤ 7293034) (hd : dc (xs (x4 + 1).toNatClampNeg).toNatClampNeg = some aT) {res : (Nat → Int64) × (Nat → Int32) × (Nat → Nat → Int32)} (hm : m_F_L_value_T xs L x4 pv dc v b ov mv mu  = some res)
    (kk : ∀ (H : Heap) (locs : List Loc) (ls : Array Slot), va_P D vwCl (wQDTOM aQ aY aS aNs aTs aEs aDc aT bT aO ad cd c1 co ca pv dc v b res.1 res.2.1 res.2.2) H → va_D (va_A w0 H0.size) (wQDTOM aQ aY aS aNs aTs aEs aDc aT bT aO ad cd c1 co ca pv dc v b res.1 res.2.1 res.2.2) → va_S (va_A w0 H0.size) H0 H locs → lv_has ls 8 [(0, .ref sb), (1, .ref aQ), (2, .ref (ad 0)), (3, .ref aO), (4, .int x4)] → W p l e room_1 s m args below meth c H locs (c0 + 1) (s0 + 6) Q (F0 m 588 ls []))
    (H : Heap) (locs : List Loc) (ls : Array Slot) (hP : va_P D vwCl (wQDTOM aQ aY aS aNs aTs aEs aDc aT bT aO ad cd c1 co ca pv dc v b ov mv mu) H) (hD : va_D (va_A w0 H0.size) (wQDTOM aQ aY aS aNs aTs aEs aDc aT bT aO ad cd c1 co ca pv dc v b ov mv mu)) (hS : va_S (va_A w0 H0.size) H0 H locs) (hl : lv_has ls 8 [(0, .ref sb), (1, .ref aQ), (2, .ref (ad 0)), (3, .ref aO), (4, .int x4)]) : W p l e room_1 s m args below meth c H locs c0 s0 Q (F0 m 533 ls []) := by
  obtain ⟨hx, hb, hr, hml, hown, hw, hlk⟩ := G
  have hA : ∀ q, H0.size ≤ q → (va_A w0 H0.size) q := fun q h => Or.inr h
  unfold m_F_L_value_T at hm
  refine lv_aload_n hx hb dL_law_533 rfl (lv_at hl 1 rfl) ?_
  refine lv_aload_n hx hb dL_law_534 rfl (lv_at hl 0 rfl) ?_
  refine lv_iload hx hb dL_law_535 (lv_at hl 4 rfl) ?_
  refine lv_iconst (v := 1) hx hb dL_law_537 (by decide) ?_
  refine lv_iadd hx hb dL_law_538 ?_
  obtain ⟨hi1, hm⟩ := zix_s hm
  refine va_sld (i := (x4 + 1)) (xs := xs) hx hb hsb hbl hbA hS hi1 dL_law_539 ?_
  refine lv_aload_n hx hb dL_law_540 rfl (lv_at hl 3 rfl) ?_
  obtain ⟨q2, hq2, hm⟩ := zbind hm
  have hPc := hP.sub (ws' := (wQDTO aQ aY aS aNs aTs aEs aDc aT bT aO cd c1 co pv dc v b ov)) [0, 1, 2, 3, 4] rfl
  have hDc := hD.sub (ws' := (wQDTO aQ aY aS aNs aTs aEs aDc aT bT aO cd c1 co pv dc v b ov)) [0, 1, 2, 3, 4] (by decide) rfl
  have hKc := hK.sub (tys' := wQDTO_t cd c1 co) [0, 1, 2] rfl
  have hFc := va_free (wc := (wQDTO aQ aY aS aNs aTs aEs aDc aT bT aO cd c1 co pv dc v b ov)) hD hS hA [0, 1, 2, 3, 4] rfl
  refine zlSi (wr := [((ad 0), .inr (5, [.int (mv 0), .int (mv 1), .ref (ad 1), .int (mv 3), .ref (ad 2), .ref (ad 3), .ref (ad 4), .ref (ad 5), .ref (ad 6), .ref (ad 7), .ref (ad 8), .ref (ad 9), .ref (ad 10), .ref (ad 11), .ref (ad 12), .ref (ad 13), .ref (ad 14), .ref (ad 15), .ref (ad 16), .ref (ad 17), .int (mv 20), .int (mv 21), .ref (ad 18), .int (mv 23)])), ((ad 1), .inl ((ca 1), 24, .inl (mu 1))), ((ad 2), .inl ((ca 2), 9, .inl (mu 2))), ((ad 3), .inl ((ca 3), 216, .inl (mu 3))), ((ad 4), .inl ((ca 4), 216, .inl (mu 4))), ((ad 5), .inl ((ca 5), 9, .inl (mu 5))), ((ad 6), .inl ((ca 6), 9, .inl (mu 6))), ((ad 7), .inl ((ca 7), 9, .inl (mu 7))), ((ad 8), .inl ((ca 8), 9, .inl (mu 8))), ((ad 9), .inl ((ca 9), 9, .inl (mu 9))), ((ad 10), .inl ((ca 10), 9, .inl (mu 10))), ((ad 11), .inl ((ca 11), 9, .inl (mu 11))), ((ad 12), .inl ((ca 12), 9, .inl (mu 12))), ((ad 13), .inl ((ca 13), 9, .inl (mu 13))), ((ad 14), .inl ((ca 14), 9, .inl (mu 14))), ((ad 15), .inl ((ca 15), 9, .inl (mu 15))), ((ad 16), .inl ((ca 16), 256, .inl (mu 16))), ((ad 17), .inl ((ca 17), 48, .inl (mu 17))), ((ad 18), .inl ((ca 18), 32, .inl (mu 18)))]) (w1 := (wQDTO aQ aY aS aNs aTs aEs aDc aT bT aO cd c1 co pv dc v b q2.2)) (w' := (wQDTOM aQ aY aS aNs aTs aEs aDc aT bT aO ad cd c1 co ca pv dc v b q2.2 mv mu)) (vx_runSW (As := [.ref aQ, .int (xs (x4 + 1).toNatClampNeg), .ref aO]) (rest := []) ⟨hx, hb, hml, hown, hw⟩ (k_L_value_T l D aQ aY aS aNs aTs aEs aDc aT bT aO cd c1 co _ (xs (x4 + 1).toNatClampNeg) pv dc v b ov hd q2 hq2) (vx_cwSW 3 hw (zgoodW (List.forall_mem_cons.mpr ⟨zw650, List.forall_mem_cons.mpr ⟨zw651, List.forall_mem_cons.mpr ⟨zw587, fun _ h => absurd h List.not_mem_nil⟩⟩⟩) zw652) rfl rfl rfl hdL_value ⟨Nat.le_of_ble_eq_true rfl, Nat.le_of_ble_eq_true rfl⟩) (zpre zW_ok (A := fun q => s.heap.size ≤ q) hX (zglob hSg hAs hS) (fun q h => hAs q (hFc q h)) hPc hKc (hDc.weaken (fun _ _ _ h => hAs _ h))) rfl rfl hl.1 rfl (lv_room (Nat.le_of_ble_eq_true rfl)) dL_law_541 ⟨by show c0 + 0 ≤ 601024; omega, by show s0 + 0 ≤ 7293034; omega⟩) hP hD hS hFc [0, 1, 2, 3, 4] [5, 6, 7, 8, 9, 10, 11, 12, 13, 14, 15, 16, 17, 18, 19, 20, 21, 22, 23] [19, 20, 21, 22, 23, 0, 1, 2, 3, 4, 5, 6, 7, 8, 9, 10, 11, 12, 13, 14, 15, 16, 17, 18] rfl rfl (by decide) (by decide) rfl (by decide) (fun H locs hP hD hS => ?_)
  refine W.widen (k := c0 + 0) (n := s0 + 0) (by omega) (by omega) ?_
  refine lv_istore (lv' := [(5, .int q2.1), (0, .ref sb), (1, .ref aQ), (2, .ref (ad 0)), (3, .ref aO), (4, .int x4)]) hx hb dL_law_544 hl (by decide) rfl (fun ls hl => ?_)
  refine lv_aload_n hx hb dL_law_546 rfl (lv_at hl 3 rfl) ?_
  refine lv_aload_n hx hb dL_law_547 rfl (lv_at hl 1 rfl) ?_
  refine lv_iload hx hb dL_law_548 (lv_at hl 5 rfl) ?_
  refine lv_iconst (v := 1) hx hb dL_law_550 (by decide) ?_
  refine lv_iadd hx hb dL_law_551 ?_
  obtain ⟨hi3, hm⟩ := zix_s hm
  refine va_sld (i := (x4 + 1)) (xs := xs) hx hb hsb hbl hbA hS hi3 dL_law_552 ?_
  obtain ⟨q4, hq4, hm⟩ := zbind hm
  have hPc := hP.sub (ws' := (wM ad ca mv mu)) [5, 6, 7, 8, 9, 10, 11, 12, 13, 14, 15, 16, 17, 18, 19, 20, 21, 22, 23] rfl
  have hDc := hD.sub (ws' := (wM ad ca mv mu)) [5, 6, 7, 8, 9, 10, 11, 12, 13, 14, 15, 16, 17, 18, 19, 20, 21, 22, 23] (by decide) rfl
  have hKc := hK.sub (tys' := wM_t ca) [3, 4, 5, 6, 7, 8, 9, 10, 11, 12, 13, 14, 15, 16, 17, 18, 19, 20] rfl
  have hFc := va_free (wc := (wM ad ca mv mu)) hD hS hA [5, 6, 7, 8, 9, 10, 11, 12, 13, 14, 15, 16, 17, 18, 19, 20, 21, 22, 23] rfl
  refine zlSl (wr := [(aQ, .inr (4, [.ref aY, .int (pv 1), .ref aS, .ref aNs, .ref aTs, .ref aEs, .ref aDc, .int (pv 7)])), (aDc, .inl (cd, 8, .inr (.inr (.inr (.inr dc))))), (aT, .inr (3, [.ref bT, .int (v 1), .int (v 2), .int (v 3), .int (v 4)])), (bT, .inl (c1, 25, .inl b)), (aO, .inl (co, 1, .inr (.inl q2.2)))]) (w1 := (wM ad ca q4.2.1 q4.2.2)) (w' := (wQDTOM aQ aY aS aNs aTs aEs aDc aT bT aO ad cd c1 co ca pv dc v b q2.2 q4.2.1 q4.2.2)) (va_runV (As := [.int (xs (x4 + 1).toNatClampNeg)]) (rest := []) ⟨hx, hb, hml, hown, hw⟩ (k_M_value l D ad ca _ (xs (x4 + 1).toNatClampNeg) mv mu  q4 hq4) (zcV (C := RX6) 1 hw (zgood zw655) rfl rfl rfl zw7 zw653 zw654 zw656 hdX6_value ⟨Nat.le_of_ble_eq_true rfl, Nat.le_of_ble_eq_true rfl⟩) (zpreV (zpre zN_ok (A := fun q => s.heap.size ≤ q) trivial (zglob hSg hAs hS) (fun q h => hAs q (hFc q h)) hPc hKc (hDc.weaken (fun _ _ _ h => hAs _ h))) (va_recv hK hP rfl (q0 := 5) rfl)) rfl rfl hl.1 rfl (lv_room (Nat.le_of_ble_eq_true rfl)) dL_law_553 ⟨by show c0 + 0 ≤ 601024; omega, by show s0 + 0 ≤ 7293034; omega⟩) hP hD hS hFc [5, 6, 7, 8, 9, 10, 11, 12, 13, 14, 15, 16, 17, 18, 19, 20, 21, 22, 23] [0, 1, 2, 3, 4] [0, 1, 2, 3, 4, 5, 6, 7, 8, 9, 10, 11, 12, 13, 14, 15, 16, 17, 18, 19, 20, 21, 22, 23] rfl rfl (by decide) (by decide) rfl (by decide) (fun H locs hP hD hS => ?_)
  refine W.widen (k := c0 + 0) (n := s0 + 0) (by omega) (by omega) ?_
  refine lv_lstore (lv' := [(6, .long q4.1), (5, .int q2.1), (0, .ref sb), (1, .ref aQ), (2, .ref (ad 0)), (3, .ref aO), (4, .int x4)]) hx hb dL_law_556 hl (by decide) rfl (fun ls hl => ?_)
  refine lv_aload_n hx hb dL_law_558 rfl (lv_at hl 4 rfl) ?_
  obtain ⟨q5, hq5, hm⟩ := zbind hm
  have hPc := hP.sub (ws' := (wM ad ca q4.2.1 q4.2.2)) [5, 6, 7, 8, 9, 10, 11, 12, 13, 14, 15, 16, 17, 18, 19, 20, 21, 22, 23] rfl
  have hDc := hD.sub (ws' := (wM ad ca q4.2.1 q4.2.2)) [5, 6, 7, 8, 9, 10, 11, 12, 13, 14, 15, 16, 17, 18, 19, 20, 21, 22, 23] (by decide) rfl
  have hKc := hK.sub (tys' := wM_t ca) [3, 4, 5, 6, 7, 8, 9, 10, 11, 12, 13, 14, 15, 16, 17, 18, 19, 20] rfl
  have hFc := va_free (wc := (wM ad ca q4.2.1 q4.2.2)) hD hS hA [5, 6, 7, 8, 9, 10, 11, 12, 13, 14, 15, 16, 17, 18, 19, 20, 21, 22, 23] rfl
  refine zlSi (wr := [(aQ, .inr (4, [.ref aY, .int (pv 1), .ref aS, .ref aNs, .ref aTs, .ref aEs, .ref aDc, .int (pv 7)])), (aDc, .inl (cd, 8, .inr (.inr (.inr (.inr dc))))), (aT, .inr (3, [.ref bT, .int (v 1), .int (v 2), .int (v 3), .int (v 4)])), (bT, .inl (c1, 25, .inl b)), (aO, .inl (co, 1, .inr (.inl q2.2)))]) (w1 := (wM ad ca q4.2.1 q4.2.2)) (w' := (wQDTOM aQ aY aS aNs aTs aEs aDc aT bT aO ad cd c1 co ca pv dc v b q2.2 q4.2.1 q4.2.2)) (va_runV (As := []) (rest := []) ⟨hx, hb, hml, hown, hw⟩ (k_M_thrown l D ad ca _ q4.2.1 q4.2.2  q5 hq5) (zcV (C := RX6) 0 hw (zgood zw596) rfl rfl rfl zw7 zw594 zw595 zw597 hdX6_thrown ⟨Nat.le_of_ble_eq_true rfl, Nat.le_of_ble_eq_true rfl⟩) (zpreV (zpre zN_ok (A := fun q => s.heap.size ≤ q) trivial (zglob hSg hAs hS) (fun q h => hAs q (hFc q h)) hPc hKc (hDc.weaken (fun _ _ _ h => hAs _ h))) (va_recv hK hP rfl (q0 := 5) rfl)) rfl rfl hl.1 rfl (lv_room (Nat.le_of_ble_eq_true rfl)) dL_law_559 ⟨by show c0 + 0 ≤ 601024; omega, by show s0 + 0 ≤ 7293034; omega⟩) hP hD hS hFc [5, 6, 7, 8, 9, 10, 11, 12, 13, 14, 15, 16, 17, 18, 19, 20, 21, 22, 23] [0, 1, 2, 3, 4] [0, 1, 2, 3, 4, 5, 6, 7, 8, 9, 10, 11, 12, 13, 14, 15, 16, 17, 18, 19, 20, 21, 22, 23] rfl rfl (by decide) (by decide) rfl (by decide) (fun H locs hP hD hS => ?_)
  refine W.widen (k := c0 + 0) (n := s0 + 0) (by omega) (by omega) ?_
  refine lv_iload hx hb dL_law_562 (lv_at hl 1 rfl) ?_
  refine lv_icmp_eq (tgt := 569) hx hb dL_law_564 rfl (fun cd6 => ?_) (fun cd6 => ?_)
  · replace hm := zt cd6 hm
    refine lv_iload hx hb dL_law_569 (lv_at hl 1 rfl) ?_
    refine lv_if_ne (tgt := 585) hx hb dL_law_571 rfl (fun cd7 => ?_) (fun cd7 => ?_)
    · replace hm := zf cd7 hm
      refine lv_goto (tgt := 588) hx hb dL_law_585 rfl ?_
      cases hm
      refine W.widen (k := c0 + 1) (n := s0 + 6) (by omega) (by omega) ?_
      exact kk _ _ _ hP hD hS (lv_sub hl [2, 3, 4, 5, 6] rfl)
    · replace hm := zt cd7 hm
      refine lv_aload_n hx hb dL_law_574 rfl (lv_at hl 5 rfl) ?_
      refine lv_iconst (v := 0) hx hb dL_law_575 (by decide) ?_
      obtain ⟨hi8, hm⟩ := zix_s hm
      refine va_lald (i := 0) (f := q2.2) (n := 1) hx hb hK hP 4 2 rfl rfl hi8 dL_law_576 ?_
      refine lv_lload hx hb dL_law_577 (lv_at hl 0 rfl) ?_
      refine W.lcmp (x := (q2.2 (0 : Int32).toNatClampNeg)) (y := q4.1) hx hb dL_law_579 ?_
      refine lv_if_eq (tgt := 585) hx hb dL_law_580 rfl (fun cd9 => ?_) (fun cd9 => ?_)
      · replace hm := zt cd9 hm
        refine lv_goto (tgt := 588) hx hb dL_law_585 rfl ?_
        cases hm
        refine W.widen (k := c0 + 1) (n := s0 + 6) (by omega) (by omega) ?_
        exact kk _ _ _ hP hD hS (lv_sub hl [2, 3, 4, 5, 6] rfl)
      · replace hm := zf cd9 hm
        refine lv_iconst (v := 0) hx hb dL_law_583 (by decide) ?_
        cases hm
  · replace hm := zf cd6 hm
    refine lv_iconst (v := 0) hx hb dL_law_567 (by decide) ?_
    cases hm

def m_F_L_value_E (xs : Nat → Int32) (L : Nat) (x4 : Int32) (pv : Nat → Int32) (dc : Nat → Option Nat) (v : Nat → Int32) (b : Nat → Int32) (rw : Nat → Int32) (pw : Nat → Int32) (ov : Nat → Int64) (mv : Nat → Int32) (mu : Nat → Nat → Int32)  : Option ((Nat → Int64) × (Nat → Int32) × (Nat → Nat → Int32)) := zix (x4 + 1) L ((m_L_value_E (xs (x4 + 1).toNatClampNeg) pv dc v b rw pw ov).bind (fun q2 => zix (x4 + 1) L ((m_M_value (xs (x4 + 1).toNatClampNeg) mv mu).bind (fun q4 => (m_M_thrown q4.2.1 q4.2.2).bind (fun q5 => (if q5 = q2.1 then (if q2.1 = 0 then zix 0 1 ((if (lg_cmp (q2.2 (0 : Int32).toNatClampNeg) q4.1) = 0 then (some (q2.2, q4.2.1, q4.2.2)) else none)) else (some (q2.2, q4.2.1, q4.2.2))) else none))))))
set_option maxRecDepth 100000 in
set_option maxHeartbeats 4000000 in
theorem f_F_L_value_E {p : Program} {l : Launch} {e : Env} {s : State} {m : MethodId} {args : Array Value} {below : List Frame} {meth : Method} {c : Code} {D : va_G} {w0 : va_W} {H0 : Heap} {Q : State → Prop} {sb L : Nat} {xs : Nat → Int32} {x4 : Int32} {c0 s0 : Nat} (aQ aY aS aNs aTs aEs aDc aE bE rE pE aO : Nat) (ad : Nat → Nat) (cd c1 c2 c3 co : ClassId) (ca : Nat → ClassId) (pv : Nat → Int32) (dc : Nat → Option Nat) (v : Nat → Int32) (b : Nat → Int32) (rw : Nat → Int32) (pw : Nat → Int32) (ov : Nat → Int64) (mv : Nat → Int32) (mu : Nat → Nat → Int32) (G : zG p s m args meth c cL_law RL 8 (some .boolean)) (hK : va_K D vwCl (wQDEOM_t cd c1 c2 c3 co ca) s) (hX : zW (fun q => s.heap.size ≤ q) s) (hl0 : l.stackTraces = false) (hSg : va_S (fun q => s.heap.size ≤ q) s.heap H0 []) (hAs : ∀ q, (va_A w0 H0.size) q → s.heap.size ≤ q) (hsb : va_X sb L xs s H0) (hbl : sb < H0.size) (hbA : ¬ (va_A w0 H0.size) sb) (hc0 : c0 + 1 ≤ 601024) (hs0 : s0 + 6 ≤ 7293034) (hd : dc (xs (x4 + 1).toNatClampNeg).toNatClampNeg = some aE) {res : (Nat → Int64) × (Nat → Int32) × (Nat → Nat → Int32)} (hm : m_F_L_value_E xs L x4 pv dc v b rw pw ov mv mu  = some res)
    (kk : ∀ (H : Heap) (locs : List Loc) (ls : Array Slot), va_P D vwCl (wQDEOM aQ aY aS aNs aTs aEs aDc aE bE rE pE aO ad cd c1 c2 c3 co ca pv dc v b rw pw res.1 res.2.1 res.2.2) H → va_D (va_A w0 H0.size) (wQDEOM aQ aY aS aNs aTs aEs aDc aE bE rE pE aO ad cd c1 c2 c3 co ca pv dc v b rw pw res.1 res.2.1 res.2.2) → va_S (va_A w0 H0.size) H0 H locs → lv_has ls 8 [(0, .ref sb), (1, .ref aQ), (2, .ref (ad 0)), (3, .ref aO), (4, .int x4)] → W p l e room_1 s m args below meth c H locs (c0 + 1) (s0 + 6) Q (F0 m 588 ls []))
    (H : Heap) (locs : List Loc) (ls : Array Slot) (hP : va_P D vwCl (wQDEOM aQ aY aS aNs aTs aEs aDc aE bE rE pE aO ad cd c1 c2 c3 co ca pv dc v b rw pw ov mv mu) H) (hD : va_D (va_A w0 H0.size) (wQDEOM aQ aY aS aNs aTs aEs aDc aE bE rE pE aO ad cd c1 c2 c3 co ca pv dc v b rw pw ov mv mu)) (hS : va_S (va_A w0 H0.size) H0 H locs) (hl : lv_has ls 8 [(0, .ref sb), (1, .ref aQ), (2, .ref (ad 0)), (3, .ref aO), (4, .int x4)]) : W p l e room_1 s m args below meth c H locs c0 s0 Q (F0 m 533 ls []) := by
  obtain ⟨hx, hb, hr, hml, hown, hw, hlk⟩ := G
  have hA : ∀ q, H0.size ≤ q → (va_A w0 H0.size) q := fun q h => Or.inr h
  unfold m_F_L_value_E at hm
  refine lv_aload_n hx hb dL_law_533 rfl (lv_at hl 1 rfl) ?_
  refine lv_aload_n hx hb dL_law_534 rfl (lv_at hl 0 rfl) ?_
  refine lv_iload hx hb dL_law_535 (lv_at hl 4 rfl) ?_
  refine lv_iconst (v := 1) hx hb dL_law_537 (by decide) ?_
  refine lv_iadd hx hb dL_law_538 ?_
  obtain ⟨hi1, hm⟩ := zix_s hm
  refine va_sld (i := (x4 + 1)) (xs := xs) hx hb hsb hbl hbA hS hi1 dL_law_539 ?_
  refine lv_aload_n hx hb dL_law_540 rfl (lv_at hl 3 rfl) ?_
  obtain ⟨q2, hq2, hm⟩ := zbind hm
  have hPc := hP.sub (ws' := (wQDEO aQ aY aS aNs aTs aEs aDc aE bE rE pE aO cd c1 c2 c3 co pv dc v b rw pw ov)) [0, 1, 2, 3, 4, 5, 6] rfl
  have hDc := hD.sub (ws' := (wQDEO aQ aY aS aNs aTs aEs aDc aE bE rE pE aO cd c1 c2 c3 co pv dc v b rw pw ov)) [0, 1, 2, 3, 4, 5, 6] (by decide) rfl
  have hKc := hK.sub (tys' := wQDEO_t cd c1 c2 c3 co) [0, 1, 2, 3, 4] rfl
  have hFc := va_free (wc := (wQDEO aQ aY aS aNs aTs aEs aDc aE bE rE pE aO cd c1 c2 c3 co pv dc v b rw pw ov)) hD hS hA [0, 1, 2, 3, 4, 5, 6] rfl
  refine zlSi (wr := [((ad 0), .inr (5, [.int (mv 0), .int (mv 1), .ref (ad 1), .int (mv 3), .ref (ad 2), .ref (ad 3), .ref (ad 4), .ref (ad 5), .ref (ad 6), .ref (ad 7), .ref (ad 8), .ref (ad 9), .ref (ad 10), .ref (ad 11), .ref (ad 12), .ref (ad 13), .ref (ad 14), .ref (ad 15), .ref (ad 16), .ref (ad 17), .int (mv 20), .int (mv 21), .ref (ad 18), .int (mv 23)])), ((ad 1), .inl ((ca 1), 24, .inl (mu 1))), ((ad 2), .inl ((ca 2), 9, .inl (mu 2))), ((ad 3), .inl ((ca 3), 216, .inl (mu 3))), ((ad 4), .inl ((ca 4), 216, .inl (mu 4))), ((ad 5), .inl ((ca 5), 9, .inl (mu 5))), ((ad 6), .inl ((ca 6), 9, .inl (mu 6))), ((ad 7), .inl ((ca 7), 9, .inl (mu 7))), ((ad 8), .inl ((ca 8), 9, .inl (mu 8))), ((ad 9), .inl ((ca 9), 9, .inl (mu 9))), ((ad 10), .inl ((ca 10), 9, .inl (mu 10))), ((ad 11), .inl ((ca 11), 9, .inl (mu 11))), ((ad 12), .inl ((ca 12), 9, .inl (mu 12))), ((ad 13), .inl ((ca 13), 9, .inl (mu 13))), ((ad 14), .inl ((ca 14), 9, .inl (mu 14))), ((ad 15), .inl ((ca 15), 9, .inl (mu 15))), ((ad 16), .inl ((ca 16), 256, .inl (mu 16))), ((ad 17), .inl ((ca 17), 48, .inl (mu 17))), ((ad 18), .inl ((ca 18), 32, .inl (mu 18)))]) (w1 := (wQDEO aQ aY aS aNs aTs aEs aDc aE bE rE pE aO cd c1 c2 c3 co pv dc v b rw pw q2.2)) (w' := (wQDEOM aQ aY aS aNs aTs aEs aDc aE bE rE pE aO ad cd c1 c2 c3 co ca pv dc v b rw pw q2.2 mv mu)) (vx_runSW (As := [.ref aQ, .int (xs (x4 + 1).toNatClampNeg), .ref aO]) (rest := []) ⟨hx, hb, hml, hown, hw⟩ (k_L_value_E l D aQ aY aS aNs aTs aEs aDc aE bE rE pE aO cd c1 c2 c3 co _ (xs (x4 + 1).toNatClampNeg) pv dc v b rw pw ov hd q2 hq2) (vx_cwSW 3 hw (zgoodW (List.forall_mem_cons.mpr ⟨zw650, List.forall_mem_cons.mpr ⟨zw651, List.forall_mem_cons.mpr ⟨zw587, fun _ h => absurd h List.not_mem_nil⟩⟩⟩) zw652) rfl rfl rfl hdL_value ⟨Nat.le_of_ble_eq_true rfl, Nat.le_of_ble_eq_true rfl⟩) (zpre zW_ok (A := fun q => s.heap.size ≤ q) hX (zglob hSg hAs hS) (fun q h => hAs q (hFc q h)) hPc hKc (hDc.weaken (fun _ _ _ h => hAs _ h))) rfl rfl hl.1 rfl (lv_room (Nat.le_of_ble_eq_true rfl)) dL_law_541 ⟨by show c0 + 0 ≤ 601024; omega, by show s0 + 0 ≤ 7293034; omega⟩) hP hD hS hFc [0, 1, 2, 3, 4, 5, 6] [7, 8, 9, 10, 11, 12, 13, 14, 15, 16, 17, 18, 19, 20, 21, 22, 23, 24, 25] [19, 20, 21, 22, 23, 24, 25, 0, 1, 2, 3, 4, 5, 6, 7, 8, 9, 10, 11, 12, 13, 14, 15, 16, 17, 18] rfl rfl (by decide) (by decide) rfl (by decide) (fun H locs hP hD hS => ?_)
  refine W.widen (k := c0 + 0) (n := s0 + 0) (by omega) (by omega) ?_
  refine lv_istore (lv' := [(5, .int q2.1), (0, .ref sb), (1, .ref aQ), (2, .ref (ad 0)), (3, .ref aO), (4, .int x4)]) hx hb dL_law_544 hl (by decide) rfl (fun ls hl => ?_)
  refine lv_aload_n hx hb dL_law_546 rfl (lv_at hl 3 rfl) ?_
  refine lv_aload_n hx hb dL_law_547 rfl (lv_at hl 1 rfl) ?_
  refine lv_iload hx hb dL_law_548 (lv_at hl 5 rfl) ?_
  refine lv_iconst (v := 1) hx hb dL_law_550 (by decide) ?_
  refine lv_iadd hx hb dL_law_551 ?_
  obtain ⟨hi3, hm⟩ := zix_s hm
  refine va_sld (i := (x4 + 1)) (xs := xs) hx hb hsb hbl hbA hS hi3 dL_law_552 ?_
  obtain ⟨q4, hq4, hm⟩ := zbind hm
  have hPc := hP.sub (ws' := (wM ad ca mv mu)) [7, 8, 9, 10, 11, 12, 13, 14, 15, 16, 17, 18, 19, 20, 21, 22, 23, 24, 25] rfl
  have hDc := hD.sub (ws' := (wM ad ca mv mu)) [7, 8, 9, 10, 11, 12, 13, 14, 15, 16, 17, 18, 19, 20, 21, 22, 23, 24, 25] (by decide) rfl
  have hKc := hK.sub (tys' := wM_t ca) [5, 6, 7, 8, 9, 10, 11, 12, 13, 14, 15, 16, 17, 18, 19, 20, 21, 22] rfl
  have hFc := va_free (wc := (wM ad ca mv mu)) hD hS hA [7, 8, 9, 10, 11, 12, 13, 14, 15, 16, 17, 18, 19, 20, 21, 22, 23, 24, 25] rfl
  refine zlSl (wr := [(aQ, .inr (4, [.ref aY, .int (pv 1), .ref aS, .ref aNs, .ref aTs, .ref aEs, .ref aDc, .int (pv 7)])), (aDc, .inl (cd, 8, .inr (.inr (.inr (.inr dc))))), (aE, .inr (0, [.ref bE, .int (v 1), .int (v 2), .int (v 3), .int (v 4), .ref rE, .ref pE, .int (v 7), .int (v 8), .int (v 9), .int (v 10), .int (v 11), .int (v 12), .int (v 13), .int (v 14), .int (v 15)])), (bE, .inl (c1, 25, .inl b)), (rE, .inl (c2, 24, .inl rw)), (pE, .inl (c3, 24, .inl pw)), (aO, .inl (co, 1, .inr (.inl q2.2)))]) (w1 := (wM ad ca q4.2.1 q4.2.2)) (w' := (wQDEOM aQ aY aS aNs aTs aEs aDc aE bE rE pE aO ad cd c1 c2 c3 co ca pv dc v b rw pw q2.2 q4.2.1 q4.2.2)) (va_runV (As := [.int (xs (x4 + 1).toNatClampNeg)]) (rest := []) ⟨hx, hb, hml, hown, hw⟩ (k_M_value l D ad ca _ (xs (x4 + 1).toNatClampNeg) mv mu  q4 hq4) (zcV (C := RX6) 1 hw (zgood zw655) rfl rfl rfl zw7 zw653 zw654 zw656 hdX6_value ⟨Nat.le_of_ble_eq_true rfl, Nat.le_of_ble_eq_true rfl⟩) (zpreV (zpre zN_ok (A := fun q => s.heap.size ≤ q) trivial (zglob hSg hAs hS) (fun q h => hAs q (hFc q h)) hPc hKc (hDc.weaken (fun _ _ _ h => hAs _ h))) (va_recv hK hP rfl (q0 := 7) rfl)) rfl rfl hl.1 rfl (lv_room (Nat.le_of_ble_eq_true rfl)) dL_law_553 ⟨by show c0 + 0 ≤ 601024; omega, by show s0 + 0 ≤ 7293034; omega⟩) hP hD hS hFc [7, 8, 9, 10, 11, 12, 13, 14, 15, 16, 17, 18, 19, 20, 21, 22, 23, 24, 25] [0, 1, 2, 3, 4, 5, 6] [0, 1, 2, 3, 4, 5, 6, 7, 8, 9, 10, 11, 12, 13, 14, 15, 16, 17, 18, 19, 20, 21, 22, 23, 24, 25] rfl rfl (by decide) (by decide) rfl (by decide) (fun H locs hP hD hS => ?_)
  refine W.widen (k := c0 + 0) (n := s0 + 0) (by omega) (by omega) ?_
  refine lv_lstore (lv' := [(6, .long q4.1), (5, .int q2.1), (0, .ref sb), (1, .ref aQ), (2, .ref (ad 0)), (3, .ref aO), (4, .int x4)]) hx hb dL_law_556 hl (by decide) rfl (fun ls hl => ?_)
  refine lv_aload_n hx hb dL_law_558 rfl (lv_at hl 4 rfl) ?_
  obtain ⟨q5, hq5, hm⟩ := zbind hm
  have hPc := hP.sub (ws' := (wM ad ca q4.2.1 q4.2.2)) [7, 8, 9, 10, 11, 12, 13, 14, 15, 16, 17, 18, 19, 20, 21, 22, 23, 24, 25] rfl
  have hDc := hD.sub (ws' := (wM ad ca q4.2.1 q4.2.2)) [7, 8, 9, 10, 11, 12, 13, 14, 15, 16, 17, 18, 19, 20, 21, 22, 23, 24, 25] (by decide) rfl
  have hKc := hK.sub (tys' := wM_t ca) [5, 6, 7, 8, 9, 10, 11, 12, 13, 14, 15, 16, 17, 18, 19, 20, 21, 22] rfl
  have hFc := va_free (wc := (wM ad ca q4.2.1 q4.2.2)) hD hS hA [7, 8, 9, 10, 11, 12, 13, 14, 15, 16, 17, 18, 19, 20, 21, 22, 23, 24, 25] rfl
  refine zlSi (wr := [(aQ, .inr (4, [.ref aY, .int (pv 1), .ref aS, .ref aNs, .ref aTs, .ref aEs, .ref aDc, .int (pv 7)])), (aDc, .inl (cd, 8, .inr (.inr (.inr (.inr dc))))), (aE, .inr (0, [.ref bE, .int (v 1), .int (v 2), .int (v 3), .int (v 4), .ref rE, .ref pE, .int (v 7), .int (v 8), .int (v 9), .int (v 10), .int (v 11), .int (v 12), .int (v 13), .int (v 14), .int (v 15)])), (bE, .inl (c1, 25, .inl b)), (rE, .inl (c2, 24, .inl rw)), (pE, .inl (c3, 24, .inl pw)), (aO, .inl (co, 1, .inr (.inl q2.2)))]) (w1 := (wM ad ca q4.2.1 q4.2.2)) (w' := (wQDEOM aQ aY aS aNs aTs aEs aDc aE bE rE pE aO ad cd c1 c2 c3 co ca pv dc v b rw pw q2.2 q4.2.1 q4.2.2)) (va_runV (As := []) (rest := []) ⟨hx, hb, hml, hown, hw⟩ (k_M_thrown l D ad ca _ q4.2.1 q4.2.2  q5 hq5) (zcV (C := RX6) 0 hw (zgood zw596) rfl rfl rfl zw7 zw594 zw595 zw597 hdX6_thrown ⟨Nat.le_of_ble_eq_true rfl, Nat.le_of_ble_eq_true rfl⟩) (zpreV (zpre zN_ok (A := fun q => s.heap.size ≤ q) trivial (zglob hSg hAs hS) (fun q h => hAs q (hFc q h)) hPc hKc (hDc.weaken (fun _ _ _ h => hAs _ h))) (va_recv hK hP rfl (q0 := 7) rfl)) rfl rfl hl.1 rfl (lv_room (Nat.le_of_ble_eq_true rfl)) dL_law_559 ⟨by show c0 + 0 ≤ 601024; omega, by show s0 + 0 ≤ 7293034; omega⟩) hP hD hS hFc [7, 8, 9, 10, 11, 12, 13, 14, 15, 16, 17, 18, 19, 20, 21, 22, 23, 24, 25] [0, 1, 2, 3, 4, 5, 6] [0, 1, 2, 3, 4, 5, 6, 7, 8, 9, 10, 11, 12, 13, 14, 15, 16, 17, 18, 19, 20, 21, 22, 23, 24, 25] rfl rfl (by decide) (by decide) rfl (by decide) (fun H locs hP hD hS => ?_)
  refine W.widen (k := c0 + 0) (n := s0 + 0) (by omega) (by omega) ?_
  refine lv_iload hx hb dL_law_562 (lv_at hl 1 rfl) ?_
  refine lv_icmp_eq (tgt := 569) hx hb dL_law_564 rfl (fun cd6 => ?_) (fun cd6 => ?_)
  · replace hm := zt cd6 hm
    refine lv_iload hx hb dL_law_569 (lv_at hl 1 rfl) ?_
    refine lv_if_ne (tgt := 585) hx hb dL_law_571 rfl (fun cd7 => ?_) (fun cd7 => ?_)
    · replace hm := zf cd7 hm
      refine lv_goto (tgt := 588) hx hb dL_law_585 rfl ?_
      cases hm
      refine W.widen (k := c0 + 1) (n := s0 + 6) (by omega) (by omega) ?_
      exact kk _ _ _ hP hD hS (lv_sub hl [2, 3, 4, 5, 6] rfl)
    · replace hm := zt cd7 hm
      refine lv_aload_n hx hb dL_law_574 rfl (lv_at hl 5 rfl) ?_
      refine lv_iconst (v := 0) hx hb dL_law_575 (by decide) ?_
      obtain ⟨hi8, hm⟩ := zix_s hm
      refine va_lald (i := 0) (f := q2.2) (n := 1) hx hb hK hP 6 4 rfl rfl hi8 dL_law_576 ?_
      refine lv_lload hx hb dL_law_577 (lv_at hl 0 rfl) ?_
      refine W.lcmp (x := (q2.2 (0 : Int32).toNatClampNeg)) (y := q4.1) hx hb dL_law_579 ?_
      refine lv_if_eq (tgt := 585) hx hb dL_law_580 rfl (fun cd9 => ?_) (fun cd9 => ?_)
      · replace hm := zt cd9 hm
        refine lv_goto (tgt := 588) hx hb dL_law_585 rfl ?_
        cases hm
        refine W.widen (k := c0 + 1) (n := s0 + 6) (by omega) (by omega) ?_
        exact kk _ _ _ hP hD hS (lv_sub hl [2, 3, 4, 5, 6] rfl)
      · replace hm := zf cd9 hm
        refine lv_iconst (v := 0) hx hb dL_law_583 (by decide) ?_
        cases hm
  · replace hm := zf cd6 hm
    refine lv_iconst (v := 0) hx hb dL_law_567 (by decide) ?_
    cases hm

def m_F_L_value_n (xs : Nat → Int32) (L : Nat) (x4 : Int32) (pv : Nat → Int32) (dc : Nat → Option Nat) (ov : Nat → Int64) (mv : Nat → Int32) (mu : Nat → Nat → Int32)  : Option ((Nat → Int32) × (Nat → Nat → Int32)) := zix (x4 + 1) L ((m_L_value_n (xs (x4 + 1).toNatClampNeg) pv dc).bind (fun q2 => zix (x4 + 1) L ((m_M_value (xs (x4 + 1).toNatClampNeg) mv mu).bind (fun q4 => (m_M_thrown q4.2.1 q4.2.2).bind (fun q5 => (if q5 = q2 then (if q2 = 0 then zix 0 1 ((if (lg_cmp (ov (0 : Int32).toNatClampNeg) q4.1) = 0 then (some (q4.2.1, q4.2.2)) else none)) else (some (q4.2.1, q4.2.2))) else none))))))
set_option maxRecDepth 100000 in
set_option maxHeartbeats 4000000 in
theorem f_F_L_value_n {p : Program} {l : Launch} {e : Env} {s : State} {m : MethodId} {args : Array Value} {below : List Frame} {meth : Method} {c : Code} {D : va_G} {w0 : va_W} {H0 : Heap} {Q : State → Prop} {sb L : Nat} {xs : Nat → Int32} {x4 : Int32} {c0 s0 : Nat} (aQ aY aS aNs aTs aEs aDc aO : Nat) (ad : Nat → Nat) (cd co : ClassId) (ca : Nat → ClassId) (pv : Nat → Int32) (dc : Nat → Option Nat) (ov : Nat → Int64) (mv : Nat → Int32) (mu : Nat → Nat → Int32) (G : zG p s m args meth c cL_law RL 8 (some .boolean)) (hK : va_K D vwCl (wQDoOM_t cd co ca) s) (hX : zW (fun q => s.heap.size ≤ q) s) (hl0 : l.stackTraces = false) (hSg : va_S (fun q => s.heap.size ≤ q) s.heap H0 []) (hAs : ∀ q, (va_A w0 H0.size) q → s.heap.size ≤ q) (hsb : va_X sb L xs s H0) (hbl : sb < H0.size) (hbA : ¬ (va_A w0 H0.size) sb) (hc0 : c0 + 1 ≤ 601024) (hs0 : s0 + 6 ≤ 7293034) {res : (Nat → Int32) × (Nat → Nat → Int32)} (hm : m_F_L_value_n xs L x4 pv dc ov mv mu  = some res)
    (kk : ∀ (H : Heap) (locs : List Loc) (ls : Array Slot), va_P D vwCl (wQDoOM aQ aY aS aNs aTs aEs aDc aO ad cd co ca pv dc ov res.1 res.2) H → va_D (va_A w0 H0.size) (wQDoOM aQ aY aS aNs aTs aEs aDc aO ad cd co ca pv dc ov res.1 res.2) → va_S (va_A w0 H0.size) H0 H locs → lv_has ls 8 [(0, .ref sb), (1, .ref aQ), (2, .ref (ad 0)), (3, .ref aO), (4, .int x4)] → W p l e room_1 s m args below meth c H locs (c0 + 1) (s0 + 6) Q (F0 m 588 ls []))
    (H : Heap) (locs : List Loc) (ls : Array Slot) (hP : va_P D vwCl (wQDoOM aQ aY aS aNs aTs aEs aDc aO ad cd co ca pv dc ov mv mu) H) (hD : va_D (va_A w0 H0.size) (wQDoOM aQ aY aS aNs aTs aEs aDc aO ad cd co ca pv dc ov mv mu)) (hS : va_S (va_A w0 H0.size) H0 H locs) (hl : lv_has ls 8 [(0, .ref sb), (1, .ref aQ), (2, .ref (ad 0)), (3, .ref aO), (4, .int x4)]) : W p l e room_1 s m args below meth c H locs c0 s0 Q (F0 m 533 ls []) := by
  obtain ⟨hx, hb, hr, hml, hown, hw, hlk⟩ := G
  have hA : ∀ q, H0.size ≤ q → (va_A w0 H0.size) q := fun q h => Or.inr h
  unfold m_F_L_value_n at hm
  refine lv_aload_n hx hb dL_law_533 rfl (lv_at hl 1 rfl) ?_
  refine lv_aload_n hx hb dL_law_534 rfl (lv_at hl 0 rfl) ?_
  refine lv_iload hx hb dL_law_535 (lv_at hl 4 rfl) ?_
  refine lv_iconst (v := 1) hx hb dL_law_537 (by decide) ?_
  refine lv_iadd hx hb dL_law_538 ?_
  obtain ⟨hi1, hm⟩ := zix_s hm
  refine va_sld (i := (x4 + 1)) (xs := xs) hx hb hsb hbl hbA hS hi1 dL_law_539 ?_
  refine lv_aload_n hx hb dL_law_540 rfl (lv_at hl 3 rfl) ?_
  obtain ⟨q2, hq2, hm⟩ := zbind hm
  have hPc := hP.sub (ws' := (wQDo aQ aY aS aNs aTs aEs aDc aO cd pv dc)) [0, 1] rfl
  have hDc := hD.sub (ws' := (wQDo aQ aY aS aNs aTs aEs aDc aO cd pv dc)) [0, 1] (by decide) rfl
  have hKc := hK.sub (tys' := wQDo_t cd) [0] rfl
  have hFc := va_free (wc := (wQDo aQ aY aS aNs aTs aEs aDc aO cd pv dc)) hD hS hA [0, 1] rfl
  refine zlSi (wr := [(aO, .inl (co, 1, .inr (.inl ov))), ((ad 0), .inr (5, [.int (mv 0), .int (mv 1), .ref (ad 1), .int (mv 3), .ref (ad 2), .ref (ad 3), .ref (ad 4), .ref (ad 5), .ref (ad 6), .ref (ad 7), .ref (ad 8), .ref (ad 9), .ref (ad 10), .ref (ad 11), .ref (ad 12), .ref (ad 13), .ref (ad 14), .ref (ad 15), .ref (ad 16), .ref (ad 17), .int (mv 20), .int (mv 21), .ref (ad 18), .int (mv 23)])), ((ad 1), .inl ((ca 1), 24, .inl (mu 1))), ((ad 2), .inl ((ca 2), 9, .inl (mu 2))), ((ad 3), .inl ((ca 3), 216, .inl (mu 3))), ((ad 4), .inl ((ca 4), 216, .inl (mu 4))), ((ad 5), .inl ((ca 5), 9, .inl (mu 5))), ((ad 6), .inl ((ca 6), 9, .inl (mu 6))), ((ad 7), .inl ((ca 7), 9, .inl (mu 7))), ((ad 8), .inl ((ca 8), 9, .inl (mu 8))), ((ad 9), .inl ((ca 9), 9, .inl (mu 9))), ((ad 10), .inl ((ca 10), 9, .inl (mu 10))), ((ad 11), .inl ((ca 11), 9, .inl (mu 11))), ((ad 12), .inl ((ca 12), 9, .inl (mu 12))), ((ad 13), .inl ((ca 13), 9, .inl (mu 13))), ((ad 14), .inl ((ca 14), 9, .inl (mu 14))), ((ad 15), .inl ((ca 15), 9, .inl (mu 15))), ((ad 16), .inl ((ca 16), 256, .inl (mu 16))), ((ad 17), .inl ((ca 17), 48, .inl (mu 17))), ((ad 18), .inl ((ca 18), 32, .inl (mu 18)))]) (w1 := (wQDo aQ aY aS aNs aTs aEs aDc aO cd pv dc)) (w' := (wQDoOM aQ aY aS aNs aTs aEs aDc aO ad cd co ca pv dc ov mv mu)) (vx_runSW (As := [.ref aQ, .int (xs (x4 + 1).toNatClampNeg), .ref aO]) (rest := []) ⟨hx, hb, hml, hown, hw⟩ (k_L_value_n l D aQ aY aS aNs aTs aEs aDc aO cd _ (xs (x4 + 1).toNatClampNeg) pv dc hl0 q2 hq2) (vx_cwSW 3 hw (zgoodW (List.forall_mem_cons.mpr ⟨zw650, List.forall_mem_cons.mpr ⟨zw651, List.forall_mem_cons.mpr ⟨zw587, fun _ h => absurd h List.not_mem_nil⟩⟩⟩) zw652) rfl rfl rfl hdL_value ⟨Nat.le_of_ble_eq_true rfl, Nat.le_of_ble_eq_true rfl⟩) (zpre zW_ok (A := fun q => s.heap.size ≤ q) hX (zglob hSg hAs hS) (fun q h => hAs q (hFc q h)) hPc hKc (hDc.weaken (fun _ _ _ h => hAs _ h))) rfl rfl hl.1 rfl (lv_room (Nat.le_of_ble_eq_true rfl)) dL_law_541 ⟨by show c0 + 1 ≤ 601024; omega, by show s0 + 6 ≤ 7293034; omega⟩) hP hD hS hFc [0, 1] [2, 3, 4, 5, 6, 7, 8, 9, 10, 11, 12, 13, 14, 15, 16, 17, 18, 19, 20, 21] [20, 21, 0, 1, 2, 3, 4, 5, 6, 7, 8, 9, 10, 11, 12, 13, 14, 15, 16, 17, 18, 19] rfl rfl (by decide) (by decide) rfl (by decide) (fun H locs hP hD hS => ?_)
  refine W.widen (k := c0 + 1) (n := s0 + 6) (by omega) (by omega) ?_
  refine lv_istore (lv' := [(5, .int q2), (0, .ref sb), (1, .ref aQ), (2, .ref (ad 0)), (3, .ref aO), (4, .int x4)]) hx hb dL_law_544 hl (by decide) rfl (fun ls hl => ?_)
  refine lv_aload_n hx hb dL_law_546 rfl (lv_at hl 3 rfl) ?_
  refine lv_aload_n hx hb dL_law_547 rfl (lv_at hl 1 rfl) ?_
  refine lv_iload hx hb dL_law_548 (lv_at hl 5 rfl) ?_
  refine lv_iconst (v := 1) hx hb dL_law_550 (by decide) ?_
  refine lv_iadd hx hb dL_law_551 ?_
  obtain ⟨hi3, hm⟩ := zix_s hm
  refine va_sld (i := (x4 + 1)) (xs := xs) hx hb hsb hbl hbA hS hi3 dL_law_552 ?_
  obtain ⟨q4, hq4, hm⟩ := zbind hm
  have hPc := hP.sub (ws' := (wM ad ca mv mu)) [3, 4, 5, 6, 7, 8, 9, 10, 11, 12, 13, 14, 15, 16, 17, 18, 19, 20, 21] rfl
  have hDc := hD.sub (ws' := (wM ad ca mv mu)) [3, 4, 5, 6, 7, 8, 9, 10, 11, 12, 13, 14, 15, 16, 17, 18, 19, 20, 21] (by decide) rfl
  have hKc := hK.sub (tys' := wM_t ca) [2, 3, 4, 5, 6, 7, 8, 9, 10, 11, 12, 13, 14, 15, 16, 17, 18, 19] rfl
  have hFc := va_free (wc := (wM ad ca mv mu)) hD hS hA [3, 4, 5, 6, 7, 8, 9, 10, 11, 12, 13, 14, 15, 16, 17, 18, 19, 20, 21] rfl
  refine zlSl (wr := [(aQ, .inr (4, [.ref aY, .int (pv 1), .ref aS, .ref aNs, .ref aTs, .ref aEs, .ref aDc, .int (pv 7)])), (aDc, .inl (cd, 8, .inr (.inr (.inr (.inr dc))))), (aO, .inl (co, 1, .inr (.inl ov)))]) (w1 := (wM ad ca q4.2.1 q4.2.2)) (w' := (wQDoOM aQ aY aS aNs aTs aEs aDc aO ad cd co ca pv dc ov q4.2.1 q4.2.2)) (va_runV (As := [.int (xs (x4 + 1).toNatClampNeg)]) (rest := []) ⟨hx, hb, hml, hown, hw⟩ (k_M_value l D ad ca _ (xs (x4 + 1).toNatClampNeg) mv mu  q4 hq4) (zcV (C := RX6) 1 hw (zgood zw655) rfl rfl rfl zw7 zw653 zw654 zw656 hdX6_value ⟨Nat.le_of_ble_eq_true rfl, Nat.le_of_ble_eq_true rfl⟩) (zpreV (zpre zN_ok (A := fun q => s.heap.size ≤ q) trivial (zglob hSg hAs hS) (fun q h => hAs q (hFc q h)) hPc hKc (hDc.weaken (fun _ _ _ h => hAs _ h))) (va_recv hK hP rfl (q0 := 3) rfl)) rfl rfl hl.1 rfl (lv_room (Nat.le_of_ble_eq_true rfl)) dL_law_553 ⟨by show c0 + 1 ≤ 601024; omega, by show s0 + 6 ≤ 7293034; omega⟩) hP hD hS hFc [3, 4, 5, 6, 7, 8, 9, 10, 11, 12, 13, 14, 15, 16, 17, 18, 19, 20, 21] [0, 1, 2] [0, 1, 2, 3, 4, 5, 6, 7, 8, 9, 10, 11, 12, 13, 14, 15, 16, 17, 18, 19, 20, 21] rfl rfl (by decide) (by decide) rfl (by decide) (fun H locs hP hD hS => ?_)
  refine W.widen (k := c0 + 1) (n := s0 + 6) (by omega) (by omega) ?_
  refine lv_lstore (lv' := [(6, .long q4.1), (5, .int q2), (0, .ref sb), (1, .ref aQ), (2, .ref (ad 0)), (3, .ref aO), (4, .int x4)]) hx hb dL_law_556 hl (by decide) rfl (fun ls hl => ?_)
  refine lv_aload_n hx hb dL_law_558 rfl (lv_at hl 4 rfl) ?_
  obtain ⟨q5, hq5, hm⟩ := zbind hm
  have hPc := hP.sub (ws' := (wM ad ca q4.2.1 q4.2.2)) [3, 4, 5, 6, 7, 8, 9, 10, 11, 12, 13, 14, 15, 16, 17, 18, 19, 20, 21] rfl
  have hDc := hD.sub (ws' := (wM ad ca q4.2.1 q4.2.2)) [3, 4, 5, 6, 7, 8, 9, 10, 11, 12, 13, 14, 15, 16, 17, 18, 19, 20, 21] (by decide) rfl
  have hKc := hK.sub (tys' := wM_t ca) [2, 3, 4, 5, 6, 7, 8, 9, 10, 11, 12, 13, 14, 15, 16, 17, 18, 19] rfl
  have hFc := va_free (wc := (wM ad ca q4.2.1 q4.2.2)) hD hS hA [3, 4, 5, 6, 7, 8, 9, 10, 11, 12, 13, 14, 15, 16, 17, 18, 19, 20, 21] rfl
  refine zlSi (wr := [(aQ, .inr (4, [.ref aY, .int (pv 1), .ref aS, .ref aNs, .ref aTs, .ref aEs, .ref aDc, .int (pv 7)])), (aDc, .inl (cd, 8, .inr (.inr (.inr (.inr dc))))), (aO, .inl (co, 1, .inr (.inl ov)))]) (w1 := (wM ad ca q4.2.1 q4.2.2)) (w' := (wQDoOM aQ aY aS aNs aTs aEs aDc aO ad cd co ca pv dc ov q4.2.1 q4.2.2)) (va_runV (As := []) (rest := []) ⟨hx, hb, hml, hown, hw⟩ (k_M_thrown l D ad ca _ q4.2.1 q4.2.2  q5 hq5) (zcV (C := RX6) 0 hw (zgood zw596) rfl rfl rfl zw7 zw594 zw595 zw597 hdX6_thrown ⟨Nat.le_of_ble_eq_true rfl, Nat.le_of_ble_eq_true rfl⟩) (zpreV (zpre zN_ok (A := fun q => s.heap.size ≤ q) trivial (zglob hSg hAs hS) (fun q h => hAs q (hFc q h)) hPc hKc (hDc.weaken (fun _ _ _ h => hAs _ h))) (va_recv hK hP rfl (q0 := 3) rfl)) rfl rfl hl.1 rfl (lv_room (Nat.le_of_ble_eq_true rfl)) dL_law_559 ⟨by show c0 + 1 ≤ 601024; omega, by show s0 + 6 ≤ 7293034; omega⟩) hP hD hS hFc [3, 4, 5, 6, 7, 8, 9, 10, 11, 12, 13, 14, 15, 16, 17, 18, 19, 20, 21] [0, 1, 2] [0, 1, 2, 3, 4, 5, 6, 7, 8, 9, 10, 11, 12, 13, 14, 15, 16, 17, 18, 19, 20, 21] rfl rfl (by decide) (by decide) rfl (by decide) (fun H locs hP hD hS => ?_)
  refine W.widen (k := c0 + 1) (n := s0 + 6) (by omega) (by omega) ?_
  refine lv_iload hx hb dL_law_562 (lv_at hl 1 rfl) ?_
  refine lv_icmp_eq (tgt := 569) hx hb dL_law_564 rfl (fun cd6 => ?_) (fun cd6 => ?_)
  · replace hm := zt cd6 hm
    refine lv_iload hx hb dL_law_569 (lv_at hl 1 rfl) ?_
    refine lv_if_ne (tgt := 585) hx hb dL_law_571 rfl (fun cd7 => ?_) (fun cd7 => ?_)
    · replace hm := zf cd7 hm
      refine lv_goto (tgt := 588) hx hb dL_law_585 rfl ?_
      cases hm
      refine W.widen (k := c0 + 1) (n := s0 + 6) (by omega) (by omega) ?_
      exact kk _ _ _ hP hD hS (lv_sub hl [2, 3, 4, 5, 6] rfl)
    · replace hm := zt cd7 hm
      refine lv_aload_n hx hb dL_law_574 rfl (lv_at hl 5 rfl) ?_
      refine lv_iconst (v := 0) hx hb dL_law_575 (by decide) ?_
      obtain ⟨hi8, hm⟩ := zix_s hm
      refine va_lald (i := 0) (f := ov) (n := 1) hx hb hK hP 2 1 rfl rfl hi8 dL_law_576 ?_
      refine lv_lload hx hb dL_law_577 (lv_at hl 0 rfl) ?_
      refine W.lcmp (x := (ov (0 : Int32).toNatClampNeg)) (y := q4.1) hx hb dL_law_579 ?_
      refine lv_if_eq (tgt := 585) hx hb dL_law_580 rfl (fun cd9 => ?_) (fun cd9 => ?_)
      · replace hm := zt cd9 hm
        refine lv_goto (tgt := 588) hx hb dL_law_585 rfl ?_
        cases hm
        refine W.widen (k := c0 + 1) (n := s0 + 6) (by omega) (by omega) ?_
        exact kk _ _ _ hP hD hS (lv_sub hl [2, 3, 4, 5, 6] rfl)
      · replace hm := zf cd9 hm
        refine lv_iconst (v := 0) hx hb dL_law_583 (by decide) ?_
        cases hm
  · replace hm := zf cd6 hm
    refine lv_iconst (v := 0) hx hb dL_law_567 (by decide) ?_
    cases hm

def m_F_L_put_N (xs : Nat → Int32) (L : Nat) (x4 : Int32) (pv : Nat → Int32) (dc : Nat → Option Nat) (v : Nat → Int32) (b : Nat → Int32) (ov : Nat → Int64) (mv : Nat → Int32) (mu : Nat → Nat → Int32)  : Option ((Nat → Int32) × (Nat → Int32) × (Nat → Nat → Int32)) := zix (x4 + 1) L (zix (x4 + 2) L (zix (x4 + 3) L (zix (x4 + 4) L ((m_L_put_N (xs (x4 + 1).toNatClampNeg) ((((xs (x4 + 2).toNatClampNeg).toInt64) <<< ((32 : Int32).toInt64 &&& 63)) ||| (((xs (x4 + 3).toNatClampNeg).toInt64) &&& 4294967295)) (xs (x4 + 4).toNatClampNeg) pv dc v b).bind (fun q5 => zix (x4 + 1) L (zix (x4 + 2) L (zix (x4 + 3) L (zix (x4 + 4) L ((m_M_put (xs (x4 + 1).toNatClampNeg) ((((xs (x4 + 2).toNatClampNeg).toInt64) <<< ((32 : Int32).toInt64 &&& 63)) ||| (((xs (x4 + 3).toNatClampNeg).toInt64) &&& 4294967295)) (xs (x4 + 4).toNatClampNeg) mv mu).bind (fun q10 => (m_M_thrown q10.1 q10.2).bind (fun q11 => (if q11 = q5.1 then (some (q5.2, q10.1, q10.2)) else none))))))))))))
set_option maxRecDepth 100000 in
set_option maxHeartbeats 4000000 in
theorem f_F_L_put_N {p : Program} {l : Launch} {e : Env} {s : State} {m : MethodId} {args : Array Value} {below : List Frame} {meth : Method} {c : Code} {D : va_G} {w0 : va_W} {H0 : Heap} {Q : State → Prop} {sb L : Nat} {xs : Nat → Int32} {x4 : Int32} {c0 s0 : Nat} (aQ aY aS aNs aTs aEs aDc aN bN aO : Nat) (ad : Nat → Nat) (cd c1 co : ClassId) (ca : Nat → ClassId) (pv : Nat → Int32) (dc : Nat → Option Nat) (v : Nat → Int32) (b : Nat → Int32) (ov : Nat → Int64) (mv : Nat → Int32) (mu : Nat → Nat → Int32) (G : zG p s m args meth c cL_law RL 8 (some .boolean)) (hK : va_K D vwCl (wQDNOM_t cd c1 co ca) s) (hX : zW (fun q => s.heap.size ≤ q) s) (hl0 : l.stackTraces = false) (hSg : va_S (fun q => s.heap.size ≤ q) s.heap H0 []) (hAs : ∀ q, (va_A w0 H0.size) q → s.heap.size ≤ q) (hsb : va_X sb L xs s H0) (hbl : sb < H0.size) (hbA : ¬ (va_A w0 H0.size) sb) (hc0 : c0 + 1 ≤ 601024) (hs0 : s0 + 6 ≤ 7293034) (hd : dc (xs (x4 + 1).toNatClampNeg).toNatClampNeg = some aN) {res : (Nat → Int32) × (Nat → Int32) × (Nat → Nat → Int32)} (hm : m_F_L_put_N xs L x4 pv dc v b ov mv mu  = some res)
    (kk : ∀ (H : Heap) (locs : List Loc) (ls : Array Slot), va_P D vwCl (wQDNOM aQ aY aS aNs aTs aEs aDc aN bN aO ad cd c1 co ca pv dc v res.1 ov res.2.1 res.2.2) H → va_D (va_A w0 H0.size) (wQDNOM aQ aY aS aNs aTs aEs aDc aN bN aO ad cd c1 co ca pv dc v res.1 ov res.2.1 res.2.2) → va_S (va_A w0 H0.size) H0 H locs → lv_has ls 8 [(0, .ref sb), (1, .ref aQ), (2, .ref (ad 0)), (3, .ref aO), (4, .int x4)] → W p l e room_1 s m args below meth c H locs (c0 + 1) (s0 + 6) Q (F0 m 588 ls []))
    (H : Heap) (locs : List Loc) (ls : Array Slot) (hP : va_P D vwCl (wQDNOM aQ aY aS aNs aTs aEs aDc aN bN aO ad cd c1 co ca pv dc v b ov mv mu) H) (hD : va_D (va_A w0 H0.size) (wQDNOM aQ aY aS aNs aTs aEs aDc aN bN aO ad cd c1 co ca pv dc v b ov mv mu)) (hS : va_S (va_A w0 H0.size) H0 H locs) (hl : lv_has ls 8 [(0, .ref sb), (1, .ref aQ), (2, .ref (ad 0)), (3, .ref aO), (4, .int x4)]) : W p l e room_1 s m args below meth c H locs c0 s0 Q (F0 m 393 ls []) := by
  obtain ⟨hx, hb, hr, hml, hown, hw, hlk⟩ := G
  have hA : ∀ q, H0.size ≤ q → (va_A w0 H0.size) q := fun q h => Or.inr h
  unfold m_F_L_put_N at hm
  refine lv_aload_n hx hb dL_law_393 rfl (lv_at hl 1 rfl) ?_
  refine lv_aload_n hx hb dL_law_394 rfl (lv_at hl 0 rfl) ?_
  refine lv_iload hx hb dL_law_395 (lv_at hl 4 rfl) ?_
  refine lv_iconst (v := 1) hx hb dL_law_397 (by decide) ?_
  refine lv_iadd hx hb dL_law_398 ?_
  obtain ⟨hi1, hm⟩ := zix_s hm
  refine va_sld (i := (x4 + 1)) (xs := xs) hx hb hsb hbl hbA hS hi1 dL_law_399 ?_
  refine lv_aload_n hx hb dL_law_400 rfl (lv_at hl 0 rfl) ?_
  refine lv_iload hx hb dL_law_401 (lv_at hl 4 rfl) ?_
  refine lv_iconst (v := 2) hx hb dL_law_403 (by decide) ?_
  refine lv_iadd hx hb dL_law_404 ?_
  obtain ⟨hi2, hm⟩ := zix_s hm
  refine va_sld (i := (x4 + 2)) (xs := xs) hx hb hsb hbl hbA hS hi2 dL_law_405 ?_
  refine lv_i2l (v := ((xs (x4 + 2).toNatClampNeg).toInt64)) hx hb dL_law_406 rfl ?_
  refine lv_bipush (v := 32) hx hb dL_law_407 (by decide) ?_
  refine lv_lshl (v := (((xs (x4 + 2).toNatClampNeg).toInt64) <<< ((32 : Int32).toInt64 &&& 63))) hx hb dL_law_409 rfl ?_
  refine lv_aload_n hx hb dL_law_410 rfl (lv_at hl 0 rfl) ?_
  refine lv_iload hx hb dL_law_411 (lv_at hl 4 rfl) ?_
  refine lv_iconst (v := 3) hx hb dL_law_413 (by decide) ?_
  refine lv_iadd hx hb dL_law_414 ?_
  obtain ⟨hi3, hm⟩ := zix_s hm
  refine va_sld (i := (x4 + 3)) (xs := xs) hx hb hsb hbl hbA hS hi3 dL_law_415 ?_
  refine lv_i2l (v := ((xs (x4 + 3).toNatClampNeg).toInt64)) hx hb dL_law_416 rfl ?_
  refine lv_ldc2 (v := 4294967295) hx hb hown (hw _ zw635) dL_law_417 ?_
  refine lv_land hx hb dL_law_420 ?_
  refine lv_lor hx hb dL_law_421 ?_
  refine lv_aload_n hx hb dL_law_422 rfl (lv_at hl 0 rfl) ?_
  refine lv_iload hx hb dL_law_423 (lv_at hl 4 rfl) ?_
  refine lv_iconst (v := 4) hx hb dL_law_425 (by decide) ?_
  refine lv_iadd hx hb dL_law_426 ?_
  obtain ⟨hi4, hm⟩ := zix_s hm
  refine va_sld (i := (x4 + 4)) (xs := xs) hx hb hsb hbl hbA hS hi4 dL_law_427 ?_
  obtain ⟨q5, hq5, hm⟩ := zbind hm
  have hPc := hP.sub (ws' := (wQDN aQ aY aS aNs aTs aEs aDc aN bN cd c1 pv dc v b)) [0, 1, 2, 3] rfl
  have hDc := hD.sub (ws' := (wQDN aQ aY aS aNs aTs aEs aDc aN bN cd c1 pv dc v b)) [0, 1, 2, 3] (by decide) rfl
  have hKc := hK.sub (tys' := wQDN_t cd c1) [0, 1] rfl
  have hFc := va_free (wc := (wQDN aQ aY aS aNs aTs aEs aDc aN bN cd c1 pv dc v b)) hD hS hA [0, 1, 2, 3] rfl
  refine zlSi (wr := [(aO, .inl (co, 1, .inr (.inl ov))), ((ad 0), .inr (5, [.int (mv 0), .int (mv 1), .ref (ad 1), .int (mv 3), .ref (ad 2), .ref (ad 3), .ref (ad 4), .ref (ad 5), .ref (ad 6), .ref (ad 7), .ref (ad 8), .ref (ad 9), .ref (ad 10), .ref (ad 11), .ref (ad 12), .ref (ad 13), .ref (ad 14), .ref (ad 15), .ref (ad 16), .ref (ad 17), .int (mv 20), .int (mv 21), .ref (ad 18), .int (mv 23)])), ((ad 1), .inl ((ca 1), 24, .inl (mu 1))), ((ad 2), .inl ((ca 2), 9, .inl (mu 2))), ((ad 3), .inl ((ca 3), 216, .inl (mu 3))), ((ad 4), .inl ((ca 4), 216, .inl (mu 4))), ((ad 5), .inl ((ca 5), 9, .inl (mu 5))), ((ad 6), .inl ((ca 6), 9, .inl (mu 6))), ((ad 7), .inl ((ca 7), 9, .inl (mu 7))), ((ad 8), .inl ((ca 8), 9, .inl (mu 8))), ((ad 9), .inl ((ca 9), 9, .inl (mu 9))), ((ad 10), .inl ((ca 10), 9, .inl (mu 10))), ((ad 11), .inl ((ca 11), 9, .inl (mu 11))), ((ad 12), .inl ((ca 12), 9, .inl (mu 12))), ((ad 13), .inl ((ca 13), 9, .inl (mu 13))), ((ad 14), .inl ((ca 14), 9, .inl (mu 14))), ((ad 15), .inl ((ca 15), 9, .inl (mu 15))), ((ad 16), .inl ((ca 16), 256, .inl (mu 16))), ((ad 17), .inl ((ca 17), 48, .inl (mu 17))), ((ad 18), .inl ((ca 18), 32, .inl (mu 18)))]) (w1 := (wQDN aQ aY aS aNs aTs aEs aDc aN bN cd c1 pv dc v q5.2)) (w' := (wQDNOM aQ aY aS aNs aTs aEs aDc aN bN aO ad cd c1 co ca pv dc v q5.2 ov mv mu)) (vx_runSW (As := [.ref aQ, .int (xs (x4 + 1).toNatClampNeg), .long ((((xs (x4 + 2).toNatClampNeg).toInt64) <<< ((32 : Int32).toInt64 &&& 63)) ||| (((xs (x4 + 3).toNatClampNeg).toInt64) &&& 4294967295)), .int (xs (x4 + 4).toNatClampNeg)]) (rest := []) ⟨hx, hb, hml, hown, hw⟩ (k_L_put_N l D aQ aY aS aNs aTs aEs aDc aN bN cd c1 _ (xs (x4 + 1).toNatClampNeg) ((((xs (x4 + 2).toNatClampNeg).toInt64) <<< ((32 : Int32).toInt64 &&& 63)) ||| (((xs (x4 + 3).toNatClampNeg).toInt64) &&& 4294967295)) (xs (x4 + 4).toNatClampNeg) pv dc v b hd q5 hq5) (vx_cwSW 4 hw (zgoodW (List.forall_mem_cons.mpr ⟨zw636, List.forall_mem_cons.mpr ⟨zw637, List.forall_mem_cons.mpr ⟨zw587, fun _ h => absurd h List.not_mem_nil⟩⟩⟩) zw638) rfl rfl rfl hdL_put ⟨Nat.le_of_ble_eq_true rfl, Nat.le_of_ble_eq_true rfl⟩) (zpre zW_ok (A := fun q => s.heap.size ≤ q) hX (zglob hSg hAs hS) (fun q h => hAs q (hFc q h)) hPc hKc (hDc.weaken (fun _ _ _ h => hAs _ h))) rfl rfl hl.1 rfl (lv_room (Nat.le_of_ble_eq_true rfl)) dL_law_428 ⟨by show c0 + 0 ≤ 601024; omega, by show s0 + 0 ≤ 7293034; omega⟩) hP hD hS hFc [0, 1, 2, 3] [4, 5, 6, 7, 8, 9, 10, 11, 12, 13, 14, 15, 16, 17, 18, 19, 20, 21, 22, 23] [20, 21, 22, 23, 0, 1, 2, 3, 4, 5, 6, 7, 8, 9, 10, 11, 12, 13, 14, 15, 16, 17, 18, 19] rfl rfl (by decide) (by decide) rfl (by decide) (fun H locs hP hD hS => ?_)
  refine W.widen (k := c0 + 0) (n := s0 + 0) (by omega) (by omega) ?_
  refine lv_istore (lv' := [(5, .int q5.1), (0, .ref sb), (1, .ref aQ), (2, .ref (ad 0)), (3, .ref aO), (4, .int x4)]) hx hb dL_law_431 hl (by decide) rfl (fun ls hl => ?_)
  refine lv_aload_n hx hb dL_law_433 rfl (lv_at hl 3 rfl) ?_
  refine lv_aload_n hx hb dL_law_434 rfl (lv_at hl 1 rfl) ?_
  refine lv_iload hx hb dL_law_435 (lv_at hl 5 rfl) ?_
  refine lv_iconst (v := 1) hx hb dL_law_437 (by decide) ?_
  refine lv_iadd hx hb dL_law_438 ?_
  obtain ⟨hi6, hm⟩ := zix_s hm
  refine va_sld (i := (x4 + 1)) (xs := xs) hx hb hsb hbl hbA hS hi6 dL_law_439 ?_
  refine lv_aload_n hx hb dL_law_440 rfl (lv_at hl 1 rfl) ?_
  refine lv_iload hx hb dL_law_441 (lv_at hl 5 rfl) ?_
  refine lv_iconst (v := 2) hx hb dL_law_443 (by decide) ?_
  refine lv_iadd hx hb dL_law_444 ?_
  obtain ⟨hi7, hm⟩ := zix_s hm
  refine va_sld (i := (x4 + 2)) (xs := xs) hx hb hsb hbl hbA hS hi7 dL_law_445 ?_
  refine lv_i2l (v := ((xs (x4 + 2).toNatClampNeg).toInt64)) hx hb dL_law_446 rfl ?_
  refine lv_bipush (v := 32) hx hb dL_law_447 (by decide) ?_
  refine lv_lshl (v := (((xs (x4 + 2).toNatClampNeg).toInt64) <<< ((32 : Int32).toInt64 &&& 63))) hx hb dL_law_449 rfl ?_
  refine lv_aload_n hx hb dL_law_450 rfl (lv_at hl 1 rfl) ?_
  refine lv_iload hx hb dL_law_451 (lv_at hl 5 rfl) ?_
  refine lv_iconst (v := 3) hx hb dL_law_453 (by decide) ?_
  refine lv_iadd hx hb dL_law_454 ?_
  obtain ⟨hi8, hm⟩ := zix_s hm
  refine va_sld (i := (x4 + 3)) (xs := xs) hx hb hsb hbl hbA hS hi8 dL_law_455 ?_
  refine lv_i2l (v := ((xs (x4 + 3).toNatClampNeg).toInt64)) hx hb dL_law_456 rfl ?_
  refine lv_ldc2 (v := 4294967295) hx hb hown (hw _ zw635) dL_law_457 ?_
  refine lv_land hx hb dL_law_460 ?_
  refine lv_lor hx hb dL_law_461 ?_
  refine lv_aload_n hx hb dL_law_462 rfl (lv_at hl 1 rfl) ?_
  refine lv_iload hx hb dL_law_463 (lv_at hl 5 rfl) ?_
  refine lv_iconst (v := 4) hx hb dL_law_465 (by decide) ?_
  refine lv_iadd hx hb dL_law_466 ?_
  obtain ⟨hi9, hm⟩ := zix_s hm
  refine va_sld (i := (x4 + 4)) (xs := xs) hx hb hsb hbl hbA hS hi9 dL_law_467 ?_
  obtain ⟨q10, hq10, hm⟩ := zbind hm
  have hPc := hP.sub (ws' := (wM ad ca mv mu)) [5, 6, 7, 8, 9, 10, 11, 12, 13, 14, 15, 16, 17, 18, 19, 20, 21, 22, 23] rfl
  have hDc := hD.sub (ws' := (wM ad ca mv mu)) [5, 6, 7, 8, 9, 10, 11, 12, 13, 14, 15, 16, 17, 18, 19, 20, 21, 22, 23] (by decide) rfl
  have hKc := hK.sub (tys' := wM_t ca) [3, 4, 5, 6, 7, 8, 9, 10, 11, 12, 13, 14, 15, 16, 17, 18, 19, 20] rfl
  have hFc := va_free (wc := (wM ad ca mv mu)) hD hS hA [5, 6, 7, 8, 9, 10, 11, 12, 13, 14, 15, 16, 17, 18, 19, 20, 21, 22, 23] rfl
  refine zlSv (wr := [(aQ, .inr (4, [.ref aY, .int (pv 1), .ref aS, .ref aNs, .ref aTs, .ref aEs, .ref aDc, .int (pv 7)])), (aDc, .inl (cd, 8, .inr (.inr (.inr (.inr dc))))), (aN, .inr (1, [.ref bN, .int (v 1), .int (v 2), .int (v 3), .int (v 4), .int (v 5), .int (v 6), .int (v 7)])), (bN, .inl (c1, 25, .inl q5.2)), (aO, .inl (co, 1, .inr (.inl ov)))]) (w1 := (wM ad ca q10.1 q10.2)) (w' := (wQDNOM aQ aY aS aNs aTs aEs aDc aN bN aO ad cd c1 co ca pv dc v q5.2 ov q10.1 q10.2)) (va_runV (As := [.int (xs (x4 + 1).toNatClampNeg), .long ((((xs (x4 + 2).toNatClampNeg).toInt64) <<< ((32 : Int32).toInt64 &&& 63)) ||| (((xs (x4 + 3).toNatClampNeg).toInt64) &&& 4294967295)), .int (xs (x4 + 4).toNatClampNeg)]) (rest := []) ⟨hx, hb, hml, hown, hw⟩ (k_M_put l D ad ca _ (xs (x4 + 1).toNatClampNeg) ((((xs (x4 + 2).toNatClampNeg).toInt64) <<< ((32 : Int32).toInt64 &&& 63)) ||| (((xs (x4 + 3).toNatClampNeg).toInt64) &&& 4294967295)) (xs (x4 + 4).toNatClampNeg) mv mu  q10 hq10) (zcV (C := RX6) 3 hw (zgood zw641) rfl rfl rfl zw7 zw639 zw640 zw642 hdX6_put2 ⟨Nat.le_of_ble_eq_true rfl, Nat.le_of_ble_eq_true rfl⟩) (zpreV (zpre zN_ok (A := fun q => s.heap.size ≤ q) trivial (zglob hSg hAs hS) (fun q h => hAs q (hFc q h)) hPc hKc (hDc.weaken (fun _ _ _ h => hAs _ h))) (va_recv hK hP rfl (q0 := 5) rfl)) rfl rfl hl.1 rfl (lv_room (Nat.le_of_ble_eq_true rfl)) dL_law_468 ⟨by show c0 + 0 ≤ 601024; omega, by show s0 + 0 ≤ 7293034; omega⟩) hP hD hS hFc [5, 6, 7, 8, 9, 10, 11, 12, 13, 14, 15, 16, 17, 18, 19, 20, 21, 22, 23] [0, 1, 2, 3, 4] [0, 1, 2, 3, 4, 5, 6, 7, 8, 9, 10, 11, 12, 13, 14, 15, 16, 17, 18, 19, 20, 21, 22, 23] rfl rfl (by decide) (by decide) rfl (by decide) (fun H locs hP hD hS => ?_)
  refine W.widen (k := c0 + 0) (n := s0 + 0) (by omega) (by omega) ?_
  refine lv_aload_n hx hb dL_law_471 rfl (lv_at hl 3 rfl) ?_
  obtain ⟨q11, hq11, hm⟩ := zbind hm
  have hPc := hP.sub (ws' := (wM ad ca q10.1 q10.2)) [5, 6, 7, 8, 9, 10, 11, 12, 13, 14, 15, 16, 17, 18, 19, 20, 21, 22, 23] rfl
  have hDc := hD.sub (ws' := (wM ad ca q10.1 q10.2)) [5, 6, 7, 8, 9, 10, 11, 12, 13, 14, 15, 16, 17, 18, 19, 20, 21, 22, 23] (by decide) rfl
  have hKc := hK.sub (tys' := wM_t ca) [3, 4, 5, 6, 7, 8, 9, 10, 11, 12, 13, 14, 15, 16, 17, 18, 19, 20] rfl
  have hFc := va_free (wc := (wM ad ca q10.1 q10.2)) hD hS hA [5, 6, 7, 8, 9, 10, 11, 12, 13, 14, 15, 16, 17, 18, 19, 20, 21, 22, 23] rfl
  refine zlSi (wr := [(aQ, .inr (4, [.ref aY, .int (pv 1), .ref aS, .ref aNs, .ref aTs, .ref aEs, .ref aDc, .int (pv 7)])), (aDc, .inl (cd, 8, .inr (.inr (.inr (.inr dc))))), (aN, .inr (1, [.ref bN, .int (v 1), .int (v 2), .int (v 3), .int (v 4), .int (v 5), .int (v 6), .int (v 7)])), (bN, .inl (c1, 25, .inl q5.2)), (aO, .inl (co, 1, .inr (.inl ov)))]) (w1 := (wM ad ca q10.1 q10.2)) (w' := (wQDNOM aQ aY aS aNs aTs aEs aDc aN bN aO ad cd c1 co ca pv dc v q5.2 ov q10.1 q10.2)) (va_runV (As := []) (rest := []) ⟨hx, hb, hml, hown, hw⟩ (k_M_thrown l D ad ca _ q10.1 q10.2  q11 hq11) (zcV (C := RX6) 0 hw (zgood zw596) rfl rfl rfl zw7 zw594 zw595 zw597 hdX6_thrown ⟨Nat.le_of_ble_eq_true rfl, Nat.le_of_ble_eq_true rfl⟩) (zpreV (zpre zN_ok (A := fun q => s.heap.size ≤ q) trivial (zglob hSg hAs hS) (fun q h => hAs q (hFc q h)) hPc hKc (hDc.weaken (fun _ _ _ h => hAs _ h))) (va_recv hK hP rfl (q0 := 5) rfl)) rfl rfl hl.1 rfl (lv_room (Nat.le_of_ble_eq_true rfl)) dL_law_472 ⟨by show c0 + 0 ≤ 601024; omega, by show s0 + 0 ≤ 7293034; omega⟩) hP hD hS hFc [5, 6, 7, 8, 9, 10, 11, 12, 13, 14, 15, 16, 17, 18, 19, 20, 21, 22, 23] [0, 1, 2, 3, 4] [0, 1, 2, 3, 4, 5, 6, 7, 8, 9, 10, 11, 12, 13, 14, 15, 16, 17, 18, 19, 20, 21, 22, 23] rfl rfl (by decide) (by decide) rfl (by decide) (fun H locs hP hD hS => ?_)
  refine W.widen (k := c0 + 0) (n := s0 + 0) (by omega) (by omega) ?_
  refine lv_iload hx hb dL_law_475 (lv_at hl 0 rfl) ?_
  refine lv_icmp_eq (tgt := 482) hx hb dL_law_477 rfl (fun cd12 => ?_) (fun cd12 => ?_)
  · replace hm := zt cd12 hm
    refine lv_goto (tgt := 588) hx hb dL_law_482 rfl ?_
    cases hm
    refine W.widen (k := c0 + 1) (n := s0 + 6) (by omega) (by omega) ?_
    exact kk _ _ _ hP hD hS (lv_sub hl [1, 2, 3, 4, 5] rfl)
  · replace hm := zf cd12 hm
    refine lv_iconst (v := 0) hx hb dL_law_480 (by decide) ?_
    cases hm

