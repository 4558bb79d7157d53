def m_F_P_type (xs : Nat → Int32) (L : Nat) (x4 : Int32) (pv : Nat → Int32) (y : Nat → Int32) (ov : Nat → Int64) (mv : Nat → Int32) (mu : Nat → Nat → Int32)  : Option ((Nat → Int32) × (Nat → Int32) × (Nat → Int32) × (Nat → Nat → Int32)) := zix (x4 + 1) L ((m_P_type (xs (x4 + 1).toNatClampNeg) pv y).bind (fun q2 => zix (x4 + 1) L ((m_M_type (xs (x4 + 1).toNatClampNeg) mv mu).bind (fun q4 => (if q2.1 = q4.1 then (some (q2.2.1, q2.2.2, q4.2.1, q4.2.2)) else none)))))
set_option maxRecDepth 100000 in
set_option maxHeartbeats 4000000 in
theorem f_F_P_type {p : Program} {l : Launch} {e : Env} {s : State} {m : MethodId} {args : Array Value} {below : List Frame} {meth : Method} {c : Code} {D : va_G} {w0 : va_W} {H0 : Heap} {Q : State → Prop} {sb L : Nat} {xs : Nat → Int32} {x4 : Int32} {c0 s0 : Nat} (aQ aS aNs aTs aEs aDc aY aO : Nat) (ad : Nat → Nat) (cy co : ClassId) (ca : Nat → ClassId) (pv : Nat → Int32) (y : Nat → Int32) (ov : Nat → Int64) (mv : Nat → Int32) (mu : Nat → Nat → Int32) (G : zG p s m args meth c cL_law RL 8 (some .boolean)) (hK : va_K D vwCl (wQYOM_t cy co ca) s) (hX : zW (fun q => s.heap.size ≤ q) s) (hl0 : l.stackTraces = false) (hSg : va_S (fun q => s.heap.size ≤ q) s.heap H0 []) (hAs : ∀ q, (va_A w0 H0.size) q → s.heap.size ≤ q) (hsb : va_X sb L xs s H0) (hbl : sb < H0.size) (hbA : ¬ (va_A w0 H0.size) sb) (hc0 : c0 + 1 ≤ 601024) (hs0 : s0 + 6 ≤ 7293034) {res : (Nat → Int32) × (Nat → Int32) × (Nat → Int32) × (Nat → Nat → Int32)} (hm : m_F_P_type xs L x4 pv y ov mv mu  = some res)
    (kk : ∀ (H : Heap) (locs : List Loc) (ls : Array Slot), va_P D vwCl (wQYOM aQ aS aNs aTs aEs aDc aY aO ad cy co ca res.1 res.2.1 ov res.2.2.1 res.2.2.2) H → va_D (va_A w0 H0.size) (wQYOM aQ aS aNs aTs aEs aDc aY aO ad cy co ca res.1 res.2.1 ov res.2.2.1 res.2.2.2) → va_S (va_A w0 H0.size) H0 H locs → lv_has ls 8 [(0, .ref sb), (1, .ref aQ), (2, .ref (ad 0)), (3, .ref aO), (4, .int x4)] → W p l e room_1 s m args below meth c H locs (c0 + 1) (s0 + 6) Q (F0 m 588 ls []))
    (H : Heap) (locs : List Loc) (ls : Array Slot) (hP : va_P D vwCl (wQYOM aQ aS aNs aTs aEs aDc aY aO ad cy co ca pv y ov mv mu) H) (hD : va_D (va_A w0 H0.size) (wQYOM aQ aS aNs aTs aEs aDc aY aO ad cy co ca pv y ov mv mu)) (hS : va_S (va_A w0 H0.size) H0 H locs) (hl : lv_has ls 8 [(0, .ref sb), (1, .ref aQ), (2, .ref (ad 0)), (3, .ref aO), (4, .int x4)]) : W p l e room_1 s m args below meth c H locs c0 s0 Q (F0 m 92 ls []) := by
  obtain ⟨hx, hb, hr, hml, hown, hw, hlk⟩ := G
  have hA : ∀ q, H0.size ≤ q → (va_A w0 H0.size) q := fun q h => Or.inr h
  unfold m_F_P_type at hm
  refine lv_aload_n hx hb dL_law_92 rfl (lv_at hl 1 rfl) ?_
  refine lv_aload_n hx hb dL_law_93 rfl (lv_at hl 0 rfl) ?_
  refine lv_iload hx hb dL_law_94 (lv_at hl 4 rfl) ?_
  refine lv_iconst (v := 1) hx hb dL_law_96 (by decide) ?_
  refine lv_iadd hx hb dL_law_97 ?_
  obtain ⟨hi1, hm⟩ := zix_s hm
  refine va_sld (i := (x4 + 1)) (xs := xs) hx hb hsb hbl hbA hS hi1 dL_law_98 ?_
  obtain ⟨q2, hq2, hm⟩ := zbind hm
  have hPc := hP.sub (ws' := (wQY aQ aS aNs aTs aEs aDc aY cy pv y)) [0, 1] rfl
  have hDc := hD.sub (ws' := (wQY aQ aS aNs aTs aEs aDc aY cy pv y)) [0, 1] (by decide) rfl
  have hKc := hK.sub (tys' := wQY_t cy) [0] rfl
  have hFc := va_free (wc := (wQY aQ aS aNs aTs aEs aDc aY cy pv y)) hD hS hA [0, 1] rfl
  refine zlSi (wr := [(aO, .inl (co, 1, .inr (.inl ov))), ((ad 0), .inr (5, [.int (mv 0), .int (mv 1), .ref (ad 1), .int (mv 3), .ref (ad 2), .ref (ad 3), .ref (ad 4), .ref (ad 5), .ref (ad 6), .ref (ad 7), .ref (ad 8), .ref (ad 9), .ref (ad 10), .ref (ad 11), .ref (ad 12), .ref (ad 13), .ref (ad 14), .ref (ad 15), .ref (ad 16), .ref (ad 17), .int (mv 20), .int (mv 21), .ref (ad 18), .int (mv 23)])), ((ad 1), .inl ((ca 1), 24, .inl (mu 1))), ((ad 2), .inl ((ca 2), 9, .inl (mu 2))), ((ad 3), .inl ((ca 3), 216, .inl (mu 3))), ((ad 4), .inl ((ca 4), 216, .inl (mu 4))), ((ad 5), .inl ((ca 5), 9, .inl (mu 5))), ((ad 6), .inl ((ca 6), 9, .inl (mu 6))), ((ad 7), .inl ((ca 7), 9, .inl (mu 7))), ((ad 8), .inl ((ca 8), 9, .inl (mu 8))), ((ad 9), .inl ((ca 9), 9, .inl (mu 9))), ((ad 10), .inl ((ca 10), 9, .inl (mu 10))), ((ad 11), .inl ((ca 11), 9, .inl (mu 11))), ((ad 12), .inl ((ca 12), 9, .inl (mu 12))), ((ad 13), .inl ((ca 13), 9, .inl (mu 13))), ((ad 14), .inl ((ca 14), 9, .inl (mu 14))), ((ad 15), .inl ((ca 15), 9, .inl (mu 15))), ((ad 16), .inl ((ca 16), 256, .inl (mu 16))), ((ad 17), .inl ((ca 17), 48, .inl (mu 17))), ((ad 18), .inl ((ca 18), 32, .inl (mu 18)))]) (w1 := (wQY aQ aS aNs aTs aEs aDc aY cy q2.2.1 q2.2.2)) (w' := (wQYOM aQ aS aNs aTs aEs aDc aY aO ad cy co ca q2.2.1 q2.2.2 ov mv mu)) (va_runV (As := [.int (xs (x4 + 1).toNatClampNeg)]) (rest := []) ⟨hx, hb, hml, hown, hw⟩ (k_P_type l D aQ aS aNs aTs aEs aDc aY cy _ (xs (x4 + 1).toNatClampNeg) pv y  q2 hq2) (zcV (C := RX5) 1 hw (zgood zw580) rfl rfl rfl zw176 zw578 zw579 zw581 hdX5_type ⟨Nat.le_of_ble_eq_true rfl, Nat.le_of_ble_eq_true rfl⟩) (zpreV (zpre zC_ok (A := fun q => s.heap.size ≤ q) hX.1.1 (zglob hSg hAs hS) (fun q h => hAs q (hFc q h)) hPc hKc (hDc.weaken (fun _ _ _ h => hAs _ h))) (va_recv hK hP rfl (q0 := 0) rfl)) rfl rfl hl.1 rfl (lv_room (Nat.le_of_ble_eq_true rfl)) dL_law_99 ⟨by show c0 + 0 ≤ 601024; omega, by show s0 + 0 ≤ 7293034; omega⟩) hP hD hS hFc [0, 1] [2, 3, 4, 5, 6, 7, 8, 9, 10, 11, 12, 13, 14, 15, 16, 17, 18, 19, 20, 21] [20, 21, 0, 1, 2, 3, 4, 5, 6, 7, 8, 9, 10, 11, 12, 13, 14, 15, 16, 17, 18, 19] rfl rfl (by decide) (by decide) rfl (by decide) (fun H locs hP hD hS => ?_)
  refine W.widen (k := c0 + 0) (n := s0 + 0) (by omega) (by omega) ?_
  refine lv_aload_n hx hb dL_law_102 rfl (lv_at hl 2 rfl) ?_
  refine lv_aload_n hx hb dL_law_103 rfl (lv_at hl 0 rfl) ?_
  refine lv_iload hx hb dL_law_104 (lv_at hl 4 rfl) ?_
  refine lv_iconst (v := 1) hx hb dL_law_106 (by decide) ?_
  refine lv_iadd hx hb dL_law_107 ?_
  obtain ⟨hi3, hm⟩ := zix_s hm
  refine va_sld (i := (x4 + 1)) (xs := xs) hx hb hsb hbl hbA hS hi3 dL_law_108 ?_
  obtain ⟨q4, hq4, hm⟩ := zbind hm
  have hPc := hP.sub (ws' := (wM ad ca mv mu)) [3, 4, 5, 6, 7, 8, 9, 10, 11, 12, 13, 14, 15, 16, 17, 18, 19, 20, 21] rfl
  have hDc := hD.sub (ws' := (wM ad ca mv mu)) [3, 4, 5, 6, 7, 8, 9, 10, 11, 12, 13, 14, 15, 16, 17, 18, 19, 20, 21] (by decide) rfl
  have hKc := hK.sub (tys' := wM_t ca) [2, 3, 4, 5, 6, 7, 8, 9, 10, 11, 12, 13, 14, 15, 16, 17, 18, 19] rfl
  have hFc := va_free (wc := (wM ad ca mv mu)) hD hS hA [3, 4, 5, 6, 7, 8, 9, 10, 11, 12, 13, 14, 15, 16, 17, 18, 19, 20, 21] rfl
  refine zlSi (wr := [(aQ, .inr (4, [.ref aY, .int (q2.2.1 1), .ref aS, .ref aNs, .ref aTs, .ref aEs, .ref aDc, .int (q2.2.1 7)])), (aY, .inl (cy, 24, .inl q2.2.2)), (aO, .inl (co, 1, .inr (.inl ov)))]) (w1 := (wM ad ca q4.2.1 q4.2.2)) (w' := (wQYOM aQ aS aNs aTs aEs aDc aY aO ad cy co ca q2.2.1 q2.2.2 ov q4.2.1 q4.2.2)) (va_runV (As := [.int (xs (x4 + 1).toNatClampNeg)]) (rest := [.int q2.1]) ⟨hx, hb, hml, hown, hw⟩ (k_M_type l D ad ca _ (xs (x4 + 1).toNatClampNeg) mv mu  q4 hq4) (zcV (C := RX6) 1 hw (zgood zw584) rfl rfl rfl zw7 zw582 zw583 zw585 hdX6_type ⟨Nat.le_of_ble_eq_true rfl, Nat.le_of_ble_eq_true rfl⟩) (zpreV (zpre zN_ok (A := fun q => s.heap.size ≤ q) trivial (zglob hSg hAs hS) (fun q h => hAs q (hFc q h)) hPc hKc (hDc.weaken (fun _ _ _ h => hAs _ h))) (va_recv hK hP rfl (q0 := 3) rfl)) rfl rfl hl.1 rfl (lv_room (Nat.le_of_ble_eq_true rfl)) dL_law_109 ⟨by show c0 + 0 ≤ 601024; omega, by show s0 + 0 ≤ 7293034; omega⟩) hP hD hS hFc [3, 4, 5, 6, 7, 8, 9, 10, 11, 12, 13, 14, 15, 16, 17, 18, 19, 20, 21] [0, 1, 2] [0, 1, 2, 3, 4, 5, 6, 7, 8, 9, 10, 11, 12, 13, 14, 15, 16, 17, 18, 19, 20, 21] rfl rfl (by decide) (by decide) rfl (by decide) (fun H locs hP hD hS => ?_)
  refine W.widen (k := c0 + 0) (n := s0 + 0) (by omega) (by omega) ?_
  refine lv_icmp_eq (tgt := 588) hx hb dL_law_112 rfl (fun cd5 => ?_) (fun cd5 => ?_)
  · replace hm := zt cd5 hm
    cases hm
    refine W.widen (k := c0 + 1) (n := s0 + 6) (by omega) (by omega) ?_
    exact kk _ _ _ hP hD hS (lv_sub hl [0, 1, 2, 3, 4] rfl)
  · replace hm := zf cd5 hm
    refine lv_iconst (v := 0) hx hb dL_law_115 (by decide) ?_
    cases hm

def m_F_P_clear (xs : Nat → Int32) (L : Nat) (x4 : Int32) (pv : Nat → Int32) (ov : Nat → Int64) (mv : Nat → Int32) (mu : Nat → Nat → Int32)  : Option ((Nat → Int32) × (Nat → Int32)) := (m_P_clear pv).bind (fun q1 => (m_M_clear mv mu).bind (fun q2 => (some (q1, q2))))
set_option maxRecDepth 100000 in
set_option maxHeartbeats 4000000 in
theorem f_F_P_clear {p : Program} {l : Launch} {e : Env} {s : State} {m : MethodId} {args : Array Value} {below : List Frame} {meth : Method} {c : Code} {D : va_G} {w0 : va_W} {H0 : Heap} {Q : State → Prop} {sb L : Nat} {xs : Nat → Int32} {x4 : Int32} {c0 s0 : Nat} (aQ aY aS aNs aTs aEs aDc aO : Nat) (ad : Nat → Nat) (co : ClassId) (ca : Nat → ClassId) (pv : Nat → Int32) (ov : Nat → Int64) (mv : Nat → Int32) (mu : Nat → Nat → Int32) (G : zG p s m args meth c cL_law RL 8 (some .boolean)) (hK : va_K D vwCl (wQOM_t co ca) s) (hX : zW (fun q => s.heap.size ≤ q) s) (hl0 : l.stackTraces = false) (hSg : va_S (fun q => s.heap.size ≤ q) s.heap H0 []) (hAs : ∀ q, (va_A w0 H0.size) q → s.heap.size ≤ q) (hsb : va_X sb L xs s H0) (hbl : sb < H0.size) (hbA : ¬ (va_A w0 H0.size) sb) (hc0 : c0 + 1 ≤ 601024) (hs0 : s0 + 6 ≤ 7293034) {res : (Nat → Int32) × (Nat → Int32)} (hm : m_F_P_clear xs L x4 pv ov mv mu  = some res)
    (kk : ∀ (H : Heap) (locs : List Loc) (ls : Array Slot), va_P D vwCl (wQOM aQ aY aS aNs aTs aEs aDc aO ad co ca res.1 ov res.2 mu) H → va_D (va_A w0 H0.size) (wQOM aQ aY aS aNs aTs aEs aDc aO ad co ca res.1 ov res.2 mu) → va_S (va_A w0 H0.size) H0 H locs → lv_has ls 8 [(0, .ref sb), (1, .ref aQ), (2, .ref (ad 0)), (3, .ref aO), (4, .int x4)] → W p l e room_1 s m args below meth c H locs (c0 + 1) (s0 + 6) Q (F0 m 588 ls []))
    (H : Heap) (locs : List Loc) (ls : Array Slot) (hP : va_P D vwCl (wQOM aQ aY aS aNs aTs aEs aDc aO ad co ca pv ov mv mu) H) (hD : va_D (va_A w0 H0.size) (wQOM aQ aY aS aNs aTs aEs aDc aO ad co ca pv ov mv mu)) (hS : va_S (va_A w0 H0.size) H0 H locs) (hl : lv_has ls 8 [(0, .ref sb), (1, .ref aQ), (2, .ref (ad 0)), (3, .ref aO), (4, .int x4)]) : W p l e room_1 s m args below meth c H locs c0 s0 Q (F0 m 173 ls []) := by
  obtain ⟨hx, hb, hr, hml, hown, hw, hlk⟩ := G
  have hA : ∀ q, H0.size ≤ q → (va_A w0 H0.size) q := fun q h => Or.inr h
  unfold m_F_P_clear at hm
  refine lv_aload_n hx hb dL_law_173 rfl (lv_at hl 1 rfl) ?_
  obtain ⟨q1, hq1, hm⟩ := zbind hm
  have hPc := hP.sub (ws' := (wQ aQ aY aS aNs aTs aEs aDc pv)) [0] rfl
  have hDc := hD.sub (ws' := (wQ aQ aY aS aNs aTs aEs aDc pv)) [0] (by decide) rfl
  have hKc := hK.sub (tys' := []) [] rfl
  have hFc := va_free (wc := (wQ aQ aY aS aNs aTs aEs aDc pv)) hD hS hA [0] rfl
  refine zlSv (wr := [(aO, .inl (co, 1, .inr (.inl ov))), ((ad 0), .inr (5, [.int (mv 0), .int (mv 1), .ref (ad 1), .int (mv 3), .ref (ad 2), .ref (ad 3), .ref (ad 4), .ref (ad 5), .ref (ad 6), .ref (ad 7), .ref (ad 8), .ref (ad 9), .ref (ad 10), .ref (ad 11), .ref (ad 12), .ref (ad 13), .ref (ad 14), .ref (ad 15), .ref (ad 16), .ref (ad 17), .int (mv 20), .int (mv 21), .ref (ad 18), .int (mv 23)])), ((ad 1), .inl ((ca 1), 24, .inl (mu 1))), ((ad 2), .inl ((ca 2), 9, .inl (mu 2))), ((ad 3), .inl ((ca 3), 216, .inl (mu 3))), ((ad 4), .inl ((ca 4), 216, .inl (mu 4))), ((ad 5), .inl ((ca 5), 9, .inl (mu 5))), ((ad 6), .inl ((ca 6), 9, .inl (mu 6))), ((ad 7), .inl ((ca 7), 9, .inl (mu 7))), ((ad 8), .inl ((ca 8), 9, .inl (mu 8))), ((ad 9), .inl ((ca 9), 9, .inl (mu 9))), ((ad 10), .inl ((ca 10), 9, .inl (mu 10))), ((ad 11), .inl ((ca 11), 9, .inl (mu 11))), ((ad 12), .inl ((ca 12), 9, .inl (mu 12))), ((ad 13), .inl ((ca 13), 9, .inl (mu 13))), ((ad 14), .inl ((ca 14), 9, .inl (mu 14))), ((ad 15), .inl ((ca 15), 9, .inl (mu 15))), ((ad 16), .inl ((ca 16), 256, .inl (mu 16))), ((ad 17), .inl ((ca 17), 48, .inl (mu 17))), ((ad 18), .inl ((ca 18), 32, .inl (mu 18)))]) (w1 := (wQ aQ aY aS aNs aTs aEs aDc q1)) (w' := (wQOM aQ aY aS aNs aTs aEs aDc aO ad co ca q1 ov mv mu)) (va_runV (As := []) (rest := []) ⟨hx, hb, hml, hown, hw⟩ (k_P_clear l D aQ aY aS aNs aTs aEs aDc _ pv  q1 hq1) (zcV (C := RX5) 0 hw (zgood zw600) rfl rfl rfl zw176 zw598 zw599 zw601 hdX5_clear ⟨Nat.le_of_ble_eq_true rfl, Nat.le_of_ble_eq_true rfl⟩) (zpreV (zpre zC_ok (A := fun q => s.heap.size ≤ q) hX.1.1 (zglob hSg hAs hS) (fun q h => hAs q (hFc q h)) hPc hKc (hDc.weaken (fun _ _ _ h => hAs _ h))) (va_recv hK hP rfl (q0 := 0) rfl)) rfl rfl hl.1 rfl (lv_room (Nat.le_of_ble_eq_true rfl)) dL_law_174 ⟨by show c0 + 0 ≤ 601024; omega, by show s0 + 0 ≤ 7293034; omega⟩) hP hD hS hFc [0] [1, 2, 3, 4, 5, 6, 7, 8, 9, 10, 11, 12, 13, 14, 15, 16, 17, 18, 19, 20] [20, 0, 1, 2, 3, 4, 5, 6, 7, 8, 9, 10, 11, 12, 13, 14, 15, 16, 17, 18, 19] rfl rfl (by decide) (by decide) rfl (by decide) (fun H locs hP hD hS => ?_)
  refine W.widen (k := c0 + 0) (n := s0 + 0) (by omega) (by omega) ?_
  refine lv_aload_n hx hb dL_law_177 rfl (lv_at hl 2 rfl) ?_
  obtain ⟨q2, hq2, hm⟩ := zbind hm
  have hPc := hP.sub (ws' := (wM ad ca mv mu)) [2, 3, 4, 5, 6, 7, 8, 9, 10, 11, 12, 13, 14, 15, 16, 17, 18, 19, 20] rfl
  have hDc := hD.sub (ws' := (wM ad ca mv mu)) [2, 3, 4, 5, 6, 7, 8, 9, 10, 11, 12, 13, 14, 15, 16, 17, 18, 19, 20] (by decide) rfl
  have hKc := hK.sub (tys' := wM_t ca) [1, 2, 3, 4, 5, 6, 7, 8, 9, 10, 11, 12, 13, 14, 15, 16, 17, 18] rfl
  have hFc := va_free (wc := (wM ad ca mv mu)) hD hS hA [2, 3, 4, 5, 6, 7, 8, 9, 10, 11, 12, 13, 14, 15, 16, 17, 18, 19, 20] rfl
  refine zlSv (wr := [(aQ, .inr (4, [.ref aY, .int (q1 1), .ref aS, .ref aNs, .ref aTs, .ref aEs, .ref aDc, .int (q1 7)])), (aO, .inl (co, 1, .inr (.inl ov)))]) (w1 := (wM ad ca q2 mu)) (w' := (wQOM aQ aY aS aNs aTs aEs aDc aO ad co ca q1 ov q2 mu)) (va_runV (As := []) (rest := []) ⟨hx, hb, hml, hown, hw⟩ (k_M_clear l D ad ca _ mv mu  q2 hq2) (zcV (C := RX6) 0 hw (zgood zw604) rfl rfl rfl zw7 zw602 zw603 zw605 hdX6_clear ⟨Nat.le_of_ble_eq_true rfl, Nat.le_of_ble_eq_true rfl⟩) (zpreV (zpre zN_ok (A := fun q => s.heap.size ≤ q) trivial (zglob hSg hAs hS) (fun q h => hAs q (hFc q h)) hPc hKc (hDc.weaken (fun _ _ _ h => hAs _ h))) (va_recv hK hP rfl (q0 := 2) rfl)) rfl rfl hl.1 rfl (lv_room (Nat.le_of_ble_eq_true rfl)) dL_law_178 ⟨by show c0 + 0 ≤ 601024; omega, by show s0 + 0 ≤ 7293034; omega⟩) hP hD hS hFc [2, 3, 4, 5, 6, 7, 8, 9, 10, 11, 12, 13, 14, 15, 16, 17, 18, 19, 20] [0, 1] [0, 1, 2, 3, 4, 5, 6, 7, 8, 9, 10, 11, 12, 13, 14, 15, 16, 17, 18, 19, 20] rfl rfl (by decide) (by decide) rfl (by decide) (fun H locs hP hD hS => ?_)
  refine W.widen (k := c0 + 0) (n := s0 + 0) (by omega) (by omega) ?_
  refine lv_goto (tgt := 588) hx hb dL_law_181 rfl ?_
  cases hm
  refine W.widen (k := c0 + 1) (n := s0 + 6) (by omega) (by omega) ?_
  exact kk _ _ _ hP hD hS (lv_sub hl [0, 1, 2, 3, 4] rfl)

def m_F_P_fields (xs : Nat → Int32) (L : Nat) (x4 : Int32) (pv : Nat → Int32) (ov : Nat → Int64) (mv : Nat → Int32) (mu : Nat → Nat → Int32)  : Option ((Nat → Int32)) := (m_P_fields pv).bind (fun q1 => (m_M_fields mv mu).bind (fun q2 => (if q1 = q2.1 then (some q2.2) else none)))
set_option maxRecDepth 100000 in
set_option maxHeartbeats 4000000 in
theorem f_F_P_fields {p : Program} {l : Launch} {e : Env} {s : State} {m : MethodId} {args : Array Value} {below : List Frame} {meth : Method} {c : Code} {D : va_G} {w0 : va_W} {H0 : Heap} {Q : State → Prop} {sb L : Nat} {xs : Nat → Int32} {x4 : Int32} {c0 s0 : Nat} (aQ aY aS aNs aTs aEs aDc aO : Nat) (ad : Nat → Nat) (co : ClassId) (ca : Nat → ClassId) (pv : Nat → Int32) (ov : Nat → Int64) (mv : Nat → Int32) (mu : Nat → Nat → Int32) (G : zG p s m args meth c cL_law RL 8 (some .boolean)) (hK : va_K D vwCl (wQOM_t co ca) s) (hX : zW (fun q => s.heap.size ≤ q) s) (hl0 : l.stackTraces = false) (hSg : va_S (fun q => s.heap.size ≤ q) s.heap H0 []) (hAs : ∀ q, (va_A w0 H0.size) q → s.heap.size ≤ q) (hsb : va_X sb L xs s H0) (hbl : sb < H0.size) (hbA : ¬ (va_A w0 H0.size) sb) (hc0 : c0 + 1 ≤ 601024) (hs0 : s0 + 6 ≤ 7293034) {res : (Nat → Int32)} (hm : m_F_P_fields xs L x4 pv ov mv mu  = some res)
    (kk : ∀ (H : Heap) (locs : List Loc) (ls : Array Slot), va_P D vwCl (wQOM aQ aY aS aNs aTs aEs aDc aO ad co ca pv ov res mu) H → va_D (va_A w0 H0.size) (wQOM aQ aY aS aNs aTs aEs aDc aO ad co ca pv ov res mu) → va_S (va_A w0 H0.size) H0 H locs → lv_has ls 8 [(0, .ref sb), (1, .ref aQ), (2, .ref (ad 0)), (3, .ref aO), (4, .int x4)] → W p l e room_1 s m args below meth c H locs (c0 + 1) (s0 + 6) Q (F0 m 588 ls []))
    (H : Heap) (locs : List Loc) (ls : Array Slot) (hP : va_P D vwCl (wQOM aQ aY aS aNs aTs aEs aDc aO ad co ca pv ov mv mu) H) (hD : va_D (va_A w0 H0.size) (wQOM aQ aY aS aNs aTs aEs aDc aO ad co ca pv ov mv mu)) (hS : va_S (va_A w0 H0.size) H0 H locs) (hl : lv_has ls 8 [(0, .ref sb), (1, .ref aQ), (2, .ref (ad 0)), (3, .ref aO), (4, .int x4)]) : W p l e room_1 s m args below meth c H locs c0 s0 Q (F0 m 184 ls []) := by
  obtain ⟨hx, hb, hr, hml, hown, hw, hlk⟩ := G
  have hA : ∀ q, H0.size ≤ q → (va_A w0 H0.size) q := fun q h => Or.inr h
  unfold m_F_P_fields at hm
  refine lv_aload_n hx hb dL_law_184 rfl (lv_at hl 1 rfl) ?_
  obtain ⟨q1, hq1, hm⟩ := zbind hm
  have hPc := hP.sub (ws' := (wQ aQ aY aS aNs aTs aEs aDc pv)) [0] rfl
  have hDc := hD.sub (ws' := (wQ aQ aY aS aNs aTs aEs aDc pv)) [0] (by decide) rfl
  have hKc := hK.sub (tys' := []) [] rfl
  have hFc := va_free (wc := (wQ aQ aY aS aNs aTs aEs aDc pv)) hD hS hA [0] rfl
  refine zlSi (wr := [(aO, .inl (co, 1, .inr (.inl ov))), ((ad 0), .inr (5, [.int (mv 0), .int (mv 1), .ref (ad 1), .int (mv 3), .ref (ad 2), .ref (ad 3), .ref (ad 4), .ref (ad 5), .ref (ad 6), .ref (ad 7), .ref (ad 8), .ref (ad 9), .ref (ad 10), .ref (ad 11), .ref (ad 12), .ref (ad 13), .ref (ad 14), .ref (ad 15), .ref (ad 16), .ref (ad 17), .int (mv 20), .int (mv 21), .ref (ad 18), .int (mv 23)])), ((ad 1), .inl ((ca 1), 24, .inl (mu 1))), ((ad 2), .inl ((ca 2), 9, .inl (mu 2))), ((ad 3), .inl ((ca 3), 216, .inl (mu 3))), ((ad 4), .inl ((ca 4), 216, .inl (mu 4))), ((ad 5), .inl ((ca 5), 9, .inl (mu 5))), ((ad 6), .inl ((ca 6), 9, .inl (mu 6))), ((ad 7), .inl ((ca 7), 9, .inl (mu 7))), ((ad 8), .inl ((ca 8), 9, .inl (mu 8))), ((ad 9), .inl ((ca 9), 9, .inl (mu 9))), ((ad 10), .inl ((ca 10), 9, .inl (mu 10))), ((ad 11), .inl ((ca 11), 9, .inl (mu 11))), ((ad 12), .inl ((ca 12), 9, .inl (mu 12))), ((ad 13), .inl ((ca 13), 9, .inl (mu 13))), ((ad 14), .inl ((ca 14), 9, .inl (mu 14))), ((ad 15), .inl ((ca 15), 9, .inl (mu 15))), ((ad 16), .inl ((ca 16), 256, .inl (mu 16))), ((ad 17), .inl ((ca 17), 48, .inl (mu 17))), ((ad 18), .inl ((ca 18), 32, .inl (mu 18)))]) (w1 := (wQ aQ aY aS aNs aTs aEs aDc pv)) (w' := (wQOM aQ aY aS aNs aTs aEs aDc aO ad co ca pv ov mv mu)) (va_runV (As := []) (rest := []) ⟨hx, hb, hml, hown, hw⟩ (k_P_fields l D aQ aY aS aNs aTs aEs aDc _ pv  q1 hq1) (zcV (C := RX5) 0 hw (zgood zw608) rfl rfl rfl zw176 zw606 zw607 zw609 hdX5_fields ⟨Nat.le_of_ble_eq_true rfl, Nat.le_of_ble_eq_true rfl⟩) (zpreV (zpre zC_ok (A := fun q => s.heap.size ≤ q) hX.1.1 (zglob hSg hAs hS) (fun q h => hAs q (hFc q h)) hPc hKc (hDc.weaken (fun _ _ _ h => hAs _ h))) (va_recv hK hP rfl (q0 := 0) rfl)) rfl rfl hl.1 rfl (lv_room (Nat.le_of_ble_eq_true rfl)) dL_law_185 ⟨by show c0 + 0 ≤ 601024; omega, by show s0 + 0 ≤ 7293034; omega⟩) hP hD hS hFc [0] [1, 2, 3, 4, 5, 6, 7, 8, 9, 10, 11, 12, 13, 14, 15, 16, 17, 18, 19, 20] [20, 0, 1, 2, 3, 4, 5, 6, 7, 8, 9, 10, 11, 12, 13, 14, 15, 16, 17, 18, 19] rfl rfl (by decide) (by decide) rfl (by decide) (fun H locs hP hD hS => ?_)
  refine W.widen (k := c0 + 0) (n := s0 + 0) (by omega) (by omega) ?_
  refine lv_aload_n hx hb dL_law_188 rfl (lv_at hl 2 rfl) ?_
  obtain ⟨q2, hq2, hm⟩ := zbind hm
  have hPc := hP.sub (ws' := (wM ad ca mv mu)) [2, 3, 4, 5, 6, 7, 8, 9, 10, 11, 12, 13, 14, 15, 16, 17, 18, 19, 20] rfl
  have hDc := hD.sub (ws' := (wM ad ca mv mu)) [2, 3, 4, 5, 6, 7, 8, 9, 10, 11, 12, 13, 14, 15, 16, 17, 18, 19, 20] (by decide) rfl
  have hKc := hK.sub (tys' := wM_t ca) [1, 2, 3, 4, 5, 6, 7, 8, 9, 10, 11, 12, 13, 14, 15, 16, 17, 18] rfl
  have hFc := va_free (wc := (wM ad ca mv mu)) hD hS hA [2, 3, 4, 5, 6, 7, 8, 9, 10, 11, 12, 13, 14, 15, 16, 17, 18, 19, 20] rfl
  refine zlSi (wr := [(aQ, .inr (4, [.ref aY, .int (pv 1), .ref aS, .ref aNs, .ref aTs, .ref aEs, .ref aDc, .int (pv 7)])), (aO, .inl (co, 1, .inr (.inl ov)))]) (w1 := (wM ad ca q2.2 mu)) (w' := (wQOM aQ aY aS aNs aTs aEs aDc aO ad co ca pv ov q2.2 mu)) (va_runV (As := []) (rest := [.int q1]) ⟨hx, hb, hml, hown, hw⟩ (k_M_fields l D ad ca _ mv mu  q2 hq2) (zcV (C := RX6) 0 hw (zgood zw612) rfl rfl rfl zw7 zw610 zw611 zw613 hdX6_fields ⟨Nat.le_of_ble_eq_true rfl, Nat.le_of_ble_eq_true rfl⟩) (zpreV (zpre zN_ok (A := fun q => s.heap.size ≤ q) trivial (zglob hSg hAs hS) (fun q h => hAs q (hFc q h)) hPc hKc (hDc.weaken (fun _ _ _ h => hAs _ h))) (va_recv hK hP rfl (q0 := 2) rfl)) rfl rfl hl.1 rfl (lv_room (Nat.le_of_ble_eq_true rfl)) dL_law_189 ⟨by show c0 + 0 ≤ 601024; omega, by show s0 + 0 ≤ 7293034; omega⟩) hP hD hS hFc [2, 3, 4, 5, 6, 7, 8, 9, 10, 11, 12, 13, 14, 15, 16, 17, 18, 19, 20] [0, 1] [0, 1, 2, 3, 4, 5, 6, 7, 8, 9, 10, 11, 12, 13, 14, 15, 16, 17, 18, 19, 20] rfl rfl (by decide) (by decide) rfl (by decide) (fun H locs hP hD hS => ?_)
  refine W.widen (k := c0 + 0) (n := s0 + 0) (by omega) (by omega) ?_
  refine lv_icmp_eq (tgt := 588) hx hb dL_law_192 rfl (fun cd3 => ?_) (fun cd3 => ?_)
  · replace hm := zt cd3 hm
    cases hm
    refine W.widen (k := c0 + 1) (n := s0 + 6) (by omega) (by omega) ?_
    exact kk _ _ _ hP hD hS (lv_sub hl [0, 1, 2, 3, 4] rfl)
  · replace hm := zf cd3 hm
    refine lv_iconst (v := 0) hx hb dL_law_195 (by decide) ?_
    cases hm

def m_F_L_declare_N (xs : Nat → Int32) (L : Nat) (x4 : Int32) (pv : Nat → Int32) (y : Nat → Int32) (sv : Nat → Int32) (sr : Nat → Int32) (nf : Nat → Option Nat) (tf : Nat → Option Nat) (ef : Nat → Option Nat) (dc : Nat → Option Nat) (vn : Nat → Int32) (bn : Nat → Int32) (vt : Nat → Int32) (bt : Nat → Int32) (v : Nat → Int32) (b : Nat → Int32) (rw : Nat → Int32) (pw : Nat → Int32) (ov : Nat → Int64) (mv : Nat → Int32) (mu : Nat → Nat → Int32) (aNn : Nat) : Option ((Nat → Int32) × (Nat → Int32) × (Nat → Int32) × (Nat → Option Nat) × (Nat → Int32) × (Nat → Int32) × (Nat → Int32) × (Nat → Int32) × (Nat → Int32) × (Nat → Int32) × (Nat → Int64) × (Nat → Int32) × (Nat → Nat → Int32)) := zix (x4 + 1) L ((m_L_declare_N (xs (x4 + 1).toNatClampNeg) pv y sv sr nf tf ef dc vn bn vt bt v b rw pw ov aNn).bind (fun q2 => zix (x4 + 1) L ((m_M_declare (xs (x4 + 1).toNatClampNeg) mv mu).bind (fun q4 => (m_M_thrown q4.2.1 q4.2.2).bind (fun q5 => (if q5 = q2.1 then (if q2.1 = 0 then zix 0 1 ((if (lg_cmp (q2.2.2.2.2.2.2.2.2.2.2.2 (0 : Int32).toNatClampNeg) ((q4.1).toInt64)) = 0 then (some (q2.2.1, q2.2.2.1, q2.2.2.2.1, q2.2.2.2.2.1, q2.2.2.2.2.2.1, q2.2.2.2.2.2.2.1, q2.2.2.2.2.2.2.2.1, q2.2.2.2.2.2.2.2.2.1, q2.2.2.2.2.2.2.2.2.2.1, q2.2.2.2.2.2.2.2.2.2.2.1, q2.2.2.2.2.2.2.2.2.2.2.2, q4.2.1, q4.2.2)) else none)) else (some (q2.2.1, q2.2.2.1, q2.2.2.2.1, q2.2.2.2.2.1, q2.2.2.2.2.2.1, q2.2.2.2.2.2.2.1, q2.2.2.2.2.2.2.2.1, q2.2.2.2.2.2.2.2.2.1, q2.2.2.2.2.2.2.2.2.2.1, q2.2.2.2.2.2.2.2.2.2.2.1, q2.2.2.2.2.2.2.2.2.2.2.2, q4.2.1, q4.2.2))) else none))))))
set_option maxRecDepth 100000 in
set_option maxHeartbeats 4000000 in
theorem f_F_L_declare_N {p : Program} {l : Launch} {e : Env} {s : State} {m : MethodId} {args : Array Value} {below : List Frame} {meth : Method} {c : Code} {D : va_G} {w0 : va_W} {H0 : Heap} {Q : State → Prop} {sb L : Nat} {xs : Nat → Int32} {x4 : Int32} {c0 s0 : Nat} (aQ aY aS rS aNs aTs aEs aDc aNn bNn aTt bTt aE bE rE pE aO : Nat) (ad : Nat → Nat) (cy cs cn ct ce cd c1n c1t c1 c2 c3 co : ClassId) (ca : Nat → ClassId) (pv : Nat → Int32) (y : Nat → Int32) (sv : Nat → Int32) (sr : Nat → Int32) (nf : Nat → Option Nat) (tf : Nat → Option Nat) (ef : Nat → Option Nat) (dc : Nat → Option Nat) (vn : Nat → Int32) (bn : Nat → Int32) (vt : Nat → Int32) (bt : Nat → Int32) (v : Nat → Int32) (b : Nat → Int32) (rw : Nat → Int32) (pw : Nat → Int32) (ov : Nat → Int64) (mv : Nat → Int32) (mu : Nat → Nat → Int32) (G : zG p s m args meth c cL_law RL 8 (some .boolean)) (hK : va_K D vwCl (wQAOM_t cy cs cn ct ce cd c1n c1t c1 c2 c3 co ca) s) (hX : zW (fun q => s.heap.size ≤ q) s) (hl0 : l.stackTraces = false) (hSg : va_S (fun q => s.heap.size ≤ q) s.heap H0 []) (hAs : ∀ q, (va_A w0 H0.size) q → s.heap.size ≤ q) (hsb : va_X sb L xs s H0) (hbl : sb < H0.size) (hbA : ¬ (va_A w0 H0.size) sb) (hc0 : c0 + 1 ≤ 601024) (hs0 : s0 + 6 ≤ 7293034) (hdN : nf (pv 7).toNatClampNeg = some aNn) (hdT : tf (pv 7).toNatClampNeg = some aTt) (hdE : ef (pv 7).toNatClampNeg = some aE) {res : (Nat → Int32) × (Nat → Int32) × (Nat → Int32) × (Nat → Option Nat) × (Nat → Int32) × (Nat → Int32) × (Nat → Int32) × (Nat → Int32) × (Nat → Int32) × (Nat → Int32) × (Nat → Int64) × (Nat → Int32) × (Nat → Nat → Int32)} (hm : m_F_L_declare_N xs L x4 pv y sv sr nf tf ef dc vn bn vt bt v b rw pw ov mv mu aNn = some res)
    (kk : ∀ (H : Heap) (locs : List Loc) (ls : Array Slot), va_P D vwCl (wQAOM aQ aY aS rS aNs aTs aEs aDc aNn bNn aTt bTt aE bE rE pE aO ad cy cs cn ct ce cd c1n c1t c1 c2 c3 co ca res.1 y res.2.1 res.2.2.1 nf tf ef res.2.2.2.1 res.2.2.2.2.1 res.2.2.2.2.2.1 res.2.2.2.2.2.2.1 bt res.2.2.2.2.2.2.2.1 b res.2.2.2.2.2.2.2.2.1 res.2.2.2.2.2.2.2.2.2.1 res.2.2.2.2.2.2.2.2.2.2.1 res.2.2.2.2.2.2.2.2.2.2.2.1 res.2.2.2.2.2.2.2.2.2.2.2.2) H → va_D (va_A w0 H0.size) (wQAOM aQ aY aS rS aNs aTs aEs aDc aNn bNn aTt bTt aE bE rE pE aO ad cy cs cn ct ce cd c1n c1t c1 c2 c3 co ca res.1 y res.2.1 res.2.2.1 nf tf ef res.2.2.2.1 res.2.2.2.2.1 res.2.2.2.2.2.1 res.2.2.2.2.2.2.1 bt res.2.2.2.2.2.2.2.1 b res.2.2.2.2.2.2.2.2.1 res.2.2.2.2.2.2.2.2.2.1 res.2.2.2.2.2.2.2.2.2.2.1 res.2.2.2.2.2.2.2.2.2.2.2.1 res.2.2.2.2.2.2.2.2.2.2.2.2) → va_S (va_A w0 H0.size) H0 H locs → lv_has ls 8 [(0, .ref sb), (1, .ref aQ), (2, .ref (ad 0)), (3, .ref aO), (4, .int x4)] → W p l e room_1 s m args below meth c H locs (c0 + 1) (s0 + 6) Q (F0 m 588 ls []))
    (H : Heap) (locs : List Loc) (ls : Array Slot) (hP : va_P D vwCl (wQAOM aQ aY aS rS aNs aTs aEs aDc aNn bNn aTt bTt aE bE rE pE aO ad cy cs cn ct ce cd c1n c1t c1 c2 c3 co ca pv y sv sr nf tf ef dc vn bn vt bt v b rw pw ov mv mu) H) (hD : va_D (va_A w0 H0.size) (wQAOM aQ aY aS rS aNs aTs aEs aDc aNn bNn aTt bTt aE bE rE pE aO ad cy cs cn ct ce cd c1n c1t c1 c2 c3 co ca pv y sv sr nf tf ef dc vn bn vt bt v b rw pw ov mv mu)) (hS : va_S (va_A w0 H0.size) H0 H locs) (hl : lv_has ls 8 [(0, .ref sb), (1, .ref aQ), (2, .ref (ad 0)), (3, .ref aO), (4, .int x4)]) : W p l e room_1 s m args below meth c H locs c0 s0 Q (F0 m 117 ls []) := by
  obtain ⟨hx, hb, hr, hml, hown, hw, hlk⟩ := G
  have hA : ∀ q, H0.size ≤ q → (va_A w0 H0.size) q := fun q h => Or.inr h
  unfold m_F_L_declare_N at hm
  refine lv_aload_n hx hb dL_law_117 rfl (lv_at hl 1 rfl) ?_
  refine lv_aload_n hx hb dL_law_118 rfl (lv_at hl 0 rfl) ?_
  refine lv_iload hx hb dL_law_119 (lv_at hl 4 rfl) ?_
  refine lv_iconst (v := 1) hx hb dL_law_121 (by decide) ?_
  refine lv_iadd hx hb dL_law_122 ?_
  obtain ⟨hi1, hm⟩ := zix_s hm
  refine va_sld (i := (x4 + 1)) (xs := xs) hx hb hsb hbl hbA hS hi1 dL_law_123 ?_
  refine lv_aload_n hx hb dL_law_124 rfl (lv_at hl 3 rfl) ?_
  obtain ⟨q2, hq2, hm⟩ := zbind hm
  have hPc := hP.sub (ws' := (wQAO aQ aY aS rS aNs aTs aEs aDc aNn bNn aTt bTt aE bE rE pE aO cy cs cn ct ce cd c1n c1t c1 c2 c3 co pv y sv sr nf tf ef dc vn bn vt bt v b rw pw ov)) [0, 1, 2, 3, 4, 5, 6, 7, 8, 9, 10, 11, 12, 13, 14, 15, 16] rfl
  have hDc := hD.sub (ws' := (wQAO aQ aY aS rS aNs aTs aEs aDc aNn bNn aTt bTt aE bE rE pE aO cy cs cn ct ce cd c1n c1t c1 c2 c3 co pv y sv sr nf tf ef dc vn bn vt bt v b rw pw ov)) [0, 1, 2, 3, 4, 5, 6, 7, 8, 9, 10, 11, 12, 13, 14, 15, 16] (by decide) rfl
  have hKc := hK.sub (tys' := wQAO_t cy cs cn ct ce cd c1n c1t c1 c2 c3 co) [0, 1, 2, 3, 4, 5, 6, 7, 8, 9, 10, 11] rfl
  have hFc := va_free (wc := (wQAO aQ aY aS rS aNs aTs aEs aDc aNn bNn aTt bTt aE bE rE pE aO cy cs cn ct ce cd c1n c1t c1 c2 c3 co pv y sv sr nf tf ef dc vn bn vt bt v b rw pw ov)) hD hS hA [0, 1, 2, 3, 4, 5, 6, 7, 8, 9, 10, 11, 12, 13, 14, 15, 16] rfl
  refine zlSi (wr := [((ad 0), .inr (5, [.int (mv 0), .int (mv 1), .ref (ad 1), .int (mv 3), .ref (ad 2), .ref (ad 3), .ref (ad 4), .ref (ad 5), .ref (ad 6), .ref (ad 7), .ref (ad 8), .ref (ad 9), .ref (ad 10), .ref (ad 11), .ref (ad 12), .ref (ad 13), .ref (ad 14), .ref (ad 15), .ref (ad 16), .ref (ad 17), .int (mv 20), .int (mv 21), .ref (ad 18), .int (mv 23)])), ((ad 1), .inl ((ca 1), 24, .inl (mu 1))), ((ad 2), .inl ((ca 2), 9, .inl (mu 2))), ((ad 3), .inl ((ca 3), 216, .inl (mu 3))), ((ad 4), .inl ((ca 4), 216, .inl (mu 4))), ((ad 5), .inl ((ca 5), 9, .inl (mu 5))), ((ad 6), .inl ((ca 6), 9, .inl (mu 6))), ((ad 7), .inl ((ca 7), 9, .inl (mu 7))), ((ad 8), .inl ((ca 8), 9, .inl (mu 8))), ((ad 9), .inl ((ca 9), 9, .inl (mu 9))), ((ad 10), .inl ((ca 10), 9, .inl (mu 10))), ((ad 11), .inl ((ca 11), 9, .inl (mu 11))), ((ad 12), .inl ((ca 12), 9, .inl (mu 12))), ((ad 13), .inl ((ca 13), 9, .inl (mu 13))), ((ad 14), .inl ((ca 14), 9, .inl (mu 14))), ((ad 15), .inl ((ca 15), 9, .inl (mu 15))), ((ad 16), .inl ((ca 16), 256, .inl (mu 16))), ((ad 17), .inl ((ca 17), 48, .inl (mu 17))), ((ad 18), .inl ((ca 18), 32, .inl (mu 18)))]) (w1 := (wQAO aQ aY aS rS aNs aTs aEs aDc aNn bNn aTt bTt aE bE rE pE aO cy cs cn ct ce cd c1n c1t c1 c2 c3 co q2.2.1 y q2.2.2.1 q2.2.2.2.1 nf tf ef q2.2.2.2.2.1 q2.2.2.2.2.2.1 q2.2.2.2.2.2.2.1 q2.2.2.2.2.2.2.2.1 bt q2.2.2.2.2.2.2.2.2.1 b q2.2.2.2.2.2.2.2.2.2.1 q2.2.2.2.2.2.2.2.2.2.2.1 q2.2.2.2.2.2.2.2.2.2.2.2)) (w' := (wQAOM aQ aY aS rS aNs aTs aEs aDc aNn bNn aTt bTt aE bE rE pE aO ad cy cs cn ct ce cd c1n c1t c1 c2 c3 co ca q2.2.1 y q2.2.2.1 q2.2.2.2.1 nf tf ef q2.2.2.2.2.1 q2.2.2.2.2.2.1 q2.2.2.2.2.2.2.1 q2.2.2.2.2.2.2.2.1 bt q2.2.2.2.2.2.2.2.2.1 b q2.2.2.2.2.2.2.2.2.2.1 q2.2.2.2.2.2.2.2.2.2.2.1 q2.2.2.2.2.2.2.2.2.2.2.2 mv mu)) (vx_runSW (As := [.ref aQ, .int (xs (x4 + 1).toNatClampNeg), .ref aO]) (rest := []) ⟨hx, hb, hml, hown, hw⟩ (k_L_declare_N l D aQ aY aS rS aNs aTs aEs aDc aNn bNn aTt bTt aE bE rE pE aO cy cs cn ct ce cd c1n c1t c1 c2 c3 co _ (xs (x4 + 1).toNatClampNeg) pv y sv sr nf tf ef dc vn bn vt bt v b rw pw ov hdN hdT hdE q2 hq2) (vx_cwSW 3 hw (zgoodW (List.forall_mem_cons.mpr ⟨zw586, List.forall_mem_cons.mpr ⟨zw588, List.forall_mem_cons.mpr ⟨zw587, fun _ h => absurd h List.not_mem_nil⟩⟩⟩) zw589) rfl rfl rfl hdL_declare ⟨Nat.le_of_ble_eq_true rfl, Nat.le_of_ble_eq_true rfl⟩) (zpre zW_ok (A := fun q => s.heap.size ≤ q) hX (zglob hSg hAs hS) (fun q h => hAs q (hFc q h)) hPc hKc (hDc.weaken (fun _ _ _ h => hAs _ h))) rfl rfl hl.1 rfl (lv_room (Nat.le_of_ble_eq_true rfl)) dL_law_125 ⟨by show c0 + 0 ≤ 601024; omega, by show s0 + 0 ≤ 7293034; omega⟩) hP hD hS hFc [0, 1, 2, 3, 4, 5, 6, 7, 8, 9, 10, 11, 12, 13, 14, 15, 16] [17, 18, 19, 20, 21, 22, 23, 24, 25, 26, 27, 28, 29, 30, 31, 32, 33, 34, 35] [19, 20, 21, 22, 23, 24, 25, 26, 27, 28, 29, 30, 31, 32, 33, 34, 35, 0, 1, 2, 3, 4, 5, 6, 7, 8, 9, 10, 11, 12, 13, 14, 15, 16, 17, 18] rfl rfl (by decide) (by decide) rfl (by decide) (fun H locs hP hD hS => ?_)
  refine W.widen (k := c0 + 0) (n := s0 + 0) (by omega) (by omega) ?_
  refine lv_istore (lv' := [(5, .int q2.1), (0, .ref sb), (1, .ref aQ), (2, .ref (ad 0)), (3, .ref aO), (4, .int x4)]) hx hb dL_law_128 hl (by decide) rfl (fun ls hl => ?_)
  refine lv_aload_n hx hb dL_law_130 rfl (lv_at hl 3 rfl) ?_
  refine lv_aload_n hx hb dL_law_131 rfl (lv_at hl 1 rfl) ?_
  refine lv_iload hx hb dL_law_132 (lv_at hl 5 rfl) ?_
  refine lv_iconst (v := 1) hx hb dL_law_134 (by decide) ?_
  refine lv_iadd hx hb dL_law_135 ?_
  obtain ⟨hi3, hm⟩ := zix_s hm
  refine va_sld (i := (x4 + 1)) (xs := xs) hx hb hsb hbl hbA hS hi3 dL_law_136 ?_
  obtain ⟨q4, hq4, hm⟩ := zbind hm
  have hPc := hP.sub (ws' := (wM ad ca mv mu)) [17, 18, 19, 20, 21, 22, 23, 24, 25, 26, 27, 28, 29, 30, 31, 32, 33, 34, 35] rfl
  have hDc := hD.sub (ws' := (wM ad ca mv mu)) [17, 18, 19, 20, 21, 22, 23, 24, 25, 26, 27, 28, 29, 30, 31, 32, 33, 34, 35] (by decide) rfl
  have hKc := hK.sub (tys' := wM_t ca) [12, 13, 14, 15, 16, 17, 18, 19, 20, 21, 22, 23, 24, 25, 26, 27, 28, 29] rfl
  have hFc := va_free (wc := (wM ad ca mv mu)) hD hS hA [17, 18, 19, 20, 21, 22, 23, 24, 25, 26, 27, 28, 29, 30, 31, 32, 33, 34, 35] rfl
  refine zlSi (wr := [(aQ, .inr (4, [.ref aY, .int (q2.2.1 1), .ref aS, .ref aNs, .ref aTs, .ref aEs, .ref aDc, .int (q2.2.1 7)])), (aY, .inl (cy, 24, .inl y)), (aS, .inr (2, [.ref rS, .int (q2.2.2.1 1)])), (rS, .inl (cs, 24, .inl q2.2.2.2.1)), (aNs, .inl (cn, 8, .inr (.inr (.inr (.inr nf))))), (aTs, .inl (ct, 8, .inr (.inr (.inr (.inr tf))))), (aEs, .inl (ce, 8, .inr (.inr (.inr (.inr ef))))), (aDc, .inl (cd, 8, .inr (.inr (.inr (.inr q2.2.2.2.2.1))))), (aNn, .inr (1, [.ref bNn, .int (q2.2.2.2.2.2.1 1), .int (q2.2.2.2.2.2.1 2), .int (q2.2.2.2.2.2.1 3), .int (q2.2.2.2.2.2.1 4), .int (q2.2.2.2.2.2.1 5), .int (q2.2.2.2.2.2.1 6), .int (q2.2.2.2.2.2.1 7)])), (bNn, .inl (c1n, 25, .inl q2.2.2.2.2.2.2.1)), (aTt, .inr (3, [.ref bTt, .int (q2.2.2.2.2.2.2.2.1 1), .int (q2.2.2.2.2.2.2.2.1 2), .int (q2.2.2.2.2.2.2.2.1 3), .int (q2.2.2.2.2.2.2.2.1 4)])), (bTt, .inl (c1t, 25, .inl bt)), (aE, .inr (0, [.ref bE, .int (q2.2.2.2.2.2.2.2.2.1 1), .int (q2.2.2.2.2.2.2.2.2.1 2), .int (q2.2.2.2.2.2.2.2.2.1 3), .int (q2.2.2.2.2.2.2.2.2.1 4), .ref rE, .ref pE, .int (q2.2.2.2.2.2.2.2.2.1 7), .int (q2.2.2.2.2.2.2.2.2.1 8), .int (q2.2.2.2.2.2.2.2.2.1 9), .int (q2.2.2.2.2.2.2.2.2.1 10), .int (q2.2.2.2.2.2.2.2.2.1 11), .int (q2.2.2.2.2.2.2.2.2.1 12), .int (q2.2.2.2.2.2.2.2.2.1 13), .int (q2.2.2.2.2.2.2.2.2.1 14), .int (q2.2.2.2.2.2.2.2.2.1 15)])), (bE, .inl (c1, 25, .inl b)), (rE, .inl (c2, 24, .inl q2.2.2.2.2.2.2.2.2.2.1)), (pE, .inl (c3, 24, .inl q2.2.2.2.2.2.2.2.2.2.2.1)), (aO, .inl (co, 1, .inr (.inl q2.2.2.2.2.2.2.2.2.2.2.2)))]) (w1 := (wM ad ca q4.2.1 q4.2.2)) (w' := (wQAOM aQ aY aS rS aNs aTs aEs aDc aNn bNn aTt bTt aE bE rE pE aO ad cy cs cn ct ce cd c1n c1t c1 c2 c3 co ca q2.2.1 y q2.2.2.1 q2.2.2.2.1 nf tf ef q2.2.2.2.2.1 q2.2.2.2.2.2.1 q2.2.2.2.2.2.2.1 q2.2.2.2.2.2.2.2.1 bt q2.2.2.2.2.2.2.2.2.1 b q2.2.2.2.2.2.2.2.2.2.1 q2.2.2.2.2.2.2.2.2.2.2.1 q2.2.2.2.2.2.2.2.2.2.2.2 q4.2.1 q4.2.2)) (va_runV (As := [.int (xs (x4 + 1).toNatClampNeg)]) (rest := []) ⟨hx, hb, hml, hown, hw⟩ (k_M_declare l D ad ca _ (xs (x4 + 1).toNatClampNeg) mv mu  q4 hq4) (zcV (C := RX6) 1 hw (zgood zw592) rfl rfl rfl zw7 zw590 zw591 zw593 hdX6_declare ⟨Nat.le_of_ble_eq_true rfl, Nat.le_of_ble_eq_true rfl⟩) (zpreV (zpre zN_ok (A := fun q => s.heap.size ≤ q) trivial (zglob hSg hAs hS) (fun q h => hAs q (hFc q h)) hPc hKc (hDc.weaken (fun _ _ _ h => hAs _ h))) (va_recv hK hP rfl (q0 := 17) rfl)) rfl rfl hl.1 rfl (lv_room (Nat.le_of_ble_eq_true rfl)) dL_law_137 ⟨by show c0 + 0 ≤ 601024; omega, by show s0 + 0 ≤ 7293034; omega⟩) hP hD hS hFc [17, 18, 19, 20, 21, 22, 23, 24, 25, 26, 27, 28, 29, 30, 31, 32, 33, 34, 35] [0, 1, 2, 3, 4, 5, 6, 7, 8, 9, 10, 11, 12, 13, 14, 15, 16] [0, 1, 2, 3, 4, 5, 6, 7, 8, 9, 10, 11, 12, 13, 14, 15, 16, 17, 18, 19, 20, 21, 22, 23, 24, 25, 26, 27, 28, 29, 30, 31, 32, 33, 34, 35] rfl rfl (by decide) (by decide) rfl (by decide) (fun H locs hP hD hS => ?_)
  refine W.widen (k := c0 + 0) (n := s0 + 0) (by omega) (by omega) ?_
  refine lv_istore (lv' := [(6, .int q4.1), (5, .int q2.1), (0, .ref sb), (1, .ref aQ), (2, .ref (ad 0)), (3, .ref aO), (4, .int x4)]) hx hb dL_law_140 hl (by decide) rfl (fun ls hl => ?_)
  refine lv_aload_n hx hb dL_law_142 rfl (lv_at hl 4 rfl) ?_
  obtain ⟨q5, hq5, hm⟩ := zbind hm
  have hPc := hP.sub (ws' := (wM ad ca q4.2.1 q4.2.2)) [17, 18, 19, 20, 21, 22, 23, 24, 25, 26, 27, 28, 29, 30, 31, 32, 33, 34, 35] rfl
  have hDc := hD.sub (ws' := (wM ad ca q4.2.1 q4.2.2)) [17, 18, 19, 20, 21, 22, 23, 24, 25, 26, 27, 28, 29, 30, 31, 32, 33, 34, 35] (by decide) rfl
  have hKc := hK.sub (tys' := wM_t ca) [12, 13, 14, 15, 16, 17, 18, 19, 20, 21, 22, 23, 24, 25, 26, 27, 28, 29] rfl
  have hFc := va_free (wc := (wM ad ca q4.2.1 q4.2.2)) hD hS hA [17, 18, 19, 20, 21, 22, 23, 24, 25, 26, 27, 28, 29, 30, 31, 32, 33, 34, 35] rfl
  refine zlSi (wr := [(aQ, .inr (4, [.ref aY, .int (q2.2.1 1), .ref aS, .ref aNs, .ref aTs, .ref aEs, .ref aDc, .int (q2.2.1 7)])), (aY, .inl (cy, 24, .inl y)), (aS, .inr (2, [.ref rS, .int (q2.2.2.1 1)])), (rS, .inl (cs, 24, .inl q2.2.2.2.1)), (aNs, .inl (cn, 8, .inr (.inr (.inr (.inr nf))))), (aTs, .inl (ct, 8, .inr (.inr (.inr (.inr tf))))), (aEs, .inl (ce, 8, .inr (.inr (.inr (.inr ef))))), (aDc, .inl (cd, 8, .inr (.inr (.inr (.inr q2.2.2.2.2.1))))), (aNn, .inr (1, [.ref bNn, .int (q2.2.2.2.2.2.1 1), .int (q2.2.2.2.2.2.1 2), .int (q2.2.2.2.2.2.1 3), .int (q2.2.2.2.2.2.1 4), .int (q2.2.2.2.2.2.1 5), .int (q2.2.2.2.2.2.1 6), .int (q2.2.2.2.2.2.1 7)])), (bNn, .inl (c1n, 25, .inl q2.2.2.2.2.2.2.1)), (aTt, .inr (3, [.ref bTt, .int (q2.2.2.2.2.2.2.2.1 1), .int (q2.2.2.2.2.2.2.2.1 2), .int (q2.2.2.2.2.2.2.2.1 3), .int (q2.2.2.2.2.2.2.2.1 4)])), (bTt, .inl (c1t, 25, .inl bt)), (aE, .inr (0, [.ref bE, .int (q2.2.2.2.2.2.2.2.2.1 1), .int (q2.2.2.2.2.2.2.2.2.1 2), .int (q2.2.2.2.2.2.2.2.2.1 3), .int (q2.2.2.2.2.2.2.2.2.1 4), .ref rE, .ref pE, .int (q2.2.2.2.2.2.2.2.2.1 7), .int (q2.2.2.2.2.2.2.2.2.1 8), .int (q2.2.2.2.2.2.2.2.2.1 9), .int (q2.2.2.2.2.2.2.2.2.1 10), .int (q2.2.2.2.2.2.2.2.2.1 11), .int (q2.2.2.2.2.2.2.2.2.1 12), .int (q2.2.2.2.2.2.2.2.2.1 13), .int (q2.2.2.2.2.2.2.2.2.1 14), .int (q2.2.2.2.2.2.2.2.2.1 15)])), (bE, .inl (c1, 25, .inl b)), (rE, .inl (c2, 24, .inl q2.2.2.2.2.2.2.2.2.2.1)), (pE, .inl (c3, 24, .inl q2.2.2.2.2.2.2.2.2.2.2.1)), (aO, .inl (co, 1, .inr (.inl q2.2.2.2.2.2.2.2.2.2.2.2)))]) (w1 := (wM ad ca q4.2.1 q4.2.2)) (w' := (wQAOM aQ aY aS rS aNs aTs aEs aDc aNn bNn aTt bTt aE bE rE pE aO ad cy cs cn ct ce cd c1n c1t c1 c2 c3 co ca q2.2.1 y q2.2.2.1 q2.2.2.2.1 nf tf ef q2.2.2.2.2.1 q2.2.2.2.2.2.1 q2.2.2.2.2.2.2.1 q2.2.2.2.2.2.2.2.1 bt q2.2.2.2.2.2.2.2.2.1 b q2.2.2.2.2.2.2.2.2.2.1 q2.2.2.2.2.2.2.2.2.2.2.1 q2.2.2.2.2.2.2.2.2.2.2.2 q4.2.1 q4.2.2)) (va_runV (As := []) (rest := []) ⟨hx, hb, hml, hown, hw⟩ (k_M_thrown l D ad ca _ q4.2.1 q4.2.2  q5 hq5) (zcV (C := RX6) 0 hw (zgood zw596) rfl rfl rfl zw7 zw594 zw595 zw597 hdX6_thrown ⟨Nat.le_of_ble_eq_true rfl, Nat.le_of_ble_eq_true rfl⟩) (zpreV (zpre zN_ok (A := fun q => s.heap.size ≤ q) trivial (zglob hSg hAs hS) (fun q h => hAs q (hFc q h)) hPc hKc (hDc.weaken (fun _ _ _ h => hAs _ h))) (va_recv hK hP rfl (q0 := 17) rfl)) rfl rfl hl.1 rfl (lv_room (Nat.le_of_ble_eq_true rfl)) dL_law_143 ⟨by show c0 + 0 ≤ 601024; omega, by show s0 + 0 ≤ 7293034; omega⟩) hP hD hS hFc [17, 18, 19, 20, 21, 22, 23, 24, 25, 26, 27, 28, 29, 30, 31, 32, 33, 34, 35] [0, 1, 2, 3, 4, 5, 6, 7, 8, 9, 10, 11, 12, 13, 14, 15, 16] [0, 1, 2, 3, 4, 5, 6, 7, 8, 9, 10, 11, 12, 13, 14, 15, 16, 17, 18, 19, 20, 21, 22, 23, 24, 25, 26, 27, 28, 29, 30, 31, 32, 33, 34, 35] rfl rfl (by decide) (by decide) rfl (by decide) (fun H locs hP hD hS => ?_)
  refine W.widen (k := c0 + 0) (n := s0 + 0) (by omega) (by omega) ?_
  refine lv_iload hx hb dL_law_146 (lv_at hl 1 rfl) ?_
  refine lv_icmp_eq (tgt := 153) hx hb dL_law_148 rfl (fun cd6 => ?_) (fun cd6 => ?_)
  · replace hm := zt cd6 hm
    refine lv_iload hx hb dL_law_153 (lv_at hl 1 rfl) ?_
    refine lv_if_ne (tgt := 170) hx hb dL_law_155 rfl (fun cd7 => ?_) (fun cd7 => ?_)
    · replace hm := zf cd7 hm
      refine lv_goto (tgt := 588) hx hb dL_law_170 rfl ?_
      cases hm
      refine W.widen (k := c0 + 1) (n := s0 + 6) (by omega) (by omega) ?_
      exact kk _ _ _ hP hD hS (lv_sub hl [2, 3, 4, 5, 6] rfl)
    · replace hm := zt cd7 hm
      refine lv_aload_n hx hb dL_law_158 rfl (lv_at hl 5 rfl) ?_
      refine lv_iconst (v := 0) hx hb dL_law_159 (by decide) ?_
      obtain ⟨hi8, hm⟩ := zix_s hm
      refine va_lald (i := 0) (f := q2.2.2.2.2.2.2.2.2.2.2.2) (n := 1) hx hb hK hP 16 11 rfl rfl hi8 dL_law_160 ?_
      refine lv_iload hx hb dL_law_161 (lv_at hl 0 rfl) ?_
      refine lv_i2l (v := ((q4.1).toInt64)) hx hb dL_law_163 rfl ?_
      refine W.lcmp (x := (q2.2.2.2.2.2.2.2.2.2.2.2 (0 : Int32).toNatClampNeg)) (y := ((q4.1).toInt64)) hx hb dL_law_164 ?_
      refine lv_if_eq (tgt := 170) hx hb dL_law_165 rfl (fun cd9 => ?_) (fun cd9 => ?_)
      · replace hm := zt cd9 hm
        refine lv_goto (tgt := 588) hx hb dL_law_170 rfl ?_
        cases hm
        refine W.widen (k := c0 + 1) (n := s0 + 6) (by omega) (by omega) ?_
        exact kk _ _ _ hP hD hS (lv_sub hl [2, 3, 4, 5, 6] rfl)
      · replace hm := zf cd9 hm
        refine lv_iconst (v := 0) hx hb dL_law_168 (by decide) ?_
        cases hm
  · replace hm := zf cd6 hm
    refine lv_iconst (v := 0) hx hb dL_law_151 (by decide) ?_
    cases hm

def m_F_L_declare_T (xs : Nat → Int32) (L : Nat) (x4 : Int32) (pv : Nat → Int32) (y : Nat → Int32) (sv : Nat → Int32) (sr : Nat → Int32) (nf : Nat → Option Nat) (tf : Nat → Option Nat) (ef : Nat → Option Nat) (dc : Nat → Option Nat) (vn : Nat → Int32) (bn : Nat → Int32) (vt : Nat → Int32) (bt : Nat → Int32) (v : Nat → Int32) (b : Nat → Int32) (rw : Nat → Int32) (pw : Nat → Int32) (ov : Nat → Int64) (mv : Nat → Int32) (mu : Nat → Nat → Int32) (aTt : Nat) : Option ((Nat → Int32) × (Nat → Int32) × (Nat → Int32) × (Nat → Option Nat) × (Nat → Int32) × (Nat → Int32) × (Nat → Int32) × (Nat → Int32) × (Nat → Int32) × (Nat → Int32) × (Nat → Int64) × (Nat → Int32) × (Nat → Nat → Int32)) := zix (x4 + 1) L ((m_L_declare_T (xs (x4 + 1).toNatClampNeg) pv y sv sr nf tf ef dc vn bn vt bt v b rw pw ov aTt).bind (fun q2 => zix (x4 + 1) L ((m_M_declare (xs (x4 + 1).toNatClampNeg) mv mu).bind (fun q4 => (m_M_thrown q4.2.1 q4.2.2).bind (fun q5 => (if q5 = q2.1 then (if q2.1 = 0 then zix 0 1 ((if (lg_cmp (q2.2.2.2.2.2.2.2.2.2.2.2 (0 : Int32).toNatClampNeg) ((q4.1).toInt64)) = 0 then (some (q2.2.1, q2.2.2.1, q2.2.2.2.1, q2.2.2.2.2.1, q2.2.2.2.2.2.1, q2.2.2.2.2.2.2.1, q2.2.2.2.2.2.2.2.1, q2.2.2.2.2.2.2.2.2.1, q2.2.2.2.2.2.2.2.2.2.1, q2.2.2.2.2.2.2.2.2.2.2.1, q2.2.2.2.2.2.2.2.2.2.2.2, q4.2.1, q4.2.2)) else none)) else (some (q2.2.1, q2.2.2.1, q2.2.2.2.1, q2.2.2.2.2.1, q2.2.2.2.2.2.1, q2.2.2.2.2.2.2.1, q2.2.2.2.2.2.2.2.1, q2.2.2.2.2.2.2.2.2.1, q2.2.2.2.2.2.2.2.2.2.1, q2.2.2.2.2.2.2.2.2.2.2.1, q2.2.2.2.2.2.2.2.2.2.2.2, q4.2.1, q4.2.2))) else none))))))
set_option maxRecDepth 100000 in
set_option maxHeartbeats 4000000 in
theorem f_F_L_declare_T {p : Program} {l : Launch} {e : Env} {s : State} {m : MethodId} {args : Array Value} {below : List Frame} {meth : Method} {c : Code} {D : va_G} {w0 : va_W} {H0 : Heap} {Q : State → Prop} {sb L : Nat} {xs : Nat → Int32} {x4 : Int32} {c0 s0 : Nat} (aQ aY aS rS aNs aTs aEs aDc aNn bNn aTt bTt aE bE rE pE aO : Nat) (ad : Nat → Nat) (cy cs cn ct ce cd c1n c1t c1 c2 c3 co : ClassId) (ca : Nat → ClassId) (pv : Nat → Int32) (y : Nat → Int32) (sv : Nat → Int32) (sr : Nat → Int32) (nf : Nat → Option Nat) (tf : Nat → Option Nat) (ef : Nat → Option Nat) (dc : Nat → Option Nat) (vn : Nat → Int32) (bn : Nat → Int32) (vt : Nat → Int32) (bt : Nat → Int32) (v : Nat → Int32) (b : Nat → Int32) (rw : Nat → Int32) (pw : Nat → Int32) (ov : Nat → Int64) (mv : Nat → Int32) (mu : Nat → Nat → Int32) (G : zG p s m args meth c cL_law RL 8 (some .boolean)) (hK : va_K D vwCl (wQAOM_t cy cs cn ct ce cd c1n c1t c1 c2 c3 co ca) s) (hX : zW (fun q => s.heap.size ≤ q) s) (hl0 : l.stackTraces = false) (hSg : va_S (fun q => s.heap.size ≤ q) s.heap H0 []) (hAs : ∀ q, (va_A w0 H0.size) q → s.heap.size ≤ q) (hsb : va_X sb L xs s H0) (hbl : sb < H0.size) (hbA : ¬ (va_A w0 H0.size) sb) (hc0 : c0 + 1 ≤ 601024) (hs0 : s0 + 6 ≤ 7293034) (hdN : nf (pv 7).toNatClampNeg = some aNn) (hdT : tf (pv 7).toNatClampNeg = some aTt) (hdE : ef (pv 7).toNatClampNeg = some aE) {res : (Nat → Int32) × (Nat → Int32) × (Nat → Int32) × (Nat → Option Nat) × (Nat → Int32) × (Nat → Int32) × (Nat → Int32) × (Nat → Int32) × (Nat → Int32) × (Nat → Int32) × (Nat → Int64) × (Nat → Int32) × (Nat → Nat → Int32)} (hm : m_F_L_declare_T xs L x4 pv y sv sr nf tf ef dc vn bn vt bt v b rw pw ov mv mu aTt = some res)
    (kk : ∀ (H : Heap) (locs : List Loc) (ls : Array Slot), va_P D vwCl (wQAOM aQ aY aS rS aNs aTs aEs aDc aNn bNn aTt bTt aE bE rE pE aO ad cy cs cn ct ce cd c1n c1t c1 c2 c3 co ca res.1 y res.2.1 res.2.2.1 nf tf ef res.2.2.2.1 res.2.2.2.2.1 bn res.2.2.2.2.2.1 res.2.2.2.2.2.2.1 res.2.2.2.2.2.2.2.1 b res.2.2.2.2.2.2.2.2.1 res.2.2.2.2.2.2.2.2.2.1 res.2.2.2.2.2.2.2.2.2.2.1 res.2.2.2.2.2.2.2.2.2.2.2.1 res.2.2.2.2.2.2.2.2.2.2.2.2) H → va_D (va_A w0 H0.size) (wQAOM aQ aY aS rS aNs aTs aEs aDc aNn bNn aTt bTt aE bE rE pE aO ad cy cs cn ct ce cd c1n c1t c1 c2 c3 co ca res.1 y res.2.1 res.2.2.1 nf tf ef res.2.2.2.1 res.2.2.2.2.1 bn res.2.2.2.2.2.1 res.2.2.2.2.2.2.1 res.2.2.2.2.2.2.2.1 b res.2.2.2.2.2.2.2.2.1 res.2.2.2.2.2.2.2.2.2.1 res.2.2.2.2.2.2.2.2.2.2.1 res.2.2.2.2.2.2.2.2.2.2.2.1 res.2.2.2.2.2.2.2.2.2.2.2.2) → va_S (va_A w0 H0.size) H0 H locs → lv_has ls 8 [(0, .ref sb), (1, .ref aQ), (2, .ref (ad 0)), (3, .ref aO), (4, .int x4)] → W p l e room_1 s m args below meth c H locs (c0 + 1) (s0 + 6) Q (F0 m 588 ls []))
    (H : Heap) (locs : List Loc) (ls : Array Slot) (hP : va_P D vwCl (wQAOM aQ aY aS rS aNs aTs aEs aDc aNn bNn aTt bTt aE bE rE pE aO ad cy cs cn ct ce cd c1n c1t c1 c2 c3 co ca pv y sv sr nf tf ef dc vn bn vt bt v b rw pw ov mv mu) H) (hD : va_D (va_A w0 H0.size) (wQAOM aQ aY aS rS aNs aTs aEs aDc aNn bNn aTt bTt aE bE rE pE aO ad cy cs cn ct ce cd c1n c1t c1 c2 c3 co ca pv y sv sr nf tf ef dc vn bn vt bt v b rw pw ov mv mu)) (hS : va_S (va_A w0 H0.size) H0 H locs) (hl : lv_has ls 8 [(0, .ref sb), (1, .ref aQ), (2, .ref (ad 0)), (3, .ref aO), (4, .int x4)]) : W p l e room_1 s m args below meth c H locs c0 s0 Q (F0 m 117 ls []) := by
  obtain ⟨hx, hb, hr, hml, hown, hw, hlk⟩ := G
  have hA : ∀ q, H0.size ≤ q → (va_A w0 H0.size) q := fun q h => Or.inr h
  unfold m_F_L_declare_T at hm
  refine lv_aload_n hx hb dL_law_117 rfl (lv_at hl 1 rfl) ?_
  refine lv_aload_n hx hb dL_law_118 rfl (lv_at hl 0 rfl) ?_
  refine lv_iload hx hb dL_law_119 (lv_at hl 4 rfl) ?_
  refine lv_iconst (v := 1) hx hb dL_law_121 (by decide) ?_
  refine lv_iadd hx hb dL_law_122 ?_
  obtain ⟨hi1, hm⟩ := zix_s hm
  refine va_sld (i := (x4 + 1)) (xs := xs) hx hb hsb hbl hbA hS hi1 dL_law_123 ?_
  refine lv_aload_n hx hb dL_law_124 rfl (lv_at hl 3 rfl) ?_
  obtain ⟨q2, hq2, hm⟩ := zbind hm
  have hPc := hP.sub (ws' := (wQAO aQ aY aS rS aNs aTs aEs aDc aNn bNn aTt bTt aE bE rE pE aO cy cs cn ct ce cd c1n c1t c1 c2 c3 co pv y sv sr nf tf ef dc vn bn vt bt v b rw pw ov)) [0, 1, 2, 3, 4, 5, 6, 7, 8, 9, 10, 11, 12, 13, 14, 15, 16] rfl
  have hDc := hD.sub (ws' := (wQAO aQ aY aS rS aNs aTs aEs aDc aNn bNn aTt bTt aE bE rE pE aO cy cs cn ct ce cd c1n c1t c1 c2 c3 co pv y sv sr nf tf ef dc vn bn vt bt v b rw pw ov)) [0, 1, 2, 3, 4, 5, 6, 7, 8, 9, 10, 11, 12, 13, 14, 15, 16] (by decide) rfl
  have hKc := hK.sub (tys' := wQAO_t cy cs cn ct ce cd c1n c1t c1 c2 c3 co) [0, 1, 2, 3, 4, 5, 6, 7, 8, 9, 10, 11] rfl
  have hFc := va_free (wc := (wQAO aQ aY aS rS aNs aTs aEs aDc aNn bNn aTt bTt aE bE rE pE aO cy cs cn ct ce cd c1n c1t c1 c2 c3 co pv y sv sr nf tf ef dc vn bn vt bt v b rw pw ov)) hD hS hA [0, 1, 2, 3, 4, 5, 6, 7, 8, 9, 10, 11, 12, 13, 14, 15, 16] rfl
  refine zlSi (wr := [((ad 0), .inr (5, [.int (mv 0), .int (mv 1), .ref (ad 1), .int (mv 3), .ref (ad 2), .ref (ad 3), .ref (ad 4), .ref (ad 5), .ref (ad 6), .ref (ad 7), .ref (ad 8), .ref (ad 9), .ref (ad 10), .ref (ad 11), .ref (ad 12), .ref (ad 13), .ref (ad 14), .ref (ad 15), .ref (ad 16), .ref (ad 17), .int (mv 20), .int (mv 21), .ref (ad 18), .int (mv 23)])), ((ad 1), .inl ((ca 1), 24, .inl (mu 1))), ((ad 2), .inl ((ca 2), 9, .inl (mu 2))), ((ad 3), .inl ((ca 3), 216, .inl (mu 3))), ((ad 4), .inl ((ca 4), 216, .inl (mu 4))), ((ad 5), .inl ((ca 5), 9, .inl (mu 5))), ((ad 6), .inl ((ca 6), 9, .inl (mu 6))), ((ad 7), .inl ((ca 7), 9, .inl (mu 7))), ((ad 8), .inl ((ca 8), 9, .inl (mu 8))), ((ad 9), .inl ((ca 9), 9, .inl (mu 9))), ((ad 10), .inl ((ca 10), 9, .inl (mu 10))), ((ad 11), .inl ((ca 11), 9, .inl (mu 11))), ((ad 12), .inl ((ca 12), 9, .inl (mu 12))), ((ad 13), .inl ((ca 13), 9, .inl (mu 13))), ((ad 14), .inl ((ca 14), 9, .inl (mu 14))), ((ad 15), .inl ((ca 15), 9, .inl (mu 15))), ((ad 16), .inl ((ca 16), 256, .inl (mu 16))), ((ad 17), .inl ((ca 17), 48, .inl (mu 17))), ((ad 18), .inl ((ca 18), 32, .inl (mu 18)))]) (w1 := (wQAO aQ aY aS rS aNs aTs aEs aDc aNn bNn aTt bTt aE bE rE pE aO cy cs cn ct ce cd c1n c1t c1 c2 c3 co q2.2.1 y q2.2.2.1 q2.2.2.2.1 nf tf ef q2.2.2.2.2.1 q2.2.2.2.2.2.1 bn q2.2.2.2.2.2.2.1 q2.2.2.2.2.2.2.2.1 q2.2.2.2.2.2.2.2.2.1 b q2.2.2.2.2.2.2.2.2.2.1 q2.2.2.2.2.2.2.2.2.2.2.1 q2.2.2.2.2.2.2.2.2.2.2.2)) (w' := (wQAOM aQ aY aS rS aNs aTs aEs aDc aNn bNn aTt bTt aE bE rE pE aO ad cy cs cn ct ce cd c1n c1t c1 c2 c3 co ca q2.2.1 y q2.2.2.1 q2.2.2.2.1 nf tf ef q2.2.2.2.2.1 q2.2.2.2.2.2.1 bn q2.2.2.2.2.2.2.1 q2.2.2.2.2.2.2.2.1 q2.2.2.2.2.2.2.2.2.1 b q2.2.2.2.2.2.2.2.2.2.1 q2.2.2.2.2.2.2.2.2.2.2.1 q2.2.2.2.2.2.2.2.2.2.2.2 mv mu)) (vx_runSW (As := [.ref aQ, .int (xs (x4 + 1).toNatClampNeg), .ref aO]) (rest := []) ⟨hx, hb, hml, hown, hw⟩ (k_L_declare_T l D aQ aY aS rS aNs aTs aEs aDc aNn bNn aTt bTt aE bE rE pE aO cy cs cn ct ce cd c1n c1t c1 c2 c3 co _ (xs (x4 + 1).toNatClampNeg) pv y sv sr nf tf ef dc vn bn vt bt v b rw pw ov hdN hdT hdE q2 hq2) (vx_cwSW 3 hw (zgoodW (List.forall_mem_cons.mpr ⟨zw586, List.forall_mem_cons.mpr ⟨zw588, List.forall_mem_cons.mpr ⟨zw587, fun _ h => absurd h List.not_mem_nil⟩⟩⟩) zw589) rfl rfl rfl hdL_declare ⟨Nat.le_of_ble_eq_true rfl, Nat.le_of_ble_eq_true rfl⟩) (zpre zW_ok (A := fun q => s.heap.size ≤ q) hX (zglob hSg hAs hS) (fun q h => hAs q (hFc q h)) hPc hKc (hDc.weaken (fun _ _ _ h => hAs _ h))) rfl rfl hl.1 rfl (lv_room (Nat.le_of_ble_eq_true rfl)) dL_law_125 ⟨by show c0 + 0 ≤ 601024; omega, by show s0 + 0 ≤ 7293034; omega⟩) hP hD hS hFc [0, 1, 2, 3, 4, 5, 6, 7, 8, 9, 10, 11, 12, 13, 14, 15, 16] [17, 18, 19, 20, 21, 22, 23, 24, 25, 26, 27, 28, 29, 30, 31, 32, 33, 34, 35] [19, 20, 21, 22, 23, 24, 25, 26, 27, 28, 29, 30, 31, 32, 33, 34, 35, 0, 1, 2, 3, 4, 5, 6, 7, 8, 9, 10, 11, 12, 13, 14, 15, 16, 17, 18] rfl rfl (by decide) (by decide) rfl (by decide) (fun H locs hP hD hS => ?_)
  refine W.widen (k := c0 + 0) (n := s0 + 0) (by omega) (by omega) ?_
  refine lv_istore (lv' := [(5, .int q2.1), (0, .ref sb), (1, .ref aQ), (2, .ref (ad 0)), (3, .ref aO), (4, .int x4)]) hx hb dL_law_128 hl (by decide) rfl (fun ls hl => ?_)
  refine lv_aload_n hx hb dL_law_130 rfl (lv_at hl 3 rfl) ?_
  refine lv_aload_n hx hb dL_law_131 rfl (lv_at hl 1 rfl) ?_
  refine lv_iload hx hb dL_law_132 (lv_at hl 5 rfl) ?_
  refine lv_iconst (v := 1) hx hb dL_law_134 (by decide) ?_
  refine lv_iadd hx hb dL_law_135 ?_
  obtain ⟨hi3, hm⟩ := zix_s hm
  refine va_sld (i := (x4 + 1)) (xs := xs) hx hb hsb hbl hbA hS hi3 dL_law_136 ?_
  obtain ⟨q4, hq4, hm⟩ := zbind hm
  have hPc := hP.sub (ws' := (wM ad ca mv mu)) [17, 18, 19, 20, 21, 22, 23, 24, 25, 26, 27, 28, 29, 30, 31, 32, 33, 34, 35] rfl
  have hDc := hD.sub (ws' := (wM ad ca mv mu)) [17, 18, 19, 20, 21, 22, 23, 24, 25, 26, 27, 28, 29, 30, 31, 32, 33, 34, 35] (by decide) rfl
  have hKc := hK.sub (tys' := wM_t ca) [12, 13, 14, 15, 16, 17, 18, 19, 20, 21, 22, 23, 24, 25, 26, 27, 28, 29] rfl
  have hFc := va_free (wc := (wM ad ca mv mu)) hD hS hA [17, 18, 19, 20, 21, 22, 23, 24, 25, 26, 27, 28, 29, 30, 31, 32, 33, 34, 35] rfl
  refine zlSi (wr := [(aQ, .inr (4, [.ref aY, .int (q2.2.1 1), .ref aS, .ref aNs, .ref aTs, .ref aEs, .ref aDc, .int (q2.2.1 7)])), (aY, .inl (cy, 24, .inl y)), (aS, .inr (2, [.ref rS, .int (q2.2.2.1 1)])), (rS, .inl (cs, 24, .inl q2.2.2.2.1)), (aNs, .inl (cn, 8, .inr (.inr (.inr (.inr nf))))), (aTs, .inl (ct, 8, .inr (.inr (.inr (.inr tf))))), (aEs, .inl (ce, 8, .inr (.inr (.inr (.inr ef))))), (aDc, .inl (cd, 8, .inr (.inr (.inr (.inr q2.2.2.2.2.1))))), (aNn, .inr (1, [.ref bNn, .int (q2.2.2.2.2.2.1 1), .int (q2.2.2.2.2.2.1 2), .int (q2.2.2.2.2.2.1 3), .int (q2.2.2.2.2.2.1 4), .int (q2.2.2.2.2.2.1 5), .int (q2.2.2.2.2.2.1 6), .int (q2.2.2.2.2.2.1 7)])), (bNn, .inl (c1n, 25, .inl bn)), (aTt, .inr (3, [.ref bTt, .int (q2.2.2.2.2.2.2.1 1), .int (q2.2.2.2.2.2.2.1 2), .int (q2.2.2.2.2.2.2.1 3), .int (q2.2.2.2.2.2.2.1 4)])), (bTt, .inl (c1t, 25, .inl q2.2.2.2.2.2.2.2.1)), (aE, .inr (0, [.ref bE, .int (q2.2.2.2.2.2.2.2.2.1 1), .int (q2.2.2.2.2.2.2.2.2.1 2), .int (q2.2.2.2.2.2.2.2.2.1 3), .int (q2.2.2.2.2.2.2.2.2.1 4), .ref rE, .ref pE, .int (q2.2.2.2.2.2.2.2.2.1 7), .int (q2.2.2.2.2.2.2.2.2.1 8), .int (q2.2.2.2.2.2.2.2.2.1 9), .int (q2.2.2.2.2.2.2.2.2.1 10), .int (q2.2.2.2.2.2.2.2.2.1 11), .int (q2.2.2.2.2.2.2.2.2.1 12), .int (q2.2.2.2.2.2.2.2.2.1 13), .int (q2.2.2.2.2.2.2.2.2.1 14), .int (q2.2.2.2.2.2.2.2.2.1 15)])), (bE, .inl (c1, 25, .inl b)), (rE, .inl (c2, 24, .inl q2.2.2.2.2.2.2.2.2.2.1)), (pE, .inl (c3, 24, .inl q2.2.2.2.2.2.2.2.2.2.2.1)), (aO, .inl (co, 1, .inr (.inl q2.2.2.2.2.2.2.2.2.2.2.2)))]) (w1 := (wM ad ca q4.2.1 q4.2.2)) (w' := (wQAOM aQ aY aS rS aNs aTs aEs aDc aNn bNn aTt bTt aE bE rE pE aO ad cy cs cn ct ce cd c1n c1t c1 c2 c3 co ca q2.2.1 y q2.2.2.1 q2.2.2.2.1 nf tf ef q2.2.2.2.2.1 q2.2.2.2.2.2.1 bn q2.2.2.2.2.2.2.1 q2.2.2.2.2.2.2.2.1 q2.2.2.2.2.2.2.2.2.1 b q2.2.2.2.2.2.2.2.2.2.1 q2.2.2.2.2.2.2.2.2.2.2.1 q2.2.2.2.2.2.2.2.2.2.2.2 q4.2.1 q4.2.2)) (va_runV (As := [.int (xs (x4 + 1).toNatClampNeg)]) (rest := []) ⟨hx, hb, hml, hown, hw⟩ (k_M_declare l D ad ca _ (xs (x4 + 1).toNatClampNeg) mv mu  q4 hq4) (zcV (C := RX6) 1 hw (zgood zw592) rfl rfl rfl zw7 zw590 zw591 zw593 hdX6_declare ⟨Nat.le_of_ble_eq_true rfl, Nat.le_of_ble_eq_true rfl⟩) (zpreV (zpre zN_ok (A := fun q => s.heap.size ≤ q) trivial (zglob hSg hAs hS) (fun q h => hAs q (hFc q h)) hPc hKc (hDc.weaken (fun _ _ _ h => hAs _ h))) (va_recv hK hP rfl (q0 := 17) rfl)) rfl rfl hl.1 rfl (lv_room (Nat.le_of_ble_eq_true rfl)) dL_law_137 ⟨by show c0 + 0 ≤ 601024; omega, by show s0 + 0 ≤ 7293034; omega⟩) hP hD hS hFc [17, 18, 19, 20, 21, 22, 23, 24, 25, 26, 27, 28, 29, 30, 31, 32, 33, 34, 35] [0, 1, 2, 3, 4, 5, 6, 7, 8, 9, 10, 11, 12, 13, 14, 15, 16] [0, 1, 2, 3, 4, 5, 6, 7, 8, 9, 10, 11, 12, 13, 14, 15, 16, 17, 18, 19, 20, 21, 22, 23, 24, 25, 26, 27, 28, 29, 30, 31, 32, 33, 34, 35] rfl rfl (by decide) (by decide) rfl (by decide) (fun H locs hP hD hS => ?_)
  refine W.widen (k := c0 + 0) (n := s0 + 0) (by omega) (by omega) ?_
  refine lv_istore (lv' := [(6, .int q4.1), (5, .int q2.1), (0, .ref sb), (1, .ref aQ), (2, .ref (ad 0)), (3, .ref aO), (4, .int x4)]) hx hb dL_law_140 hl (by decide) rfl (fun ls hl => ?_)
  refine lv_aload_n hx hb dL_law_142 rfl (lv_at hl 4 rfl) ?_
  obtain ⟨q5, hq5, hm⟩ := zbind hm
  have hPc := hP.sub (ws' := (wM ad ca q4.2.1 q4.2.2)) [17, 18, 19, 20, 21, 22, 23, 24, 25, 26, 27, 28, 29, 30, 31, 32, 33, 34, 35] rfl
  have hDc := hD.sub (ws' := (wM ad ca q4.2.1 q4.2.2)) [17, 18, 19, 20, 21, 22, 23, 24, 25, 26, 27, 28, 29, 30, 31, 32, 33, 34, 35] (by decide) rfl
  have hKc := hK.sub (tys' := wM_t ca) [12, 13, 14, 15, 16, 17, 18, 19, 20, 21, 22, 23, 24, 25, 26, 27, 28, 29] rfl
  have hFc := va_free (wc := (wM ad ca q4.2.1 q4.2.2)) hD hS hA [17, 18, 19, 20, 21, 22, 23, 24, 25, 26, 27, 28, 29, 30, 31, 32, 33, 34, 35] rfl
  refine zlSi (wr := [(aQ, .inr (4, [.ref aY, .int (q2.2.1 1), .ref aS, .ref aNs, .ref aTs, .ref aEs, .ref aDc, .int (q2.2.1 7)])), (aY, .inl (cy, 24, .inl y)), (aS, .inr (2, [.ref rS, .int (q2.2.2.1 1)])), (rS, .inl (cs, 24, .inl q2.2.2.2.1)), (aNs, .inl (cn, 8, .inr (.inr (.inr (.inr nf))))), (aTs, .inl (ct, 8, .inr (.inr (.inr (.inr tf))))), (aEs, .inl (ce, 8, .inr (.inr (.inr (.inr ef))))), (aDc, .inl (cd, 8, .inr (.inr (.inr (.inr q2.2.2.2.2.1))))), (aNn, .inr (1, [.ref bNn, .int (q2.2.2.2.2.2.1 1), .int (q2.2.2.2.2.2.1 2), .int (q2.2.2.2.2.2.1 3), .int (q2.2.2.2.2.2.1 4), .int (q2.2.2.2.2.2.1 5), .int (q2.2.2.2.2.2.1 6), .int (q2.2.2.2.2.2.1 7)])), (bNn, .inl (c1n, 25, .inl bn)), (aTt, .inr (3, [.ref bTt, .int (q2.2.2.2.2.2.2.1 1), .int (q2.2.2.2.2.2.2.1 2), .int (q2.2.2.2.2.2.2.1 3), .int (q2.2.2.2.2.2.2.1 4)])), (bTt, .inl (c1t, 25, .inl q2.2.2.2.2.2.2.2.1)), (aE, .inr (0, [.ref bE, .int (q2.2.2.2.2.2.2.2.2.1 1), .int (q2.2.2.2.2.2.2.2.2.1 2), .int (q2.2.2.2.2.2.2.2.2.1 3), .int (q2.2.2.2.2.2.2.2.2.1 4), .ref rE, .ref pE, .int (q2.2.2.2.2.2.2.2.2.1 7), .int (q2.2.2.2.2.2.2.2.2.1 8), .int (q2.2.2.2.2.2.2.2.2.1 9), .int (q2.2.2.2.2.2.2.2.2.1 10), .int (q2.2.2.2.2.2.2.2.2.1 11), .int (q2.2.2.2.2.2.2.2.2.1 12), .int (q2.2.2.2.2.2.2.2.2.1 13), .int (q2.2.2.2.2.2.2.2.2.1 14), .int (q2.2.2.2.2.2.2.2.2.1 15)])), (bE, .inl (c1, 25, .inl b)), (rE, .inl (c2, 24, .inl q2.2.2.2.2.2.2.2.2.2.1)), (pE, .inl (c3, 24, .inl q2.2.2.2.2.2.2.2.2.2.2.1)), (aO, .inl (co, 1, .inr (.inl q2.2.2.2.2.2.2.2.2.2.2.2)))]) (w1 := (wM ad ca q4.2.1 q4.2.2)) (w' := (wQAOM aQ aY aS rS aNs aTs aEs aDc aNn bNn aTt bTt aE bE rE pE aO ad cy cs cn ct ce cd c1n c1t c1 c2 c3 co ca q2.2.1 y q2.2.2.1 q2.2.2.2.1 nf tf ef q2.2.2.2.2.1 q2.2.2.2.2.2.1 bn q2.2.2.2.2.2.2.1 q2.2.2.2.2.2.2.2.1 q2.2.2.2.2.2.2.2.2.1 b q2.2.2.2.2.2.2.2.2.2.1 q2.2.2.2.2.2.2.2.2.2.2.1 q2.2.2.2.2.2.2.2.2.2.2.2 q4.2.1 q4.2.2)) (va_runV (As := []) (rest := []) ⟨hx, hb, hml, hown, hw⟩ (k_M_thrown l D ad ca _ q4.2.1 q4.2.2  q5 hq5) (zcV (C := RX6) 0 hw (zgood zw596) rfl rfl rfl zw7 zw594 zw595 zw597 hdX6_thrown ⟨Nat.le_of_ble_eq_true rfl, Nat.le_of_ble_eq_true rfl⟩) (zpreV (zpre zN_ok (A := fun q => s.heap.size ≤ q) trivial (zglob hSg hAs hS) (fun q h => hAs q (hFc q h)) hPc hKc (hDc.weaken (fun _ _ _ h => hAs _ h))) (va_recv hK hP rfl (q0 := 17) rfl)) rfl rfl hl.1 rfl (lv_room (Nat.le_of_ble_eq_true rfl)) dL_law_143 ⟨by show c0 + 0 ≤ 601024; omega, by show s0 + 0 ≤ 7293034; omega⟩) hP hD hS hFc [17, 18, 19, 20, 21, 22, 23, 24, 25, 26, 27, 28, 29, 30, 31, 32, 33, 34, 35] [0, 1, 2, 3, 4, 5, 6, 7, 8, 9, 10, 11, 12, 13, 14, 15, 16] [0, 1, 2, 3, 4, 5, 6, 7, 8, 9, 10, 11, 12, 13, 14, 15, 16, 17, 18, 19, 20, 21, 22, 23, 24, 25, 26, 27, 28, 29, 30, 31, 32, 33, 34, 35] rfl rfl (by decide) (by decide) rfl (by decide) (fun H locs hP hD hS => ?_)
  refine W.widen (k := c0 + 0) (n := s0 + 0) (by omega) (by omega) ?_
  refine lv_iload hx hb dL_law_146 (lv_at hl 1 rfl) ?_
  refine lv_icmp_eq (tgt := 153) hx hb dL_law_148 rfl (fun cd6 => ?_) (fun cd6 => ?_)
  · replace hm := zt cd6 hm
    refine lv_iload hx hb dL_law_153 (lv_at hl 1 rfl) ?_
    refine lv_if_ne (tgt := 170) hx hb dL_law_155 rfl (fun cd7 => ?_) (fun cd7 => ?_)
    · replace hm := zf cd7 hm
      refine lv_goto (tgt := 588) hx hb dL_law_170 rfl ?_
      cases hm
      refine W.widen (k := c0 + 1) (n := s0 + 6) (by omega) (by omega) ?_
      exact kk _ _ _ hP hD hS (lv_sub hl [2, 3, 4, 5, 6] rfl)
    · replace hm := zt cd7 hm
      refine lv_aload_n hx hb dL_law_158 rfl (lv_at hl 5 rfl) ?_
      refine lv_iconst (v := 0) hx hb dL_law_159 (by decide) ?_
      obtain ⟨hi8, hm⟩ := zix_s hm
      refine va_lald (i := 0) (f := q2.2.2.2.2.2.2.2.2.2.2.2) (n := 1) hx hb hK hP 16 11 rfl rfl hi8 dL_law_160 ?_
      refine lv_iload hx hb dL_law_161 (lv_at hl 0 rfl) ?_
      refine lv_i2l (v := ((q4.1).toInt64)) hx hb dL_law_163 rfl ?_
      refine W.lcmp (x := (q2.2.2.2.2.2.2.2.2.2.2.2 (0 : Int32).toNatClampNeg)) (y := ((q4.1).toInt64)) hx hb dL_law_164 ?_
      refine lv_if_eq (tgt := 170) hx hb dL_law_165 rfl (fun cd9 => ?_) (fun cd9 => ?_)
      · replace hm := zt cd9 hm
        refine lv_goto (tgt := 588) hx hb dL_law_170 rfl ?_
        cases hm
        refine W.widen (k := c0 + 1) (n := s0 + 6) (by omega) (by omega) ?_
        exact kk _ _ _ hP hD hS (lv_sub hl [2, 3, 4, 5, 6] rfl)
      · replace hm := zf cd9 hm
        refine lv_iconst (v := 0) hx hb dL_law_168 (by decide) ?_
        cases hm
  · replace hm := zf cd6 hm
    refine lv_iconst (v := 0) hx hb dL_law_151 (by decide) ?_
    cases hm

def m_F_L_declare_E (xs : Nat → Int32) (L : Nat) (x4 : Int32) (pv : Nat → Int32) (y : Nat → Int32) (sv : Nat → Int32) (sr : Nat → Int32) (nf : Nat → Option Nat) (tf : Nat → Option Nat) (ef : Nat → Option Nat) (dc : Nat → Option Nat) (vn : Nat → Int32) (bn : Nat → Int32) (vt : Nat → Int32) (bt : Nat → Int32) (v : Nat → Int32) (b : Nat → Int32) (rw : Nat → Int32) (pw : Nat → Int32) (ov : Nat → Int64) (mv : Nat → Int32) (mu : Nat → Nat → Int32) (aE : Nat) : Option ((Nat → Int32) × (Nat → Int32) × (Nat → Int32) × (Nat → Option Nat) × (Nat → Int32) × (Nat → Int32) × (Nat → Int32) × (Nat → Int32) × (Nat → Int32) × (Nat → Int32) × (Nat → Int64) × (Nat → Int32) × (Nat → Nat → Int32)) := zix (x4 + 1) L ((m_L_declare_E (xs (x4 + 1).toNatClampNeg) pv y sv sr nf tf ef dc vn bn vt bt v b rw pw ov aE).bind (fun q2 => zix (x4 + 1) L ((m_M_declare (xs (x4 + 1).toNatClampNeg) mv mu).bind (fun q4 => (m_M_thrown q4.2.1 q4.2.2).bind (fun q5 => (if q5 = q2.1 then (if q2.1 = 0 then zix 0 1 ((if (lg_cmp (q2.2.2.2.2.2.2.2.2.2.2.2 (0 : Int32).toNatClampNeg) ((q4.1).toInt64)) = 0 then (some (q2.2.1, q2.2.2.1, q2.2.2.2.1, q2.2.2.2.2.1, q2.2.2.2.2.2.1, q2.2.2.2.2.2.2.1, q2.2.2.2.2.2.2.2.1, q2.2.2.2.2.2.2.2.2.1, q2.2.2.2.2.2.2.2.2.2.1, q2.2.2.2.2.2.2.2.2.2.2.1, q2.2.2.2.2.2.2.2.2.2.2.2, q4.2.1, q4.2.2)) else none)) else (some (q2.2.1, q2.2.2.1, q2.2.2.2.1, q2.2.2.2.2.1, q2.2.2.2.2.2.1, q2.2.2.2.2.2.2.1, q2.2.2.2.2.2.2.2.1, q2.2.2.2.2.2.2.2.2.1, q2.2.2.2.2.2.2.2.2.2.1, q2.2.2.2.2.2.2.2.2.2.2.1, q2.2.2.2.2.2.2.2.2.2.2.2, q4.2.1, q4.2.2))) else none))))))
set_option maxRecDepth 100000 in
set_option maxHeartbeats 4000000 in
theorem f_F_L_declare_E {p : Program} {l : Launch} {e : Env} {s : State} {m : MethodId} {args : Array Value} {below : List Frame} {meth : Method} {c : Code} {D : va_G} {w0 : va_W} {H0 : Heap} {Q : State → Prop} {sb L : Nat} {xs : Nat → Int32} {x4 : Int32} {c0 s0 : Nat} (aQ aY aS rS aNs aTs aEs aDc aNn bNn aTt bTt aE bE rE pE aO : Nat) (ad : Nat → Nat) (cy cs cn ct ce cd c1n c1t c1 c2 c3 co : ClassId) (ca : Nat → ClassId) (pv : Nat → Int32) (y : Nat → Int32) (sv : Nat → Int32) (sr : Nat → Int32) (nf : Nat → Option Nat) (tf : Nat → Option Nat) (ef : Nat → Option Nat) (dc : Nat → Option Nat) (vn : Nat → Int32) (bn : Nat → Int32) (vt : Nat → Int32) (bt : Nat → Int32) (v : Nat → Int32) (b : Nat → Int32) (rw : Nat → Int32) (pw : Nat → Int32) (ov : Nat → Int64) (mv : Nat → Int32) (mu : Nat → Nat → Int32) (G : zG p s m args meth c cL_law RL 8 (some .boolean)) (hK : va_K D vwCl (wQAOM_t cy cs cn ct ce cd c1n c1t c1 c2 c3 co ca) s) (hX : zW (fun q => s.heap.size ≤ q) s) (hl0 : l.stackTraces = false) (hSg : va_S (fun q => s.heap.size ≤ q) s.heap H0 []) (hAs : ∀ q, (va_A w0 H0.size) q → s.heap.size ≤ q) (hsb : va_X sb L xs s H0) (hbl : sb < H0.size) (hbA : ¬ (va_A w0 H0.size) sb) (hc0 : c0 + 1 ≤ 601024) (hs0 : s0 + 6 ≤ 7293034) (hdN : nf (pv 7).toNatClampNeg = some aNn) (hdT : tf (pv 7).toNatClampNeg = some aTt) (hdE : ef (pv 7).toNatClampNeg = some aE) {res : (Nat → Int32) × (Nat → Int32) × (Nat → Int32) × (Nat → Option Nat) × (Nat → Int32) × (Nat → Int32) × (Nat → Int32) × (Nat → Int32) × (Nat → Int32) × (Nat → Int32) × (Nat → Int64) × (Nat → Int32) × (Nat → Nat → Int32)} (hm : m_F_L_declare_E xs L x4 pv y sv sr nf tf ef dc vn bn vt bt v b rw pw ov mv mu aE = some res)
    (kk : ∀ (H : Heap) (locs : List Loc) (ls : Array Slot), va_P D vwCl (wQAOM aQ aY aS rS aNs aTs aEs aDc aNn bNn aTt bTt aE bE rE pE aO ad cy cs cn ct ce cd c1n c1t c1 c2 c3 co ca res.1 y res.2.1 res.2.2.1 nf tf ef res.2.2.2.1 res.2.2.2.2.1 bn res.2.2.2.2.2.1 bt res.2.2.2.2.2.2.1 res.2.2.2.2.2.2.2.1 res.2.2.2.2.2.2.2.2.1 res.2.2.2.2.2.2.2.2.2.1 res.2.2.2.2.2.2.2.2.2.2.1 res.2.2.2.2.2.2.2.2.2.2.2.1 res.2.2.2.2.2.2.2.2.2.2.2.2) H → va_D (va_A w0 H0.size) (wQAOM aQ aY aS rS aNs aTs aEs aDc aNn bNn aTt bTt aE bE rE pE aO ad cy cs cn ct ce cd c1n c1t c1 c2 c3 co ca res.1 y res.2.1 res.2.2.1 nf tf ef res.2.2.2.1 res.2.2.2.2.1 bn res.2.2.2.2.2.1 bt res.2.2.2.2.2.2.1 res.2.2.2.2.2.2.2.1 res.2.2.2.2.2.2.2.2.1 res.2.2.2.2.2.2.2.2.2.1 res.2.2.2.2.2.2.2.2.2.2.1 res.2.2.2.2.2.2.2.2.2.2.2.1 res.2.2.2.2.2.2.2.2.2.2.2.2) → va_S (va_A w0 H0.size) H0 H locs → lv_has ls 8 [(0, .ref sb), (1, .ref aQ), (2, .ref (ad 0)), (3, .ref aO), (4, .int x4)] → W p l e room_1 s m args below meth c H locs (c0 + 1) (s0 + 6) Q (F0 m 588 ls []))
    (H : Heap) (locs : List Loc) (ls : Array Slot) (hP : va_P D vwCl (wQAOM aQ aY aS rS aNs aTs aEs aDc aNn bNn aTt bTt aE bE rE pE aO ad cy cs cn ct ce cd c1n c1t c1 c2 c3 co ca pv y sv sr nf tf ef dc vn bn vt bt v b rw pw ov mv mu) H) (hD : va_D (va_A w0 H0.size) (wQAOM aQ aY aS rS aNs aTs aEs aDc aNn bNn aTt bTt aE bE rE pE aO ad cy cs cn ct ce cd c1n c1t c1 c2 c3 co ca pv y sv sr nf tf ef dc vn bn vt bt v b rw pw ov mv mu)) (hS : va_S (va_A w0 H0.size) H0 H locs) (hl : lv_has ls 8 [(0, .ref sb), (1, .ref aQ), (2, .ref (ad 0)), (3, .ref aO), (4, .int x4)]) : W p l e room_1 s m args below meth c H locs c0 s0 Q (F0 m 117 ls []) := by
  obtain ⟨hx, hb, hr, hml, hown, hw, hlk⟩ := G
  have hA : ∀ q, H0.size ≤ q → (va_A w0 H0.size) q := fun q h => Or.inr h
  unfold m_F_L_declare_E at hm
  refine lv_aload_n hx hb dL_law_117 rfl (lv_at hl 1 rfl) ?_
  refine lv_aload_n hx hb dL_law_118 rfl (lv_at hl 0 rfl) ?_
  refine lv_iload hx hb dL_law_119 (lv_at hl 4 rfl) ?_
  refine lv_iconst (v := 1) hx hb dL_law_121 (by decide) ?_
  refine lv_iadd hx hb dL_law_122 ?_
  obtain ⟨hi1, hm⟩ := zix_s hm
  refine va_sld (i := (x4 + 1)) (xs := xs) hx hb hsb hbl hbA hS hi1 dL_law_123 ?_
  refine lv_aload_n hx hb dL_law_124 rfl (lv_at hl 3 rfl) ?_
  obtain ⟨q2, hq2, hm⟩ := zbind hm
  have hPc := hP.sub (ws' := (wQAO aQ aY aS rS aNs aTs aEs aDc aNn bNn aTt bTt aE bE rE pE aO cy cs cn ct ce cd c1n c1t c1 c2 c3 co pv y sv sr nf tf ef dc vn bn vt bt v b rw pw ov)) [0, 1, 2, 3, 4, 5, 6, 7, 8, 9, 10, 11, 12, 13, 14, 15, 16] rfl
  have hDc := hD.sub (ws' := (wQAO aQ aY aS rS aNs aTs aEs aDc aNn bNn aTt bTt aE bE rE pE aO cy cs cn ct ce cd c1n c1t c1 c2 c3 co pv y sv sr nf tf ef dc vn bn vt bt v b rw pw ov)) [0, 1, 2, 3, 4, 5, 6, 7, 8, 9, 10, 11, 12, 13, 14, 15, 16] (by decide) rfl
  have hKc := hK.sub (tys' := wQAO_t cy cs cn ct ce cd c1n c1t c1 c2 c3 co) [0, 1, 2, 3, 4, 5, 6, 7, 8, 9, 10, 11] rfl
  have hFc := va_free (wc := (wQAO aQ aY aS rS aNs aTs aEs aDc aNn bNn aTt bTt aE bE rE pE aO cy cs cn ct ce cd c1n c1t c1 c2 c3 co pv y sv sr nf tf ef dc vn bn vt bt v b rw pw ov)) hD hS hA [0, 1, 2, 3, 4, 5, 6, 7, 8, 9, 10, 11, 12, 13, 14, 15, 16] rfl
  refine zlSi (wr := [((ad 0), .inr (5, [.int (mv 0), .int (mv 1), .ref (ad 1), .int (mv 3), .ref (ad 2), .ref (ad 3), .ref (ad 4), .ref (ad 5), .ref (ad 6), .ref (ad 7), .ref (ad 8), .ref (ad 9), .ref (ad 10), .ref (ad 11), .ref (ad 12), .ref (ad 13), .ref (ad 14), .ref (ad 15), .ref (ad 16), .ref (ad 17), .int (mv 20), .int (mv 21), .ref (ad 18), .int (mv 23)])), ((ad 1), .inl ((ca 1), 24, .inl (mu 1))), ((ad 2), .inl ((ca 2), 9, .inl (mu 2))), ((ad 3), .inl ((ca 3), 216, .inl (mu 3))), ((ad 4), .inl ((ca 4), 216, .inl (mu 4))), ((ad 5), .inl ((ca 5), 9, .inl (mu 5))), ((ad 6), .inl ((ca 6), 9, .inl (mu 6))), ((ad 7), .inl ((ca 7), 9, .inl (mu 7))), ((ad 8), .inl ((ca 8), 9, .inl (mu 8))), ((ad 9), .inl ((ca 9), 9, .inl (mu 9))), ((ad 10), .inl ((ca 10), 9, .inl (mu 10))), ((ad 11), .inl ((ca 11), 9, .inl (mu 11))), ((ad 12), .inl ((ca 12), 9, .inl (mu 12))), ((ad 13), .inl ((ca 13), 9, .inl (mu 13))), ((ad 14), .inl ((ca 14), 9, .inl (mu 14))), ((ad 15), .inl ((ca 15), 9, .inl (mu 15))), ((ad 16), .inl ((ca 16), 256, .inl (mu 16))), ((ad 17), .inl ((ca 17), 48, .inl (mu 17))), ((ad 18), .inl ((ca 18), 32, .inl (mu 18)))]) (w1 := (wQAO aQ aY aS rS aNs aTs aEs aDc aNn bNn aTt bTt aE bE rE pE aO cy cs cn ct ce cd c1n c1t c1 c2 c3 co q2.2.1 y q2.2.2.1 q2.2.2.2.1 nf tf ef q2.2.2.2.2.1 q2.2.2.2.2.2.1 bn q2.2.2.2.2.2.2.1 bt q2.2.2.2.2.2.2.2.1 q2.2.2.2.2.2.2.2.2.1 q2.2.2.2.2.2.2.2.2.2.1 q2.2.2.2.2.2.2.2.2.2.2.1 q2.2.2.2.2.2.2.2.2.2.2.2)) (w' := (wQAOM aQ aY aS rS aNs aTs aEs aDc aNn bNn aTt bTt aE bE rE pE aO ad cy cs cn ct ce cd c1n c1t c1 c2 c3 co ca q2.2.1 y q2.2.2.1 q2.2.2.2.1 nf tf ef q2.2.2.2.2.1 q2.2.2.2.2.2.1 bn q2.2.2.2.2.2.2.1 bt q2.2.2.2.2.2.2.2.1 q2.2.2.2.2.2.2.2.2.1 q2.2.2.2.2.2.2.2.2.2.1 q2.2.2.2.2.2.2.2.2.2.2.1 q2.2.2.2.2.2.2.2.2.2.2.2 mv mu)) (vx_runSW (As := [.ref aQ, .int (xs (x4 + 1).toNatClampNeg), .ref aO]) (rest := []) ⟨hx, hb, hml, hown, hw⟩ (k_L_declare_E l D aQ aY aS rS aNs aTs aEs aDc aNn bNn aTt bTt aE bE rE pE aO cy cs cn ct ce cd c1n c1t c1 c2 c3 co _ (xs (x4 + 1).toNatClampNeg) pv y sv sr nf tf ef dc vn bn vt bt v b rw pw ov hdN hdT hdE q2 hq2) (vx_cwSW 3 hw (zgoodW (List.forall_mem_cons.mpr ⟨zw586, List.forall_mem_cons.mpr ⟨zw588, List.forall_mem_cons.mpr ⟨zw587, fun _ h => absurd h List.not_mem_nil⟩⟩⟩) zw589) rfl rfl rfl hdL_declare ⟨Nat.le_of_ble_eq_true rfl, Nat.le_of_ble_eq_true rfl⟩) (zpre zW_ok (A := fun q => s.heap.size ≤ q) hX (zglob hSg hAs hS) (fun q h => hAs q (hFc q h)) hPc hKc (hDc.weaken (fun _ _ _ h => hAs _ h))) rfl rfl hl.1 rfl (lv_room (Nat.le_of_ble_eq_true rfl)) dL_law_125 ⟨by show c0 + 0 ≤ 601024; omega, by show s0 + 0 ≤ 7293034; omega⟩) hP hD hS hFc [0, 1, 2, 3, 4, 5, 6, 7, 8, 9, 10, 11, 12, 13, 14, 15, 16] [17, 18, 19, 20, 21, 22, 23, 24, 25, 26, 27, 28, 29, 30, 31, 32, 33, 34, 35] [19, 20, 21, 22, 23, 24, 25, 26, 27, 28, 29, 30, 31, 32, 33, 34, 35, 0, 1, 2, 3, 4, 5, 6, 7, 8, 9, 10, 11, 12, 13, 14, 15, 16, 17, 18] rfl rfl (by decide) (by decide) rfl (by decide) (fun H locs hP hD hS => ?_)
  refine W.widen (k := c0 + 0) (n := s0 + 0) (by omega) (by omega) ?_
  refine lv_istore (lv' := [(5, .int q2.1), (0, .ref sb), (1, .ref aQ), (2, .ref (ad 0)), (3, .ref aO), (4, .int x4)]) hx hb dL_law_128 hl (by decide) rfl (fun ls hl => ?_)
  refine lv_aload_n hx hb dL_law_130 rfl (lv_at hl 3 rfl) ?_
  refine lv_aload_n hx hb dL_law_131 rfl (lv_at hl 1 rfl) ?_
  refine lv_iload hx hb dL_law_132 (lv_at hl 5 rfl) ?_
  refine lv_iconst (v := 1) hx hb dL_law_134 (by decide) ?_
  refine lv_iadd hx hb dL_law_135 ?_
  obtain ⟨hi3, hm⟩ := zix_s hm
  refine va_sld (i := (x4 + 1)) (xs := xs) hx hb hsb hbl hbA hS hi3 dL_law_136 ?_
  obtain ⟨q4, hq4, hm⟩ := zbind hm
  have hPc := hP.sub (ws' := (wM ad ca mv mu)) [17, 18, 19, 20, 21, 22, 23, 24, 25, 26, 27, 28, 29, 30, 31, 32, 33, 34, 35] rfl
  have hDc := hD.sub (ws' := (wM ad ca mv mu)) [17, 18, 19, 20, 21, 22, 23, 24, 25, 26, 27, 28, 29, 30, 31, 32, 33, 34, 35] (by decide) rfl
  have hKc := hK.sub (tys' := wM_t ca) [12, 13, 14, 15, 16, 17, 18, 19, 20, 21, 22, 23, 24, 25, 26, 27, 28, 29] rfl
  have hFc := va_free (wc := (wM ad ca mv mu)) hD hS hA [17, 18, 19, 20, 21, 22, 23, 24, 25, 26, 27, 28, 29, 30, 31, 32, 33, 34, 35] rfl
  refine zlSi (wr := [(aQ, .inr (4, [.ref aY, .int (q2.2.1 1), .ref aS, .ref aNs, .ref aTs, .ref aEs, .ref aDc, .int (q2.2.1 7)])), (aY, .inl (cy, 24, .inl y)), (aS, .inr (2, [.ref rS, .int (q2.2.2.1 1)])), (rS, .inl (cs, 24, .inl q2.2.2.2.1)), (aNs, .inl (cn, 8, .inr (.inr (.inr (.inr nf))))), (aTs, .inl (ct, 8, .inr (.inr (.inr (.inr tf))))), (aEs, .inl (ce, 8, .inr (.inr (.inr (.inr ef))))), (aDc, .inl (cd, 8, .inr (.inr (.inr (.inr q2.2.2.2.2.1))))), (aNn, .inr (1, [.ref bNn, .int (q2.2.2.2.2.2.1 1), .int (q2.2.2.2.2.2.1 2), .int (q2.2.2.2.2.2.1 3), .int (q2.2.2.2.2.2.1 4), .int (q2.2.2.2.2.2.1 5), .int (q2.2.2.2.2.2.1 6), .int (q2.2.2.2.2.2.1 7)])), (bNn, .inl (c1n, 25, .inl bn)), (aTt, .inr (3, [.ref bTt, .int (q2.2.2.2.2.2.2.1 1), .int (q2.2.2.2.2.2.2.1 2), .int (q2.2.2.2.2.2.2.1 3), .int (q2.2.2.2.2.2.2.1 4)])), (bTt, .inl (c1t, 25, .inl bt)), (aE, .inr (0, [.ref bE, .int (q2.2.2.2.2.2.2.2.1 1), .int (q2.2.2.2.2.2.2.2.1 2), .int (q2.2.2.2.2.2.2.2.1 3), .int (q2.2.2.2.2.2.2.2.1 4), .ref rE, .ref pE, .int (q2.2.2.2.2.2.2.2.1 7), .int (q2.2.2.2.2.2.2.2.1 8), .int (q2.2.2.2.2.2.2.2.1 9), .int (q2.2.2.2.2.2.2.2.1 10), .int (q2.2.2.2.2.2.2.2.1 11), .int (q2.2.2.2.2.2.2.2.1 12), .int (q2.2.2.2.2.2.2.2.1 13), .int (q2.2.2.2.2.2.2.2.1 14), .int (q2.2.2.2.2.2.2.2.1 15)])), (bE, .inl (c1, 25, .inl q2.2.2.2.2.2.2.2.2.1)), (rE, .inl (c2, 24, .inl q2.2.2.2.2.2.2.2.2.2.1)), (pE, .inl (c3, 24, .inl q2.2.2.2.2.2.2.2.2.2.2.1)), (aO, .inl (co, 1, .inr (.inl q2.2.2.2.2.2.2.2.2.2.2.2)))]) (w1 := (wM ad ca q4.2.1 q4.2.2)) (w' := (wQAOM aQ aY aS rS aNs aTs aEs aDc aNn bNn aTt bTt aE bE rE pE aO ad cy cs cn ct ce cd c1n c1t c1 c2 c3 co ca q2.2.1 y q2.2.2.1 q2.2.2.2.1 nf tf ef q2.2.2.2.2.1 q2.2.2.2.2.2.1 bn q2.2.2.2.2.2.2.1 bt q2.2.2.2.2.2.2.2.1 q2.2.2.2.2.2.2.2.2.1 q2.2.2.2.2.2.2.2.2.2.1 q2.2.2.2.2.2.2.2.2.2.2.1 q2.2.2.2.2.2.2.2.2.2.2.2 q4.2.1 q4.2.2)) (va_runV (As := [.int (xs (x4 + 1).toNatClampNeg)]) (rest := []) ⟨hx, hb, hml, hown, hw⟩ (k_M_declare l D ad ca _ (xs (x4 + 1).toNatClampNeg) mv mu  q4 hq4) (zcV (C := RX6) 1 hw (zgood zw592) rfl rfl rfl zw7 zw590 zw591 zw593 hdX6_declare ⟨Nat.le_of_ble_eq_true rfl, Nat.le_of_ble_eq_true rfl⟩) (zpreV (zpre zN_ok (A := fun q => s.heap.size ≤ q) trivial (zglob hSg hAs hS) (fun q h => hAs q (hFc q h)) hPc hKc (hDc.weaken (fun _ _ _ h => hAs _ h))) (va_recv hK hP rfl (q0 := 17) rfl)) rfl rfl hl.1 rfl (lv_room (Nat.le_of_ble_eq_true rfl)) dL_law_137 ⟨by show c0 + 0 ≤ 601024; omega, by show s0 + 0 ≤ 7293034; omega⟩) hP hD hS hFc [17, 18, 19, 20, 21, 22, 23, 24, 25, 26, 27, 28, 29, 30, 31, 32, 33, 34, 35] [0, 1, 2, 3, 4, 5, 6, 7, 8, 9, 10, 11, 12, 13, 14, 15, 16] [0, 1, 2, 3, 4, 5, 6, 7, 8, 9, 10, 11, 12, 13, 14, 15, 16, 17, 18, 19, 20, 21, 22, 23, 24, 25, 26, 27, 28, 29, 30, 31, 32, 33, 34, 35] rfl rfl (by decide) (by decide) rfl (by decide) (fun H locs hP hD hS => ?_)
  refine W.widen (k := c0 + 0) (n := s0 + 0) (by omega) (by omega) ?_
  refine lv_istore (lv' := [(6, .int q4.1), (5, .int q2.1), (0, .ref sb), (1, .ref aQ), (2, .ref (ad 0)), (3, .ref aO), (4, .int x4)]) hx hb dL_law_140 hl (by decide) rfl (fun ls hl => ?_)
  refine lv_aload_n hx hb dL_law_142 rfl (lv_at hl 4 rfl) ?_
  obtain ⟨q5, hq5, hm⟩ := zbind hm
  have hPc := hP.sub (ws' := (wM ad ca q4.2.1 q4.2.2)) [17, 18, 19, 20, 21, 22, 23, 24, 25, 26, 27, 28, 29, 30, 31, 32, 33, 34, 35] rfl
  have hDc := hD.sub (ws' := (wM ad ca q4.2.1 q4.2.2)) [17, 18, 19, 20, 21, 22, 23, 24, 25, 26, 27, 28, 29, 30, 31, 32, 33, 34, 35] (by decide) rfl
  have hKc := hK.sub (tys' := wM_t ca) [12, 13, 14, 15, 16, 17, 18, 19, 20, 21, 22, 23, 24, 25, 26, 27, 28, 29] rfl
  have hFc := va_free (wc := (wM ad ca q4.2.1 q4.2.2)) hD hS hA [17, 18, 19, 20, 21, 22, 23, 24, 25, 26, 27, 28, 29, 30, 31, 32, 33, 34, 35] rfl
  refine zlSi (wr := [(aQ, .inr (4, [.ref aY, .int (q2.2.1 1), .ref aS, .ref aNs, .ref aTs, .ref aEs, .ref aDc, .int (q2.2.1 7)])), (aY, .inl (cy, 24, .inl y)), (aS, .inr (2, [.ref rS, .int (q2.2.2.1 1)])), (rS, .inl (cs, 24, .inl q2.2.2.2.1)), (aNs, .inl (cn, 8, .inr (.inr (.inr (.inr nf))))), (aTs, .inl (ct, 8, .inr (.inr (.inr (.inr tf))))), (aEs, .inl (ce, 8, .inr (.inr (.inr (.inr ef))))), (aDc, .inl (cd, 8, .inr (.inr (.inr (.inr q2.2.2.2.2.1))))), (aNn, .inr (1, [.ref bNn, .int (q2.2.2.2.2.2.1 1), .int (q2.2.2.2.2.2.1 2), .int (q2.2.2.2.2.2.1 3), .int (q2.2.2.2.2.2.1 4), .int (q2.2.2.2.2.2.1 5), .int (q2.2.2.2.2.2.1 6), .int (q2.2.2.2.2.2.1 7)])), (bNn, .inl (c1n, 25, .inl bn)), (aTt, .inr (3, [.ref bTt, .int (q2.2.2.2.2.2.2.1 1), .int (q2.2.2.2.2.2.2.1 2), .int (q2.2.2.2.2.2.2.1 3), .int (q2.2.2.2.2.2.2.1 4)])), (bTt, .inl (c1t, 25, .inl bt)), (aE, .inr (0, [.ref bE, .int (q2.2.2.2.2.2.2.2.1 1), .int (q2.2.2.2.2.2.2.2.1 2), .int (q2.2.2.2.2.2.2.2.1 3), .int (q2.2.2.2.2.2.2.2.1 4), .ref rE, .ref pE, .int (q2.2.2.2.2.2.2.2.1 7), .int (q2.2.2.2.2.2.2.2.1 8), .int (q2.2.2.2.2.2.2.2.1 9), .int (q2.2.2.2.2.2.2.2.1 10), .int (q2.2.2.2.2.2.2.2.1 11), .int (q2.2.2.2.2.2.2.2.1 12), .int (q2.2.2.2.2.2.2.2.1 13), .int (q2.2.2.2.2.2.2.2.1 14), .int (q2.2.2.2.2.2.2.2.1 15)])), (bE, .inl (c1, 25, .inl q2.2.2.2.2.2.2.2.2.1)), (rE, .inl (c2, 24, .inl q2.2.2.2.2.2.2.2.2.2.1)), (pE, .inl (c3, 24, .inl q2.2.2.2.2.2.2.2.2.2.2.1)), (aO, .inl (co, 1, .inr (.inl q2.2.2.2.2.2.2.2.2.2.2.2)))]) (w1 := (wM ad ca q4.2.1 q4.2.2)) (w' := (wQAOM aQ aY aS rS aNs aTs aEs aDc aNn bNn aTt bTt aE bE rE pE aO ad cy cs cn ct ce cd c1n c1t c1 c2 c3 co ca q2.2.1 y q2.2.2.1 q2.2.2.2.1 nf tf ef q2.2.2.2.2.1 q2.2.2.2.2.2.1 bn q2.2.2.2.2.2.2.1 bt q2.2.2.2.2.2.2.2.1 q2.2.2.2.2.2.2.2.2.1 q2.2.2.2.2.2.2.2.2.2.1 q2.2.2.2.2.2.2.2.2.2.2.1 q2.2.2.2.2.2.2.2.2.2.2.2 q4.2.1 q4.2.2)) (va_runV (As := []) (rest := []) ⟨hx, hb, hml, hown, hw⟩ (k_M_thrown l D ad ca _ q4.2.1 q4.2.2  q5 hq5) (zcV (C := RX6) 0 hw (zgood zw596) rfl rfl rfl zw7 zw594 zw595 zw597 hdX6_thrown ⟨Nat.le_of_ble_eq_true rfl, Nat.le_of_ble_eq_true rfl⟩) (zpreV (zpre zN_ok (A := fun q => s.heap.size ≤ q) trivial (zglob hSg hAs hS) (fun q h => hAs q (hFc q h)) hPc hKc (hDc.weaken (fun _ _ _ h => hAs _ h))) (va_recv hK hP rfl (q0 := 17) rfl)) rfl rfl hl.1 rfl (lv_room (Nat.le_of_ble_eq_true rfl)) dL_law_143 ⟨by show c0 + 0 ≤ 601024; omega, by show s0 + 0 ≤ 7293034; omega⟩) hP hD hS hFc [17, 18, 19, 20, 21, 22, 23, 24, 25, 26, 27, 28, 29, 30, 31, 32, 33, 34, 35] [0, 1, 2, 3, 4, 5, 6, 7, 8, 9, 10, 11, 12, 13, 14, 15, 16] [0, 1, 2, 3, 4, 5, 6, 7, 8, 9, 10, 11, 12, 13, 14, 15, 16, 17, 18, 19, 20, 21, 22, 23, 24, 25, 26, 27, 28, 29, 30, 31, 32, 33, 34, 35] rfl rfl (by decide) (by decide) rfl (by decide) (fun H locs hP hD hS => ?_)
  refine W.widen (k := c0 + 0) (n := s0 + 0) (by omega) (by omega) ?_
  refine lv_iload hx hb dL_law_146 (lv_at hl 1 rfl) ?_
  refine lv_icmp_eq (tgt := 153) hx hb dL_law_148 rfl (fun cd6 => ?_) (fun cd6 => ?_)
  · replace hm := zt cd6 hm
    refine lv_iload hx hb dL_law_153 (lv_at hl 1 rfl) ?_
    refine lv_if_ne (tgt := 170) hx hb dL_law_155 rfl (fun cd7 => ?_) (fun cd7 => ?_)
    · replace hm := zf cd7 hm
      refine lv_goto (tgt := 588) hx hb dL_law_170 rfl ?_
      cases hm
      refine W.widen (k := c0 + 1) (n := s0 + 6) (by omega) (by omega) ?_
      exact kk _ _ _ hP hD hS (lv_sub hl [2, 3, 4, 5, 6] rfl)
    · replace hm := zt cd7 hm
      refine lv_aload_n hx hb dL_law_158 rfl (lv_at hl 5 rfl) ?_
      refine lv_iconst (v := 0) hx hb dL_law_159 (by decide) ?_
      obtain ⟨hi8, hm⟩ := zix_s hm
      refine va_lald (i := 0) (f := q2.2.2.2.2.2.2.2.2.2.2.2) (n := 1) hx hb hK hP 16 11 rfl rfl hi8 dL_law_160 ?_
      refine lv_iload hx hb dL_law_161 (lv_at hl 0 rfl) ?_
      refine lv_i2l (v := ((q4.1).toInt64)) hx hb dL_law_163 rfl ?_
      refine W.lcmp (x := (q2.2.2.2.2.2.2.2.2.2.2.2 (0 : Int32).toNatClampNeg)) (y := ((q4.1).toInt64)) hx hb dL_law_164 ?_
      refine lv_if_eq (tgt := 170) hx hb dL_law_165 rfl (fun cd9 => ?_) (fun cd9 => ?_)
      · replace hm := zt cd9 hm
        refine lv_goto (tgt := 588) hx hb dL_law_170 rfl ?_
        cases hm
        refine W.widen (k := c0 + 1) (n := s0 + 6) (by omega) (by omega) ?_
        exact kk _ _ _ hP hD hS (lv_sub hl [2, 3, 4, 5, 6] rfl)
      · replace hm := zf cd9 hm
        refine lv_iconst (v := 0) hx hb dL_law_168 (by decide) ?_
        cases hm
  · replace hm := zf cd6 hm
    refine lv_iconst (v := 0) hx hb dL_law_151 (by decide) ?_
    cases hm

def m_F_L_declare_s (xs : Nat → Int32) (L : Nat) (x4 : Int32) (pv : Nat → Int32) (ov : Nat → Int64) (mv : Nat → Int32) (mu : Nat → Nat → Int32)  : Option ((Nat → Int32) × (Nat → Nat → Int32)) := zix (x4 + 1) L ((m_L_declare_s (xs (x4 + 1).toNatClampNeg) pv).bind (fun q2 => zix (x4 + 1) L ((m_M_declare (xs (x4 + 1).toNatClampNeg) mv mu).bind (fun q4 => (m_M_thrown q4.2.1 q4.2.2).bind (fun q5 => (if q5 = q2 then (if q2 = 0 then zix 0 1 ((if (lg_cmp (ov (0 : Int32).toNatClampNeg) ((q4.1).toInt64)) = 0 then (some (q4.2.1, q4.2.2)) else none)) else (some (q4.2.1, q4.2.2))) else none))))))
set_option maxRecDepth 100000 in
set_option maxHeartbeats 4000000 in
theorem f_F_L_declare_s {p : Program} {l : Launch} {e : Env} {s : State} {m : MethodId} {args : Array Value} {below : List Frame} {meth : Method} {c : Code} {D : va_G} {w0 : va_W} {H0 : Heap} {Q : State → Prop} {sb L : Nat} {xs : Nat → Int32} {x4 : Int32} {c0 s0 : Nat} (aQ aY aS aNs aTs aEs aDc aO : Nat) (ad : Nat → Nat) (co : ClassId) (ca : Nat → ClassId) (pv : Nat → Int32) (ov : Nat → Int64) (mv : Nat → Int32) (mu : Nat → Nat → Int32) (G : zG p s m args meth c cL_law RL 8 (some .boolean)) (hK : va_K D vwCl (wQoOM_t co ca) s) (hX : zW (fun q => s.heap.size ≤ q) s) (hl0 : l.stackTraces = false) (hSg : va_S (fun q => s.heap.size ≤ q) s.heap H0 []) (hAs : ∀ q, (va_A w0 H0.size) q → s.heap.size ≤ q) (hsb : va_X sb L xs s H0) (hbl : sb < H0.size) (hbA : ¬ (va_A w0 H0.size) sb) (hc0 : c0 + 1 ≤ 601024) (hs0 : s0 + 6 ≤ 7293034) {res : (Nat → Int32) × (Nat → Nat → Int32)} (hm : m_F_L_declare_s xs L x4 pv ov mv mu  = some res)
    (kk : ∀ (H : Heap) (locs : List Loc) (ls : Array Slot), va_P D vwCl (wQoOM aQ aY aS aNs aTs aEs aDc aO ad co ca pv ov res.1 res.2) H → va_D (va_A w0 H0.size) (wQoOM aQ aY aS aNs aTs aEs aDc aO ad co ca pv ov res.1 res.2) → va_S (va_A w0 H0.size) H0 H locs → lv_has ls 8 [(0, .ref sb), (1, .ref aQ), (2, .ref (ad 0)), (3, .ref aO), (4, .int x4)] → W p l e room_1 s m args below meth c H locs (c0 + 1) (s0 + 6) Q (F0 m 588 ls []))
    (H : Heap) (locs : List Loc) (ls : Array Slot) (hP : va_P D vwCl (wQoOM aQ aY aS aNs aTs aEs aDc aO ad co ca pv ov mv mu) H) (hD : va_D (va_A w0 H0.size) (wQoOM aQ aY aS aNs aTs aEs aDc aO ad co ca pv ov mv mu)) (hS : va_S (va_A w0 H0.size) H0 H locs) (hl : lv_has ls 8 [(0, .ref sb), (1, .ref aQ), (2, .ref (ad 0)), (3, .ref aO), (4, .int x4)]) : W p l e room_1 s m args below meth c H locs c0 s0 Q (F0 m 117 ls []) := by
  obtain ⟨hx, hb, hr, hml, hown, hw, hlk⟩ := G
  have hA : ∀ q, H0.size ≤ q → (va_A w0 H0.size) q := fun q h => Or.inr h
  unfold m_F_L_declare_s at hm
  refine lv_aload_n hx hb dL_law_117 rfl (lv_at hl 1 rfl) ?_
  refine lv_aload_n hx hb dL_law_118 rfl (lv_at hl 0 rfl) ?_
  refine lv_iload hx hb dL_law_119 (lv_at hl 4 rfl) ?_
  refine lv_iconst (v := 1) hx hb dL_law_121 (by decide) ?_
  refine lv_iadd hx hb dL_law_122 ?_
  obtain ⟨hi1, hm⟩ := zix_s hm
  refine va_sld (i := (x4 + 1)) (xs := xs) hx hb hsb hbl hbA hS hi1 dL_law_123 ?_
  refine lv_aload_n hx hb dL_law_124 rfl (lv_at hl 3 rfl) ?_
  obtain ⟨q2, hq2, hm⟩ := zbind hm
  have hPc := hP.sub (ws' := (wQo aQ aY aS aNs aTs aEs aDc aO pv)) [0] rfl
  have hDc := hD.sub (ws' := (wQo aQ aY aS aNs aTs aEs aDc aO pv)) [0] (by decide) rfl
  have hKc := hK.sub (tys' := []) [] rfl
  have hFc := va_free (wc := (wQo aQ aY aS aNs aTs aEs aDc aO pv)) hD hS hA [0] rfl
  refine zlSi (wr := [(aO, .inl (co, 1, .inr (.inl ov))), ((ad 0), .inr (5, [.int (mv 0), .int (mv 1), .ref (ad 1), .int (mv 3), .ref (ad 2), .ref (ad 3), .ref (ad 4), .ref (ad 5), .ref (ad 6), .ref (ad 7), .ref (ad 8), .ref (ad 9), .ref (ad 10), .ref (ad 11), .ref (ad 12), .ref (ad 13), .ref (ad 14), .ref (ad 15), .ref (ad 16), .ref (ad 17), .int (mv 20), .int (mv 21), .ref (ad 18), .int (mv 23)])), ((ad 1), .inl ((ca 1), 24, .inl (mu 1))), ((ad 2), .inl ((ca 2), 9, .inl (mu 2))), ((ad 3), .inl ((ca 3), 216, .inl (mu 3))), ((ad 4), .inl ((ca 4), 216, .inl (mu 4))), ((ad 5), .inl ((ca 5), 9, .inl (mu 5))), ((ad 6), .inl ((ca 6), 9, .inl (mu 6))), ((ad 7), .inl ((ca 7), 9, .inl (mu 7))), ((ad 8), .inl ((ca 8), 9, .inl (mu 8))), ((ad 9), .inl ((ca 9), 9, .inl (mu 9))), ((ad 10), .inl ((ca 10), 9, .inl (mu 10))), ((ad 11), .inl ((ca 11), 9, .inl (mu 11))), ((ad 12), .inl ((ca 12), 9, .inl (mu 12))), ((ad 13), .inl ((ca 13), 9, .inl (mu 13))), ((ad 14), .inl ((ca 14), 9, .inl (mu 14))), ((ad 15), .inl ((ca 15), 9, .inl (mu 15))), ((ad 16), .inl ((ca 16), 256, .inl (mu 16))), ((ad 17), .inl ((ca 17), 48, .inl (mu 17))), ((ad 18), .inl ((ca 18), 32, .inl (mu 18)))]) (w1 := (wQo aQ aY aS aNs aTs aEs aDc aO pv)) (w' := (wQoOM aQ aY aS aNs aTs aEs aDc aO ad co ca pv ov mv mu)) (vx_runSW (As := [.ref aQ, .int (xs (x4 + 1).toNatClampNeg), .ref aO]) (rest := []) ⟨hx, hb, hml, hown, hw⟩ (k_L_declare_s l D aQ aY aS aNs aTs aEs aDc aO _ (xs (x4 + 1).toNatClampNeg) pv hl0 q2 hq2) (vx_cwSW 3 hw (zgoodW (List.forall_mem_cons.mpr ⟨zw586, List.forall_mem_cons.mpr ⟨zw588, List.forall_mem_cons.mpr ⟨zw587, fun _ h => absurd h List.not_mem_nil⟩⟩⟩) zw589) rfl rfl rfl hdL_declare ⟨Nat.le_of_ble_eq_true rfl, Nat.le_of_ble_eq_true rfl⟩) (zpre zW_ok (A := fun q => s.heap.size ≤ q) hX (zglob hSg hAs hS) (fun q h => hAs q (hFc q h)) hPc hKc (hDc.weaken (fun _ _ _ h => hAs _ h))) rfl rfl hl.1 rfl (lv_room (Nat.le_of_ble_eq_true rfl)) dL_law_125 ⟨by show c0 + 1 ≤ 601024; omega, by show s0 + 6 ≤ 7293034; omega⟩) hP hD hS hFc [0] [1, 2, 3, 4, 5, 6, 7, 8, 9, 10, 11, 12, 13, 14, 15, 16, 17, 18, 19, 20] [20, 0, 1, 2, 3, 4, 5, 6, 7, 8, 9, 10, 11, 12, 13, 14, 15, 16, 17, 18, 19] rfl rfl (by decide) (by decide) rfl (by decide) (fun H locs hP hD hS => ?_)
  refine W.widen (k := c0 + 1) (n := s0 + 6) (by omega) (by omega) ?_
  refine lv_istore (lv' := [(5, .int q2), (0, .ref sb), (1, .ref aQ), (2, .ref (ad 0)), (3, .ref aO), (4, .int x4)]) hx hb dL_law_128 hl (by decide) rfl (fun ls hl => ?_)
  refine lv_aload_n hx hb dL_law_130 rfl (lv_at hl 3 rfl) ?_
  refine lv_aload_n hx hb dL_law_131 rfl (lv_at hl 1 rfl) ?_
  refine lv_iload hx hb dL_law_132 (lv_at hl 5 rfl) ?_
  refine lv_iconst (v := 1) hx hb dL_law_134 (by decide) ?_
  refine lv_iadd hx hb dL_law_135 ?_
  obtain ⟨hi3, hm⟩ := zix_s hm
  refine va_sld (i := (x4 + 1)) (xs := xs) hx hb hsb hbl hbA hS hi3 dL_law_136 ?_
  obtain ⟨q4, hq4, hm⟩ := zbind hm
  have hPc := hP.sub (ws' := (wM ad ca mv mu)) [2, 3, 4, 5, 6, 7, 8, 9, 10, 11, 12, 13, 14, 15, 16, 17, 18, 19, 20] rfl
  have hDc := hD.sub (ws' := (wM ad ca mv mu)) [2, 3, 4, 5, 6, 7, 8, 9, 10, 11, 12, 13, 14, 15, 16, 17, 18, 19, 20] (by decide) rfl
  have hKc := hK.sub (tys' := wM_t ca) [1, 2, 3, 4, 5, 6, 7, 8, 9, 10, 11, 12, 13, 14, 15, 16, 17, 18] rfl
  have hFc := va_free (wc := (wM ad ca mv mu)) hD hS hA [2, 3, 4, 5, 6, 7, 8, 9, 10, 11, 12, 13, 14, 15, 16, 17, 18, 19, 20] rfl
  refine zlSi (wr := [(aQ, .inr (4, [.ref aY, .int (pv 1), .ref aS, .ref aNs, .ref aTs, .ref aEs, .ref aDc, .int (pv 7)])), (aO, .inl (co, 1, .inr (.inl ov)))]) (w1 := (wM ad ca q4.2.1 q4.2.2)) (w' := (wQoOM aQ aY aS aNs aTs aEs aDc aO ad co ca pv ov q4.2.1 q4.2.2)) (va_runV (As := [.int (xs (x4 + 1).toNatClampNeg)]) (rest := []) ⟨hx, hb, hml, hown, hw⟩ (k_M_declare l D ad ca _ (xs (x4 + 1).toNatClampNeg) mv mu  q4 hq4) (zcV (C := RX6) 1 hw (zgood zw592) rfl rfl rfl zw7 zw590 zw591 zw593 hdX6_declare ⟨Nat.le_of_ble_eq_true rfl, Nat.le_of_ble_eq_true rfl⟩) (zpreV (zpre zN_ok (A := fun q => s.heap.size ≤ q) trivial (zglob hSg hAs hS) (fun q h => hAs q (hFc q h)) hPc hKc (hDc.weaken (fun _ _ _ h => hAs _ h))) (va_recv hK hP rfl (q0 := 2) rfl)) rfl rfl hl.1 rfl (lv_room (Nat.le_of_ble_eq_true rfl)) dL_law_137 ⟨by show c0 + 1 ≤ 601024; omega, by show s0 + 6 ≤ 7293034; omega⟩) hP hD hS hFc [2, 3, 4, 5, 6, 7, 8, 9, 10, 11, 12, 13, 14, 15, 16, 17, 18, 19, 20] [0, 1] [0, 1, 2, 3, 4, 5, 6, 7, 8, 9, 10, 11, 12, 13, 14, 15, 16, 17, 18, 19, 20] rfl rfl (by decide) (by decide) rfl (by decide) (fun H locs hP hD hS => ?_)
  refine W.widen (k := c0 + 1) (n := s0 + 6) (by omega) (by omega) ?_
  refine lv_istore (lv' := [(6, .int q4.1), (5, .int q2), (0, .ref sb), (1, .ref aQ), (2, .ref (ad 0)), (3, .ref aO), (4, .int x4)]) hx hb dL_law_140 hl (by decide) rfl (fun ls hl => ?_)
  refine lv_aload_n hx hb dL_law_142 rfl (lv_at hl 4 rfl) ?_
  obtain ⟨q5, hq5, hm⟩ := zbind hm
  have hPc := hP.sub (ws' := (wM ad ca q4.2.1 q4.2.2)) [2, 3, 4, 5, 6, 7, 8, 9, 10, 11, 12, 13, 14, 15, 16, 17, 18, 19, 20] rfl
  have hDc := hD.sub (ws' := (wM ad ca q4.2.1 q4.2.2)) [2, 3, 4, 5, 6, 7, 8, 9, 10, 11, 12, 13, 14, 15, 16, 17, 18, 19, 20] (by decide) rfl
  have hKc := hK.sub (tys' := wM_t ca) [1, 2, 3, 4, 5, 6, 7, 8, 9, 10, 11, 12, 13, 14, 15, 16, 17, 18] rfl
  have hFc := va_free (wc := (wM ad ca q4.2.1 q4.2.2)) hD hS hA [2, 3, 4, 5, 6, 7, 8, 9, 10, 11, 12, 13, 14, 15, 16, 17, 18, 19, 20] rfl
  refine zlSi (wr := [(aQ, .inr (4, [.ref aY, .int (pv 1), .ref aS, .ref aNs, .ref aTs, .ref aEs, .ref aDc, .int (pv 7)])), (aO, .inl (co, 1, .inr (.inl ov)))]) (w1 := (wM ad ca q4.2.1 q4.2.2)) (w' := (wQoOM aQ aY aS aNs aTs aEs aDc aO ad co ca pv ov q4.2.1 q4.2.2)) (va_runV (As := []) (rest := []) ⟨hx, hb, hml, hown, hw⟩ (k_M_thrown l D ad ca _ q4.2.1 q4.2.2  q5 hq5) (zcV (C := RX6) 0 hw (zgood zw596) rfl rfl rfl zw7 zw594 zw595 zw597 hdX6_thrown ⟨Nat.le_of_ble_eq_true rfl, Nat.le_of_ble_eq_true rfl⟩) (zpreV (zpre zN_ok (A := fun q => s.heap.size ≤ q) trivial (zglob hSg hAs hS) (fun q h => hAs q (hFc q h)) hPc hKc (hDc.weaken (fun _ _ _ h => hAs _ h))) (va_recv hK hP rfl (q0 := 2) rfl)) rfl rfl hl.1 rfl (lv_room (Nat.le_of_ble_eq_true rfl)) dL_law_143 ⟨by show c0 + 1 ≤ 601024; omega, by show s0 + 6 ≤ 7293034; omega⟩) hP hD hS hFc [2, 3, 4, 5, 6, 7, 8, 9, 10, 11, 12, 13, 14, 15, 16, 17, 18, 19, 20] [0, 1] [0, 1, 2, 3, 4, 5, 6, 7, 8, 9, 10, 11, 12, 13, 14, 15, 16, 17, 18, 19, 20] rfl rfl (by decide) (by decide) rfl (by decide) (fun H locs hP hD hS => ?_)
  refine W.widen (k := c0 + 1) (n := s0 + 6) (by omega) (by omega) ?_
  refine lv_iload hx hb dL_law_146 (lv_at hl 1 rfl) ?_
  refine lv_icmp_eq (tgt := 153) hx hb dL_law_148 rfl (fun cd6 => ?_) (fun cd6 => ?_)
  · replace hm := zt cd6 hm
    refine lv_iload hx hb dL_law_153 (lv_at hl 1 rfl) ?_
    refine lv_if_ne (tgt := 170) hx hb dL_law_155 rfl (fun cd7 => ?_) (fun cd7 => ?_)
    · replace hm := zf cd7 hm
      refine lv_goto (tgt := 588) hx hb dL_law_170 rfl ?_
      cases hm
      refine W.widen (k := c0 + 1) (n := s0 + 6) (by omega) (by omega) ?_
      exact kk _ _ _ hP hD hS (lv_sub hl [2, 3, 4, 5, 6] rfl)
    · replace hm := zt cd7 hm
      refine lv_aload_n hx hb dL_law_158 rfl (lv_at hl 5 rfl) ?_
      refine lv_iconst (v := 0) hx hb dL_law_159 (by decide) ?_
      obtain ⟨hi8, hm⟩ := zix_s hm
      refine va_lald (i := 0) (f := ov) (n := 1) hx hb hK hP 1 0 rfl rfl hi8 dL_law_160 ?_
      refine lv_iload hx hb dL_law_161 (lv_at hl 0 rfl) ?_
      refine lv_i2l (v := ((q4.1).toInt64)) hx hb dL_law_163 rfl ?_
      refine W.lcmp (x := (ov (0 : Int32).toNatClampNeg)) (y := ((q4.1).toInt64)) hx hb dL_law_164 ?_
      refine lv_if_eq (tgt := 170) hx hb dL_law_165 rfl (fun cd9 => ?_) (fun cd9 => ?_)
      · replace hm := zt cd9 hm
        refine lv_goto (tgt := 588) hx hb dL_law_170 rfl ?_
        cases hm
        refine W.widen (k := c0 + 1) (n := s0 + 6) (by omega) (by omega) ?_
        exact kk _ _ _ hP hD hS (lv_sub hl [2, 3, 4, 5, 6] rfl)
      · replace hm := zf cd9 hm
        refine lv_iconst (v := 0) hx hb dL_law_168 (by decide) ?_
        cases hm
  · replace hm := zf cd6 hm
    refine lv_iconst (v := 0) hx hb dL_law_151 (by decide) ?_
    cases hm

def m_F_L_declare_i (xs : Nat → Int32) (L : Nat) (x4 : Int32) (pv : Nat → Int32) (y : Nat → Int32) (sv : Nat → Int32) (sr : Nat → Int32) (ov : Nat → Int64) (mv : Nat → Int32) (mu : Nat → Nat → Int32)  : Option ((Nat → Int32) × (Nat → Int32) × (Nat → Int32) × (Nat → Int32) × (Nat → Nat → Int32)) := zix (x4 + 1) L ((m_L_declare_i (xs (x4 + 1).toNatClampNeg) pv y sv sr).bind (fun q2 => zix (x4 + 1) L ((m_M_declare (xs (x4 + 1).toNatClampNeg) mv mu).bind (fun q4 => (m_M_thrown q4.2.1 q4.2.2).bind (fun q5 => (if q5 = q2.1 then (if q2.1 = 0 then zix 0 1 ((if (lg_cmp (ov (0 : Int32).toNatClampNeg) ((q4.1).toInt64)) = 0 then (some (q2.2.1, q2.2.2.1, q2.2.2.2, q4.2.1, q4.2.2)) else none)) else (some (q2.2.1, q2.2.2.1, q2.2.2.2, q4.2.1, q4.2.2))) else none))))))
set_option maxRecDepth 100000 in
set_option maxHeartbeats 4000000 in
theorem f_F_L_declare_i {p : Program} {l : Launch} {e : Env} {s : State} {m : MethodId} {args : Array Value} {below : List Frame} {meth : Method} {c : Code} {D : va_G} {w0 : va_W} {H0 : Heap} {Q : State → Prop} {sb L : Nat} {xs : Nat → Int32} {x4 : Int32} {c0 s0 : Nat} (aQ aNs aTs aEs aDc aY aS rS aO : Nat) (ad : Nat → Nat) (cy cs co : ClassId) (ca : Nat → ClassId) (pv : Nat → Int32) (y : Nat → Int32) (sv : Nat → Int32) (sr : Nat → Int32) (ov : Nat → Int64) (mv : Nat → Int32) (mu : Nat → Nat → Int32) (G : zG p s m args meth c cL_law RL 8 (some .boolean)) (hK : va_K D vwCl (wQSoOM_t cy cs co ca) s) (hX : zW (fun q => s.heap.size ≤ q) s) (hl0 : l.stackTraces = false) (hSg : va_S (fun q => s.heap.size ≤ q) s.heap H0 []) (hAs : ∀ q, (va_A w0 H0.size) q → s.heap.size ≤ q) (hsb : va_X sb L xs s H0) (hbl : sb < H0.size) (hbA : ¬ (va_A w0 H0.size) sb) (hc0 : c0 + 1 ≤ 601024) (hs0 : s0 + 6 ≤ 7293034) {res : (Nat → Int32) × (Nat → Int32) × (Nat → Int32) × (Nat → Int32) × (Nat → Nat → Int32)} (hm : m_F_L_declare_i xs L x4 pv y sv sr ov mv mu  = some res)
    (kk : ∀ (H : Heap) (locs : List Loc) (ls : Array Slot), va_P D vwCl (wQSoOM aQ aNs aTs aEs aDc aY aS rS aO ad cy cs co ca res.1 y res.2.1 res.2.2.1 ov res.2.2.2.1 res.2.2.2.2) H → va_D (va_A w0 H0.size) (wQSoOM aQ aNs aTs aEs aDc aY aS rS aO ad cy cs co ca res.1 y res.2.1 res.2.2.1 ov res.2.2.2.1 res.2.2.2.2) → va_S (va_A w0 H0.size) H0 H locs → lv_has ls 8 [(0, .ref sb), (1, .ref aQ), (2, .ref (ad 0)), (3, .ref aO), (4, .int x4)] → W p l e room_1 s m args below meth c H locs (c0 + 1) (s0 + 6) Q (F0 m 588 ls []))
    (H : Heap) (locs : List Loc) (ls : Array Slot) (hP : va_P D vwCl (wQSoOM aQ aNs aTs aEs aDc aY aS rS aO ad cy cs co ca pv y sv sr ov mv mu) H) (hD : va_D (va_A w0 H0.size) (wQSoOM aQ aNs aTs aEs aDc aY aS rS aO ad cy cs co ca pv y sv sr ov mv mu)) (hS : va_S (va_A w0 H0.size) H0 H locs) (hl : lv_has ls 8 [(0, .ref sb), (1, .ref aQ), (2, .ref (ad 0)), (3, .ref aO), (4, .int x4)]) : W p l e room_1 s m args below meth c H locs c0 s0 Q (F0 m 117 ls []) := by
  obtain ⟨hx, hb, hr, hml, hown, hw, hlk⟩ := G
  have hA : ∀ q, H0.size ≤ q → (va_A w0 H0.size) q := fun q h => Or.inr h
  unfold m_F_L_declare_i at hm
  refine lv_aload_n hx hb dL_law_117 rfl (lv_at hl 1 rfl) ?_
  refine lv_aload_n hx hb dL_law_118 rfl (lv_at hl 0 rfl) ?_
  refine lv_iload hx hb dL_law_119 (lv_at hl 4 rfl) ?_
  refine lv_iconst (v := 1) hx hb dL_law_121 (by decide) ?_
  refine lv_iadd hx hb dL_law_122 ?_
  obtain ⟨hi1, hm⟩ := zix_s hm
  refine va_sld (i := (x4 + 1)) (xs := xs) hx hb hsb hbl hbA hS hi1 dL_law_123 ?_
  refine lv_aload_n hx hb dL_law_124 rfl (lv_at hl 3 rfl) ?_
  obtain ⟨q2, hq2, hm⟩ := zbind hm
  have hPc := hP.sub (ws' := (wQSo aQ aNs aTs aEs aDc aY aS rS aO cy cs pv y sv sr)) [0, 1, 2, 3] rfl
  have hDc := hD.sub (ws' := (wQSo aQ aNs aTs aEs aDc aY aS rS aO cy cs pv y sv sr)) [0, 1, 2, 3] (by decide) rfl
  have hKc := hK.sub (tys' := wQSo_t cy cs) [0, 1] rfl
  have hFc := va_free (wc := (wQSo aQ aNs aTs aEs aDc aY aS rS aO cy cs pv y sv sr)) hD hS hA [0, 1, 2, 3] rfl
  refine zlSi (wr := [(aO, .inl (co, 1, .inr (.inl ov))), ((ad 0), .inr (5, [.int (mv 0), .int (mv 1), .ref (ad 1), .int (mv 3), .ref (ad 2), .ref (ad 3), .ref (ad 4), .ref (ad 5), .ref (ad 6), .ref (ad 7), .ref (ad 8), .ref (ad 9), .ref (ad 10), .ref (ad 11), .ref (ad 12), .ref (ad 13), .ref (ad 14), .ref (ad 15), .ref (ad 16), .ref (ad 17), .int (mv 20), .int (mv 21), .ref (ad 18), .int (mv 23)])), ((ad 1), .inl ((ca 1), 24, .inl (mu 1))), ((ad 2), .inl ((ca 2), 9, .inl (mu 2))), ((ad 3), .inl ((ca 3), 216, .inl (mu 3))), ((ad 4), .inl ((ca 4), 216, .inl (mu 4))), ((ad 5), .inl ((ca 5), 9, .inl (mu 5))), ((ad 6), .inl ((ca 6), 9, .inl (mu 6))), ((ad 7), .inl ((ca 7), 9, .inl (mu 7))), ((ad 8), .inl ((ca 8), 9, .inl (mu 8))), ((ad 9), .inl ((ca 9), 9, .inl (mu 9))), ((ad 10), .inl ((ca 10), 9, .inl (mu 10))), ((ad 11), .inl ((ca 11), 9, .inl (mu 11))), ((ad 12), .inl ((ca 12), 9, .inl (mu 12))), ((ad 13), .inl ((ca 13), 9, .inl (mu 13))), ((ad 14), .inl ((ca 14), 9, .inl (mu 14))), ((ad 15), .inl ((ca 15), 9, .inl (mu 15))), ((ad 16), .inl ((ca 16), 256, .inl (mu 16))), ((ad 17), .inl ((ca 17), 48, .inl (mu 17))), ((ad 18), .inl ((ca 18), 32, .inl (mu 18)))]) (w1 := (wQSo aQ aNs aTs aEs aDc aY aS rS aO cy cs q2.2.1 y q2.2.2.1 q2.2.2.2)) (w' := (wQSoOM aQ aNs aTs aEs aDc aY aS rS aO ad cy cs co ca q2.2.1 y q2.2.2.1 q2.2.2.2 ov mv mu)) (vx_runSW (As := [.ref aQ, .int (xs (x4 + 1).toNatClampNeg), .ref aO]) (rest := []) ⟨hx, hb, hml, hown, hw⟩ (k_L_declare_i l D aQ aNs aTs aEs aDc aY aS rS aO cy cs _ (xs (x4 + 1).toNatClampNeg) pv y sv sr hl0 q2 hq2) (vx_cwSW 3 hw (zgoodW (List.forall_mem_cons.mpr ⟨zw586, List.forall_mem_cons.mpr ⟨zw588, List.forall_mem_cons.mpr ⟨zw587, fun _ h => absurd h List.not_mem_nil⟩⟩⟩) zw589) rfl rfl rfl hdL_declare ⟨Nat.le_of_ble_eq_true rfl, Nat.le_of_ble_eq_true rfl⟩) (zpre zW_ok (A := fun q => s.heap.size ≤ q) hX (zglob hSg hAs hS) (fun q h => hAs q (hFc q h)) hPc hKc (hDc.weaken (fun _ _ _ h => hAs _ h))) rfl rfl hl.1 rfl (lv_room (Nat.le_of_ble_eq_true rfl)) dL_law_125 ⟨by show c0 + 1 ≤ 601024; omega, by show s0 + 6 ≤ 7293034; omega⟩) hP hD hS hFc [0, 1, 2, 3] [4, 5, 6, 7, 8, 9, 10, 11, 12, 13, 14, 15, 16, 17, 18, 19, 20, 21, 22, 23] [20, 21, 22, 23, 0, 1, 2, 3, 4, 5, 6, 7, 8, 9, 10, 11, 12, 13, 14, 15, 16, 17, 18, 19] rfl rfl (by decide) (by decide) rfl (by decide) (fun H locs hP hD hS => ?_)
  refine W.widen (k := c0 + 1) (n := s0 + 6) (by omega) (by omega) ?_
  refine lv_istore (lv' := [(5, .int q2.1), (0, .ref sb), (1, .ref aQ), (2, .ref (ad 0)), (3, .ref aO), (4, .int x4)]) hx hb dL_law_128 hl (by decide) rfl (fun ls hl => ?_)
  refine lv_aload_n hx hb dL_law_130 rfl (lv_at hl 3 rfl) ?_
  refine lv_aload_n hx hb dL_law_131 rfl (lv_at hl 1 rfl) ?_
  refine lv_iload hx hb dL_law_132 (lv_at hl 5 rfl) ?_
  refine lv_iconst (v := 1) hx hb dL_law_134 (by decide) ?_
  refine lv_iadd hx hb dL_law_135 ?_
  obtain ⟨hi3, hm⟩ := zix_s hm
  refine va_sld (i := (x4 + 1)) (xs := xs) hx hb hsb hbl hbA hS hi3 dL_law_136 ?_
  obtain ⟨q4, hq4, hm⟩ := zbind hm
  have hPc := hP.sub (ws' := (wM ad ca mv mu)) [5, 6, 7, 8, 9, 10, 11, 12, 13, 14, 15, 16, 17, 18, 19, 20, 21, 22, 23] rfl
  have hDc := hD.sub (ws' := (wM ad ca mv mu)) [5, 6, 7, 8, 9, 10, 11, 12, 13, 14, 15, 16, 17, 18, 19, 20, 21, 22, 23] (by decide) rfl
  have hKc := hK.sub (tys' := wM_t ca) [3, 4, 5, 6, 7, 8, 9, 10, 11, 12, 13, 14, 15, 16, 17, 18, 19, 20] rfl
  have hFc := va_free (wc := (wM ad ca mv mu)) hD hS hA [5, 6, 7, 8, 9, 10, 11, 12, 13, 14, 15, 16, 17, 18, 19, 20, 21, 22, 23] rfl
  refine zlSi (wr := [(aQ, .inr (4, [.ref aY, .int (q2.2.1 1), .ref aS, .ref aNs, .ref aTs, .ref aEs, .ref aDc, .int (q2.2.1 7)])), (aY, .inl (cy, 24, .inl y)), (aS, .inr (2, [.ref rS, .int (q2.2.2.1 1)])), (rS, .inl (cs, 24, .inl q2.2.2.2)), (aO, .inl (co, 1, .inr (.inl ov)))]) (w1 := (wM ad ca q4.2.1 q4.2.2)) (w' := (wQSoOM aQ aNs aTs aEs aDc aY aS rS aO ad cy cs co ca q2.2.1 y q2.2.2.1 q2.2.2.2 ov q4.2.1 q4.2.2)) (va_runV (As := [.int (xs (x4 + 1).toNatClampNeg)]) (rest := []) ⟨hx, hb, hml, hown, hw⟩ (k_M_declare l D ad ca _ (xs (x4 + 1).toNatClampNeg) mv mu  q4 hq4) (zcV (C := RX6) 1 hw (zgood zw592) rfl rfl rfl zw7 zw590 zw591 zw593 hdX6_declare ⟨Nat.le_of_ble_eq_true rfl, Nat.le_of_ble_eq_true rfl⟩) (zpreV (zpre zN_ok (A := fun q => s.heap.size ≤ q) trivial (zglob hSg hAs hS) (fun q h => hAs q (hFc q h)) hPc hKc (hDc.weaken (fun _ _ _ h => hAs _ h))) (va_recv hK hP rfl (q0 := 5) rfl)) rfl rfl hl.1 rfl (lv_room (Nat.le_of_ble_eq_true rfl)) dL_law_137 ⟨by show c0 + 1 ≤ 601024; omega, by show s0 + 6 ≤ 7293034; omega⟩) hP hD hS hFc [5, 6, 7, 8, 9, 10, 11, 12, 13, 14, 15, 16, 17, 18, 19, 20, 21, 22, 23] [0, 1, 2, 3, 4] [0, 1, 2, 3, 4, 5, 6, 7, 8, 9, 10, 11, 12, 13, 14, 15, 16, 17, 18, 19, 20, 21, 22, 23] rfl rfl (by decide) (by decide) rfl (by decide) (fun H locs hP hD hS => ?_)
  refine W.widen (k := c0 + 1) (n := s0 + 6) (by omega) (by omega) ?_
  refine lv_istore (lv' := [(6, .int q4.1), (5, .int q2.1), (0, .ref sb), (1, .ref aQ), (2, .ref (ad 0)), (3, .ref aO), (4, .int x4)]) hx hb dL_law_140 hl (by decide) rfl (fun ls hl => ?_)
  refine lv_aload_n hx hb dL_law_142 rfl (lv_at hl 4 rfl) ?_
  obtain ⟨q5, hq5, hm⟩ := zbind hm
  have hPc := hP.sub (ws' := (wM ad ca q4.2.1 q4.2.2)) [5, 6, 7, 8, 9, 10, 11, 12, 13, 14, 15, 16, 17, 18, 19, 20, 21, 22, 23] rfl
  have hDc := hD.sub (ws' := (wM ad ca q4.2.1 q4.2.2)) [5, 6, 7, 8, 9, 10, 11, 12, 13, 14, 15, 16, 17, 18, 19, 20, 21, 22, 23] (by decide) rfl
  have hKc := hK.sub (tys' := wM_t ca) [3, 4, 5, 6, 7, 8, 9, 10, 11, 12, 13, 14, 15, 16, 17, 18, 19, 20] rfl
  have hFc := va_free (wc := (wM ad ca q4.2.1 q4.2.2)) hD hS hA [5, 6, 7, 8, 9, 10, 11, 12, 13, 14, 15, 16, 17, 18, 19, 20, 21, 22, 23] rfl
  refine zlSi (wr := [(aQ, .inr (4, [.ref aY, .int (q2.2.1 1), .ref aS, .ref aNs, .ref aTs, .ref aEs, .ref aDc, .int (q2.2.1 7)])), (aY, .inl (cy, 24, .inl y)), (aS, .inr (2, [.ref rS, .int (q2.2.2.1 1)])), (rS, .inl (cs, 24, .inl q2.2.2.2)), (aO, .inl (co, 1, .inr (.inl ov)))]) (w1 := (wM ad ca q4.2.1 q4.2.2)) (w' := (wQSoOM aQ aNs aTs aEs aDc aY aS rS aO ad cy cs co ca q2.2.1 y q2.2.2.1 q2.2.2.2 ov q4.2.1 q4.2.2)) (va_runV (As := []) (rest := []) ⟨hx, hb, hml, hown, hw⟩ (k_M_thrown l D ad ca _ q4.2.1 q4.2.2  q5 hq5) (zcV (C := RX6) 0 hw (zgood zw596) rfl rfl rfl zw7 zw594 zw595 zw597 hdX6_thrown ⟨Nat.le_of_ble_eq_true rfl, Nat.le_of_ble_eq_true rfl⟩) (zpreV (zpre zN_ok (A := fun q => s.heap.size ≤ q) trivial (zglob hSg hAs hS) (fun q h => hAs q (hFc q h)) hPc hKc (hDc.weaken (fun _ _ _ h => hAs _ h))) (va_recv hK hP rfl (q0 := 5) rfl)) rfl rfl hl.1 rfl (lv_room (Nat.le_of_ble_eq_true rfl)) dL_law_143 ⟨by show c0 + 1 ≤ 601024; omega, by show s0 + 6 ≤ 7293034; omega⟩) hP hD hS hFc [5, 6, 7, 8, 9, 10, 11, 12, 13, 14, 15, 16, 17, 18, 19, 20, 21, 22, 23] [0, 1, 2, 3, 4] [0, 1, 2, 3, 4, 5, 6, 7, 8, 9, 10, 11, 12, 13, 14, 15, 16, 17, 18, 19, 20, 21, 22, 23] rfl rfl (by decide) (by decide) rfl (by decide) (fun H locs hP hD hS => ?_)
  refine W.widen (k := c0 + 1) (n := s0 + 6) (by omega) (by omega) ?_
  refine lv_iload hx hb dL_law_146 (lv_at hl 1 rfl) ?_
  refine lv_icmp_eq (tgt := 153) hx hb dL_law_148 rfl (fun cd6 => ?_) (fun cd6 => ?_)
  · replace hm := zt cd6 hm
    refine lv_iload hx hb dL_law_153 (lv_at hl 1 rfl) ?_
    refine lv_if_ne (tgt := 170) hx hb dL_law_155 rfl (fun cd7 => ?_) (fun cd7 => ?_)
    · replace hm := zf cd7 hm
      refine lv_goto (tgt := 588) hx hb dL_law_170 rfl ?_
      cases hm
      refine W.widen (k := c0 + 1) (n := s0 + 6) (by omega) (by omega) ?_
      exact kk _ _ _ hP hD hS (lv_sub hl [2, 3, 4, 5, 6] rfl)
    · replace hm := zt cd7 hm
      refine lv_aload_n hx hb dL_law_158 rfl (lv_at hl 5 rfl) ?_
      refine lv_iconst (v := 0) hx hb dL_law_159 (by decide) ?_
      obtain ⟨hi8, hm⟩ := zix_s hm
      refine va_lald (i := 0) (f := ov) (n := 1) hx hb hK hP 4 2 rfl rfl hi8 dL_law_160 ?_
      refine lv_iload hx hb dL_law_161 (lv_at hl 0 rfl) ?_
      refine lv_i2l (v := ((q4.1).toInt64)) hx hb dL_law_163 rfl ?_
      refine W.lcmp (x := (ov (0 : Int32).toNatClampNeg)) (y := ((q4.1).toInt64)) hx hb dL_law_164 ?_
      refine lv_if_eq (tgt := 170) hx hb dL_law_165 rfl (fun cd9 => ?_) (fun cd9 => ?_)
      · replace hm := zt cd9 hm
        refine lv_goto (tgt := 588) hx hb dL_law_170 rfl ?_
        cases hm
        refine W.widen (k := c0 + 1) (n := s0 + 6) (by omega) (by omega) ?_
        exact kk _ _ _ hP hD hS (lv_sub hl [2, 3, 4, 5, 6] rfl)
      · replace hm := zf cd9 hm
        refine lv_iconst (v := 0) hx hb dL_law_168 (by decide) ?_
        cases hm
  · replace hm := zf cd6 hm
    refine lv_iconst (v := 0) hx hb dL_law_151 (by decide) ?_
    cases hm

def m_F_L_declare_i2 (xs : Nat → Int32) (L : Nat) (x4 : Int32) (pv : Nat → Int32) (y : Nat → Int32) (sv : Nat → Int32) (sr : Nat → Int32) (nf : Nat → Option Nat) (tf : Nat → Option Nat) (ef : Nat → Option Nat) (dc : Nat → Option Nat) (vn : Nat → Int32) (bn : Nat → Int32) (vt : Nat → Int32) (bt : Nat → Int32) (v : Nat → Int32) (b : Nat → Int32) (rw : Nat → Int32) (pw : Nat → Int32) (ov : Nat → Int64) (mv : Nat → Int32) (mu : Nat → Nat → Int32)  : Option ((Nat → Int32) × (Nat → Int32) × (Nat → Int32) × (Nat → Int32) × (Nat → Int32) × (Nat → Int32) × (Nat → Int32) × (Nat → Int32) × (Nat → Int32) × (Nat → Nat → Int32)) := zix (x4 + 1) L ((m_L_declare_i2 (xs (x4 + 1).toNatClampNeg) pv y sv sr nf tf ef dc vn bn vt bt v b rw pw).bind (fun q2 => zix (x4 + 1) L ((m_M_declare (xs (x4 + 1).toNatClampNeg) mv mu).bind (fun q4 => (m_M_thrown q4.2.1 q4.2.2).bind (fun q5 => (if q5 = q2.1 then (if q2.1 = 0 then zix 0 1 ((if (lg_cmp (ov (0 : Int32).toNatClampNeg) ((q4.1).toInt64)) = 0 then (some (q2.2.1, q2.2.2.1, q2.2.2.2.1, q2.2.2.2.2.1, q2.2.2.2.2.2.1, q2.2.2.2.2.2.2.1, q2.2.2.2.2.2.2.2.1, q2.2.2.2.2.2.2.2.2, q4.2.1, q4.2.2)) else none)) else (some (q2.2.1, q2.2.2.1, q2.2.2.2.1, q2.2.2.2.2.1, q2.2.2.2.2.2.1, q2.2.2.2.2.2.2.1, q2.2.2.2.2.2.2.2.1, q2.2.2.2.2.2.2.2.2, q4.2.1, q4.2.2))) else none))))))
set_option maxRecDepth 100000 in
set_option maxHeartbeats 4000000 in
theorem f_F_L_declare_i2 {p : Program} {l : Launch} {e : Env} {s : State} {m : MethodId} {args : Array Value} {below : List Frame} {meth : Method} {c : Code} {D : va_G} {w0 : va_W} {H0 : Heap} {Q : State → Prop} {sb L : Nat} {xs : Nat → Int32} {x4 : Int32} {c0 s0 : Nat} (aQ aY aS rS aNs aTs aEs aDc aNn bNn aTt bTt aE bE rE pE aO : Nat) (ad : Nat → Nat) (cy cs cn ct ce cd c1n c1t c1 c2 c3 co : ClassId) (ca : Nat → ClassId) (pv : Nat → Int32) (y : Nat → Int32) (sv : Nat → Int32) (sr : Nat → Int32) (nf : Nat → Option Nat) (tf : Nat → Option Nat) (ef : Nat → Option Nat) (dc : Nat → Option Nat) (vn : Nat → Int32) (bn : Nat → Int32) (vt : Nat → Int32) (bt : Nat → Int32) (v : Nat → Int32) (b : Nat → Int32) (rw : Nat → Int32) (pw : Nat → Int32) (ov : Nat → Int64) (mv : Nat → Int32) (mu : Nat → Nat → Int32) (G : zG p s m args meth c cL_law RL 8 (some .boolean)) (hK : va_K D vwCl (wQAoOM_t cy cs cn ct ce cd c1n c1t c1 c2 c3 co ca) s) (hX : zW (fun q => s.heap.size ≤ q) s) (hl0 : l.stackTraces = false) (hSg : va_S (fun q => s.heap.size ≤ q) s.heap H0 []) (hAs : ∀ q, (va_A w0 H0.size) q → s.heap.size ≤ q) (hsb : va_X sb L xs s H0) (hbl : sb < H0.size) (hbA : ¬ (va_A w0 H0.size) sb) (hc0 : c0 + 1 ≤ 601024) (hs0 : s0 + 6 ≤ 7293034) (hdN : nf (pv 7).toNatClampNeg = some aNn) (hdT : tf (pv 7).toNatClampNeg = some aTt) (hdE : ef (pv 7).toNatClampNeg = some aE) {res : (Nat → Int32) × (Nat → Int32) × (Nat → Int32) × (Nat → Int32) × (Nat → Int32) × (Nat → Int32) × (Nat → Int32) × (Nat → Int32) × (Nat → Int32) × (Nat → Nat → Int32)} (hm : m_F_L_declare_i2 xs L x4 pv y sv sr nf tf ef dc vn bn vt bt v b rw pw ov mv mu  = some res)
    (kk : ∀ (H : Heap) (locs : List Loc) (ls : Array Slot), va_P D vwCl (wQAoOM aQ aY aS rS aNs aTs aEs aDc aNn bNn aTt bTt aE bE rE pE aO ad cy cs cn ct ce cd c1n c1t c1 c2 c3 co ca res.1 y res.2.1 res.2.2.1 nf tf ef dc res.2.2.2.1 bn res.2.2.2.2.1 bt res.2.2.2.2.2.1 b res.2.2.2.2.2.2.1 res.2.2.2.2.2.2.2.1 ov res.2.2.2.2.2.2.2.2.1 res.2.2.2.2.2.2.2.2.2) H → va_D (va_A w0 H0.size) (wQAoOM aQ aY aS rS aNs aTs aEs aDc aNn bNn aTt bTt aE bE rE pE aO ad cy cs cn ct ce cd c1n c1t c1 c2 c3 co ca res.1 y res.2.1 res.2.2.1 nf tf ef dc res.2.2.2.1 bn res.2.2.2.2.1 bt res.2.2.2.2.2.1 b res.2.2.2.2.2.2.1 res.2.2.2.2.2.2.2.1 ov res.2.2.2.2.2.2.2.2.1 res.2.2.2.2.2.2.2.2.2) → va_S (va_A w0 H0.size) H0 H locs → lv_has ls 8 [(0, .ref sb), (1, .ref aQ), (2, .ref (ad 0)), (3, .ref aO), (4, .int x4)] → W p l e room_1 s m args below meth c H locs (c0 + 1) (s0 + 6) Q (F0 m 588 ls []))
    (H : Heap) (locs : List Loc) (ls : Array Slot) (hP : va_P D vwCl (wQAoOM aQ aY aS rS aNs aTs aEs aDc aNn bNn aTt bTt aE bE rE pE aO ad cy cs cn ct ce cd c1n c1t c1 c2 c3 co ca pv y sv sr nf tf ef dc vn bn vt bt v b rw pw ov mv mu) H) (hD : va_D (va_A w0 H0.size) (wQAoOM aQ aY aS rS aNs aTs aEs aDc aNn bNn aTt bTt aE bE rE pE aO ad cy cs cn ct ce cd c1n c1t c1 c2 c3 co ca pv y sv sr nf tf ef dc vn bn vt bt v b rw pw ov mv mu)) (hS : va_S (va_A w0 H0.size) H0 H locs) (hl : lv_has ls 8 [(0, .ref sb), (1, .ref aQ), (2, .ref (ad 0)), (3, .ref aO), (4, .int x4)]) : W p l e room_1 s m args below meth c H locs c0 s0 Q (F0 m 117 ls []) := by
  obtain ⟨hx, hb, hr, hml, hown, hw, hlk⟩ := G
  have hA : ∀ q, H0.size ≤ q → (va_A w0 H0.size) q := fun q h => Or.inr h
  unfold m_F_L_declare_i2 at hm
  refine lv_aload_n hx hb dL_law_117 rfl (lv_at hl 1 rfl) ?_
  refine lv_aload_n hx hb dL_law_118 rfl (lv_at hl 0 rfl) ?_
  refine lv_iload hx hb dL_law_119 (lv_at hl 4 rfl) ?_
  refine lv_iconst (v := 1) hx hb dL_law_121 (by decide) ?_
  refine lv_iadd hx hb dL_law_122 ?_
  obtain ⟨hi1, hm⟩ := zix_s hm
  refine va_sld (i := (x4 + 1)) (xs := xs) hx hb hsb hbl hbA hS hi1 dL_law_123 ?_
  refine lv_aload_n hx hb dL_law_124 rfl (lv_at hl 3 rfl) ?_
  obtain ⟨q2, hq2, hm⟩ := zbind hm
  have hPc := hP.sub (ws' := (wQAo aQ aY aS rS aNs aTs aEs aDc aNn bNn aTt bTt aE bE rE pE aO cy cs cn ct ce cd c1n c1t c1 c2 c3 pv y sv sr nf tf ef dc vn bn vt bt v b rw pw)) [0, 1, 2, 3, 4, 5, 6, 7, 8, 9, 10, 11, 12, 13, 14, 15] rfl
  have hDc := hD.sub (ws' := (wQAo aQ aY aS rS aNs aTs aEs aDc aNn bNn aTt bTt aE bE rE pE aO cy cs cn ct ce cd c1n c1t c1 c2 c3 pv y sv sr nf tf ef dc vn bn vt bt v b rw pw)) [0, 1, 2, 3, 4, 5, 6, 7, 8, 9, 10, 11, 12, 13, 14, 15] (by decide) rfl
  have hKc := hK.sub (tys' := wQAo_t cy cs cn ct ce cd c1n c1t c1 c2 c3) [0, 1, 2, 3, 4, 5, 6, 7, 8, 9, 10] rfl
  have hFc := va_free (wc := (wQAo aQ aY aS rS aNs aTs aEs aDc aNn bNn aTt bTt aE bE rE pE aO cy cs cn ct ce cd c1n c1t c1 c2 c3 pv y sv sr nf tf ef dc vn bn vt bt v b rw pw)) hD hS hA [0, 1, 2, 3, 4, 5, 6, 7, 8, 9, 10, 11, 12, 13, 14, 15] rfl
  refine zlSi (wr := [(aO, .inl (co, 1, .inr (.inl ov))), ((ad 0), .inr (5, [.int (mv 0), .int (mv 1), .ref (ad 1), .int (mv 3), .ref (ad 2), .ref (ad 3), .ref (ad 4), .ref (ad 5), .ref (ad 6), .ref (ad 7), .ref (ad 8), .ref (ad 9), .ref (ad 10), .ref (ad 11), .ref (ad 12), .ref (ad 13), .ref (ad 14), .ref (ad 15), .ref (ad 16), .ref (ad 17), .int (mv 20), .int (mv 21), .ref (ad 18), .int (mv 23)])), ((ad 1), .inl ((ca 1), 24, .inl (mu 1))), ((ad 2), .inl ((ca 2), 9, .inl (mu 2))), ((ad 3), .inl ((ca 3), 216, .inl (mu 3))), ((ad 4), .inl ((ca 4), 216, .inl (mu 4))), ((ad 5), .inl ((ca 5), 9, .inl (mu 5))), ((ad 6), .inl ((ca 6), 9, .inl (mu 6))), ((ad 7), .inl ((ca 7), 9, .inl (mu 7))), ((ad 8), .inl ((ca 8), 9, .inl (mu 8))), ((ad 9), .inl ((ca 9), 9, .inl (mu 9))), ((ad 10), .inl ((ca 10), 9, .inl (mu 10))), ((ad 11), .inl ((ca 11), 9, .inl (mu 11))), ((ad 12), .inl ((ca 12), 9, .inl (mu 12))), ((ad 13), .inl ((ca 13), 9, .inl (mu 13))), ((ad 14), .inl ((ca 14), 9, .inl (mu 14))), ((ad 15), .inl ((ca 15), 9, .inl (mu 15))), ((ad 16), .inl ((ca 16), 256, .inl (mu 16))), ((ad 17), .inl ((ca 17), 48, .inl (mu 17))), ((ad 18), .inl ((ca 18), 32, .inl (mu 18)))]) (w1 := (wQAo aQ aY aS rS aNs aTs aEs aDc aNn bNn aTt bTt aE bE rE pE aO cy cs cn ct ce cd c1n c1t c1 c2 c3 q2.2.1 y q2.2.2.1 q2.2.2.2.1 nf tf ef dc q2.2.2.2.2.1 bn q2.2.2.2.2.2.1 bt q2.2.2.2.2.2.2.1 b q2.2.2.2.2.2.2.2.1 q2.2.2.2.2.2.2.2.2)) (w' := (wQAoOM aQ aY aS rS aNs aTs aEs aDc aNn bNn aTt bTt aE bE rE pE aO ad cy cs cn ct ce cd c1n c1t c1 c2 c3 co ca q2.2.1 y q2.2.2.1 q2.2.2.2.1 nf tf ef dc q2.2.2.2.2.1 bn q2.2.2.2.2.2.1 bt q2.2.2.2.2.2.2.1 b q2.2.2.2.2.2.2.2.1 q2.2.2.2.2.2.2.2.2 ov mv mu)) (vx_runSW (As := [.ref aQ, .int (xs (x4 + 1).toNatClampNeg), .ref aO]) (rest := []) ⟨hx, hb, hml, hown, hw⟩ (k_L_declare_i2 l D aQ aY aS rS aNs aTs aEs aDc aNn bNn aTt bTt aE bE rE pE aO cy cs cn ct ce cd c1n c1t c1 c2 c3 _ (xs (x4 + 1).toNatClampNeg) pv y sv sr nf tf ef dc vn bn vt bt v b rw pw hl0 hdN hdT hdE q2 hq2) (vx_cwSW 3 hw (zgoodW (List.forall_mem_cons.mpr ⟨zw586, List.forall_mem_cons.mpr ⟨zw588, List.forall_mem_cons.mpr ⟨zw587, fun _ h => absurd h List.not_mem_nil⟩⟩⟩) zw589) rfl rfl rfl hdL_declare ⟨Nat.le_of_ble_eq_true rfl, Nat.le_of_ble_eq_true rfl⟩) (zpre zW_ok (A := fun q => s.heap.size ≤ q) hX (zglob hSg hAs hS) (fun q h => hAs q (hFc q h)) hPc hKc (hDc.weaken (fun _ _ _ h => hAs _ h))) rfl rfl hl.1 rfl (lv_room (Nat.le_of_ble_eq_true rfl)) dL_law_125 ⟨by show c0 + 1 ≤ 601024; omega, by show s0 + 6 ≤ 7293034; omega⟩) hP hD hS hFc [0, 1, 2, 3, 4, 5, 6, 7, 8, 9, 10, 11, 12, 13, 14, 15] [16, 17, 18, 19, 20, 21, 22, 23, 24, 25, 26, 27, 28, 29, 30, 31, 32, 33, 34, 35] [20, 21, 22, 23, 24, 25, 26, 27, 28, 29, 30, 31, 32, 33, 34, 35, 0, 1, 2, 3, 4, 5, 6, 7, 8, 9, 10, 11, 12, 13, 14, 15, 16, 17, 18, 19] rfl rfl (by decide) (by decide) rfl (by decide) (fun H locs hP hD hS => ?_)
  refine W.widen (k := c0 + 1) (n := s0 + 6) (by omega) (by omega) ?_
  refine lv_istore (lv' := [(5, .int q2.1), (0, .ref sb), (1, .ref aQ), (2, .ref (ad 0)), (3, .ref aO), (4, .int x4)]) hx hb dL_law_128 hl (by decide) rfl (fun ls hl => ?_)
  refine lv_aload_n hx hb dL_law_130 rfl (lv_at hl 3 rfl) ?_
  refine lv_aload_n hx hb dL_law_131 rfl (lv_at hl 1 rfl) ?_
  refine lv_iload hx hb dL_law_132 (lv_at hl 5 rfl) ?_
  refine lv_iconst (v := 1) hx hb dL_law_134 (by decide) ?_
  refine lv_iadd hx hb dL_law_135 ?_
  obtain ⟨hi3, hm⟩ := zix_s hm
  refine va_sld (i := (x4 + 1)) (xs := xs) hx hb hsb hbl hbA hS hi3 dL_law_136 ?_
  obtain ⟨q4, hq4, hm⟩ := zbind hm
  have hPc := hP.sub (ws' := (wM ad ca mv mu)) [17, 18, 19, 20, 21, 22, 23, 24, 25, 26, 27, 28, 29, 30, 31, 32, 33, 34, 35] rfl
  have hDc := hD.sub (ws' := (wM ad ca mv mu)) [17, 18, 19, 20, 21, 22, 23, 24, 25, 26, 27, 28, 29, 30, 31, 32, 33, 34, 35] (by decide) rfl
  have hKc := hK.sub (tys' := wM_t ca) [12, 13, 14, 15, 16, 17, 18, 19, 20, 21, 22, 23, 24, 25, 26, 27, 28, 29] rfl
  have hFc := va_free (wc := (wM ad ca mv mu)) hD hS hA [17, 18, 19, 20, 21, 22, 23, 24, 25, 26, 27, 28, 29, 30, 31, 32, 33, 34, 35] rfl
  refine zlSi (wr := [(aQ, .inr (4, [.ref aY, .int (q2.2.1 1), .ref aS, .ref aNs, .ref aTs, .ref aEs, .ref aDc, .int (q2.2.1 7)])), (aY, .inl (cy, 24, .inl y)), (aS, .inr (2, [.ref rS, .int (q2.2.2.1 1)])), (rS, .inl (cs, 24, .inl q2.2.2.2.1)), (aNs, .inl (cn, 8, .inr (.inr (.inr (.inr nf))))), (aTs, .inl (ct, 8, .inr (.inr (.inr (.inr tf))))), (aEs, .inl (ce, 8, .inr (.inr (.inr (.inr ef))))), (aDc, .inl (cd, 8, .inr (.inr (.inr (.inr dc))))), (aNn, .inr (1, [.ref bNn, .int (q2.2.2.2.2.1 1), .int (q2.2.2.2.2.1 2), .int (q2.2.2.2.2.1 3), .int (q2.2.2.2.2.1 4), .int (q2.2.2.2.2.1 5), .int (q2.2.2.2.2.1 6), .int (q2.2.2.2.2.1 7)])), (bNn, .inl (c1n, 25, .inl bn)), (aTt, .inr (3, [.ref bTt, .int (q2.2.2.2.2.2.1 1), .int (q2.2.2.2.2.2.1 2), .int (q2.2.2.2.2.2.1 3), .int (q2.2.2.2.2.2.1 4)])), (bTt, .inl (c1t, 25, .inl bt)), (aE, .inr (0, [.ref bE, .int (q2.2.2.2.2.2.2.1 1), .int (q2.2.2.2.2.2.2.1 2), .int (q2.2.2.2.2.2.2.1 3), .int (q2.2.2.2.2.2.2.1 4), .ref rE, .ref pE, .int (q2.2.2.2.2.2.2.1 7), .int (q2.2.2.2.2.2.2.1 8), .int (q2.2.2.2.2.2.2.1 9), .int (q2.2.2.2.2.2.2.1 10), .int (q2.2.2.2.2.2.2.1 11), .int (q2.2.2.2.2.2.2.1 12), .int (q2.2.2.2.2.2.2.1 13), .int (q2.2.2.2.2.2.2.1 14), .int (q2.2.2.2.2.2.2.1 15)])), (bE, .inl (c1, 25, .inl b)), (rE, .inl (c2, 24, .inl q2.2.2.2.2.2.2.2.1)), (pE, .inl (c3, 24, .inl q2.2.2.2.2.2.2.2.2)), (aO, .inl (co, 1, .inr (.inl ov)))]) (w1 := (wM ad ca q4.2.1 q4.2.2)) (w' := (wQAoOM aQ aY aS rS aNs aTs aEs aDc aNn bNn aTt bTt aE bE rE pE aO ad cy cs cn ct ce cd c1n c1t c1 c2 c3 co ca q2.2.1 y q2.2.2.1 q2.2.2.2.1 nf tf ef dc q2.2.2.2.2.1 bn q2.2.2.2.2.2.1 bt q2.2.2.2.2.2.2.1 b q2.2.2.2.2.2.2.2.1 q2.2.2.2.2.2.2.2.2 ov q4.2.1 q4.2.2)) (va_runV (As := [.int (xs (x4 + 1).toNatClampNeg)]) (rest := []) ⟨hx, hb, hml, hown, hw⟩ (k_M_declare l D ad ca _ (xs (x4 + 1).toNatClampNeg) mv mu  q4 hq4) (zcV (C := RX6) 1 hw (zgood zw592) rfl rfl rfl zw7 zw590 zw591 zw593 hdX6_declare ⟨Nat.le_of_ble_eq_true rfl, Nat.le_of_ble_eq_true rfl⟩) (zpreV (zpre zN_ok (A := fun q => s.heap.size ≤ q) trivial (zglob hSg hAs hS) (fun q h => hAs q (hFc q h)) hPc hKc (hDc.weaken (fun _ _ _ h => hAs _ h))) (va_recv hK hP rfl (q0 := 17) rfl)) rfl rfl hl.1 rfl (lv_room (Nat.le_of_ble_eq_true rfl)) dL_law_137 ⟨by show c0 + 1 ≤ 601024; omega, by show s0 + 6 ≤ 7293034; omega⟩) hP hD hS hFc [17, 18, 19, 20, 21, 22, 23, 24, 25, 26, 27, 28, 29, 30, 31, 32, 33, 34, 35] [0, 1, 2, 3, 4, 5, 6, 7, 8, 9, 10, 11, 12, 13, 14, 15, 16] [0, 1, 2, 3, 4, 5, 6, 7, 8, 9, 10, 11, 12, 13, 14, 15, 16, 17, 18, 19, 20, 21, 22, 23, 24, 25, 26, 27, 28, 29, 30, 31, 32, 33, 34, 35] rfl rfl (by decide) (by decide) rfl (by decide) (fun H locs hP hD hS => ?_)
  refine W.widen (k := c0 + 1) (n := s0 + 6) (by omega) (by omega) ?_
  refine lv_istore (lv' := [(6, .int q4.1), (5, .int q2.1), (0, .ref sb), (1, .ref aQ), (2, .ref (ad 0)), (3, .ref aO), (4, .int x4)]) hx hb dL_law_140 hl (by decide) rfl (fun ls hl => ?_)
  refine lv_aload_n hx hb dL_law_142 rfl (lv_at hl 4 rfl) ?_
  obtain ⟨q5, hq5, hm⟩ := zbind hm
  have hPc := hP.sub (ws' := (wM ad ca q4.2.1 q4.2.2)) [17, 18, 19, 20, 21, 22, 23, 24, 25, 26, 27, 28, 29, 30, 31, 32, 33, 34, 35] rfl
  have hDc := hD.sub (ws' := (wM ad ca q4.2.1 q4.2.2)) [17, 18, 19, 20, 21, 22, 23, 24, 25, 26, 27, 28, 29, 30, 31, 32, 33, 34, 35] (by decide) rfl
  have hKc := hK.sub (tys' := wM_t ca) [12, 13, 14, 15, 16, 17, 18, 19, 20, 21, 22, 23, 24, 25, 26, 27, 28, 29] rfl
  have hFc := va_free (wc := (wM ad ca q4.2.1 q4.2.2)) hD hS hA [17, 18, 19, 20, 21, 22, 23, 24, 25, 26, 27, 28, 29, 30, 31, 32, 33, 34, 35] rfl
  refine zlSi (wr := [(aQ, .inr (4, [.ref aY, .int (q2.2.1 1), .ref aS, .ref aNs, .ref aTs, .ref aEs, .ref aDc, .int (q2.2.1 7)])), (aY, .inl (cy, 24, .inl y)), (aS, .inr (2, [.ref rS, .int (q2.2.2.1 1)])), (rS, .inl (cs, 24, .inl q2.2.2.2.1)), (aNs, .inl (cn, 8, .inr (.inr (.inr (.inr nf))))), (aTs, .inl (ct, 8, .inr (.inr (.inr (.inr tf))))), (aEs, .inl (ce, 8, .inr (.inr (.inr (.inr ef))))), (aDc, .inl (cd, 8, .inr (.inr (.inr (.inr dc))))), (aNn, .inr (1, [.ref bNn, .int (q2.2.2.2.2.1 1), .int (q2.2.2.2.2.1 2), .int (q2.2.2.2.2.1 3), .int (q2.2.2.2.2.1 4), .int (q2.2.2.2.2.1 5), .int (q2.2.2.2.2.1 6), .int (q2.2.2.2.2.1 7)])), (bNn, .inl (c1n, 25, .inl bn)), (aTt, .inr (3, [.ref bTt, .int (q2.2.2.2.2.2.1 1), .int (q2.2.2.2.2.2.1 2), .int (q2.2.2.2.2.2.1 3), .int (q2.2.2.2.2.2.1 4)])), (bTt, .inl (c1t, 25, .inl bt)), (aE, .inr (0, [.ref bE, .int (q2.2.2.2.2.2.2.1 1), .int (q2.2.2.2.2.2.2.1 2), .int (q2.2.2.2.2.2.2.1 3), .int (q2.2.2.2.2.2.2.1 4), .ref rE, .ref pE, .int (q2.2.2.2.2.2.2.1 7), .int (q2.2.2.2.2.2.2.1 8), .int (q2.2.2.2.2.2.2.1 9), .int (q2.2.2.2.2.2.2.1 10), .int (q2.2.2.2.2.2.2.1 11), .int (q2.2.2.2.2.2.2.1 12), .int (q2.2.2.2.2.2.2.1 13), .int (q2.2.2.2.2.2.2.1 14), .int (q2.2.2.2.2.2.2.1 15)])), (bE, .inl (c1, 25, .inl b)), (rE, .inl (c2, 24, .inl q2.2.2.2.2.2.2.2.1)), (pE, .inl (c3, 24, .inl q2.2.2.2.2.2.2.2.2)), (aO, .inl (co, 1, .inr (.inl ov)))]) (w1 := (wM ad ca q4.2.1 q4.2.2)) (w' := (wQAoOM aQ aY aS rS aNs aTs aEs aDc aNn bNn aTt bTt aE bE rE pE aO ad cy cs cn ct ce cd c1n c1t c1 c2 c3 co ca q2.2.1 y q2.2.2.1 q2.2.2.2.1 nf tf ef dc q2.2.2.2.2.1 bn q2.2.2.2.2.2.1 bt q2.2.2.2.2.2.2.1 b q2.2.2.2.2.2.2.2.1 q2.2.2.2.2.2.2.2.2 ov q4.2.1 q4.2.2)) (va_runV (As := []) (rest := []) ⟨hx, hb, hml, hown, hw⟩ (k_M_thrown l D ad ca _ q4.2.1 q4.2.2  q5 hq5) (zcV (C := RX6) 0 hw (zgood zw596) rfl rfl rfl zw7 zw594 zw595 zw597 hdX6_thrown ⟨Nat.le_of_ble_eq_true rfl, Nat.le_of_ble_eq_true rfl⟩) (zpreV (zpre zN_ok (A := fun q => s.heap.size ≤ q) trivial (zglob hSg hAs hS) (fun q h => hAs q (hFc q h)) hPc hKc (hDc.weaken (fun _ _ _ h => hAs _ h))) (va_recv hK hP rfl (q0 := 17) rfl)) rfl rfl hl.1 rfl (lv_room (Nat.le_of_ble_eq_true rfl)) dL_law_143 ⟨by show c0 + 1 ≤ 601024; omega, by show s0 + 6 ≤ 7293034; omega⟩) hP hD hS hFc [17, 18, 19, 20, 21, 22, 23, 24, 25, 26, 27, 28, 29, 30, 31, 32, 33, 34, 35] [0, 1, 2, 3, 4, 5, 6, 7, 8, 9, 10, 11, 12, 13, 14, 15, 16] [0, 1, 2, 3, 4, 5, 6, 7, 8, 9, 10, 11, 12, 13, 14, 15, 16, 17, 18, 19, 20, 21, 22, 23, 24, 25, 26, 27, 28, 29, 30, 31, 32, 33, 34, 35] rfl rfl (by decide) (by decide) rfl (by decide) (fun H locs hP hD hS => ?_)
  refine W.widen (k := c0 + 1) (n := s0 + 6) (by omega) (by omega) ?_
  refine lv_iload hx hb dL_law_146 (lv_at hl 1 rfl) ?_
  refine lv_icmp_eq (tgt := 153) hx hb dL_law_148 rfl (fun cd6 => ?_) (fun cd6 => ?_)
  · replace hm := zt cd6 hm
    refine lv_iload hx hb dL_law_153 (lv_at hl 1 rfl) ?_
    refine lv_if_ne (tgt := 170) hx hb dL_law_155 rfl (fun cd7 => ?_) (fun cd7 => ?_)
    · replace hm := zf cd7 hm
      refine lv_goto (tgt := 588) hx hb dL_law_170 rfl ?_
      cases hm
      refine W.widen (k := c0 + 1) (n := s0 + 6) (by omega) (by omega) ?_
      exact kk _ _ _ hP hD hS (lv_sub hl [2, 3, 4, 5, 6] rfl)
    · replace hm := zt cd7 hm
      refine lv_aload_n hx hb dL_law_158 rfl (lv_at hl 5 rfl) ?_
      refine lv_iconst (v := 0) hx hb dL_law_159 (by decide) ?_
      obtain ⟨hi8, hm⟩ := zix_s hm
      refine va_lald (i := 0) (f := ov) (n := 1) hx hb hK hP 16 11 rfl rfl hi8 dL_law_160 ?_
      refine lv_iload hx hb dL_law_161 (lv_at hl 0 rfl) ?_
      refine lv_i2l (v := ((q4.1).toInt64)) hx hb dL_law_163 rfl ?_
      refine W.lcmp (x := (ov (0 : Int32).toNatClampNeg)) (y := ((q4.1).toInt64)) hx hb dL_law_164 ?_
      refine lv_if_eq (tgt := 170) hx hb dL_law_165 rfl (fun cd9 => ?_) (fun cd9 => ?_)
      · replace hm := zt cd9 hm
        refine lv_goto (tgt := 588) hx hb dL_law_170 rfl ?_
        cases hm
        refine W.widen (k := c0 + 1) (n := s0 + 6) (by omega) (by omega) ?_
        exact kk _ _ _ hP hD hS (lv_sub hl [2, 3, 4, 5, 6] rfl)
      · replace hm := zf cd9 hm
        refine lv_iconst (v := 0) hx hb dL_law_168 (by decide) ?_
        cases hm
  · replace hm := zf cd6 hm
    refine lv_iconst (v := 0) hx hb dL_law_151 (by decide) ?_
    cases hm

def m_F_L_look_N (xs : Nat → Int32) (L : Nat) (x4 : Int32) (pv : Nat → Int32) (dc : Nat → Option Nat) (v : Nat → Int32) (b : Nat → Int32) (ov : Nat → Int64) (mv : Nat → Int32) (mu : Nat → Nat → Int32)  : Option ((Nat → Int64) × (Nat → Int32)) := zix (x4 + 1) L (zix (x4 + 2) L ((m_L_look_N (xs (x4 + 1).toNatClampNeg) (xs (x4 + 2).toNatClampNeg) pv dc v b ov).bind (fun q3 => zix (x4 + 1) L (zix (x4 + 2) L ((m_M_look (xs (x4 + 1).toNatClampNeg) (xs (x4 + 2).toNatClampNeg) mv mu).bind (fun q6 => (m_M_thrown q6.2 mu).bind (fun q7 => (if q7 = q3.1 then (if q3.1 = 0 then zix 0 1 ((if (lg_cmp (q3.2 (0 : Int32).toNatClampNeg) ((q6.1).toInt64)) = 0 then (some (q3.2, q6.2)) else none)) else (some (q3.2, q6.2))) else none))))))))
set_option maxRecDepth 100000 in
set_option maxHeartbeats 4000000 in
theorem f_F_L_look_N {p : Program} {l : Launch} {e : Env} {s : State} {m : MethodId} {args : Array Value} {below : List Frame} {meth : Method} {c : Code} {D : va_G} {w0 : va_W} {H0 : Heap} {Q : State → Prop} {sb L : Nat} {xs : Nat → Int32} {x4 : Int32} {c0 s0 : Nat} (aQ aY aS aNs aTs aEs aDc aN bN aO : Nat) (ad : Nat → Nat) (cd c1 co : ClassId) (ca : Nat → ClassId) (pv : Nat → Int32) (dc : Nat → Option Nat) (v : Nat → Int32) (b : Nat → Int32) (ov : Nat → Int64) (mv : Nat → Int32) (mu : Nat → Nat → Int32) (G : zG p s m args meth c cL_law RL 8 (some .boolean)) (hK : va_K D vwCl (wQDNOM_t cd c1 co ca) s) (hX : zW (fun q => s.heap.size ≤ q) s) (hl0 : l.stackTraces = false) (hSg : va_S (fun q => s.heap.size ≤ q) s.heap H0 []) (hAs : ∀ q, (va_A w0 H0.size) q → s.heap.size ≤ q) (hsb : va_X sb L xs s H0) (hbl : sb < H0.size) (hbA : ¬ (va_A w0 H0.size) sb) (hc0 : c0 + 1 ≤ 601024) (hs0 : s0 + 6 ≤ 7293034) (hd : dc (xs (x4 + 1).toNatClampNeg).toNatClampNeg = some aN) {res : (Nat → Int64) × (Nat → Int32)} (hm : m_F_L_look_N xs L x4 pv dc v b ov mv mu  = some res)
    (kk : ∀ (H : Heap) (locs : List Loc) (ls : Array Slot), va_P D vwCl (wQDNOM aQ aY aS aNs aTs aEs aDc aN bN aO ad cd c1 co ca pv dc v b res.1 res.2 mu) H → va_D (va_A w0 H0.size) (wQDNOM aQ aY aS aNs aTs aEs aDc aN bN aO ad cd c1 co ca pv dc v b res.1 res.2 mu) → va_S (va_A w0 H0.size) H0 H locs → lv_has ls 8 [(0, .ref sb), (1, .ref aQ), (2, .ref (ad 0)), (3, .ref aO), (4, .int x4)] → W p l e room_1 s m args below meth c H locs (c0 + 1) (s0 + 6) Q (F0 m 588 ls []))
    (H : Heap) (locs : List Loc) (ls : Array Slot) (hP : va_P D vwCl (wQDNOM aQ aY aS aNs aTs aEs aDc aN bN aO ad cd c1 co ca pv dc v b ov mv mu) H) (hD : va_D (va_A w0 H0.size) (wQDNOM aQ aY aS aNs aTs aEs aDc aN bN aO ad cd c1 co ca pv dc v b ov mv mu)) (hS : va_S (va_A w0 H0.size) H0 H locs) (hl : lv_has ls 8 [(0, .ref sb), (1, .ref aQ), (2, .ref (ad 0)), (3, .ref aO), (4, .int x4)]) : W p l e room_1 s m args below meth c H locs c0 s0 Q (F0 m 197 ls []) := by
  obtain ⟨hx, hb, hr, hml, hown, hw, hlk⟩ := G
  have hA : ∀ q, H0.size ≤ q → (va_A w0 H0.size) q := fun q h => Or.inr h
  unfold m_F_L_look_N at hm
  refine lv_aload_n hx hb dL_law_197 rfl (lv_at hl 1 rfl) ?_
  refine lv_aload_n hx hb dL_law_198 rfl (lv_at hl 0 rfl) ?_
  refine lv_iload hx hb dL_law_199 (lv_at hl 4 rfl) ?_
  refine lv_iconst (v := 1) hx hb dL_law_201 (by decide) ?_
  refine lv_iadd hx hb dL_law_202 ?_
  obtain ⟨hi1, hm⟩ := zix_s hm
  refine va_sld (i := (x4 + 1)) (xs := xs) hx hb hsb hbl hbA hS hi1 dL_law_203 ?_
  refine lv_aload_n hx hb dL_law_204 rfl (lv_at hl 0 rfl) ?_
  refine lv_iload hx hb dL_law_205 (lv_at hl 4 rfl) ?_
  refine lv_iconst (v := 2) hx hb dL_law_207 (by decide) ?_
  refine lv_iadd hx hb dL_law_208 ?_
  obtain ⟨hi2, hm⟩ := zix_s hm
  refine va_sld (i := (x4 + 2)) (xs := xs) hx hb hsb hbl hbA hS hi2 dL_law_209 ?_
  refine lv_aload_n hx hb dL_law_210 rfl (lv_at hl 3 rfl) ?_
  obtain ⟨q3, hq3, hm⟩ := zbind hm
  have hPc := hP.sub (ws' := (wQDNO aQ aY aS aNs aTs aEs aDc aN bN aO cd c1 co pv dc v b ov)) [0, 1, 2, 3, 4] rfl
  have hDc := hD.sub (ws' := (wQDNO aQ aY aS aNs aTs aEs aDc aN bN aO cd c1 co pv dc v b ov)) [0, 1, 2, 3, 4] (by decide) rfl
  have hKc := hK.sub (tys' := wQDNO_t cd c1 co) [0, 1, 2] rfl
  have hFc := va_free (wc := (wQDNO aQ aY aS aNs aTs aEs aDc aN bN aO cd c1 co pv dc v b ov)) hD hS hA [0, 1, 2, 3, 4] rfl
  refine zlSi (wr := [((ad 0), .inr (5, [.int (mv 0), .int (mv 1), .ref (ad 1), .int (mv 3), .ref (ad 2), .ref (ad 3), .ref (ad 4), .ref (ad 5), .ref (ad 6), .ref (ad 7), .ref (ad 8), .ref (ad 9), .ref (ad 10), .ref (ad 11), .ref (ad 12), .ref (ad 13), .ref (ad 14), .ref (ad 15), .ref (ad 16), .ref (ad 17), .int (mv 20), .int (mv 21), .ref (ad 18), .int (mv 23)])), ((ad 1), .inl ((ca 1), 24, .inl (mu 1))), ((ad 2), .inl ((ca 2), 9, .inl (mu 2))), ((ad 3), .inl ((ca 3), 216, .inl (mu 3))), ((ad 4), .inl ((ca 4), 216, .inl (mu 4))), ((ad 5), .inl ((ca 5), 9, .inl (mu 5))), ((ad 6), .inl ((ca 6), 9, .inl (mu 6))), ((ad 7), .inl ((ca 7), 9, .inl (mu 7))), ((ad 8), .inl ((ca 8), 9, .inl (mu 8))), ((ad 9), .inl ((ca 9), 9, .inl (mu 9))), ((ad 10), .inl ((ca 10), 9, .inl (mu 10))), ((ad 11), .inl ((ca 11), 9, .inl (mu 11))), ((ad 12), .inl ((ca 12), 9, .inl (mu 12))), ((ad 13), .inl ((ca 13), 9, .inl (mu 13))), ((ad 14), .inl ((ca 14), 9, .inl (mu 14))), ((ad 15), .inl ((ca 15), 9, .inl (mu 15))), ((ad 16), .inl ((ca 16), 256, .inl (mu 16))), ((ad 17), .inl ((ca 17), 48, .inl (mu 17))), ((ad 18), .inl ((ca 18), 32, .inl (mu 18)))]) (w1 := (wQDNO aQ aY aS aNs aTs aEs aDc aN bN aO cd c1 co pv dc v b q3.2)) (w' := (wQDNOM aQ aY aS aNs aTs aEs aDc aN bN aO ad cd c1 co ca pv dc v b q3.2 mv mu)) (vx_runSW (As := [.ref aQ, .int (xs (x4 + 1).toNatClampNeg), .int (xs (x4 + 2).toNatClampNeg), .ref aO]) (rest := []) ⟨hx, hb, hml, hown, hw⟩ (k_L_look_N l D aQ aY aS aNs aTs aEs aDc aN bN aO cd c1 co _ (xs (x4 + 1).toNatClampNeg) (xs (x4 + 2).toNatClampNeg) pv dc v b ov hd q3 hq3) (vx_cwSW 4 hw (zgoodW (List.forall_mem_cons.mpr ⟨zw614, List.forall_mem_cons.mpr ⟨zw615, List.forall_mem_cons.mpr ⟨zw587, fun _ h => absurd h List.not_mem_nil⟩⟩⟩) zw616) rfl rfl rfl hdL_look ⟨Nat.le_of_ble_eq_true rfl, Nat.le_of_ble_eq_true rfl⟩) (zpre zW_ok (A := fun q => s.heap.size ≤ q) hX (zglob hSg hAs hS) (fun q h => hAs q (hFc q h)) hPc hKc (hDc.weaken (fun _ _ _ h => hAs _ h))) rfl rfl hl.1 rfl (lv_room (Nat.le_of_ble_eq_true rfl)) dL_law_211 ⟨by show c0 + 0 ≤ 601024; omega, by show s0 + 0 ≤ 7293034; omega⟩) hP hD hS hFc [0, 1, 2, 3, 4] [5, 6, 7, 8, 9, 10, 11, 12, 13, 14, 15, 16, 17, 18, 19, 20, 21, 22, 23] [19, 20, 21, 22, 23, 0, 1, 2, 3, 4, 5, 6, 7, 8, 9, 10, 11, 12, 13, 14, 15, 16, 17, 18] rfl rfl (by decide) (by decide) rfl (by decide) (fun H locs hP hD hS => ?_)
  refine W.widen (k := c0 + 0) (n := s0 + 0) (by omega) (by omega) ?_
  refine lv_istore (lv' := [(5, .int q3.1), (0, .ref sb), (1, .ref aQ), (2, .ref (ad 0)), (3, .ref aO), (4, .int x4)]) hx hb dL_law_214 hl (by decide) rfl (fun ls hl => ?_)
  refine lv_aload_n hx hb dL_law_216 rfl (lv_at hl 3 rfl) ?_
  refine lv_aload_n hx hb dL_law_217 rfl (lv_at hl 1 rfl) ?_
  refine lv_iload hx hb dL_law_218 (lv_at hl 5 rfl) ?_
  refine lv_iconst (v := 1) hx hb dL_law_220 (by decide) ?_
  refine lv_iadd hx hb dL_law_221 ?_
  obtain ⟨hi4, hm⟩ := zix_s hm
  refine va_sld (i := (x4 + 1)) (xs := xs) hx hb hsb hbl hbA hS hi4 dL_law_222 ?_
  refine lv_aload_n hx hb dL_law_223 rfl (lv_at hl 1 rfl) ?_
  refine lv_iload hx hb dL_law_224 (lv_at hl 5 rfl) ?_
  refine lv_iconst (v := 2) hx hb dL_law_226 (by decide) ?_
  refine lv_iadd hx hb dL_law_227 ?_
  obtain ⟨hi5, hm⟩ := zix_s hm
  refine va_sld (i := (x4 + 2)) (xs := xs) hx hb hsb hbl hbA hS hi5 dL_law_228 ?_
  obtain ⟨q6, hq6, hm⟩ := zbind hm
  have hPc := hP.sub (ws' := (wM ad ca mv mu)) [5, 6, 7, 8, 9, 10, 11, 12, 13, 14, 15, 16, 17, 18, 19, 20, 21, 22, 23] rfl
  have hDc := hD.sub (ws' := (wM ad ca mv mu)) [5, 6, 7, 8, 9, 10, 11, 12, 13, 14, 15, 16, 17, 18, 19, 20, 21, 22, 23] (by decide) rfl
  have hKc := hK.sub (tys' := wM_t ca) [3, 4, 5, 6, 7, 8, 9, 10, 11, 12, 13, 14, 15, 16, 17, 18, 19, 20] rfl
  have hFc := va_free (wc := (wM ad ca mv mu)) hD hS hA [5, 6, 7, 8, 9, 10, 11, 12, 13, 14, 15, 16, 17, 18, 19, 20, 21, 22, 23] rfl
  refine zlSi (wr := [(aQ, .inr (4, [.ref aY, .int (pv 1), .ref aS, .ref aNs, .ref aTs, .ref aEs, .ref aDc, .int (pv 7)])), (aDc, .inl (cd, 8, .inr (.inr (.inr (.inr dc))))), (aN, .inr (1, [.ref bN, .int (v 1), .int (v 2), .int (v 3), .int (v 4), .int (v 5), .int (v 6), .int (v 7)])), (bN, .inl (c1, 25, .inl b)), (aO, .inl (co, 1, .inr (.inl q3.2)))]) (w1 := (wM ad ca q6.2 mu)) (w' := (wQDNOM aQ aY aS aNs aTs aEs aDc aN bN aO ad cd c1 co ca pv dc v b q3.2 q6.2 mu)) (va_runV (As := [.int (xs (x4 + 1).toNatClampNeg), .int (xs (x4 + 2).toNatClampNeg)]) (rest := []) ⟨hx, hb, hml, hown, hw⟩ (k_M_look l D ad ca _ (xs (x4 + 1).toNatClampNeg) (xs (x4 + 2).toNatClampNeg) mv mu  q6 hq6) (zcV (C := RX6) 2 hw (zgood zw619) rfl rfl rfl zw7 zw617 zw618 zw620 hdX6_look ⟨Nat.le_of_ble_eq_true rfl, Nat.le_of_ble_eq_true rfl⟩) (zpreV (zpre zN_ok (A := fun q => s.heap.size ≤ q) trivial (zglob hSg hAs hS) (fun q h => hAs q (hFc q h)) hPc hKc (hDc.weaken (fun _ _ _ h => hAs _ h))) (va_recv hK hP rfl (q0 := 5) rfl)) rfl rfl hl.1 rfl (lv_room (Nat.le_of_ble_eq_true rfl)) dL_law_229 ⟨by show c0 + 0 ≤ 601024; omega, by show s0 + 0 ≤ 7293034; omega⟩) hP hD hS hFc [5, 6, 7, 8, 9, 10, 11, 12, 13, 14, 15, 16, 17, 18, 19, 20, 21, 22, 23] [0, 1, 2, 3, 4] [0, 1, 2, 3, 4, 5, 6, 7, 8, 9, 10, 11, 12, 13, 14, 15, 16, 17, 18, 19, 20, 21, 22, 23] rfl rfl (by decide) (by decide) rfl (by decide) (fun H locs hP hD hS => ?_)
  refine W.widen (k := c0 + 0) (n := s0 + 0) (by omega) (by omega) ?_
  refine lv_istore (lv' := [(6, .int q6.1), (5, .int q3.1), (0, .ref sb), (1, .ref aQ), (2, .ref (ad 0)), (3, .ref aO), (4, .int x4)]) hx hb dL_law_232 hl (by decide) rfl (fun ls hl => ?_)
  refine lv_aload_n hx hb dL_law_234 rfl (lv_at hl 4 rfl) ?_
  obtain ⟨q7, hq7, hm⟩ := zbind hm
  have hPc := hP.sub (ws' := (wM ad ca q6.2 mu)) [5, 6, 7, 8, 9, 10, 11, 12, 13, 14, 15, 16, 17, 18, 19, 20, 21, 22, 23] rfl
  have hDc := hD.sub (ws' := (wM ad ca q6.2 mu)) [5, 6, 7, 8, 9, 10, 11, 12, 13, 14, 15, 16, 17, 18, 19, 20, 21, 22, 23] (by decide) rfl
  have hKc := hK.sub (tys' := wM_t ca) [3, 4, 5, 6, 7, 8, 9, 10, 11, 12, 13, 14, 15, 16, 17, 18, 19, 20] rfl
  have hFc := va_free (wc := (wM ad ca q6.2 mu)) hD hS hA [5, 6, 7, 8, 9, 10, 11, 12, 13, 14, 15, 16, 17, 18, 19, 20, 21, 22, 23] rfl
  refine zlSi (wr := [(aQ, .inr (4, [.ref aY, .int (pv 1), .ref aS, .ref aNs, .ref aTs, .ref aEs, .ref aDc, .int (pv 7)])), (aDc, .inl (cd, 8, .inr (.inr (.inr (.inr dc))))), (aN, .inr (1, [.ref bN, .int (v 1), .int (v 2), .int (v 3), .int (v 4), .int (v 5), .int (v 6), .int (v 7)])), (bN, .inl (c1, 25, .inl b)), (aO, .inl (co, 1, .inr (.inl q3.2)))]) (w1 := (wM ad ca q6.2 mu)) (w' := (wQDNOM aQ aY aS aNs aTs aEs aDc aN bN aO ad cd c1 co ca pv dc v b q3.2 q6.2 mu)) (va_runV (As := []) (rest := []) ⟨hx, hb, hml, hown, hw⟩ (k_M_thrown l D ad ca _ q6.2 mu  q7 hq7) (zcV (C := RX6) 0 hw (zgood zw596) rfl rfl rfl zw7 zw594 zw595 zw597 hdX6_thrown ⟨Nat.le_of_ble_eq_true rfl, Nat.le_of_ble_eq_true rfl⟩) (zpreV (zpre zN_ok (A := fun q => s.heap.size ≤ q) trivial (zglob hSg hAs hS) (fun q h => hAs q (hFc q h)) hPc hKc (hDc.weaken (fun _ _ _ h => hAs _ h))) (va_recv hK hP rfl (q0 := 5) rfl)) rfl rfl hl.1 rfl (lv_room (Nat.le_of_ble_eq_true rfl)) dL_law_235 ⟨by show c0 + 0 ≤ 601024; omega, by show s0 + 0 ≤ 7293034; omega⟩) hP hD hS hFc [5, 6, 7, 8, 9, 10, 11, 12, 13, 14, 15, 16, 17, 18, 19, 20, 21, 22, 23] [0, 1, 2, 3, 4] [0, 1, 2, 3, 4, 5, 6, 7, 8, 9, 10, 11, 12, 13, 14, 15, 16, 17, 18, 19, 20, 21, 22, 23] rfl rfl (by decide) (by decide) rfl (by decide) (fun H locs hP hD hS => ?_)
  refine W.widen (k := c0 + 0) (n := s0 + 0) (by omega) (by omega) ?_
  refine lv_iload hx hb dL_law_238 (lv_at hl 1 rfl) ?_
  refine lv_icmp_eq (tgt := 245) hx hb dL_law_240 rfl (fun cd8 => ?_) (fun cd8 => ?_)
  · replace hm := zt cd8 hm
    refine lv_iload hx hb dL_law_245 (lv_at hl 1 rfl) ?_
    refine lv_if_ne (tgt := 262) hx hb dL_law_247 rfl (fun cd9 => ?_) (fun cd9 => ?_)
    · replace hm := zf cd9 hm
      refine lv_goto (tgt := 588) hx hb dL_law_262 rfl ?_
      cases hm
      refine W.widen (k := c0 + 1) (n := s0 + 6) (by omega) (by omega) ?_
      exact kk _ _ _ hP hD hS (lv_sub hl [2, 3, 4, 5, 6] rfl)
    · replace hm := zt cd9 hm
      refine lv_aload_n hx hb dL_law_250 rfl (lv_at hl 5 rfl) ?_
      refine lv_iconst (v := 0) hx hb dL_law_251 (by decide) ?_
      obtain ⟨hi10, hm⟩ := zix_s hm
      refine va_lald (i := 0) (f := q3.2) (n := 1) hx hb hK hP 4 2 rfl rfl hi10 dL_law_252 ?_
      refine lv_iload hx hb dL_law_253 (lv_at hl 0 rfl) ?_
      refine lv_i2l (v := ((q6.1).toInt64)) hx hb dL_law_255 rfl ?_
      refine W.lcmp (x := (q3.2 (0 : Int32).toNatClampNeg)) (y := ((q6.1).toInt64)) hx hb dL_law_256 ?_
      refine lv_if_eq (tgt := 262) hx hb dL_law_257 rfl (fun cd11 => ?_) (fun cd11 => ?_)
      · replace hm := zt cd11 hm
        refine lv_goto (tgt := 588) hx hb dL_law_262 rfl ?_
        cases hm
        refine W.widen (k := c0 + 1) (n := s0 + 6) (by omega) (by omega) ?_
        exact kk _ _ _ hP hD hS (lv_sub hl [2, 3, 4, 5, 6] rfl)
      · replace hm := zf cd11 hm
        refine lv_iconst (v := 0) hx hb dL_law_260 (by decide) ?_
        cases hm
  · replace hm := zf cd8 hm
    refine lv_iconst (v := 0) hx hb dL_law_243 (by decide) ?_
    cases hm

def m_F_L_look_T (xs : Nat → Int32) (L : Nat) (x4 : Int32) (pv : Nat → Int32) (dc : Nat → Option Nat) (v : Nat → Int32) (b : Nat → Int32) (ov : Nat → Int64) (mv : Nat → Int32) (mu : Nat → Nat → Int32)  : Option ((Nat → Int64) × (Nat → Int32)) := zix (x4 + 1) L (zix (x4 + 2) L ((m_L_look_T (xs (x4 + 1).toNatClampNeg) (xs (x4 + 2).toNatClampNeg) pv dc v b ov).bind (fun q3 => zix (x4 + 1) L (zix (x4 + 2) L ((m_M_look (xs (x4 + 1).toNatClampNeg) (xs (x4 + 2).toNatClampNeg) mv mu).bind (fun q6 => (m_M_thrown q6.2 mu).bind (fun q7 => (if q7 = q3.1 then (if q3.1 = 0 then zix 0 1 ((if (lg_cmp (q3.2 (0 : Int32).toNatClampNeg) ((q6.1).toInt64)) = 0 then (some (q3.2, q6.2)) else none)) else (some (q3.2, q6.2))) else none))))))))
set_option maxRecDepth 100000 in
set_option maxHeartbeats 4000000 in
theorem f_F_L_look_T {p : Program} {l : Launch} {e : Env} {s : State} {m : MethodId} {args : Array Value} {below : List Frame} {meth : Method} {c : Code} {D : va_G} {w0 : va_W} {H0 : Heap} {Q : State → Prop} {sb L : Nat} {xs : Nat → Int32} {x4 : Int32} {c0 s0 : Nat} (aQ aY aS aNs aTs aEs aDc aT bT aO : Nat) (ad : Nat → Nat) (cd c1 co : ClassId) (ca : Nat → ClassId) (pv : Nat → Int32) (dc : Nat → Option Nat) (v : Nat → Int32) (b : Nat → Int32) (ov : Nat → Int64) (mv : Nat → Int32) (mu : Nat → Nat → Int32) (G : zG p s m args meth c cL_law RL 8 (some .boolean)) (hK : va_K D vwCl (wQDTOM_t cd c1 co ca) s) (hX : zW (fun q => s.heap.size ≤ q) s) (hl0 : l.stackTraces = false) (hSg : va_S (fun q => s.heap.size ≤ q) s.heap H0 []) (hAs : ∀ q, (va_A w0 H0.size) q → s.heap.size ≤ q) (hsb : va_X sb L xs s H0) (hbl : sb < H0.size) (hbA : ¬ (va_A w0 H0.size) sb) (hc0 : c0 + 1 ≤ 601024) (hs0 : s0 + 6 ≤ 7293034) (hd : dc (xs (x4 + 1).toNatClampNeg).toNatClampNeg = some aT) {res : (Nat → Int64) × (Nat → Int32)} (hm : m_F_L_look_T xs L x4 pv dc v b ov mv mu  = some res)
    (kk : ∀ (H : Heap) (locs : List Loc) (ls : Array Slot), va_P D vwCl (wQDTOM aQ aY aS aNs aTs aEs aDc aT bT aO ad cd c1 co ca pv dc v b res.1 res.2 mu) H → va_D (va_A w0 H0.size) (wQDTOM aQ aY aS aNs aTs aEs aDc aT bT aO ad cd c1 co ca pv dc v b res.1 res.2 mu) → va_S (va_A w0 H0.size) H0 H locs → lv_has ls 8 [(0, .ref sb), (1, .ref aQ), (2, .ref (ad 0)), (3, .ref aO), (4, .int x4)] → W p l e room_1 s m args below meth c H locs (c0 + 1) (s0 + 6) Q (F0 m 588 ls []))
    (H : Heap) (locs : List Loc) (ls : Array Slot) (hP : va_P D vwCl (wQDTOM aQ aY aS aNs aTs aEs aDc aT bT aO ad cd c1 co ca pv dc v b ov mv mu) H) (hD : va_D (va_A w0 H0.size) (wQDTOM aQ aY aS aNs aTs aEs aDc aT bT aO ad cd c1 co ca pv dc v b ov mv mu)) (hS : va_S (va_A w0 H0.size) H0 H locs) (hl : lv_has ls 8 [(0, .ref sb), (1, .ref aQ), (2, .ref (ad 0)), (3, .ref aO), (4, .int x4)]) : W p l e room_1 s m args below meth c H locs c0 s0 Q (F0 m 197 ls []) := by
  obtain ⟨hx, hb, hr, hml, hown, hw, hlk⟩ := G
  have hA : ∀ q, H0.size ≤ q → (va_A w0 H0.size) q := fun q h => Or.inr h
  unfold m_F_L_look_T at hm
  refine lv_aload_n hx hb dL_law_197 rfl (lv_at hl 1 rfl) ?_
  refine lv_aload_n hx hb dL_law_198 rfl (lv_at hl 0 rfl) ?_
  refine lv_iload hx hb dL_law_199 (lv_at hl 4 rfl) ?_
  refine lv_iconst (v := 1) hx hb dL_law_201 (by decide) ?_
  refine lv_iadd hx hb dL_law_202 ?_
  obtain ⟨hi1, hm⟩ := zix_s hm
  refine va_sld (i := (x4 + 1)) (xs := xs) hx hb hsb hbl hbA hS hi1 dL_law_203 ?_
  refine lv_aload_n hx hb dL_law_204 rfl (lv_at hl 0 rfl) ?_
  refine lv_iload hx hb dL_law_205 (lv_at hl 4 rfl) ?_
  refine lv_iconst (v := 2) hx hb dL_law_207 (by decide) ?_
  refine lv_iadd hx hb dL_law_208 ?_
  obtain ⟨hi2, hm⟩ := zix_s hm
  refine va_sld (i := (x4 + 2)) (xs := xs) hx hb hsb hbl hbA hS hi2 dL_law_209 ?_
  refine lv_aload_n hx hb dL_law_210 rfl (lv_at hl 3 rfl) ?_
  obtain ⟨q3, hq3, hm⟩ := zbind hm
  have hPc := hP.sub (ws' := (wQDTO aQ aY aS aNs aTs aEs aDc aT bT aO cd c1 co pv dc v b ov)) [0, 1, 2, 3, 4] rfl
  have hDc := hD.sub (ws' := (wQDTO aQ aY aS aNs aTs aEs aDc aT bT aO cd c1 co pv dc v b ov)) [0, 1, 2, 3, 4] (by decide) rfl
  have hKc := hK.sub (tys' := wQDTO_t cd c1 co) [0, 1, 2] rfl
  have hFc := va_free (wc := (wQDTO aQ aY aS aNs aTs aEs aDc aT bT aO cd c1 co pv dc v b ov)) hD hS hA [0, 1, 2, 3, 4] rfl
  refine zlSi (wr := [((ad 0), .inr (5, [.int (mv 0), .int (mv 1), .ref (ad 1), .int (mv 3), .ref (ad 2), .ref (ad 3), .ref (ad 4), .ref (ad 5), .ref (ad 6), .ref (ad 7), .ref (ad 8), .ref (ad 9), .ref (ad 10), .ref (ad 11), .ref (ad 12), .ref (ad 13), .ref (ad 14), .ref (ad 15), .ref (ad 16), .ref (ad 17), .int (mv 20), .int (mv 21), .ref (ad 18), .int (mv 23)])), ((ad 1), .inl ((ca 1), 24, .inl (mu 1))), ((ad 2), .inl ((ca 2), 9, .inl (mu 2))), ((ad 3), .inl ((ca 3), 216, .inl (mu 3))), ((ad 4), .inl ((ca 4), 216, .inl (mu 4))), ((ad 5), .inl ((ca 5), 9, .inl (mu 5))), ((ad 6), .inl ((ca 6), 9, .inl (mu 6))), ((ad 7), .inl ((ca 7), 9, .inl (mu 7))), ((ad 8), .inl ((ca 8), 9, .inl (mu 8))), ((ad 9), .inl ((ca 9), 9, .inl (mu 9))), ((ad 10), .inl ((ca 10), 9, .inl (mu 10))), ((ad 11), .inl ((ca 11), 9, .inl (mu 11))), ((ad 12), .inl ((ca 12), 9, .inl (mu 12))), ((ad 13), .inl ((ca 13), 9, .inl (mu 13))), ((ad 14), .inl ((ca 14), 9, .inl (mu 14))), ((ad 15), .inl ((ca 15), 9, .inl (mu 15))), ((ad 16), .inl ((ca 16), 256, .inl (mu 16))), ((ad 17), .inl ((ca 17), 48, .inl (mu 17))), ((ad 18), .inl ((ca 18), 32, .inl (mu 18)))]) (w1 := (wQDTO aQ aY aS aNs aTs aEs aDc aT bT aO cd c1 co pv dc v b q3.2)) (w' := (wQDTOM aQ aY aS aNs aTs aEs aDc aT bT aO ad cd c1 co ca pv dc v b q3.2 mv mu)) (vx_runSW (As := [.ref aQ, .int (xs (x4 + 1).toNatClampNeg), .int (xs (x4 + 2).toNatClampNeg), .ref aO]) (rest := []) ⟨hx, hb, hml, hown, hw⟩ (k_L_look_T l D aQ aY aS aNs aTs aEs aDc aT bT aO cd c1 co _ (xs (x4 + 1).toNatClampNeg) (xs (x4 + 2).toNatClampNeg) pv dc v b ov hd q3 hq3) (vx_cwSW 4 hw (zgoodW (List.forall_mem_cons.mpr ⟨zw614, List.forall_mem_cons.mpr ⟨zw615, List.forall_mem_cons.mpr ⟨zw587, fun _ h => absurd h List.not_mem_nil⟩⟩⟩) zw616) rfl rfl rfl hdL_look ⟨Nat.le_of_ble_eq_true rfl, Nat.le_of_ble_eq_true rfl⟩) (zpre zW_ok (A := fun q => s.heap.size ≤ q) hX (zglob hSg hAs hS) (fun q h => hAs q (hFc q h)) hPc hKc (hDc.weaken (fun _ _ _ h => hAs _ h))) rfl rfl hl.1 rfl (lv_room (Nat.le_of_ble_eq_true rfl)) dL_law_211 ⟨by show c0 + 0 ≤ 601024; omega, by show s0 + 0 ≤ 7293034; omega⟩) hP hD hS hFc [0, 1, 2, 3, 4] [5, 6, 7, 8, 9, 10, 11, 12, 13, 14, 15, 16, 17, 18, 19, 20, 21, 22, 23] [19, 20, 21, 22, 23, 0, 1, 2, 3, 4, 5, 6, 7, 8, 9, 10, 11, 12, 13, 14, 15, 16, 17, 18] rfl rfl (by decide) (by decide) rfl (by decide) (fun H locs hP hD hS => ?_)
  refine W.widen (k := c0 + 0) (n := s0 + 0) (by omega) (by omega) ?_
  refine lv_istore (lv' := [(5, .int q3.1), (0, .ref sb), (1, .ref aQ), (2, .ref (ad 0)), (3, .ref aO), (4, .int x4)]) hx hb dL_law_214 hl (by decide) rfl (fun ls hl => ?_)
  refine lv_aload_n hx hb dL_law_216 rfl (lv_at hl 3 rfl) ?_
  refine lv_aload_n hx hb dL_law_217 rfl (lv_at hl 1 rfl) ?_
  refine lv_iload hx hb dL_law_218 (lv_at hl 5 rfl) ?_
  refine lv_iconst (v := 1) hx hb dL_law_220 (by decide) ?_
  refine lv_iadd hx hb dL_law_221 ?_
  obtain ⟨hi4, hm⟩ := zix_s hm
  refine va_sld (i := (x4 + 1)) (xs := xs) hx hb hsb hbl hbA hS hi4 dL_law_222 ?_
  refine lv_aload_n hx hb dL_law_223 rfl (lv_at hl 1 rfl) ?_
  refine lv_iload hx hb dL_law_224 (lv_at hl 5 rfl) ?_
  refine lv_iconst (v := 2) hx hb dL_law_226 (by decide) ?_
  refine lv_iadd hx hb dL_law_227 ?_
  obtain ⟨hi5, hm⟩ := zix_s hm
  refine va_sld (i := (x4 + 2)) (xs := xs) hx hb hsb hbl hbA hS hi5 dL_law_228 ?_
  obtain ⟨q6, hq6, hm⟩ := zbind hm
  have hPc := hP.sub (ws' := (wM ad ca mv mu)) [5, 6, 7, 8, 9, 10, 11, 12, 13, 14, 15, 16, 17, 18, 19, 20, 21, 22, 23] rfl
  have hDc := hD.sub (ws' := (wM ad ca mv mu)) [5, 6, 7, 8, 9, 10, 11, 12, 13, 14, 15, 16, 17, 18, 19, 20, 21, 22, 23] (by decide) rfl
  have hKc := hK.sub (tys' := wM_t ca) [3, 4, 5, 6, 7, 8, 9, 10, 11, 12, 13, 14, 15, 16, 17, 18, 19, 20] rfl
  have hFc := va_free (wc := (wM ad ca mv mu)) hD hS hA [5, 6, 7, 8, 9, 10, 11, 12, 13, 14, 15, 16, 17, 18, 19, 20, 21, 22, 23] rfl
  refine zlSi (wr := [(aQ, .inr (4, [.ref aY, .int (pv 1), .ref aS, .ref aNs, .ref aTs, .ref aEs, .ref aDc, .int (pv 7)])), (aDc, .inl (cd, 8, .inr (.inr (.inr (.inr dc))))), (aT, .inr (3, [.ref bT, .int (v 1), .int (v 2), .int (v 3), .int (v 4)])), (bT, .inl (c1, 25, .inl b)), (aO, .inl (co, 1, .inr (.inl q3.2)))]) (w1 := (wM ad ca q6.2 mu)) (w' := (wQDTOM aQ aY aS aNs aTs aEs aDc aT bT aO ad cd c1 co ca pv dc v b q3.2 q6.2 mu)) (va_runV (As := [.int (xs (x4 + 1).toNatClampNeg), .int (xs (x4 + 2).toNatClampNeg)]) (rest := []) ⟨hx, hb, hml, hown, hw⟩ (k_M_look l D ad ca _ (xs (x4 + 1).toNatClampNeg) (xs (x4 + 2).toNatClampNeg) mv mu  q6 hq6) (zcV (C := RX6) 2 hw (zgood zw619) rfl rfl rfl zw7 zw617 zw618 zw620 hdX6_look ⟨Nat.le_of_ble_eq_true rfl, Nat.le_of_ble_eq_true rfl⟩) (zpreV (zpre zN_ok (A := fun q => s.heap.size ≤ q) trivial (zglob hSg hAs hS) (fun q h => hAs q (hFc q h)) hPc hKc (hDc.weaken (fun _ _ _ h => hAs _ h))) (va_recv hK hP rfl (q0 := 5) rfl)) rfl rfl hl.1 rfl (lv_room (Nat.le_of_ble_eq_true rfl)) dL_law_229 ⟨by show c0 + 0 ≤ 601024; omega, by show s0 + 0 ≤ 7293034; omega⟩) hP hD hS hFc [5, 6, 7, 8, 9, 10, 11, 12, 13, 14, 15, 16, 17, 18, 19, 20, 21, 22, 23] [0, 1, 2, 3, 4] [0, 1, 2, 3, 4, 5, 6, 7, 8, 9, 10, 11, 12, 13, 14, 15, 16, 17, 18, 19, 20, 21, 22, 23] rfl rfl (by decide) (by decide) rfl (by decide) (fun H locs hP hD hS => ?_)
  refine W.widen (k := c0 + 0) (n := s0 + 0) (by omega) (by omega) ?_
  refine lv_istore (lv' := [(6, .int q6.1), (5, .int q3.1), (0, .ref sb), (1, .ref aQ), (2, .ref (ad 0)), (3, .ref aO), (4, .int x4)]) hx hb dL_law_232 hl (by decide) rfl (fun ls hl => ?_)
  refine lv_aload_n hx hb dL_law_234 rfl (lv_at hl 4 rfl) ?_
  obtain ⟨q7, hq7, hm⟩ := zbind hm
  have hPc := hP.sub (ws' := (wM ad ca q6.2 mu)) [5, 6, 7, 8, 9, 10, 11, 12, 13, 14, 15, 16, 17, 18, 19, 20, 21, 22, 23] rfl
  have hDc := hD.sub (ws' := (wM ad ca q6.2 mu)) [5, 6, 7, 8, 9, 10, 11, 12, 13, 14, 15, 16, 17, 18, 19, 20, 21, 22, 23] (by decide) rfl
  have hKc := hK.sub (tys' := wM_t ca) [3, 4, 5, 6, 7, 8, 9, 10, 11, 12, 13, 14, 15, 16, 17, 18, 19, 20] rfl
  have hFc := va_free (wc := (wM ad ca q6.2 mu)) hD hS hA [5, 6, 7, 8, 9, 10, 11, 12, 13, 14, 15, 16, 17, 18, 19, 20, 21, 22, 23] rfl
  refine zlSi (wr := [(aQ, .inr (4, [.ref aY, .int (pv 1), .ref aS, .ref aNs, .ref aTs, .ref aEs, .ref aDc, .int (pv 7)])), (aDc, .inl (cd, 8, .inr (.inr (.inr (.inr dc))))), (aT, .inr (3, [.ref bT, .int (v 1), .int (v 2), .int (v 3), .int (v 4)])), (bT, .inl (c1, 25, .inl b)), (aO, .inl (co, 1, .inr (.inl q3.2)))]) (w1 := (wM ad ca q6.2 mu)) (w' := (wQDTOM aQ aY aS aNs aTs aEs aDc aT bT aO ad cd c1 co ca pv dc v b q3.2 q6.2 mu)) (va_runV (As := []) (rest := []) ⟨hx, hb, hml, hown, hw⟩ (k_M_thrown l D ad ca _ q6.2 mu  q7 hq7) (zcV (C := RX6) 0 hw (zgood zw596) rfl rfl rfl zw7 zw594 zw595 zw597 hdX6_thrown ⟨Nat.le_of_ble_eq_true rfl, Nat.le_of_ble_eq_true rfl⟩) (zpreV (zpre zN_ok (A := fun q => s.heap.size ≤ q) trivial (zglob hSg hAs hS) (fun q h => hAs q (hFc q h)) hPc hKc (hDc.weaken (fun _ _ _ h => hAs _ h))) (va_recv hK hP rfl (q0 := 5) rfl)) rfl rfl hl.1 rfl (lv_room (Nat.le_of_ble_eq_true rfl)) dL_law_235 ⟨by show c0 + 0 ≤ 601024; omega, by show s0 + 0 ≤ 7293034; omega⟩) hP hD hS hFc [5, 6, 7, 8, 9, 10, 11, 12, 13, 14, 15, 16, 17, 18, 19, 20, 21, 22, 23] [0, 1, 2, 3, 4] [0, 1, 2, 3, 4, 5, 6, 7, 8, 9, 10, 11, 12, 13, 14, 15, 16, 17, 18, 19, 20, 21, 22, 23] rfl rfl (by decide) (by decide) rfl (by decide) (fun H locs hP hD hS => ?_)
  refine W.widen (k := c0 + 0) (n := s0 + 0) (by omega) (by omega) ?_
  refine lv_iload hx hb dL_law_238 (lv_at hl 1 rfl) ?_
  refine lv_icmp_eq (tgt := 245) hx hb dL_law_240 rfl (fun cd8 => ?_) (fun cd8 => ?_)
  · replace hm := zt cd8 hm
    refine lv_iload hx hb dL_law_245 (lv_at hl 1 rfl) ?_
    refine lv_if_ne (tgt := 262) hx hb dL_law_247 rfl (fun cd9 => ?_) (fun cd9 => ?_)
    · replace hm := zf cd9 hm
      refine lv_goto (tgt := 588) hx hb dL_law_262 rfl ?_
      cases hm
      refine W.widen (k := c0 + 1) (n := s0 + 6) (by omega) (by omega) ?_
      exact kk _ _ _ hP hD hS (lv_sub hl [2, 3, 4, 5, 6] rfl)
    · replace hm := zt cd9 hm
      refine lv_aload_n hx hb dL_law_250 rfl (lv_at hl 5 rfl) ?_
      refine lv_iconst (v := 0) hx hb dL_law_251 (by decide) ?_
      obtain ⟨hi10, hm⟩ := zix_s hm
      refine va_lald (i := 0) (f := q3.2) (n := 1) hx hb hK hP 4 2 rfl rfl hi10 dL_law_252 ?_
      refine lv_iload hx hb dL_law_253 (lv_at hl 0 rfl) ?_
      refine lv_i2l (v := ((q6.1).toInt64)) hx hb dL_law_255 rfl ?_
      refine W.lcmp (x := (q3.2 (0 : Int32).toNatClampNeg)) (y := ((q6.1).toInt64)) hx hb dL_law_256 ?_
      refine lv_if_eq (tgt := 262) hx hb dL_law_257 rfl (fun cd11 => ?_) (fun cd11 => ?_)
      · replace hm := zt cd11 hm
        refine lv_goto (tgt := 588) hx hb dL_law_262 rfl ?_
        cases hm
        refine W.widen (k := c0 + 1) (n := s0 + 6) (by omega) (by omega) ?_
        exact kk _ _ _ hP hD hS (lv_sub hl [2, 3, 4, 5, 6] rfl)
      · replace hm := zf cd11 hm
        refine lv_iconst (v := 0) hx hb dL_law_260 (by decide) ?_
        cases hm
  · replace hm := zf cd8 hm
    refine lv_iconst (v := 0) hx hb dL_law_243 (by decide) ?_
    cases hm

def m_F_L_look_E (xs : Nat → Int32) (L : Nat) (x4 : Int32) (pv : Nat → Int32) (dc : Nat → Option Nat) (v : Nat → Int32) (b : Nat → Int32) (rw : Nat → Int32) (pw : Nat → Int32) (ov : Nat → Int64) (mv : Nat → Int32) (mu : Nat → Nat → Int32)  : Option ((Nat → Int64) × (Nat → Int32)) := zix (x4 + 1) L (zix (x4 + 2) L ((m_L_look_E (xs (x4 + 1).toNatClampNeg) (xs (x4 + 2).toNatClampNeg) pv dc v b rw pw ov).bind (fun q3 => zix (x4 + 1) L (zix (x4 + 2) L ((m_M_look (xs (x4 + 1).toNatClampNeg) (xs (x4 + 2).toNatClampNeg) mv mu).bind (fun q6 => (m_M_thrown q6.2 mu).bind (fun q7 => (if q7 = q3.1 then (if q3.1 = 0 then zix 0 1 ((if (lg_cmp (q3.2 (0 : Int32).toNatClampNeg) ((q6.1).toInt64)) = 0 then (some (q3.2, q6.2)) else none)) else (some (q3.2, q6.2))) else none))))))))
set_option maxRecDepth 100000 in
set_option maxHeartbeats 4000000 in
theorem f_F_L_look_E {p : Program} {l : Launch} {e : Env} {s : State} {m : MethodId} {args : Array Value} {below : List Frame} {meth : Method} {c : Code} {D : va_G} {w0 : va_W} {H0 : Heap} {Q : State → Prop} {sb L : Nat} {xs : Nat → Int32} {x4 : Int32} {c0 s0 : Nat} (aQ aY aS aNs aTs aEs aDc aE bE rE pE aO : Nat) (ad : Nat → Nat) (cd c1 c2 c3 co : ClassId) (ca : Nat → ClassId) (pv : Nat → Int32) (dc : Nat → Option Nat) (v : Nat → Int32) (b : Nat → Int32) (rw : Nat → Int32) (pw : Nat → Int32) (ov : Nat → Int64) (mv : Nat → Int32) (mu : Nat → Nat → Int32) (G : zG p s m args meth c cL_law RL 8 (some .boolean)) (hK : va_K D vwCl (wQDEOM_t cd c1 c2 c3 co ca) s) (hX : zW (fun q => s.heap.size ≤ q) s) (hl0 : l.stackTraces = false) (hSg : va_S (fun q => s.heap.size ≤ q) s.heap H0 []) (hAs : ∀ q, (va_A w0 H0.size) q → s.heap.size ≤ q) (hsb : va_X sb L xs s H0) (hbl : sb < H0.size) (hbA : ¬ (va_A w0 H0.size) sb) (hc0 : c0 + 1 ≤ 601024) (hs0 : s0 + 6 ≤ 7293034) (hd : dc (xs (x4 + 1).toNatClampNeg).toNatClampNeg = some aE) {res : (Nat → Int64) × (Nat → Int32)} (hm : m_F_L_look_E xs L x4 pv dc v b rw pw ov mv mu  = some res)
    (kk : ∀ (H : Heap) (locs : List Loc) (ls : Array Slot), va_P D vwCl (wQDEOM aQ aY aS aNs aTs aEs aDc aE bE rE pE aO ad cd c1 c2 c3 co ca pv dc v b rw pw res.1 res.2 mu) H → va_D (va_A w0 H0.size) (wQDEOM aQ aY aS aNs aTs aEs aDc aE bE rE pE aO ad cd c1 c2 c3 co ca pv dc v b rw pw res.1 res.2 mu) → va_S (va_A w0 H0.size) H0 H locs → lv_has ls 8 [(0, .ref sb), (1, .ref aQ), (2, .ref (ad 0)), (3, .ref aO), (4, .int x4)] → W p l e room_1 s m args below meth c H locs (c0 + 1) (s0 + 6) Q (F0 m 588 ls []))
    (H : Heap) (locs : List Loc) (ls : Array Slot) (hP : va_P D vwCl (wQDEOM aQ aY aS aNs aTs aEs aDc aE bE rE pE aO ad cd c1 c2 c3 co ca pv dc v b rw pw ov mv mu) H) (hD : va_D (va_A w0 H0.size) (wQDEOM aQ aY aS aNs aTs aEs aDc aE bE rE pE aO ad cd c1 c2 c3 co ca pv dc v b rw pw ov mv mu)) (hS : va_S (va_A w0 H0.size) H0 H locs) (hl : lv_has ls 8 [(0, .ref sb), (1, .ref aQ), (2, .ref (ad 0)), (3, .ref aO), (4, .int x4)]) : W p l e room_1 s m args below meth c H locs c0 s0 Q (F0 m 197 ls []) := by
  obtain ⟨hx, hb, hr, hml, hown, hw, hlk⟩ := G
  have hA : ∀ q, H0.size ≤ q → (va_A w0 H0.size) q := fun q h => Or.inr h
  unfold m_F_L_look_E at hm
  refine lv_aload_n hx hb dL_law_197 rfl (lv_at hl 1 rfl) ?_
  refine lv_aload_n hx hb dL_law_198 rfl (lv_at hl 0 rfl) ?_
  refine lv_iload hx hb dL_law_199 (lv_at hl 4 rfl) ?_
  refine lv_iconst (v := 1) hx hb dL_law_201 (by decide) ?_
  refine lv_iadd hx hb dL_law_202 ?_
  obtain ⟨hi1, hm⟩ := zix_s hm
  refine va_sld (i := (x4 + 1)) (xs := xs) hx hb hsb hbl hbA hS hi1 dL_law_203 ?_
  refine lv_aload_n hx hb dL_law_204 rfl (lv_at hl 0 rfl) ?_
  refine lv_iload hx hb dL_law_205 (lv_at hl 4 rfl) ?_
  refine lv_iconst (v := 2) hx hb dL_law_207 (by decide) ?_
  refine lv_iadd hx hb dL_law_208 ?_
  obtain ⟨hi2, hm⟩ := zix_s hm
  refine va_sld (i := (x4 + 2)) (xs := xs) hx hb hsb hbl hbA hS hi2 dL_law_209 ?_
  refine lv_aload_n hx hb dL_law_210 rfl (lv_at hl 3 rfl) ?_
  obtain ⟨q3, hq3, hm⟩ := zbind hm
  have hPc := hP.sub (ws' := (wQDEO aQ aY aS aNs aTs aEs aDc aE bE rE pE aO cd c1 c2 c3 co pv dc v b rw pw ov)) [0, 1, 2, 3, 4, 5, 6] rfl
  have hDc := hD.sub (ws' := (wQDEO aQ aY aS aNs aTs aEs aDc aE bE rE pE aO cd c1 c2 c3 co pv dc v b rw pw ov)) [0, 1, 2, 3, 4, 5, 6] (by decide) rfl
  have hKc := hK.sub (tys' := wQDEO_t cd c1 c2 c3 co) [0, 1, 2, 3, 4] rfl
  have hFc := va_free (wc := (wQDEO aQ aY aS aNs aTs aEs aDc aE bE rE pE aO cd c1 c2 c3 co pv dc v b rw pw ov)) hD hS hA [0, 1, 2, 3, 4, 5, 6] rfl
  refine zlSi (wr := [((ad 0), .inr (5, [.int (mv 0), .int (mv 1), .ref (ad 1), .int (mv 3), .ref (ad 2), .ref (ad 3), .ref (ad 4), .ref (ad 5), .ref (ad 6), .ref (ad 7), .ref (ad 8), .ref (ad 9), .ref (ad 10), .ref (ad 11), .ref (ad 12), .ref (ad 13), .ref (ad 14), .ref (ad 15), .ref (ad 16), .ref (ad 17), .int (mv 20), .int (mv 21), .ref (ad 18), .int (mv 23)])), ((ad 1), .inl ((ca 1), 24, .inl (mu 1))), ((ad 2), .inl ((ca 2), 9, .inl (mu 2))), ((ad 3), .inl ((ca 3), 216, .inl (mu 3))), ((ad 4), .inl ((ca 4), 216, .inl (mu 4))), ((ad 5), .inl ((ca 5), 9, .inl (mu 5))), ((ad 6), .inl ((ca 6), 9, .inl (mu 6))), ((ad 7), .inl ((ca 7), 9, .inl (mu 7))), ((ad 8), .inl ((ca 8), 9, .inl (mu 8))), ((ad 9), .inl ((ca 9), 9, .inl (mu 9))), ((ad 10), .inl ((ca 10), 9, .inl (mu 10))), ((ad 11), .inl ((ca 11), 9, .inl (mu 11))), ((ad 12), .inl ((ca 12), 9, .inl (mu 12))), ((ad 13), .inl ((ca 13), 9, .inl (mu 13))), ((ad 14), .inl ((ca 14), 9, .inl (mu 14))), ((ad 15), .inl ((ca 15), 9, .inl (mu 15))), ((ad 16), .inl ((ca 16), 256, .inl (mu 16))), ((ad 17), .inl ((ca 17), 48, .inl (mu 17))), ((ad 18), .inl ((ca 18), 32, .inl (mu 18)))]) (w1 := (wQDEO aQ aY aS aNs aTs aEs aDc aE bE rE pE aO cd c1 c2 c3 co pv dc v b rw pw q3.2)) (w' := (wQDEOM aQ aY aS aNs aTs aEs aDc aE bE rE pE aO ad cd c1 c2 c3 co ca pv dc v b rw pw q3.2 mv mu)) (vx_runSW (As := [.ref aQ, .int (xs (x4 + 1).toNatClampNeg), .int (xs (x4 + 2).toNatClampNeg), .ref aO]) (rest := []) ⟨hx, hb, hml, hown, hw⟩ (k_L_look_E l D aQ aY aS aNs aTs aEs aDc aE bE rE pE aO cd c1 c2 c3 co _ (xs (x4 + 1).toNatClampNeg) (xs (x4 + 2).toNatClampNeg) pv dc v b rw pw ov hd q3 hq3) (vx_cwSW 4 hw (zgoodW (List.forall_mem_cons.mpr ⟨zw614, List.forall_mem_cons.mpr ⟨zw615, List.forall_mem_cons.mpr ⟨zw587, fun _ h => absurd h List.not_mem_nil⟩⟩⟩) zw616) rfl rfl rfl hdL_look ⟨Nat.le_of_ble_eq_true rfl, Nat.le_of_ble_eq_true rfl⟩) (zpre zW_ok (A := fun q => s.heap.size ≤ q) hX (zglob hSg hAs hS) (fun q h => hAs q (hFc q h)) hPc hKc (hDc.weaken (fun _ _ _ h => hAs _ h))) rfl rfl hl.1 rfl (lv_room (Nat.le_of_ble_eq_true rfl)) dL_law_211 ⟨by show c0 + 0 ≤ 601024; omega, by show s0 + 0 ≤ 7293034; omega⟩) hP hD hS hFc [0, 1, 2, 3, 4, 5, 6] [7, 8, 9, 10, 11, 12, 13, 14, 15, 16, 17, 18, 19, 20, 21, 22, 23, 24, 25] [19, 20, 21, 22, 23, 24, 25, 0, 1, 2, 3, 4, 5, 6, 7, 8, 9, 10, 11, 12, 13, 14, 15, 16, 17, 18] rfl rfl (by decide) (by decide) rfl (by decide) (fun H locs hP hD hS => ?_)
  refine W.widen (k := c0 + 0) (n := s0 + 0) (by omega) (by omega) ?_
  refine lv_istore (lv' := [(5, .int q3.1), (0, .ref sb), (1, .ref aQ), (2, .ref (ad 0)), (3, .ref aO), (4, .int x4)]) hx hb dL_law_214 hl (by decide) rfl (fun ls hl => ?_)
  refine lv_aload_n hx hb dL_law_216 rfl (lv_at hl 3 rfl) ?_
  refine lv_aload_n hx hb dL_law_217 rfl (lv_at hl 1 rfl) ?_
  refine lv_iload hx hb dL_law_218 (lv_at hl 5 rfl) ?_
  refine lv_iconst (v := 1) hx hb dL_law_220 (by decide) ?_
  refine lv_iadd hx hb dL_law_221 ?_
  obtain ⟨hi4, hm⟩ := zix_s hm
  refine va_sld (i := (x4 + 1)) (xs := xs) hx hb hsb hbl hbA hS hi4 dL_law_222 ?_
  refine lv_aload_n hx hb dL_law_223 rfl (lv_at hl 1 rfl) ?_
  refine lv_iload hx hb dL_law_224 (lv_at hl 5 rfl) ?_
  refine lv_iconst (v := 2) hx hb dL_law_226 (by decide) ?_
  refine lv_iadd hx hb dL_law_227 ?_
  obtain ⟨hi5, hm⟩ := zix_s hm
  refine va_sld (i := (x4 + 2)) (xs := xs) hx hb hsb hbl hbA hS hi5 dL_law_228 ?_
  obtain ⟨q6, hq6, hm⟩ := zbind hm
  have hPc := hP.sub (ws' := (wM ad ca mv mu)) [7, 8, 9, 10, 11, 12, 13, 14, 15, 16, 17, 18, 19, 20, 21, 22, 23, 24, 25] rfl
  have hDc := hD.sub (ws' := (wM ad ca mv mu)) [7, 8, 9, 10, 11, 12, 13, 14, 15, 16, 17, 18, 19, 20, 21, 22, 23, 24, 25] (by decide) rfl
  have hKc := hK.sub (tys' := wM_t ca) [5, 6, 7, 8, 9, 10, 11, 12, 13, 14, 15, 16, 17, 18, 19, 20, 21, 22] rfl
  have hFc := va_free (wc := (wM ad ca mv mu)) hD hS hA [7, 8, 9, 10, 11, 12, 13, 14, 15, 16, 17, 18, 19, 20, 21, 22, 23, 24, 25] rfl
  refine zlSi (wr := [(aQ, .inr (4, [.ref aY, .int (pv 1), .ref aS, .ref aNs, .ref aTs, .ref aEs, .ref aDc, .int (pv 7)])), (aDc, .inl (cd, 8, .inr (.inr (.inr (.inr dc))))), (aE, .inr (0, [.ref bE, .int (v 1), .int (v 2), .int (v 3), .int (v 4), .ref rE, .ref pE, .int (v 7), .int (v 8), .int (v 9), .int (v 10), .int (v 11), .int (v 12), .int (v 13), .int (v 14), .int (v 15)])), (bE, .inl (c1, 25, .inl b)), (rE, .inl (c2, 24, .inl rw)), (pE, .inl (c3, 24, .inl pw)), (aO, .inl (co, 1, .inr (.inl q3.2)))]) (w1 := (wM ad ca q6.2 mu)) (w' := (wQDEOM aQ aY aS aNs aTs aEs aDc aE bE rE pE aO ad cd c1 c2 c3 co ca pv dc v b rw pw q3.2 q6.2 mu)) (va_runV (As := [.int (xs (x4 + 1).toNatClampNeg), .int (xs (x4 + 2).toNatClampNeg)]) (rest := []) ⟨hx, hb, hml, hown, hw⟩ (k_M_look l D ad ca _ (xs (x4 + 1).toNatClampNeg) (xs (x4 + 2).toNatClampNeg) mv mu  q6 hq6) (zcV (C := RX6) 2 hw (zgood zw619) rfl rfl rfl zw7 zw617 zw618 zw620 hdX6_look ⟨Nat.le_of_ble_eq_true rfl, Nat.le_of_ble_eq_true rfl⟩) (zpreV (zpre zN_ok (A := fun q => s.heap.size ≤ q) trivial (zglob hSg hAs hS) (fun q h => hAs q (hFc q h)) hPc hKc (hDc.weaken (fun _ _ _ h => hAs _ h))) (va_recv hK hP rfl (q0 := 7) rfl)) rfl rfl hl.1 rfl (lv_room (Nat.le_of_ble_eq_true rfl)) dL_law_229 ⟨by show c0 + 0 ≤ 601024; omega, by show s0 + 0 ≤ 7293034; omega⟩) hP hD hS hFc [7, 8, 9, 10, 11, 12, 13, 14, 15, 16, 17, 18, 19, 20, 21, 22, 23, 24, 25] [0, 1, 2, 3, 4, 5, 6] [0, 1, 2, 3, 4, 5, 6, 7, 8, 9, 10, 11, 12, 13, 14, 15, 16, 17, 18, 19, 20, 21, 22, 23, 24, 25] rfl rfl (by decide) (by decide) rfl (by decide) (fun H locs hP hD hS => ?_)
  refine W.widen (k := c0 + 0) (n := s0 + 0) (by omega) (by omega) ?_
  refine lv_istore (lv' := [(6, .int q6.1), (5, .int q3.1), (0, .ref sb), (1, .ref aQ), (2, .ref (ad 0)), (3, .ref aO), (4, .int x4)]) hx hb dL_law_232 hl (by decide) rfl (fun ls hl => ?_)
  refine lv_aload_n hx hb dL_law_234 rfl (lv_at hl 4 rfl) ?_
  obtain ⟨q7, hq7, hm⟩ := zbind hm
  have hPc := hP.sub (ws' := (wM ad ca q6.2 mu)) [7, 8, 9, 10, 11, 12, 13, 14, 15, 16, 17, 18, 19, 20, 21, 22, 23, 24, 25] rfl
  have hDc := hD.sub (ws' := (wM ad ca q6.2 mu)) [7, 8, 9, 10, 11, 12, 13, 14, 15, 16, 17, 18, 19, 20, 21, 22, 23, 24, 25] (by decide) rfl
  have hKc := hK.sub (tys' := wM_t ca) [5, 6, 7, 8, 9, 10, 11, 12, 13, 14, 15, 16, 17, 18, 19, 20, 21, 22] rfl
  have hFc := va_free (wc := (wM ad ca q6.2 mu)) hD hS hA [7, 8, 9, 10, 11, 12, 13, 14, 15, 16, 17, 18, 19, 20, 21, 22, 23, 24, 25] rfl
  refine zlSi (wr := [(aQ, .inr (4, [.ref aY, .int (pv 1), .ref aS, .ref aNs, .ref aTs, .ref aEs, .ref aDc, .int (pv 7)])), (aDc, .inl (cd, 8, .inr (.inr (.inr (.inr dc))))), (aE, .inr (0, [.ref bE, .int (v 1), .int (v 2), .int (v 3), .int (v 4), .ref rE, .ref pE, .int (v 7), .int (v 8), .int (v 9), .int (v 10), .int (v 11), .int (v 12), .int (v 13), .int (v 14), .int (v 15)])), (bE, .inl (c1, 25, .inl b)), (rE, .inl (c2, 24, .inl rw)), (pE, .inl (c3, 24, .inl pw)), (aO, .inl (co, 1, .inr (.inl q3.2)))]) (w1 := (wM ad ca q6.2 mu)) (w' := (wQDEOM aQ aY aS aNs aTs aEs aDc aE bE rE pE aO ad cd c1 c2 c3 co ca pv dc v b rw pw q3.2 q6.2 mu)) (va_runV (As := []) (rest := []) ⟨hx, hb, hml, hown, hw⟩ (k_M_thrown l D ad ca _ q6.2 mu  q7 hq7) (zcV (C := RX6) 0 hw (zgood zw596) rfl rfl rfl zw7 zw594 zw595 zw597 hdX6_thrown ⟨Nat.le_of_ble_eq_true rfl, Nat.le_of_ble_eq_true rfl⟩) (zpreV (zpre zN_ok (A := fun q => s.heap.size ≤ q) trivial (zglob hSg hAs hS) (fun q h => hAs q (hFc q h)) hPc hKc (hDc.weaken (fun _ _ _ h => hAs _ h))) (va_recv hK hP rfl (q0 := 7) rfl)) rfl rfl hl.1 rfl (lv_room (Nat.le_of_ble_eq_true rfl)) dL_law_235 ⟨by show c0 + 0 ≤ 601024; omega, by show s0 + 0 ≤ 7293034; omega⟩) hP hD hS hFc [7, 8, 9, 10, 11, 12, 13, 14, 15, 16, 17, 18, 19, 20, 21, 22, 23, 24, 25] [0, 1, 2, 3, 4, 5, 6] [0, 1, 2, 3, 4, 5, 6, 7, 8, 9, 10, 11, 12, 13, 14, 15, 16, 17, 18, 19, 20, 21, 22, 23, 24, 25] rfl rfl (by decide) (by decide) rfl (by decide) (fun H locs hP hD hS => ?_)
  refine W.widen (k := c0 + 0) (n := s0 + 0) (by omega) (by omega) ?_
  refine lv_iload hx hb dL_law_238 (lv_at hl 1 rfl) ?_
  refine lv_icmp_eq (tgt := 245) hx hb dL_law_240 rfl (fun cd8 => ?_) (fun cd8 => ?_)
  · replace hm := zt cd8 hm
    refine lv_iload hx hb dL_law_245 (lv_at hl 1 rfl) ?_
    refine lv_if_ne (tgt := 262) hx hb dL_law_247 rfl (fun cd9 => ?_) (fun cd9 => ?_)
    · replace hm := zf cd9 hm
      refine lv_goto (tgt := 588) hx hb dL_law_262 rfl ?_
      cases hm
      refine W.widen (k := c0 + 1) (n := s0 + 6) (by omega) (by omega) ?_
      exact kk _ _ _ hP hD hS (lv_sub hl [2, 3, 4, 5, 6] rfl)
    · replace hm := zt cd9 hm
      refine lv_aload_n hx hb dL_law_250 rfl (lv_at hl 5 rfl) ?_
      refine lv_iconst (v := 0) hx hb dL_law_251 (by decide) ?_
      obtain ⟨hi10, hm⟩ := zix_s hm
      refine va_lald (i := 0) (f := q3.2) (n := 1) hx hb hK hP 6 4 rfl rfl hi10 dL_law_252 ?_
      refine lv_iload hx hb dL_law_253 (lv_at hl 0 rfl) ?_
      refine lv_i2l (v := ((q6.1).toInt64)) hx hb dL_law_255 rfl ?_
      refine W.lcmp (x := (q3.2 (0 : Int32).toNatClampNeg)) (y := ((q6.1).toInt64)) hx hb dL_law_256 ?_
      refine lv_if_eq (tgt := 262) hx hb dL_law_257 rfl (fun cd11 => ?_) (fun cd11 => ?_)
      · replace hm := zt cd11 hm
        refine lv_goto (tgt := 588) hx hb dL_law_262 rfl ?_
        cases hm
        refine W.widen (k := c0 + 1) (n := s0 + 6) (by omega) (by omega) ?_
        exact kk _ _ _ hP hD hS (lv_sub hl [2, 3, 4, 5, 6] rfl)
      · replace hm := zf cd11 hm
        refine lv_iconst (v := 0) hx hb dL_law_260 (by decide) ?_
        cases hm
  · replace hm := zf cd8 hm
    refine lv_iconst (v := 0) hx hb dL_law_243 (by decide) ?_
    cases hm

