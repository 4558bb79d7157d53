def m_F_L_look_n (xs : Nat → Int32) (L : Nat) (x4 : Int32) (pv : Nat → Int32) (dc : Nat → Option Nat) (ov : Nat → Int64) (mv : Nat → Int32) (mu : Nat → Nat → Int32)  : Option ((Nat → Int32)) := zix (x4 + 1) L (zix (x4 + 2) L ((m_L_look_n (xs (x4 + 1).toNatClampNeg) (xs (x4 + 2).toNatClampNeg) pv dc).bind (fun q3 => zix (x4 + 1) L (zix (x4 + 2) L ((m_M_look (xs (x4 + 1).toNatClampNeg) (xs (x4 + 2).toNatClampNeg) mv mu).bind (fun q6 => (m_M_thrown q6.2 mu).bind (fun q7 => (if q7 = q3 then (if q3 = 0 then zix 0 1 ((if (lg_cmp (ov (0 : Int32).toNatClampNeg) ((q6.1).toInt64)) = 0 then (some q6.2) else none)) else (some q6.2)) else none))))))))
set_option maxRecDepth 100000 in
set_option maxHeartbeats 4000000 in
theorem f_F_L_look_n {p : Program} {l : Launch} {e : Env} {s : State} {m : MethodId} {args : Array Value} {below : List Frame} {meth : Method} {c : Code} {D : va_G} {w0 : va_W} {H0 : Heap} {Q : State → Prop} {sb L : Nat} {xs : Nat → Int32} {x4 : Int32} {c0 s0 : Nat} (aQ aY aS aNs aTs aEs aDc aO : Nat) (ad : Nat → Nat) (cd co : ClassId) (ca : Nat → ClassId) (pv : Nat → Int32) (dc : Nat → Option Nat) (ov : Nat → Int64) (mv : Nat → Int32) (mu : Nat → Nat → Int32) (G : zG p s m args meth c cL_law RL 8 (some .boolean)) (hK : va_K D vwCl (wQDoOM_t cd co ca) s) (hX : zW (fun q => s.heap.size ≤ q) s) (hl0 : l.stackTraces = false) (hSg : va_S (fun q => s.heap.size ≤ q) s.heap H0 []) (hAs : ∀ q, (va_A w0 H0.size) q → s.heap.size ≤ q) (hsb : va_X sb L xs s H0) (hbl : sb < H0.size) (hbA : ¬ (va_A w0 H0.size) sb) (hc0 : c0 + 1 ≤ 601024) (hs0 : s0 + 6 ≤ 7293034) {res : (Nat → Int32)} (hm : m_F_L_look_n xs L x4 pv dc ov mv mu  = some res)
    (kk : ∀ (H : Heap) (locs : List Loc) (ls : Array Slot), va_P D vwCl (wQDoOM aQ aY aS aNs aTs aEs aDc aO ad cd co ca pv dc ov res mu) H → va_D (va_A w0 H0.size) (wQDoOM aQ aY aS aNs aTs aEs aDc aO ad cd co ca pv dc ov res mu) → va_S (va_A w0 H0.size) H0 H locs → lv_has ls 8 [(0, .ref sb), (1, .ref aQ), (2, .ref (ad 0)), (3, .ref aO), (4, .int x4)] → W p l e room_1 s m args below meth c H locs (c0 + 1) (s0 + 6) Q (F0 m 588 ls []))
    (H : Heap) (locs : List Loc) (ls : Array Slot) (hP : va_P D vwCl (wQDoOM aQ aY aS aNs aTs aEs aDc aO ad cd co ca pv dc ov mv mu) H) (hD : va_D (va_A w0 H0.size) (wQDoOM aQ aY aS aNs aTs aEs aDc aO ad cd co ca pv dc ov mv mu)) (hS : va_S (va_A w0 H0.size) H0 H locs) (hl : lv_has ls 8 [(0, .ref sb), (1, .ref aQ), (2, .ref (ad 0)), (3, .ref aO), (4, .int x4)]) : W p l e room_1 s m args below meth c H locs c0 s0 Q (F0 m 197 ls []) := by
  obtain ⟨hx, hb, hr, hml, hown, hw, hlk⟩ := G
  have hA : ∀ q, H0.size ≤ q → (va_A w0 H0.size) q := fun q h => Or.inr h
  unfold m_F_L_look_n at hm
  refine lv_aload_n hx hb dL_law_197 rfl (lv_at hl 1 rfl) ?_
  refine lv_aload_n hx hb dL_law_198 rfl (lv_at hl 0 rfl) ?_
  refine lv_iload hx hb dL_law_199 (lv_at hl 4 rfl) ?_
  refine lv_iconst (v := 1) hx hb dL_law_201 (by decide) ?_
  refine lv_iadd hx hb dL_law_202 ?_
  obtain ⟨hi1, hm⟩ := zix_s hm
  refine va_sld (i := (x4 + 1)) (xs := xs) hx hb hsb hbl hbA hS hi1 dL_law_203 ?_
  refine lv_aload_n hx hb dL_law_204 rfl (lv_at hl 0 rfl) ?_
  refine lv_iload hx hb dL_law_205 (lv_at hl 4 rfl) ?_
  refine lv_iconst (v := 2) hx hb dL_law_207 (by decide) ?_
  refine lv_iadd hx hb dL_law_208 ?_
  obtain ⟨hi2, hm⟩ := zix_s hm
  refine va_sld (i := (x4 + 2)) (xs := xs) hx hb hsb hbl hbA hS hi2 dL_law_209 ?_
  refine lv_aload_n hx hb dL_law_210 rfl (lv_at hl 3 rfl) ?_
  obtain ⟨q3, hq3, hm⟩ := zbind hm
  have hPc := hP.sub (ws' := (wQDo aQ aY aS aNs aTs aEs aDc aO cd pv dc)) [0, 1] rfl
  have hDc := hD.sub (ws' := (wQDo aQ aY aS aNs aTs aEs aDc aO cd pv dc)) [0, 1] (by decide) rfl
  have hKc := hK.sub (tys' := wQDo_t cd) [0] rfl
  have hFc := va_free (wc := (wQDo aQ aY aS aNs aTs aEs aDc aO cd pv dc)) hD hS hA [0, 1] rfl
  refine zlSi (wr := [(aO, .inl (co, 1, .inr (.inl ov))), ((ad 0), .inr (5, [.int (mv 0), .int (mv 1), .ref (ad 1), .int (mv 3), .ref (ad 2), .ref (ad 3), .ref (ad 4), .ref (ad 5), .ref (ad 6), .ref (ad 7), .ref (ad 8), .ref (ad 9), .ref (ad 10), .ref (ad 11), .ref (ad 12), .ref (ad 13), .ref (ad 14), .ref (ad 15), .ref (ad 16), .ref (ad 17), .int (mv 20), .int (mv 21), .ref (ad 18), .int (mv 23)])), ((ad 1), .inl ((ca 1), 24, .inl (mu 1))), ((ad 2), .inl ((ca 2), 9, .inl (mu 2))), ((ad 3), .inl ((ca 3), 216, .inl (mu 3))), ((ad 4), .inl ((ca 4), 216, .inl (mu 4))), ((ad 5), .inl ((ca 5), 9, .inl (mu 5))), ((ad 6), .inl ((ca 6), 9, .inl (mu 6))), ((ad 7), .inl ((ca 7), 9, .inl (mu 7))), ((ad 8), .inl ((ca 8), 9, .inl (mu 8))), ((ad 9), .inl ((ca 9), 9, .inl (mu 9))), ((ad 10), .inl ((ca 10), 9, .inl (mu 10))), ((ad 11), .inl ((ca 11), 9, .inl (mu 11))), ((ad 12), .inl ((ca 12), 9, .inl (mu 12))), ((ad 13), .inl ((ca 13), 9, .inl (mu 13))), ((ad 14), .inl ((ca 14), 9, .inl (mu 14))), ((ad 15), .inl ((ca 15), 9, .inl (mu 15))), ((ad 16), .inl ((ca 16), 256, .inl (mu 16))), ((ad 17), .inl ((ca 17), 48, .inl (mu 17))), ((ad 18), .inl ((ca 18), 32, .inl (mu 18)))]) (w1 := (wQDo aQ aY aS aNs aTs aEs aDc aO cd pv dc)) (w' := (wQDoOM aQ aY aS aNs aTs aEs aDc aO ad cd co ca pv dc ov mv mu)) (vx_runSW (As := [.ref aQ, .int (xs (x4 + 1).toNatClampNeg), .int (xs (x4 + 2).toNatClampNeg), .ref aO]) (rest := []) ⟨hx, hb, hml, hown, hw⟩ (k_L_look_n l D aQ aY aS aNs aTs aEs aDc aO cd _ (xs (x4 + 1).toNatClampNeg) (xs (x4 + 2).toNatClampNeg) pv dc hl0 q3 hq3) (vx_cwSW 4 hw (zgoodW (List.forall_mem_cons.mpr ⟨zw614, List.forall_mem_cons.mpr ⟨zw615, List.forall_mem_cons.mpr ⟨zw587, fun _ h => absurd h List.not_mem_nil⟩⟩⟩) zw616) rfl rfl rfl hdL_look ⟨Nat.le_of_ble_eq_true rfl, Nat.le_of_ble_eq_true rfl⟩) (zpre zW_ok (A := fun q => s.heap.size ≤ q) hX (zglob hSg hAs hS) (fun q h => hAs q (hFc q h)) hPc hKc (hDc.weaken (fun _ _ _ h => hAs _ h))) rfl rfl hl.1 rfl (lv_room (Nat.le_of_ble_eq_true rfl)) dL_law_211 ⟨by show c0 + 1 ≤ 601024; omega, by show s0 + 6 ≤ 7293034; omega⟩) hP hD hS hFc [0, 1] [2, 3, 4, 5, 6, 7, 8, 9, 10, 11, 12, 13, 14, 15, 16, 17, 18, 19, 20, 21] [20, 21, 0, 1, 2, 3, 4, 5, 6, 7, 8, 9, 10, 11, 12, 13, 14, 15, 16, 17, 18, 19] rfl rfl (by decide) (by decide) rfl (by decide) (fun H locs hP hD hS => ?_)
  refine W.widen (k := c0 + 1) (n := s0 + 6) (by omega) (by omega) ?_
  refine lv_istore (lv' := [(5, .int q3), (0, .ref sb), (1, .ref aQ), (2, .ref (ad 0)), (3, .ref aO), (4, .int x4)]) hx hb dL_law_214 hl (by decide) rfl (fun ls hl => ?_)
  refine lv_aload_n hx hb dL_law_216 rfl (lv_at hl 3 rfl) ?_
  refine lv_aload_n hx hb dL_law_217 rfl (lv_at hl 1 rfl) ?_
  refine lv_iload hx hb dL_law_218 (lv_at hl 5 rfl) ?_
  refine lv_iconst (v := 1) hx hb dL_law_220 (by decide) ?_
  refine lv_iadd hx hb dL_law_221 ?_
  obtain ⟨hi4, hm⟩ := zix_s hm
  refine va_sld (i := (x4 + 1)) (xs := xs) hx hb hsb hbl hbA hS hi4 dL_law_222 ?_
  refine lv_aload_n hx hb dL_law_223 rfl (lv_at hl 1 rfl) ?_
  refine lv_iload hx hb dL_law_224 (lv_at hl 5 rfl) ?_
  refine lv_iconst (v := 2) hx hb dL_law_226 (by decide) ?_
  refine lv_iadd hx hb dL_law_227 ?_
  obtain ⟨hi5, hm⟩ := zix_s hm
  refine va_sld (i := (x4 + 2)) (xs := xs) hx hb hsb hbl hbA hS hi5 dL_law_228 ?_
  obtain ⟨q6, hq6, hm⟩ := zbind hm
  have hPc := hP.sub (ws' := (wM ad ca mv mu)) [3, 4, 5, 6, 7, 8, 9, 10, 11, 12, 13, 14, 15, 16, 17, 18, 19, 20, 21] rfl
  have hDc := hD.sub (ws' := (wM ad ca mv mu)) [3, 4, 5, 6, 7, 8, 9, 10, 11, 12, 13, 14, 15, 16, 17, 18, 19, 20, 21] (by decide) rfl
  have hKc := hK.sub (tys' := wM_t ca) [2, 3, 4, 5, 6, 7, 8, 9, 10, 11, 12, 13, 14, 15, 16, 17, 18, 19] rfl
  have hFc := va_free (wc := (wM ad ca mv mu)) hD hS hA [3, 4, 5, 6, 7, 8, 9, 10, 11, 12, 13, 14, 15, 16, 17, 18, 19, 20, 21] rfl
  refine zlSi (wr := [(aQ, .inr (4, [.ref aY, .int (pv 1), .ref aS, .ref aNs, .ref aTs, .ref aEs, .ref aDc, .int (pv 7)])), (aDc, .inl (cd, 8, .inr (.inr (.inr (.inr dc))))), (aO, .inl (co, 1, .inr (.inl ov)))]) (w1 := (wM ad ca q6.2 mu)) (w' := (wQDoOM aQ aY aS aNs aTs aEs aDc aO ad cd co ca pv dc ov q6.2 mu)) (va_runV (As := [.int (xs (x4 + 1).toNatClampNeg), .int (xs (x4 + 2).toNatClampNeg)]) (rest := []) ⟨hx, hb, hml, hown, hw⟩ (k_M_look l D ad ca _ (xs (x4 + 1).toNatClampNeg) (xs (x4 + 2).toNatClampNeg) mv mu  q6 hq6) (zcV (C := RX6) 2 hw (zgood zw619) rfl rfl rfl zw7 zw617 zw618 zw620 hdX6_look ⟨Nat.le_of_ble_eq_true rfl, Nat.le_of_ble_eq_true rfl⟩) (zpreV (zpre zN_ok (A := fun q => s.heap.size ≤ q) trivial (zglob hSg hAs hS) (fun q h => hAs q (hFc q h)) hPc hKc (hDc.weaken (fun _ _ _ h => hAs _ h))) (va_recv hK hP rfl (q0 := 3) rfl)) rfl rfl hl.1 rfl (lv_room (Nat.le_of_ble_eq_true rfl)) dL_law_229 ⟨by show c0 + 1 ≤ 601024; omega, by show s0 + 6 ≤ 7293034; omega⟩) hP hD hS hFc [3, 4, 5, 6, 7, 8, 9, 10, 11, 12, 13, 14, 15, 16, 17, 18, 19, 20, 21] [0, 1, 2] [0, 1, 2, 3, 4, 5, 6, 7, 8, 9, 10, 11, 12, 13, 14, 15, 16, 17, 18, 19, 20, 21] rfl rfl (by decide) (by decide) rfl (by decide) (fun H locs hP hD hS => ?_)
  refine W.widen (k := c0 + 1) (n := s0 + 6) (by omega) (by omega) ?_
  refine lv_istore (lv' := [(6, .int q6.1), (5, .int q3), (0, .ref sb), (1, .ref aQ), (2, .ref (ad 0)), (3, .ref aO), (4, .int x4)]) hx hb dL_law_232 hl (by decide) rfl (fun ls hl => ?_)
  refine lv_aload_n hx hb dL_law_234 rfl (lv_at hl 4 rfl) ?_
  obtain ⟨q7, hq7, hm⟩ := zbind hm
  have hPc := hP.sub (ws' := (wM ad ca q6.2 mu)) [3, 4, 5, 6, 7, 8, 9, 10, 11, 12, 13, 14, 15, 16, 17, 18, 19, 20, 21] rfl
  have hDc := hD.sub (ws' := (wM ad ca q6.2 mu)) [3, 4, 5, 6, 7, 8, 9, 10, 11, 12, 13, 14, 15, 16, 17, 18, 19, 20, 21] (by decide) rfl
  have hKc := hK.sub (tys' := wM_t ca) [2, 3, 4, 5, 6, 7, 8, 9, 10, 11, 12, 13, 14, 15, 16, 17, 18, 19] rfl
  have hFc := va_free (wc := (wM ad ca q6.2 mu)) hD hS hA [3, 4, 5, 6, 7, 8, 9, 10, 11, 12, 13, 14, 15, 16, 17, 18, 19, 20, 21] rfl
  refine zlSi (wr := [(aQ, .inr (4, [.ref aY, .int (pv 1), .ref aS, .ref aNs, .ref aTs, .ref aEs, .ref aDc, .int (pv 7)])), (aDc, .inl (cd, 8, .inr (.inr (.inr (.inr dc))))), (aO, .inl (co, 1, .inr (.inl ov)))]) (w1 := (wM ad ca q6.2 mu)) (w' := (wQDoOM aQ aY aS aNs aTs aEs aDc aO ad cd co ca pv dc ov q6.2 mu)) (va_runV (As := []) (rest := []) ⟨hx, hb, hml, hown, hw⟩ (k_M_thrown l D ad ca _ q6.2 mu  q7 hq7) (zcV (C := RX6) 0 hw (zgood zw596) rfl rfl rfl zw7 zw594 zw595 zw597 hdX6_thrown ⟨Nat.le_of_ble_eq_true rfl, Nat.le_of_ble_eq_true rfl⟩) (zpreV (zpre zN_ok (A := fun q => s.heap.size ≤ q) trivial (zglob hSg hAs hS) (fun q h => hAs q (hFc q h)) hPc hKc (hDc.weaken (fun _ _ _ h => hAs _ h))) (va_recv hK hP rfl (q0 := 3) rfl)) rfl rfl hl.1 rfl (lv_room (Nat.le_of_ble_eq_true rfl)) dL_law_235 ⟨by show c0 + 1 ≤ 601024; omega, by show s0 + 6 ≤ 7293034; omega⟩) hP hD hS hFc [3, 4, 5, 6, 7, 8, 9, 10, 11, 12, 13, 14, 15, 16, 17, 18, 19, 20, 21] [0, 1, 2] [0, 1, 2, 3, 4, 5, 6, 7, 8, 9, 10, 11, 12, 13, 14, 15, 16, 17, 18, 19, 20, 21] rfl rfl (by decide) (by decide) rfl (by decide) (fun H locs hP hD hS => ?_)
  refine W.widen (k := c0 + 1) (n := s0 + 6) (by omega) (by omega) ?_
  refine lv_iload hx hb dL_law_238 (lv_at hl 1 rfl) ?_
  refine lv_icmp_eq (tgt := 245) hx hb dL_law_240 rfl (fun cd8 => ?_) (fun cd8 => ?_)
  · replace hm := zt cd8 hm
    refine lv_iload hx hb dL_law_245 (lv_at hl 1 rfl) ?_
    refine lv_if_ne (tgt := 262) hx hb dL_law_247 rfl (fun cd9 => ?_) (fun cd9 => ?_)
    · replace hm := zf cd9 hm
      refine lv_goto (tgt := 588) hx hb dL_law_262 rfl ?_
      cases hm
      refine W.widen (k := c0 + 1) (n := s0 + 6) (by omega) (by omega) ?_
      exact kk _ _ _ hP hD hS (lv_sub hl [2, 3, 4, 5, 6] rfl)
    · replace hm := zt cd9 hm
      refine lv_aload_n hx hb dL_law_250 rfl (lv_at hl 5 rfl) ?_
      refine lv_iconst (v := 0) hx hb dL_law_251 (by decide) ?_
      obtain ⟨hi10, hm⟩ := zix_s hm
      refine va_lald (i := 0) (f := ov) (n := 1) hx hb hK hP 2 1 rfl rfl hi10 dL_law_252 ?_
      refine lv_iload hx hb dL_law_253 (lv_at hl 0 rfl) ?_
      refine lv_i2l (v := ((q6.1).toInt64)) hx hb dL_law_255 rfl ?_
      refine W.lcmp (x := (ov (0 : Int32).toNatClampNeg)) (y := ((q6.1).toInt64)) hx hb dL_law_256 ?_
      refine lv_if_eq (tgt := 262) hx hb dL_law_257 rfl (fun cd11 => ?_) (fun cd11 => ?_)
      · replace hm := zt cd11 hm
        refine lv_goto (tgt := 588) hx hb dL_law_262 rfl ?_
        cases hm
        refine W.widen (k := c0 + 1) (n := s0 + 6) (by omega) (by omega) ?_
        exact kk _ _ _ hP hD hS (lv_sub hl [2, 3, 4, 5, 6] rfl)
      · replace hm := zf cd11 hm
        refine lv_iconst (v := 0) hx hb dL_law_260 (by decide) ?_
        cases hm
  · replace hm := zf cd8 hm
    refine lv_iconst (v := 0) hx hb dL_law_243 (by decide) ?_
    cases hm

def m_F_L_look_i (xs : Nat → Int32) (L : Nat) (x4 : Int32) (pv : Nat → Int32) (dc : Nat → Option Nat) (ov : Nat → Int64) (mv : Nat → Int32) (mu : Nat → Nat → Int32)  : Option ((Nat → Int32)) := zix (x4 + 1) L (zix (x4 + 2) L ((m_L_look_i (xs (x4 + 1).toNatClampNeg) (xs (x4 + 2).toNatClampNeg) pv dc).bind (fun q3 => zix (x4 + 1) L (zix (x4 + 2) L ((m_M_look (xs (x4 + 1).toNatClampNeg) (xs (x4 + 2).toNatClampNeg) mv mu).bind (fun q6 => (m_M_thrown q6.2 mu).bind (fun q7 => (if q7 = q3 then (if q3 = 0 then zix 0 1 ((if (lg_cmp (ov (0 : Int32).toNatClampNeg) ((q6.1).toInt64)) = 0 then (some q6.2) else none)) else (some q6.2)) else none))))))))
set_option maxRecDepth 100000 in
set_option maxHeartbeats 4000000 in
theorem f_F_L_look_i {p : Program} {l : Launch} {e : Env} {s : State} {m : MethodId} {args : Array Value} {below : List Frame} {meth : Method} {c : Code} {D : va_G} {w0 : va_W} {H0 : Heap} {Q : State → Prop} {sb L : Nat} {xs : Nat → Int32} {x4 : Int32} {c0 s0 : Nat} (aQ aY aS aNs aTs aEs aDc aO aF : Nat) (ad : Nat → Nat) (cd co : ClassId) (ca : Nat → ClassId) (pv : Nat → Int32) (dc : Nat → Option Nat) (ov : Nat → Int64) (mv : Nat → Int32) (mu : Nat → Nat → Int32) (G : zG p s m args meth c cL_law RL 8 (some .boolean)) (hK : va_K D vwCl (wQDfoOM_t cd co ca) s) (hX : zW (fun q => s.heap.size ≤ q) s) (hl0 : l.stackTraces = false) (hSg : va_S (fun q => s.heap.size ≤ q) s.heap H0 []) (hAs : ∀ q, (va_A w0 H0.size) q → s.heap.size ≤ q) (hsb : va_X sb L xs s H0) (hbl : sb < H0.size) (hbA : ¬ (va_A w0 H0.size) sb) (hc0 : c0 + 1 ≤ 601024) (hs0 : s0 + 6 ≤ 7293034) (hd : dc (xs (x4 + 1).toNatClampNeg).toNatClampNeg = some aF) {res : (Nat → Int32)} (hm : m_F_L_look_i xs L x4 pv dc ov mv mu  = some res)
    (kk : ∀ (H : Heap) (locs : List Loc) (ls : Array Slot), va_P D vwCl (wQDfoOM aQ aY aS aNs aTs aEs aDc aO aF ad cd co ca pv dc ov res mu) H → va_D (va_A w0 H0.size) (wQDfoOM aQ aY aS aNs aTs aEs aDc aO aF ad cd co ca pv dc ov res mu) → va_S (va_A w0 H0.size) H0 H locs → lv_has ls 8 [(0, .ref sb), (1, .ref aQ), (2, .ref (ad 0)), (3, .ref aO), (4, .int x4)] → W p l e room_1 s m args below meth c H locs (c0 + 1) (s0 + 6) Q (F0 m 588 ls []))
    (H : Heap) (locs : List Loc) (ls : Array Slot) (hP : va_P D vwCl (wQDfoOM aQ aY aS aNs aTs aEs aDc aO aF ad cd co ca pv dc ov mv mu) H) (hD : va_D (va_A w0 H0.size) (wQDfoOM aQ aY aS aNs aTs aEs aDc aO aF ad cd co ca pv dc ov mv mu)) (hS : va_S (va_A w0 H0.size) H0 H locs) (hl : lv_has ls 8 [(0, .ref sb), (1, .ref aQ), (2, .ref (ad 0)), (3, .ref aO), (4, .int x4)]) : W p l e room_1 s m args below meth c H locs c0 s0 Q (F0 m 197 ls []) := by
  obtain ⟨hx, hb, hr, hml, hown, hw, hlk⟩ := G
  have hA : ∀ q, H0.size ≤ q → (va_A w0 H0.size) q := fun q h => Or.inr h
  unfold m_F_L_look_i at hm
  refine lv_aload_n hx hb dL_law_197 rfl (lv_at hl 1 rfl) ?_
  refine lv_aload_n hx hb dL_law_198 rfl (lv_at hl 0 rfl) ?_
  refine lv_iload hx hb dL_law_199 (lv_at hl 4 rfl) ?_
  refine lv_iconst (v := 1) hx hb dL_law_201 (by decide) ?_
  refine lv_iadd hx hb dL_law_202 ?_
  obtain ⟨hi1, hm⟩ := zix_s hm
  refine va_sld (i := (x4 + 1)) (xs := xs) hx hb hsb hbl hbA hS hi1 dL_law_203 ?_
  refine lv_aload_n hx hb dL_law_204 rfl (lv_at hl 0 rfl) ?_
  refine lv_iload hx hb dL_law_205 (lv_at hl 4 rfl) ?_
  refine lv_iconst (v := 2) hx hb dL_law_207 (by decide) ?_
  refine lv_iadd hx hb dL_law_208 ?_
  obtain ⟨hi2, hm⟩ := zix_s hm
  refine va_sld (i := (x4 + 2)) (xs := xs) hx hb hsb hbl hbA hS hi2 dL_law_209 ?_
  refine lv_aload_n hx hb dL_law_210 rfl (lv_at hl 3 rfl) ?_
  obtain ⟨q3, hq3, hm⟩ := zbind hm
  have hPc := hP.sub (ws' := (wQDfo aQ aY aS aNs aTs aEs aDc aF aO cd pv dc)) [0, 1] rfl
  have hDc := hD.sub (ws' := (wQDfo aQ aY aS aNs aTs aEs aDc aF aO cd pv dc)) [0, 1] (by decide) rfl
  have hKc := hK.sub (tys' := wQDfo_t cd) [0] rfl
  have hFc := va_free (wc := (wQDfo aQ aY aS aNs aTs aEs aDc aF aO cd pv dc)) hD hS hA [0, 1] rfl
  refine zlSi (wr := [(aO, .inl (co, 1, .inr (.inl ov))), ((ad 0), .inr (5, [.int (mv 0), .int (mv 1), .ref (ad 1), .int (mv 3), .ref (ad 2), .ref (ad 3), .ref (ad 4), .ref (ad 5), .ref (ad 6), .ref (ad 7), .ref (ad 8), .ref (ad 9), .ref (ad 10), .ref (ad 11), .ref (ad 12), .ref (ad 13), .ref (ad 14), .ref (ad 15), .ref (ad 16), .ref (ad 17), .int (mv 20), .int (mv 21), .ref (ad 18), .int (mv 23)])), ((ad 1), .inl ((ca 1), 24, .inl (mu 1))), ((ad 2), .inl ((ca 2), 9, .inl (mu 2))), ((ad 3), .inl ((ca 3), 216, .inl (mu 3))), ((ad 4), .inl ((ca 4), 216, .inl (mu 4))), ((ad 5), .inl ((ca 5), 9, .inl (mu 5))), ((ad 6), .inl ((ca 6), 9, .inl (mu 6))), ((ad 7), .inl ((ca 7), 9, .inl (mu 7))), ((ad 8), .inl ((ca 8), 9, .inl (mu 8))), ((ad 9), .inl ((ca 9), 9, .inl (mu 9))), ((ad 10), .inl ((ca 10), 9, .inl (mu 10))), ((ad 11), .inl ((ca 11), 9, .inl (mu 11))), ((ad 12), .inl ((ca 12), 9, .inl (mu 12))), ((ad 13), .inl ((ca 13), 9, .inl (mu 13))), ((ad 14), .inl ((ca 14), 9, .inl (mu 14))), ((ad 15), .inl ((ca 15), 9, .inl (mu 15))), ((ad 16), .inl ((ca 16), 256, .inl (mu 16))), ((ad 17), .inl ((ca 17), 48, .inl (mu 17))), ((ad 18), .inl ((ca 18), 32, .inl (mu 18)))]) (w1 := (wQDfo aQ aY aS aNs aTs aEs aDc aF aO cd pv dc)) (w' := (wQDfoOM aQ aY aS aNs aTs aEs aDc aO aF ad cd co ca pv dc ov mv mu)) (vx_runSW (As := [.ref aQ, .int (xs (x4 + 1).toNatClampNeg), .int (xs (x4 + 2).toNatClampNeg), .ref aO]) (rest := []) ⟨hx, hb, hml, hown, hw⟩ (k_L_look_i l D aQ aY aS aNs aTs aEs aDc aF aO cd _ (xs (x4 + 1).toNatClampNeg) (xs (x4 + 2).toNatClampNeg) pv dc hl0 hd q3 hq3) (vx_cwSW 4 hw (zgoodW (List.forall_mem_cons.mpr ⟨zw614, List.forall_mem_cons.mpr ⟨zw615, List.forall_mem_cons.mpr ⟨zw587, fun _ h => absurd h List.not_mem_nil⟩⟩⟩) zw616) rfl rfl rfl hdL_look ⟨Nat.le_of_ble_eq_true rfl, Nat.le_of_ble_eq_true rfl⟩) (zpre zW_ok (A := fun q => s.heap.size ≤ q) hX (zglob hSg hAs hS) (fun q h => hAs q (hFc q h)) hPc hKc (hDc.weaken (fun _ _ _ h => hAs _ h))) rfl rfl hl.1 rfl (lv_room (Nat.le_of_ble_eq_true rfl)) dL_law_211 ⟨by show c0 + 1 ≤ 601024; omega, by show s0 + 6 ≤ 7293034; omega⟩) hP hD hS hFc [0, 1] [2, 3, 4, 5, 6, 7, 8, 9, 10, 11, 12, 13, 14, 15, 16, 17, 18, 19, 20, 21] [20, 21, 0, 1, 2, 3, 4, 5, 6, 7, 8, 9, 10, 11, 12, 13, 14, 15, 16, 17, 18, 19] rfl rfl (by decide) (by decide) rfl (by decide) (fun H locs hP hD hS => ?_)
  refine W.widen (k := c0 + 1) (n := s0 + 6) (by omega) (by omega) ?_
  refine lv_istore (lv' := [(5, .int q3), (0, .ref sb), (1, .ref aQ), (2, .ref (ad 0)), (3, .ref aO), (4, .int x4)]) hx hb dL_law_214 hl (by decide) rfl (fun ls hl => ?_)
  refine lv_aload_n hx hb dL_law_216 rfl (lv_at hl 3 rfl) ?_
  refine lv_aload_n hx hb dL_law_217 rfl (lv_at hl 1 rfl) ?_
  refine lv_iload hx hb dL_law_218 (lv_at hl 5 rfl) ?_
  refine lv_iconst (v := 1) hx hb dL_law_220 (by decide) ?_
  refine lv_iadd hx hb dL_law_221 ?_
  obtain ⟨hi4, hm⟩ := zix_s hm
  refine va_sld (i := (x4 + 1)) (xs := xs) hx hb hsb hbl hbA hS hi4 dL_law_222 ?_
  refine lv_aload_n hx hb dL_law_223 rfl (lv_at hl 1 rfl) ?_
  refine lv_iload hx hb dL_law_224 (lv_at hl 5 rfl) ?_
  refine lv_iconst (v := 2) hx hb dL_law_226 (by decide) ?_
  refine lv_iadd hx hb dL_law_227 ?_
  obtain ⟨hi5, hm⟩ := zix_s hm
  refine va_sld (i := (x4 + 2)) (xs := xs) hx hb hsb hbl hbA hS hi5 dL_law_228 ?_
  obtain ⟨q6, hq6, hm⟩ := zbind hm
  have hPc := hP.sub (ws' := (wM ad ca mv mu)) [3, 4, 5, 6, 7, 8, 9, 10, 11, 12, 13, 14, 15, 16, 17, 18, 19, 20, 21] rfl
  have hDc := hD.sub (ws' := (wM ad ca mv mu)) [3, 4, 5, 6, 7, 8, 9, 10, 11, 12, 13, 14, 15, 16, 17, 18, 19, 20, 21] (by decide) rfl
  have hKc := hK.sub (tys' := wM_t ca) [2, 3, 4, 5, 6, 7, 8, 9, 10, 11, 12, 13, 14, 15, 16, 17, 18, 19] rfl
  have hFc := va_free (wc := (wM ad ca mv mu)) hD hS hA [3, 4, 5, 6, 7, 8, 9, 10, 11, 12, 13, 14, 15, 16, 17, 18, 19, 20, 21] rfl
  refine zlSi (wr := [(aQ, .inr (4, [.ref aY, .int (pv 1), .ref aS, .ref aNs, .ref aTs, .ref aEs, .ref aDc, .int (pv 7)])), (aDc, .inl (cd, 8, .inr (.inr (.inr (.inr dc))))), (aO, .inl (co, 1, .inr (.inl ov)))]) (w1 := (wM ad ca q6.2 mu)) (w' := (wQDfoOM aQ aY aS aNs aTs aEs aDc aO aF ad cd co ca pv dc ov q6.2 mu)) (va_runV (As := [.int (xs (x4 + 1).toNatClampNeg), .int (xs (x4 + 2).toNatClampNeg)]) (rest := []) ⟨hx, hb, hml, hown, hw⟩ (k_M_look l D ad ca _ (xs (x4 + 1).toNatClampNeg) (xs (x4 + 2).toNatClampNeg) mv mu  q6 hq6) (zcV (C := RX6) 2 hw (zgood zw619) rfl rfl rfl zw7 zw617 zw618 zw620 hdX6_look ⟨Nat.le_of_ble_eq_true rfl, Nat.le_of_ble_eq_true rfl⟩) (zpreV (zpre zN_ok (A := fun q => s.heap.size ≤ q) trivial (zglob hSg hAs hS) (fun q h => hAs q (hFc q h)) hPc hKc (hDc.weaken (fun _ _ _ h => hAs _ h))) (va_recv hK hP rfl (q0 := 3) rfl)) rfl rfl hl.1 rfl (lv_room (Nat.le_of_ble_eq_true rfl)) dL_law_229 ⟨by show c0 + 1 ≤ 601024; omega, by show s0 + 6 ≤ 7293034; omega⟩) hP hD hS hFc [3, 4, 5, 6, 7, 8, 9, 10, 11, 12, 13, 14, 15, 16, 17, 18, 19, 20, 21] [0, 1, 2] [0, 1, 2, 3, 4, 5, 6, 7, 8, 9, 10, 11, 12, 13, 14, 15, 16, 17, 18, 19, 20, 21] rfl rfl (by decide) (by decide) rfl (by decide) (fun H locs hP hD hS => ?_)
  refine W.widen (k := c0 + 1) (n := s0 + 6) (by omega) (by omega) ?_
  refine lv_istore (lv' := [(6, .int q6.1), (5, .int q3), (0, .ref sb), (1, .ref aQ), (2, .ref (ad 0)), (3, .ref aO), (4, .int x4)]) hx hb dL_law_232 hl (by decide) rfl (fun ls hl => ?_)
  refine lv_aload_n hx hb dL_law_234 rfl (lv_at hl 4 rfl) ?_
  obtain ⟨q7, hq7, hm⟩ := zbind hm
  have hPc := hP.sub (ws' := (wM ad ca q6.2 mu)) [3, 4, 5, 6, 7, 8, 9, 10, 11, 12, 13, 14, 15, 16, 17, 18, 19, 20, 21] rfl
  have hDc := hD.sub (ws' := (wM ad ca q6.2 mu)) [3, 4, 5, 6, 7, 8, 9, 10, 11, 12, 13, 14, 15, 16, 17, 18, 19, 20, 21] (by decide) rfl
  have hKc := hK.sub (tys' := wM_t ca) [2, 3, 4, 5, 6, 7, 8, 9, 10, 11, 12, 13, 14, 15, 16, 17, 18, 19] rfl
  have hFc := va_free (wc := (wM ad ca q6.2 mu)) hD hS hA [3, 4, 5, 6, 7, 8, 9, 10, 11, 12, 13, 14, 15, 16, 17, 18, 19, 20, 21] rfl
  refine zlSi (wr := [(aQ, .inr (4, [.ref aY, .int (pv 1), .ref aS, .ref aNs, .ref aTs, .ref aEs, .ref aDc, .int (pv 7)])), (aDc, .inl (cd, 8, .inr (.inr (.inr (.inr dc))))), (aO, .inl (co, 1, .inr (.inl ov)))]) (w1 := (wM ad ca q6.2 mu)) (w' := (wQDfoOM aQ aY aS aNs aTs aEs aDc aO aF ad cd co ca pv dc ov q6.2 mu)) (va_runV (As := []) (rest := []) ⟨hx, hb, hml, hown, hw⟩ (k_M_thrown l D ad ca _ q6.2 mu  q7 hq7) (zcV (C := RX6) 0 hw (zgood zw596) rfl rfl rfl zw7 zw594 zw595 zw597 hdX6_thrown ⟨Nat.le_of_ble_eq_true rfl, Nat.le_of_ble_eq_true rfl⟩) (zpreV (zpre zN_ok (A := fun q => s.heap.size ≤ q) trivial (zglob hSg hAs hS) (fun q h => hAs q (hFc q h)) hPc hKc (hDc.weaken (fun _ _ _ h => hAs _ h))) (va_recv hK hP rfl (q0 := 3) rfl)) rfl rfl hl.1 rfl (lv_room (Nat.le_of_ble_eq_true rfl)) dL_law_235 ⟨by show c0 + 1 ≤ 601024; omega, by show s0 + 6 ≤ 7293034; omega⟩) hP hD hS hFc [3, 4, 5, 6, 7, 8, 9, 10, 11, 12, 13, 14, 15, 16, 17, 18, 19, 20, 21] [0, 1, 2] [0, 1, 2, 3, 4, 5, 6, 7, 8, 9, 10, 11, 12, 13, 14, 15, 16, 17, 18, 19, 20, 21] rfl rfl (by decide) (by decide) rfl (by decide) (fun H locs hP hD hS => ?_)
  refine W.widen (k := c0 + 1) (n := s0 + 6) (by omega) (by omega) ?_
  refine lv_iload hx hb dL_law_238 (lv_at hl 1 rfl) ?_
  refine lv_icmp_eq (tgt := 245) hx hb dL_law_240 rfl (fun cd8 => ?_) (fun cd8 => ?_)
  · replace hm := zt cd8 hm
    refine lv_iload hx hb dL_law_245 (lv_at hl 1 rfl) ?_
    refine lv_if_ne (tgt := 262) hx hb dL_law_247 rfl (fun cd9 => ?_) (fun cd9 => ?_)
    · replace hm := zf cd9 hm
      refine lv_goto (tgt := 588) hx hb dL_law_262 rfl ?_
      cases hm
      refine W.widen (k := c0 + 1) (n := s0 + 6) (by omega) (by omega) ?_
      exact kk _ _ _ hP hD hS (lv_sub hl [2, 3, 4, 5, 6] rfl)
    · replace hm := zt cd9 hm
      refine lv_aload_n hx hb dL_law_250 rfl (lv_at hl 5 rfl) ?_
      refine lv_iconst (v := 0) hx hb dL_law_251 (by decide) ?_
      obtain ⟨hi10, hm⟩ := zix_s hm
      refine va_lald (i := 0) (f := ov) (n := 1) hx hb hK hP 2 1 rfl rfl hi10 dL_law_252 ?_
      refine lv_iload hx hb dL_law_253 (lv_at hl 0 rfl) ?_
      refine lv_i2l (v := ((q6.1).toInt64)) hx hb dL_law_255 rfl ?_
      refine W.lcmp (x := (ov (0 : Int32).toNatClampNeg)) (y := ((q6.1).toInt64)) hx hb dL_law_256 ?_
      refine lv_if_eq (tgt := 262) hx hb dL_law_257 rfl (fun cd11 => ?_) (fun cd11 => ?_)
      · replace hm := zt cd11 hm
        refine lv_goto (tgt := 588) hx hb dL_law_262 rfl ?_
        cases hm
        refine W.widen (k := c0 + 1) (n := s0 + 6) (by omega) (by omega) ?_
        exact kk _ _ _ hP hD hS (lv_sub hl [2, 3, 4, 5, 6] rfl)
      · replace hm := zf cd11 hm
        refine lv_iconst (v := 0) hx hb dL_law_260 (by decide) ?_
        cases hm
  · replace hm := zf cd8 hm
    refine lv_iconst (v := 0) hx hb dL_law_243 (by decide) ?_
    cases hm

def m_F_L_get_N (xs : Nat → Int32) (L : Nat) (x4 : Int32) (pv : Nat → Int32) (dc : Nat → Option Nat) (v : Nat → Int32) (b : Nat → Int32) (ov : Nat → Int64) (mv : Nat → Int32) (mu : Nat → Nat → Int32)  : Option ((Nat → Int64) × (Nat → Int32)) := zix (x4 + 1) L (zix (x4 + 2) L ((m_L_get_N (xs (x4 + 1).toNatClampNeg) (xs (x4 + 2).toNatClampNeg) pv dc v b ov).bind (fun q3 => zix (x4 + 1) L (zix (x4 + 2) L ((m_M_get (xs (x4 + 1).toNatClampNeg) (xs (x4 + 2).toNatClampNeg) mv mu).bind (fun q6 => (m_M_thrown q6.2 mu).bind (fun q7 => (if q7 = q3.1 then (if q3.1 = 0 then zix 0 1 ((if (lg_cmp (q3.2 (0 : Int32).toNatClampNeg) ((q6.1).toInt64)) = 0 then (some (q3.2, q6.2)) else none)) else (some (q3.2, q6.2))) else none))))))))
set_option maxRecDepth 100000 in
set_option maxHeartbeats 4000000 in
theorem f_F_L_get_N {p : Program} {l : Launch} {e : Env} {s : State} {m : MethodId} {args : Array Value} {below : List Frame} {meth : Method} {c : Code} {D : va_G} {w0 : va_W} {H0 : Heap} {Q : State → Prop} {sb L : Nat} {xs : Nat → Int32} {x4 : Int32} {c0 s0 : Nat} (aQ aY aS aNs aTs aEs aDc aN bN aO : Nat) (ad : Nat → Nat) (cd c1 co : ClassId) (ca : Nat → ClassId) (pv : Nat → Int32) (dc : Nat → Option Nat) (v : Nat → Int32) (b : Nat → Int32) (ov : Nat → Int64) (mv : Nat → Int32) (mu : Nat → Nat → Int32) (G : zG p s m args meth c cL_law RL 8 (some .boolean)) (hK : va_K D vwCl (wQDNOM_t cd c1 co ca) s) (hX : zW (fun q => s.heap.size ≤ q) s) (hl0 : l.stackTraces = false) (hSg : va_S (fun q => s.heap.size ≤ q) s.heap H0 []) (hAs : ∀ q, (va_A w0 H0.size) q → s.heap.size ≤ q) (hsb : va_X sb L xs s H0) (hbl : sb < H0.size) (hbA : ¬ (va_A w0 H0.size) sb) (hc0 : c0 + 1 ≤ 601024) (hs0 : s0 + 6 ≤ 7293034) (hd : dc (xs (x4 + 1).toNatClampNeg).toNatClampNeg = some aN) {res : (Nat → Int64) × (Nat → Int32)} (hm : m_F_L_get_N xs L x4 pv dc v b ov mv mu  = some res)
    (kk : ∀ (H : Heap) (locs : List Loc) (ls : Array Slot), va_P D vwCl (wQDNOM aQ aY aS aNs aTs aEs aDc aN bN aO ad cd c1 co ca pv dc v b res.1 res.2 mu) H → va_D (va_A w0 H0.size) (wQDNOM aQ aY aS aNs aTs aEs aDc aN bN aO ad cd c1 co ca pv dc v b res.1 res.2 mu) → va_S (va_A w0 H0.size) H0 H locs → lv_has ls 8 [(0, .ref sb), (1, .ref aQ), (2, .ref (ad 0)), (3, .ref aO), (4, .int x4)] → W p l e room_1 s m args below meth c H locs (c0 + 1) (s0 + 6) Q (F0 m 588 ls []))
    (H : Heap) (locs : List Loc) (ls : Array Slot) (hP : va_P D vwCl (wQDNOM aQ aY aS aNs aTs aEs aDc aN bN aO ad cd c1 co ca pv dc v b ov mv mu) H) (hD : va_D (va_A w0 H0.size) (wQDNOM aQ aY aS aNs aTs aEs aDc aN bN aO ad cd c1 co ca pv dc v b ov mv mu)) (hS : va_S (va_A w0 H0.size) H0 H locs) (hl : lv_has ls 8 [(0, .ref sb), (1, .ref aQ), (2, .ref (ad 0)), (3, .ref aO), (4, .int x4)]) : W p l e room_1 s m args below meth c H locs c0 s0 Q (F0 m 265 ls []) := by
  obtain ⟨hx, hb, hr, hml, hown, hw, hlk⟩ := G
  have hA : ∀ q, H0.size ≤ q → (va_A w0 H0.size) q := fun q h => Or.inr h
  unfold m_F_L_get_N at hm
  refine lv_aload_n hx hb dL_law_265 rfl (lv_at hl 1 rfl) ?_
  refine lv_aload_n hx hb dL_law_266 rfl (lv_at hl 0 rfl) ?_
  refine lv_iload hx hb dL_law_267 (lv_at hl 4 rfl) ?_
  refine lv_iconst (v := 1) hx hb dL_law_269 (by decide) ?_
  refine lv_iadd hx hb dL_law_270 ?_
  obtain ⟨hi1, hm⟩ := zix_s hm
  refine va_sld (i := (x4 + 1)) (xs := xs) hx hb hsb hbl hbA hS hi1 dL_law_271 ?_
  refine lv_aload_n hx hb dL_law_272 rfl (lv_at hl 0 rfl) ?_
  refine lv_iload hx hb dL_law_273 (lv_at hl 4 rfl) ?_
  refine lv_iconst (v := 2) hx hb dL_law_275 (by decide) ?_
  refine lv_iadd hx hb dL_law_276 ?_
  obtain ⟨hi2, hm⟩ := zix_s hm
  refine va_sld (i := (x4 + 2)) (xs := xs) hx hb hsb hbl hbA hS hi2 dL_law_277 ?_
  refine lv_aload_n hx hb dL_law_278 rfl (lv_at hl 3 rfl) ?_
  obtain ⟨q3, hq3, hm⟩ := zbind hm
  have hPc := hP.sub (ws' := (wQDNO aQ aY aS aNs aTs aEs aDc aN bN aO cd c1 co pv dc v b ov)) [0, 1, 2, 3, 4] rfl
  have hDc := hD.sub (ws' := (wQDNO aQ aY aS aNs aTs aEs aDc aN bN aO cd c1 co pv dc v b ov)) [0, 1, 2, 3, 4] (by decide) rfl
  have hKc := hK.sub (tys' := wQDNO_t cd c1 co) [0, 1, 2] rfl
  have hFc := va_free (wc := (wQDNO aQ aY aS aNs aTs aEs aDc aN bN aO cd c1 co pv dc v b ov)) hD hS hA [0, 1, 2, 3, 4] rfl
  refine zlSi (wr := [((ad 0), .inr (5, [.int (mv 0), .int (mv 1), .ref (ad 1), .int (mv 3), .ref (ad 2), .ref (ad 3), .ref (ad 4), .ref (ad 5), .ref (ad 6), .ref (ad 7), .ref (ad 8), .ref (ad 9), .ref (ad 10), .ref (ad 11), .ref (ad 12), .ref (ad 13), .ref (ad 14), .ref (ad 15), .ref (ad 16), .ref (ad 17), .int (mv 20), .int (mv 21), .ref (ad 18), .int (mv 23)])), ((ad 1), .inl ((ca 1), 24, .inl (mu 1))), ((ad 2), .inl ((ca 2), 9, .inl (mu 2))), ((ad 3), .inl ((ca 3), 216, .inl (mu 3))), ((ad 4), .inl ((ca 4), 216, .inl (mu 4))), ((ad 5), .inl ((ca 5), 9, .inl (mu 5))), ((ad 6), .inl ((ca 6), 9, .inl (mu 6))), ((ad 7), .inl ((ca 7), 9, .inl (mu 7))), ((ad 8), .inl ((ca 8), 9, .inl (mu 8))), ((ad 9), .inl ((ca 9), 9, .inl (mu 9))), ((ad 10), .inl ((ca 10), 9, .inl (mu 10))), ((ad 11), .inl ((ca 11), 9, .inl (mu 11))), ((ad 12), .inl ((ca 12), 9, .inl (mu 12))), ((ad 13), .inl ((ca 13), 9, .inl (mu 13))), ((ad 14), .inl ((ca 14), 9, .inl (mu 14))), ((ad 15), .inl ((ca 15), 9, .inl (mu 15))), ((ad 16), .inl ((ca 16), 256, .inl (mu 16))), ((ad 17), .inl ((ca 17), 48, .inl (mu 17))), ((ad 18), .inl ((ca 18), 32, .inl (mu 18)))]) (w1 := (wQDNO aQ aY aS aNs aTs aEs aDc aN bN aO cd c1 co pv dc v b q3.2)) (w' := (wQDNOM aQ aY aS aNs aTs aEs aDc aN bN aO ad cd c1 co ca pv dc v b q3.2 mv mu)) (vx_runSW (As := [.ref aQ, .int (xs (x4 + 1).toNatClampNeg), .int (xs (x4 + 2).toNatClampNeg), .ref aO]) (rest := []) ⟨hx, hb, hml, hown, hw⟩ (k_L_get_N l D aQ aY aS aNs aTs aEs aDc aN bN aO cd c1 co _ (xs (x4 + 1).toNatClampNeg) (xs (x4 + 2).toNatClampNeg) pv dc v b ov hd q3 hq3) (vx_cwSW 4 hw (zgoodW (List.forall_mem_cons.mpr ⟨zw621, List.forall_mem_cons.mpr ⟨zw622, List.forall_mem_cons.mpr ⟨zw587, fun _ h => absurd h List.not_mem_nil⟩⟩⟩) zw623) rfl rfl rfl hdL_get ⟨Nat.le_of_ble_eq_true rfl, Nat.le_of_ble_eq_true rfl⟩) (zpre zW_ok (A := fun q => s.heap.size ≤ q) hX (zglob hSg hAs hS) (fun q h => hAs q (hFc q h)) hPc hKc (hDc.weaken (fun _ _ _ h => hAs _ h))) rfl rfl hl.1 rfl (lv_room (Nat.le_of_ble_eq_true rfl)) dL_law_279 ⟨by show c0 + 0 ≤ 601024; omega, by show s0 + 0 ≤ 7293034; omega⟩) hP hD hS hFc [0, 1, 2, 3, 4] [5, 6, 7, 8, 9, 10, 11, 12, 13, 14, 15, 16, 17, 18, 19, 20, 21, 22, 23] [19, 20, 21, 22, 23, 0, 1, 2, 3, 4, 5, 6, 7, 8, 9, 10, 11, 12, 13, 14, 15, 16, 17, 18] rfl rfl (by decide) (by decide) rfl (by decide) (fun H locs hP hD hS => ?_)
  refine W.widen (k := c0 + 0) (n := s0 + 0) (by omega) (by omega) ?_
  refine lv_istore (lv' := [(5, .int q3.1), (0, .ref sb), (1, .ref aQ), (2, .ref (ad 0)), (3, .ref aO), (4, .int x4)]) hx hb dL_law_282 hl (by decide) rfl (fun ls hl => ?_)
  refine lv_aload_n hx hb dL_law_284 rfl (lv_at hl 3 rfl) ?_
  refine lv_aload_n hx hb dL_law_285 rfl (lv_at hl 1 rfl) ?_
  refine lv_iload hx hb dL_law_286 (lv_at hl 5 rfl) ?_
  refine lv_iconst (v := 1) hx hb dL_law_288 (by decide) ?_
  refine lv_iadd hx hb dL_law_289 ?_
  obtain ⟨hi4, hm⟩ := zix_s hm
  refine va_sld (i := (x4 + 1)) (xs := xs) hx hb hsb hbl hbA hS hi4 dL_law_290 ?_
  refine lv_aload_n hx hb dL_law_291 rfl (lv_at hl 1 rfl) ?_
  refine lv_iload hx hb dL_law_292 (lv_at hl 5 rfl) ?_
  refine lv_iconst (v := 2) hx hb dL_law_294 (by decide) ?_
  refine lv_iadd hx hb dL_law_295 ?_
  obtain ⟨hi5, hm⟩ := zix_s hm
  refine va_sld (i := (x4 + 2)) (xs := xs) hx hb hsb hbl hbA hS hi5 dL_law_296 ?_
  obtain ⟨q6, hq6, hm⟩ := zbind hm
  have hPc := hP.sub (ws' := (wM ad ca mv mu)) [5, 6, 7, 8, 9, 10, 11, 12, 13, 14, 15, 16, 17, 18, 19, 20, 21, 22, 23] rfl
  have hDc := hD.sub (ws' := (wM ad ca mv mu)) [5, 6, 7, 8, 9, 10, 11, 12, 13, 14, 15, 16, 17, 18, 19, 20, 21, 22, 23] (by decide) rfl
  have hKc := hK.sub (tys' := wM_t ca) [3, 4, 5, 6, 7, 8, 9, 10, 11, 12, 13, 14, 15, 16, 17, 18, 19, 20] rfl
  have hFc := va_free (wc := (wM ad ca mv mu)) hD hS hA [5, 6, 7, 8, 9, 10, 11, 12, 13, 14, 15, 16, 17, 18, 19, 20, 21, 22, 23] rfl
  refine zlSi (wr := [(aQ, .inr (4, [.ref aY, .int (pv 1), .ref aS, .ref aNs, .ref aTs, .ref aEs, .ref aDc, .int (pv 7)])), (aDc, .inl (cd, 8, .inr (.inr (.inr (.inr dc))))), (aN, .inr (1, [.ref bN, .int (v 1), .int (v 2), .int (v 3), .int (v 4), .int (v 5), .int (v 6), .int (v 7)])), (bN, .inl (c1, 25, .inl b)), (aO, .inl (co, 1, .inr (.inl q3.2)))]) (w1 := (wM ad ca q6.2 mu)) (w' := (wQDNOM aQ aY aS aNs aTs aEs aDc aN bN aO ad cd c1 co ca pv dc v b q3.2 q6.2 mu)) (va_runV (As := [.int (xs (x4 + 1).toNatClampNeg), .int (xs (x4 + 2).toNatClampNeg)]) (rest := []) ⟨hx, hb, hml, hown, hw⟩ (k_M_get l D ad ca _ (xs (x4 + 1).toNatClampNeg) (xs (x4 + 2).toNatClampNeg) mv mu  q6 hq6) (zcV (C := RX6) 2 hw (zgood zw626) rfl rfl rfl zw7 zw624 zw625 zw627 hdX6_get ⟨Nat.le_of_ble_eq_true rfl, Nat.le_of_ble_eq_true rfl⟩) (zpreV (zpre zN_ok (A := fun q => s.heap.size ≤ q) trivial (zglob hSg hAs hS) (fun q h => hAs q (hFc q h)) hPc hKc (hDc.weaken (fun _ _ _ h => hAs _ h))) (va_recv hK hP rfl (q0 := 5) rfl)) rfl rfl hl.1 rfl (lv_room (Nat.le_of_ble_eq_true rfl)) dL_law_297 ⟨by show c0 + 0 ≤ 601024; omega, by show s0 + 0 ≤ 7293034; omega⟩) hP hD hS hFc [5, 6, 7, 8, 9, 10, 11, 12, 13, 14, 15, 16, 17, 18, 19, 20, 21, 22, 23] [0, 1, 2, 3, 4] [0, 1, 2, 3, 4, 5, 6, 7, 8, 9, 10, 11, 12, 13, 14, 15, 16, 17, 18, 19, 20, 21, 22, 23] rfl rfl (by decide) (by decide) rfl (by decide) (fun H locs hP hD hS => ?_)
  refine W.widen (k := c0 + 0) (n := s0 + 0) (by omega) (by omega) ?_
  refine lv_istore (lv' := [(6, .int q6.1), (5, .int q3.1), (0, .ref sb), (1, .ref aQ), (2, .ref (ad 0)), (3, .ref aO), (4, .int x4)]) hx hb dL_law_300 hl (by decide) rfl (fun ls hl => ?_)
  refine lv_aload_n hx hb dL_law_302 rfl (lv_at hl 4 rfl) ?_
  obtain ⟨q7, hq7, hm⟩ := zbind hm
  have hPc := hP.sub (ws' := (wM ad ca q6.2 mu)) [5, 6, 7, 8, 9, 10, 11, 12, 13, 14, 15, 16, 17, 18, 19, 20, 21, 22, 23] rfl
  have hDc := hD.sub (ws' := (wM ad ca q6.2 mu)) [5, 6, 7, 8, 9, 10, 11, 12, 13, 14, 15, 16, 17, 18, 19, 20, 21, 22, 23] (by decide) rfl
  have hKc := hK.sub (tys' := wM_t ca) [3, 4, 5, 6, 7, 8, 9, 10, 11, 12, 13, 14, 15, 16, 17, 18, 19, 20] rfl
  have hFc := va_free (wc := (wM ad ca q6.2 mu)) hD hS hA [5, 6, 7, 8, 9, 10, 11, 12, 13, 14, 15, 16, 17, 18, 19, 20, 21, 22, 23] rfl
  refine zlSi (wr := [(aQ, .inr (4, [.ref aY, .int (pv 1), .ref aS, .ref aNs, .ref aTs, .ref aEs, .ref aDc, .int (pv 7)])), (aDc, .inl (cd, 8, .inr (.inr (.inr (.inr dc))))), (aN, .inr (1, [.ref bN, .int (v 1), .int (v 2), .int (v 3), .int (v 4), .int (v 5), .int (v 6), .int (v 7)])), (bN, .inl (c1, 25, .inl b)), (aO, .inl (co, 1, .inr (.inl q3.2)))]) (w1 := (wM ad ca q6.2 mu)) (w' := (wQDNOM aQ aY aS aNs aTs aEs aDc aN bN aO ad cd c1 co ca pv dc v b q3.2 q6.2 mu)) (va_runV (As := []) (rest := []) ⟨hx, hb, hml, hown, hw⟩ (k_M_thrown l D ad ca _ q6.2 mu  q7 hq7) (zcV (C := RX6) 0 hw (zgood zw596) rfl rfl rfl zw7 zw594 zw595 zw597 hdX6_thrown ⟨Nat.le_of_ble_eq_true rfl, Nat.le_of_ble_eq_true rfl⟩) (zpreV (zpre zN_ok (A := fun q => s.heap.size ≤ q) trivial (zglob hSg hAs hS) (fun q h => hAs q (hFc q h)) hPc hKc (hDc.weaken (fun _ _ _ h => hAs _ h))) (va_recv hK hP rfl (q0 := 5) rfl)) rfl rfl hl.1 rfl (lv_room (Nat.le_of_ble_eq_true rfl)) dL_law_303 ⟨by show c0 + 0 ≤ 601024; omega, by show s0 + 0 ≤ 7293034; omega⟩) hP hD hS hFc [5, 6, 7, 8, 9, 10, 11, 12, 13, 14, 15, 16, 17, 18, 19, 20, 21, 22, 23] [0, 1, 2, 3, 4] [0, 1, 2, 3, 4, 5, 6, 7, 8, 9, 10, 11, 12, 13, 14, 15, 16, 17, 18, 19, 20, 21, 22, 23] rfl rfl (by decide) (by decide) rfl (by decide) (fun H locs hP hD hS => ?_)
  refine W.widen (k := c0 + 0) (n := s0 + 0) (by omega) (by omega) ?_
  refine lv_iload hx hb dL_law_306 (lv_at hl 1 rfl) ?_
  refine lv_icmp_eq (tgt := 313) hx hb dL_law_308 rfl (fun cd8 => ?_) (fun cd8 => ?_)
  · replace hm := zt cd8 hm
    refine lv_iload hx hb dL_law_313 (lv_at hl 1 rfl) ?_
    refine lv_if_ne (tgt := 330) hx hb dL_law_315 rfl (fun cd9 => ?_) (fun cd9 => ?_)
    · replace hm := zf cd9 hm
      refine lv_goto (tgt := 588) hx hb dL_law_330 rfl ?_
      cases hm
      refine W.widen (k := c0 + 1) (n := s0 + 6) (by omega) (by omega) ?_
      exact kk _ _ _ hP hD hS (lv_sub hl [2, 3, 4, 5, 6] rfl)
    · replace hm := zt cd9 hm
      refine lv_aload_n hx hb dL_law_318 rfl (lv_at hl 5 rfl) ?_
      refine lv_iconst (v := 0) hx hb dL_law_319 (by decide) ?_
      obtain ⟨hi10, hm⟩ := zix_s hm
      refine va_lald (i := 0) (f := q3.2) (n := 1) hx hb hK hP 4 2 rfl rfl hi10 dL_law_320 ?_
      refine lv_iload hx hb dL_law_321 (lv_at hl 0 rfl) ?_
      refine lv_i2l (v := ((q6.1).toInt64)) hx hb dL_law_323 rfl ?_
      refine W.lcmp (x := (q3.2 (0 : Int32).toNatClampNeg)) (y := ((q6.1).toInt64)) hx hb dL_law_324 ?_
      refine lv_if_eq (tgt := 330) hx hb dL_law_325 rfl (fun cd11 => ?_) (fun cd11 => ?_)
      · replace hm := zt cd11 hm
        refine lv_goto (tgt := 588) hx hb dL_law_330 rfl ?_
        cases hm
        refine W.widen (k := c0 + 1) (n := s0 + 6) (by omega) (by omega) ?_
        exact kk _ _ _ hP hD hS (lv_sub hl [2, 3, 4, 5, 6] rfl)
      · replace hm := zf cd11 hm
        refine lv_iconst (v := 0) hx hb dL_law_328 (by decide) ?_
        cases hm
  · replace hm := zf cd8 hm
    refine lv_iconst (v := 0) hx hb dL_law_311 (by decide) ?_
    cases hm

def m_F_L_get_n2N (xs : Nat → Int32) (L : Nat) (x4 : Int32) (pv : Nat → Int32) (dc : Nat → Option Nat) (v : Nat → Int32) (b : Nat → Int32) (ov : Nat → Int64) (mv : Nat → Int32) (mu : Nat → Nat → Int32)  : Option ((Nat → Int32)) := zix (x4 + 1) L (zix (x4 + 2) L ((m_L_get_n2N (xs (x4 + 1).toNatClampNeg) (xs (x4 + 2).toNatClampNeg) pv dc v b).bind (fun q3 => zix (x4 + 1) L (zix (x4 + 2) L ((m_M_get (xs (x4 + 1).toNatClampNeg) (xs (x4 + 2).toNatClampNeg) mv mu).bind (fun q6 => (m_M_thrown q6.2 mu).bind (fun q7 => (if q7 = q3 then (if q3 = 0 then zix 0 1 ((if (lg_cmp (ov (0 : Int32).toNatClampNeg) ((q6.1).toInt64)) = 0 then (some q6.2) else none)) else (some q6.2)) else none))))))))
set_option maxRecDepth 100000 in
set_option maxHeartbeats 4000000 in
theorem f_F_L_get_n2N {p : Program} {l : Launch} {e : Env} {s : State} {m : MethodId} {args : Array Value} {below : List Frame} {meth : Method} {c : Code} {D : va_G} {w0 : va_W} {H0 : Heap} {Q : State → Prop} {sb L : Nat} {xs : Nat → Int32} {x4 : Int32} {c0 s0 : Nat} (aQ aY aS aNs aTs aEs aDc aN bN aO : Nat) (ad : Nat → Nat) (cd c1 co : ClassId) (ca : Nat → ClassId) (pv : Nat → Int32) (dc : Nat → Option Nat) (v : Nat → Int32) (b : Nat → Int32) (ov : Nat → Int64) (mv : Nat → Int32) (mu : Nat → Nat → Int32) (G : zG p s m args meth c cL_law RL 8 (some .boolean)) (hK : va_K D vwCl (wQDNoOM_t cd c1 co ca) s) (hX : zW (fun q => s.heap.size ≤ q) s) (hl0 : l.stackTraces = false) (hSg : va_S (fun q => s.heap.size ≤ q) s.heap H0 []) (hAs : ∀ q, (va_A w0 H0.size) q → s.heap.size ≤ q) (hsb : va_X sb L xs s H0) (hbl : sb < H0.size) (hbA : ¬ (va_A w0 H0.size) sb) (hc0 : c0 + 1 ≤ 601024) (hs0 : s0 + 6 ≤ 7293034) (hd : dc (xs (x4 + 1).toNatClampNeg).toNatClampNeg = some aN) {res : (Nat → Int32)} (hm : m_F_L_get_n2N xs L x4 pv dc v b ov mv mu  = some res)
    (kk : ∀ (H : Heap) (locs : List Loc) (ls : Array Slot), va_P D vwCl (wQDNoOM aQ aY aS aNs aTs aEs aDc aN bN aO ad cd c1 co ca pv dc v b ov res mu) H → va_D (va_A w0 H0.size) (wQDNoOM aQ aY aS aNs aTs aEs aDc aN bN aO ad cd c1 co ca pv dc v b ov res mu) → va_S (va_A w0 H0.size) H0 H locs → lv_has ls 8 [(0, .ref sb), (1, .ref aQ), (2, .ref (ad 0)), (3, .ref aO), (4, .int x4)] → W p l e room_1 s m args below meth c H locs (c0 + 1) (s0 + 6) Q (F0 m 588 ls []))
    (H : Heap) (locs : List Loc) (ls : Array Slot) (hP : va_P D vwCl (wQDNoOM aQ aY aS aNs aTs aEs aDc aN bN aO ad cd c1 co ca pv dc v b ov mv mu) H) (hD : va_D (va_A w0 H0.size) (wQDNoOM aQ aY aS aNs aTs aEs aDc aN bN aO ad cd c1 co ca pv dc v b ov mv mu)) (hS : va_S (va_A w0 H0.size) H0 H locs) (hl : lv_has ls 8 [(0, .ref sb), (1, .ref aQ), (2, .ref (ad 0)), (3, .ref aO), (4, .int x4)]) : W p l e room_1 s m args below meth c H locs c0 s0 Q (F0 m 265 ls []) := by
  obtain ⟨hx, hb, hr, hml, hown, hw, hlk⟩ := G
  have hA : ∀ q, H0.size ≤ q → (va_A w0 H0.size) q := fun q h => Or.inr h
  unfold m_F_L_get_n2N at hm
  refine lv_aload_n hx hb dL_law_265 rfl (lv_at hl 1 rfl) ?_
  refine lv_aload_n hx hb dL_law_266 rfl (lv_at hl 0 rfl) ?_
  refine lv_iload hx hb dL_law_267 (lv_at hl 4 rfl) ?_
  refine lv_iconst (v := 1) hx hb dL_law_269 (by decide) ?_
  refine lv_iadd hx hb dL_law_270 ?_
  obtain ⟨hi1, hm⟩ := zix_s hm
  refine va_sld (i := (x4 + 1)) (xs := xs) hx hb hsb hbl hbA hS hi1 dL_law_271 ?_
  refine lv_aload_n hx hb dL_law_272 rfl (lv_at hl 0 rfl) ?_
  refine lv_iload hx hb dL_law_273 (lv_at hl 4 rfl) ?_
  refine lv_iconst (v := 2) hx hb dL_law_275 (by decide) ?_
  refine lv_iadd hx hb dL_law_276 ?_
  obtain ⟨hi2, hm⟩ := zix_s hm
  refine va_sld (i := (x4 + 2)) (xs := xs) hx hb hsb hbl hbA hS hi2 dL_law_277 ?_
  refine lv_aload_n hx hb dL_law_278 rfl (lv_at hl 3 rfl) ?_
  obtain ⟨q3, hq3, hm⟩ := zbind hm
  have hPc := hP.sub (ws' := (wQDNo aQ aY aS aNs aTs aEs aDc aN bN aO cd c1 pv dc v b)) [0, 1, 2, 3] rfl
  have hDc := hD.sub (ws' := (wQDNo aQ aY aS aNs aTs aEs aDc aN bN aO cd c1 pv dc v b)) [0, 1, 2, 3] (by decide) rfl
  have hKc := hK.sub (tys' := wQDNo_t cd c1) [0, 1] rfl
  have hFc := va_free (wc := (wQDNo aQ aY aS aNs aTs aEs aDc aN bN aO cd c1 pv dc v b)) hD hS hA [0, 1, 2, 3] rfl
  refine zlSi (wr := [(aO, .inl (co, 1, .inr (.inl ov))), ((ad 0), .inr (5, [.int (mv 0), .int (mv 1), .ref (ad 1), .int (mv 3), .ref (ad 2), .ref (ad 3), .ref (ad 4), .ref (ad 5), .ref (ad 6), .ref (ad 7), .ref (ad 8), .ref (ad 9), .ref (ad 10), .ref (ad 11), .ref (ad 12), .ref (ad 13), .ref (ad 14), .ref (ad 15), .ref (ad 16), .ref (ad 17), .int (mv 20), .int (mv 21), .ref (ad 18), .int (mv 23)])), ((ad 1), .inl ((ca 1), 24, .inl (mu 1))), ((ad 2), .inl ((ca 2), 9, .inl (mu 2))), ((ad 3), .inl ((ca 3), 216, .inl (mu 3))), ((ad 4), .inl ((ca 4), 216, .inl (mu 4))), ((ad 5), .inl ((ca 5), 9, .inl (mu 5))), ((ad 6), .inl ((ca 6), 9, .inl (mu 6))), ((ad 7), .inl ((ca 7), 9, .inl (mu 7))), ((ad 8), .inl ((ca 8), 9, .inl (mu 8))), ((ad 9), .inl ((ca 9), 9, .inl (mu 9))), ((ad 10), .inl ((ca 10), 9, .inl (mu 10))), ((ad 11), .inl ((ca 11), 9, .inl (mu 11))), ((ad 12), .inl ((ca 12), 9, .inl (mu 12))), ((ad 13), .inl ((ca 13), 9, .inl (mu 13))), ((ad 14), .inl ((ca 14), 9, .inl (mu 14))), ((ad 15), .inl ((ca 15), 9, .inl (mu 15))), ((ad 16), .inl ((ca 16), 256, .inl (mu 16))), ((ad 17), .inl ((ca 17), 48, .inl (mu 17))), ((ad 18), .inl ((ca 18), 32, .inl (mu 18)))]) (w1 := (wQDNo aQ aY aS aNs aTs aEs aDc aN bN aO cd c1 pv dc v b)) (w' := (wQDNoOM aQ aY aS aNs aTs aEs aDc aN bN aO ad cd c1 co ca pv dc v b ov mv mu)) (vx_runSW (As := [.ref aQ, .int (xs (x4 + 1).toNatClampNeg), .int (xs (x4 + 2).toNatClampNeg), .ref aO]) (rest := []) ⟨hx, hb, hml, hown, hw⟩ (k_L_get_n2N l D aQ aY aS aNs aTs aEs aDc aN bN aO cd c1 _ (xs (x4 + 1).toNatClampNeg) (xs (x4 + 2).toNatClampNeg) pv dc v b hl0 hd q3 hq3) (vx_cwSW 4 hw (zgoodW (List.forall_mem_cons.mpr ⟨zw621, List.forall_mem_cons.mpr ⟨zw622, List.forall_mem_cons.mpr ⟨zw587, fun _ h => absurd h List.not_mem_nil⟩⟩⟩) zw623) rfl rfl rfl hdL_get ⟨Nat.le_of_ble_eq_true rfl, Nat.le_of_ble_eq_true rfl⟩) (zpre zW_ok (A := fun q => s.heap.size ≤ q) hX (zglob hSg hAs hS) (fun q h => hAs q (hFc q h)) hPc hKc (hDc.weaken (fun _ _ _ h => hAs _ h))) rfl rfl hl.1 rfl (lv_room (Nat.le_of_ble_eq_true rfl)) dL_law_279 ⟨by show c0 + 1 ≤ 601024; omega, by show s0 + 6 ≤ 7293034; omega⟩) hP hD hS hFc [0, 1, 2, 3] [4, 5, 6, 7, 8, 9, 10, 11, 12, 13, 14, 15, 16, 17, 18, 19, 20, 21, 22, 23] [20, 21, 22, 23, 0, 1, 2, 3, 4, 5, 6, 7, 8, 9, 10, 11, 12, 13, 14, 15, 16, 17, 18, 19] rfl rfl (by decide) (by decide) rfl (by decide) (fun H locs hP hD hS => ?_)
  refine W.widen (k := c0 + 1) (n := s0 + 6) (by omega) (by omega) ?_
  refine lv_istore (lv' := [(5, .int q3), (0, .ref sb), (1, .ref aQ), (2, .ref (ad 0)), (3, .ref aO), (4, .int x4)]) hx hb dL_law_282 hl (by decide) rfl (fun ls hl => ?_)
  refine lv_aload_n hx hb dL_law_284 rfl (lv_at hl 3 rfl) ?_
  refine lv_aload_n hx hb dL_law_285 rfl (lv_at hl 1 rfl) ?_
  refine lv_iload hx hb dL_law_286 (lv_at hl 5 rfl) ?_
  refine lv_iconst (v := 1) hx hb dL_law_288 (by decide) ?_
  refine lv_iadd hx hb dL_law_289 ?_
  obtain ⟨hi4, hm⟩ := zix_s hm
  refine va_sld (i := (x4 + 1)) (xs := xs) hx hb hsb hbl hbA hS hi4 dL_law_290 ?_
  refine lv_aload_n hx hb dL_law_291 rfl (lv_at hl 1 rfl) ?_
  refine lv_iload hx hb dL_law_292 (lv_at hl 5 rfl) ?_
  refine lv_iconst (v := 2) hx hb dL_law_294 (by decide) ?_
  refine lv_iadd hx hb dL_law_295 ?_
  obtain ⟨hi5, hm⟩ := zix_s hm
  refine va_sld (i := (x4 + 2)) (xs := xs) hx hb hsb hbl hbA hS hi5 dL_law_296 ?_
  obtain ⟨q6, hq6, hm⟩ := zbind hm
  have hPc := hP.sub (ws' := (wM ad ca mv mu)) [5, 6, 7, 8, 9, 10, 11, 12, 13, 14, 15, 16, 17, 18, 19, 20, 21, 22, 23] rfl
  have hDc := hD.sub (ws' := (wM ad ca mv mu)) [5, 6, 7, 8, 9, 10, 11, 12, 13, 14, 15, 16, 17, 18, 19, 20, 21, 22, 23] (by decide) rfl
  have hKc := hK.sub (tys' := wM_t ca) [3, 4, 5, 6, 7, 8, 9, 10, 11, 12, 13, 14, 15, 16, 17, 18, 19, 20] rfl
  have hFc := va_free (wc := (wM ad ca mv mu)) hD hS hA [5, 6, 7, 8, 9, 10, 11, 12, 13, 14, 15, 16, 17, 18, 19, 20, 21, 22, 23] rfl
  refine zlSi (wr := [(aQ, .inr (4, [.ref aY, .int (pv 1), .ref aS, .ref aNs, .ref aTs, .ref aEs, .ref aDc, .int (pv 7)])), (aDc, .inl (cd, 8, .inr (.inr (.inr (.inr dc))))), (aN, .inr (1, [.ref bN, .int (v 1), .int (v 2), .int (v 3), .int (v 4), .int (v 5), .int (v 6), .int (v 7)])), (bN, .inl (c1, 25, .inl b)), (aO, .inl (co, 1, .inr (.inl ov)))]) (w1 := (wM ad ca q6.2 mu)) (w' := (wQDNoOM aQ aY aS aNs aTs aEs aDc aN bN aO ad cd c1 co ca pv dc v b ov q6.2 mu)) (va_runV (As := [.int (xs (x4 + 1).toNatClampNeg), .int (xs (x4 + 2).toNatClampNeg)]) (rest := []) ⟨hx, hb, hml, hown, hw⟩ (k_M_get l D ad ca _ (xs (x4 + 1).toNatClampNeg) (xs (x4 + 2).toNatClampNeg) mv mu  q6 hq6) (zcV (C := RX6) 2 hw (zgood zw626) rfl rfl rfl zw7 zw624 zw625 zw627 hdX6_get ⟨Nat.le_of_ble_eq_true rfl, Nat.le_of_ble_eq_true rfl⟩) (zpreV (zpre zN_ok (A := fun q => s.heap.size ≤ q) trivial (zglob hSg hAs hS) (fun q h => hAs q (hFc q h)) hPc hKc (hDc.weaken (fun _ _ _ h => hAs _ h))) (va_recv hK hP rfl (q0 := 5) rfl)) rfl rfl hl.1 rfl (lv_room (Nat.le_of_ble_eq_true rfl)) dL_law_297 ⟨by show c0 + 1 ≤ 601024; omega, by show s0 + 6 ≤ 7293034; omega⟩) hP hD hS hFc [5, 6, 7, 8, 9, 10, 11, 12, 13, 14, 15, 16, 17, 18, 19, 20, 21, 22, 23] [0, 1, 2, 3, 4] [0, 1, 2, 3, 4, 5, 6, 7, 8, 9, 10, 11, 12, 13, 14, 15, 16, 17, 18, 19, 20, 21, 22, 23] rfl rfl (by decide) (by decide) rfl (by decide) (fun H locs hP hD hS => ?_)
  refine W.widen (k := c0 + 1) (n := s0 + 6) (by omega) (by omega) ?_
  refine lv_istore (lv' := [(6, .int q6.1), (5, .int q3), (0, .ref sb), (1, .ref aQ), (2, .ref (ad 0)), (3, .ref aO), (4, .int x4)]) hx hb dL_law_300 hl (by decide) rfl (fun ls hl => ?_)
  refine lv_aload_n hx hb dL_law_302 rfl (lv_at hl 4 rfl) ?_
  obtain ⟨q7, hq7, hm⟩ := zbind hm
  have hPc := hP.sub (ws' := (wM ad ca q6.2 mu)) [5, 6, 7, 8, 9, 10, 11, 12, 13, 14, 15, 16, 17, 18, 19, 20, 21, 22, 23] rfl
  have hDc := hD.sub (ws' := (wM ad ca q6.2 mu)) [5, 6, 7, 8, 9, 10, 11, 12, 13, 14, 15, 16, 17, 18, 19, 20, 21, 22, 23] (by decide) rfl
  have hKc := hK.sub (tys' := wM_t ca) [3, 4, 5, 6, 7, 8, 9, 10, 11, 12, 13, 14, 15, 16, 17, 18, 19, 20] rfl
  have hFc := va_free (wc := (wM ad ca q6.2 mu)) hD hS hA [5, 6, 7, 8, 9, 10, 11, 12, 13, 14, 15, 16, 17, 18, 19, 20, 21, 22, 23] rfl
  refine zlSi (wr := [(aQ, .inr (4, [.ref aY, .int (pv 1), .ref aS, .ref aNs, .ref aTs, .ref aEs, .ref aDc, .int (pv 7)])), (aDc, .inl (cd, 8, .inr (.inr (.inr (.inr dc))))), (aN, .inr (1, [.ref bN, .int (v 1), .int (v 2), .int (v 3), .int (v 4), .int (v 5), .int (v 6), .int (v 7)])), (bN, .inl (c1, 25, .inl b)), (aO, .inl (co, 1, .inr (.inl ov)))]) (w1 := (wM ad ca q6.2 mu)) (w' := (wQDNoOM aQ aY aS aNs aTs aEs aDc aN bN aO ad cd c1 co ca pv dc v b ov q6.2 mu)) (va_runV (As := []) (rest := []) ⟨hx, hb, hml, hown, hw⟩ (k_M_thrown l D ad ca _ q6.2 mu  q7 hq7) (zcV (C := RX6) 0 hw (zgood zw596) rfl rfl rfl zw7 zw594 zw595 zw597 hdX6_thrown ⟨Nat.le_of_ble_eq_true rfl, Nat.le_of_ble_eq_true rfl⟩) (zpreV (zpre zN_ok (A := fun q => s.heap.size ≤ q) trivial (zglob hSg hAs hS) (fun q h => hAs q (hFc q h)) hPc hKc (hDc.weaken (fun _ _ _ h => hAs _ h))) (va_recv hK hP rfl (q0 := 5) rfl)) rfl rfl hl.1 rfl (lv_room (Nat.le_of_ble_eq_true rfl)) dL_law_303 ⟨by show c0 + 1 ≤ 601024; omega, by show s0 + 6 ≤ 7293034; omega⟩) hP hD hS hFc [5, 6, 7, 8, 9, 10, 11, 12, 13, 14, 15, 16, 17, 18, 19, 20, 21, 22, 23] [0, 1, 2, 3, 4] [0, 1, 2, 3, 4, 5, 6, 7, 8, 9, 10, 11, 12, 13, 14, 15, 16, 17, 18, 19, 20, 21, 22, 23] rfl rfl (by decide) (by decide) rfl (by decide) (fun H locs hP hD hS => ?_)
  refine W.widen (k := c0 + 1) (n := s0 + 6) (by omega) (by omega) ?_
  refine lv_iload hx hb dL_law_306 (lv_at hl 1 rfl) ?_
  refine lv_icmp_eq (tgt := 313) hx hb dL_law_308 rfl (fun cd8 => ?_) (fun cd8 => ?_)
  · replace hm := zt cd8 hm
    refine lv_iload hx hb dL_law_313 (lv_at hl 1 rfl) ?_
    refine lv_if_ne (tgt := 330) hx hb dL_law_315 rfl (fun cd9 => ?_) (fun cd9 => ?_)
    · replace hm := zf cd9 hm
      refine lv_goto (tgt := 588) hx hb dL_law_330 rfl ?_
      cases hm
      refine W.widen (k := c0 + 1) (n := s0 + 6) (by omega) (by omega) ?_
      exact kk _ _ _ hP hD hS (lv_sub hl [2, 3, 4, 5, 6] rfl)
    · replace hm := zt cd9 hm
      refine lv_aload_n hx hb dL_law_318 rfl (lv_at hl 5 rfl) ?_
      refine lv_iconst (v := 0) hx hb dL_law_319 (by decide) ?_
      obtain ⟨hi10, hm⟩ := zix_s hm
      refine va_lald (i := 0) (f := ov) (n := 1) hx hb hK hP 4 2 rfl rfl hi10 dL_law_320 ?_
      refine lv_iload hx hb dL_law_321 (lv_at hl 0 rfl) ?_
      refine lv_i2l (v := ((q6.1).toInt64)) hx hb dL_law_323 rfl ?_
      refine W.lcmp (x := (ov (0 : Int32).toNatClampNeg)) (y := ((q6.1).toInt64)) hx hb dL_law_324 ?_
      refine lv_if_eq (tgt := 330) hx hb dL_law_325 rfl (fun cd11 => ?_) (fun cd11 => ?_)
      · replace hm := zt cd11 hm
        refine lv_goto (tgt := 588) hx hb dL_law_330 rfl ?_
        cases hm
        refine W.widen (k := c0 + 1) (n := s0 + 6) (by omega) (by omega) ?_
        exact kk _ _ _ hP hD hS (lv_sub hl [2, 3, 4, 5, 6] rfl)
      · replace hm := zf cd11 hm
        refine lv_iconst (v := 0) hx hb dL_law_328 (by decide) ?_
        cases hm
  · replace hm := zf cd8 hm
    refine lv_iconst (v := 0) hx hb dL_law_311 (by decide) ?_
    cases hm

def m_F_L_get_T (xs : Nat → Int32) (L : Nat) (x4 : Int32) (pv : Nat → Int32) (dc : Nat → Option Nat) (v : Nat → Int32) (b : Nat → Int32) (ov : Nat → Int64) (mv : Nat → Int32) (mu : Nat → Nat → Int32)  : Option ((Nat → Int64) × (Nat → Int32)) := zix (x4 + 1) L (zix (x4 + 2) L ((m_L_get_T (xs (x4 + 1).toNatClampNeg) (xs (x4 + 2).toNatClampNeg) pv dc v b ov).bind (fun q3 => zix (x4 + 1) L (zix (x4 + 2) L ((m_M_get (xs (x4 + 1).toNatClampNeg) (xs (x4 + 2).toNatClampNeg) mv mu).bind (fun q6 => (m_M_thrown q6.2 mu).bind (fun q7 => (if q7 = q3.1 then (if q3.1 = 0 then zix 0 1 ((if (lg_cmp (q3.2 (0 : Int32).toNatClampNeg) ((q6.1).toInt64)) = 0 then (some (q3.2, q6.2)) else none)) else (some (q3.2, q6.2))) else none))))))))
set_option maxRecDepth 100000 in
set_option maxHeartbeats 4000000 in
theorem f_F_L_get_T {p : Program} {l : Launch} {e : Env} {s : State} {m : MethodId} {args : Array Value} {below : List Frame} {meth : Method} {c : Code} {D : va_G} {w0 : va_W} {H0 : Heap} {Q : State → Prop} {sb L : Nat} {xs : Nat → Int32} {x4 : Int32} {c0 s0 : Nat} (aQ aY aS aNs aTs aEs aDc aT bT aO : Nat) (ad : Nat → Nat) (cd c1 co : ClassId) (ca : Nat → ClassId) (pv : Nat → Int32) (dc : Nat → Option Nat) (v : Nat → Int32) (b : Nat → Int32) (ov : Nat → Int64) (mv : Nat → Int32) (mu : Nat → Nat → Int32) (G : zG p s m args meth c cL_law RL 8 (some .boolean)) (hK : va_K D vwCl (wQDTOM_t cd c1 co ca) s) (hX : zW (fun q => s.heap.size ≤ q) s) (hl0 : l.stackTraces = false) (hSg : va_S (fun q => s.heap.size ≤ q) s.heap H0 []) (hAs : ∀ q, (va_A w0 H0.size) q → s.heap.size ≤ q) (hsb : va_X sb L xs s H0) (hbl : sb < H0.size) (hbA : ¬ (va_A w0 H0.size) sb) (hc0 : c0 + 1 ≤ 601024) (hs0 : s0 + 6 ≤ 7293034) (hd : dc (xs (x4 + 1).toNatClampNeg).toNatClampNeg = some aT) {res : (Nat → Int64) × (Nat → Int32)} (hm : m_F_L_get_T xs L x4 pv dc v b ov mv mu  = some res)
    (kk : ∀ (H : Heap) (locs : List Loc) (ls : Array Slot), va_P D vwCl (wQDTOM aQ aY aS aNs aTs aEs aDc aT bT aO ad cd c1 co ca pv dc v b res.1 res.2 mu) H → va_D (va_A w0 H0.size) (wQDTOM aQ aY aS aNs aTs aEs aDc aT bT aO ad cd c1 co ca pv dc v b res.1 res.2 mu) → va_S (va_A w0 H0.size) H0 H locs → lv_has ls 8 [(0, .ref sb), (1, .ref aQ), (2, .ref (ad 0)), (3, .ref aO), (4, .int x4)] → W p l e room_1 s m args below meth c H locs (c0 + 1) (s0 + 6) Q (F0 m 588 ls []))
    (H : Heap) (locs : List Loc) (ls : Array Slot) (hP : va_P D vwCl (wQDTOM aQ aY aS aNs aTs aEs aDc aT bT aO ad cd c1 co ca pv dc v b ov mv mu) H) (hD : va_D (va_A w0 H0.size) (wQDTOM aQ aY aS aNs aTs aEs aDc aT bT aO ad cd c1 co ca pv dc v b ov mv mu)) (hS : va_S (va_A w0 H0.size) H0 H locs) (hl : lv_has ls 8 [(0, .ref sb), (1, .ref aQ), (2, .ref (ad 0)), (3, .ref aO), (4, .int x4)]) : W p l e room_1 s m args below meth c H locs c0 s0 Q (F0 m 265 ls []) := by
  obtain ⟨hx, hb, hr, hml, hown, hw, hlk⟩ := G
  have hA : ∀ q, H0.size ≤ q → (va_A w0 H0.size) q := fun q h => Or.inr h
  unfold m_F_L_get_T at hm
  refine lv_aload_n hx hb dL_law_265 rfl (lv_at hl 1 rfl) ?_
  refine lv_aload_n hx hb dL_law_266 rfl (lv_at hl 0 rfl) ?_
  refine lv_iload hx hb dL_law_267 (lv_at hl 4 rfl) ?_
  refine lv_iconst (v := 1) hx hb dL_law_269 (by decide) ?_
  refine lv_iadd hx hb dL_law_270 ?_
  obtain ⟨hi1, hm⟩ := zix_s hm
  refine va_sld (i := (x4 + 1)) (xs := xs) hx hb hsb hbl hbA hS hi1 dL_law_271 ?_
  refine lv_aload_n hx hb dL_law_272 rfl (lv_at hl 0 rfl) ?_
  refine lv_iload hx hb dL_law_273 (lv_at hl 4 rfl) ?_
  refine lv_iconst (v := 2) hx hb dL_law_275 (by decide) ?_
  refine lv_iadd hx hb dL_law_276 ?_
  obtain ⟨hi2, hm⟩ := zix_s hm
  refine va_sld (i := (x4 + 2)) (xs := xs) hx hb hsb hbl hbA hS hi2 dL_law_277 ?_
  refine lv_aload_n hx hb dL_law_278 rfl (lv_at hl 3 rfl) ?_
  obtain ⟨q3, hq3, hm⟩ := zbind hm
  have hPc := hP.sub (ws' := (wQDTO aQ aY aS aNs aTs aEs aDc aT bT aO cd c1 co pv dc v b ov)) [0, 1, 2, 3, 4] rfl
  have hDc := hD.sub (ws' := (wQDTO aQ aY aS aNs aTs aEs aDc aT bT aO cd c1 co pv dc v b ov)) [0, 1, 2, 3, 4] (by decide) rfl
  have hKc := hK.sub (tys' := wQDTO_t cd c1 co) [0, 1, 2] rfl
  have hFc := va_free (wc := (wQDTO aQ aY aS aNs aTs aEs aDc aT bT aO cd c1 co pv dc v b ov)) hD hS hA [0, 1, 2, 3, 4] rfl
  refine zlSi (wr := [((ad 0), .inr (5, [.int (mv 0), .int (mv 1), .ref (ad 1), .int (mv 3), .ref (ad 2), .ref (ad 3), .ref (ad 4), .ref (ad 5), .ref (ad 6), .ref (ad 7), .ref (ad 8), .ref (ad 9), .ref (ad 10), .ref (ad 11), .ref (ad 12), .ref (ad 13), .ref (ad 14), .ref (ad 15), .ref (ad 16), .ref (ad 17), .int (mv 20), .int (mv 21), .ref (ad 18), .int (mv 23)])), ((ad 1), .inl ((ca 1), 24, .inl (mu 1))), ((ad 2), .inl ((ca 2), 9, .inl (mu 2))), ((ad 3), .inl ((ca 3), 216, .inl (mu 3))), ((ad 4), .inl ((ca 4), 216, .inl (mu 4))), ((ad 5), .inl ((ca 5), 9, .inl (mu 5))), ((ad 6), .inl ((ca 6), 9, .inl (mu 6))), ((ad 7), .inl ((ca 7), 9, .inl (mu 7))), ((ad 8), .inl ((ca 8), 9, .inl (mu 8))), ((ad 9), .inl ((ca 9), 9, .inl (mu 9))), ((ad 10), .inl ((ca 10), 9, .inl (mu 10))), ((ad 11), .inl ((ca 11), 9, .inl (mu 11))), ((ad 12), .inl ((ca 12), 9, .inl (mu 12))), ((ad 13), .inl ((ca 13), 9, .inl (mu 13))), ((ad 14), .inl ((ca 14), 9, .inl (mu 14))), ((ad 15), .inl ((ca 15), 9, .inl (mu 15))), ((ad 16), .inl ((ca 16), 256, .inl (mu 16))), ((ad 17), .inl ((ca 17), 48, .inl (mu 17))), ((ad 18), .inl ((ca 18), 32, .inl (mu 18)))]) (w1 := (wQDTO aQ aY aS aNs aTs aEs aDc aT bT aO cd c1 co pv dc v b q3.2)) (w' := (wQDTOM aQ aY aS aNs aTs aEs aDc aT bT aO ad cd c1 co ca pv dc v b q3.2 mv mu)) (vx_runSW (As := [.ref aQ, .int (xs (x4 + 1).toNatClampNeg), .int (xs (x4 + 2).toNatClampNeg), .ref aO]) (rest := []) ⟨hx, hb, hml, hown, hw⟩ (k_L_get_T l D aQ aY aS aNs aTs aEs aDc aT bT aO cd c1 co _ (xs (x4 + 1).toNatClampNeg) (xs (x4 + 2).toNatClampNeg) pv dc v b ov hd q3 hq3) (vx_cwSW 4 hw (zgoodW (List.forall_mem_cons.mpr ⟨zw621, List.forall_mem_cons.mpr ⟨zw622, List.forall_mem_cons.mpr ⟨zw587, fun _ h => absurd h List.not_mem_nil⟩⟩⟩) zw623) rfl rfl rfl hdL_get ⟨Nat.le_of_ble_eq_true rfl, Nat.le_of_ble_eq_true rfl⟩) (zpre zW_ok (A := fun q => s.heap.size ≤ q) hX (zglob hSg hAs hS) (fun q h => hAs q (hFc q h)) hPc hKc (hDc.weaken (fun _ _ _ h => hAs _ h))) rfl rfl hl.1 rfl (lv_room (Nat.le_of_ble_eq_true rfl)) dL_law_279 ⟨by show c0 + 0 ≤ 601024; omega, by show s0 + 0 ≤ 7293034; omega⟩) hP hD hS hFc [0, 1, 2, 3, 4] [5, 6, 7, 8, 9, 10, 11, 12, 13, 14, 15, 16, 17, 18, 19, 20, 21, 22, 23] [19, 20, 21, 22, 23, 0, 1, 2, 3, 4, 5, 6, 7, 8, 9, 10, 11, 12, 13, 14, 15, 16, 17, 18] rfl rfl (by decide) (by decide) rfl (by decide) (fun H locs hP hD hS => ?_)
  refine W.widen (k := c0 + 0) (n := s0 + 0) (by omega) (by omega) ?_
  refine lv_istore (lv' := [(5, .int q3.1), (0, .ref sb), (1, .ref aQ), (2, .ref (ad 0)), (3, .ref aO), (4, .int x4)]) hx hb dL_law_282 hl (by decide) rfl (fun ls hl => ?_)
  refine lv_aload_n hx hb dL_law_284 rfl (lv_at hl 3 rfl) ?_
  refine lv_aload_n hx hb dL_law_285 rfl (lv_at hl 1 rfl) ?_
  refine lv_iload hx hb dL_law_286 (lv_at hl 5 rfl) ?_
  refine lv_iconst (v := 1) hx hb dL_law_288 (by decide) ?_
  refine lv_iadd hx hb dL_law_289 ?_
  obtain ⟨hi4, hm⟩ := zix_s hm
  refine va_sld (i := (x4 + 1)) (xs := xs) hx hb hsb hbl hbA hS hi4 dL_law_290 ?_
  refine lv_aload_n hx hb dL_law_291 rfl (lv_at hl 1 rfl) ?_
  refine lv_iload hx hb dL_law_292 (lv_at hl 5 rfl) ?_
  refine lv_iconst (v := 2) hx hb dL_law_294 (by decide) ?_
  refine lv_iadd hx hb dL_law_295 ?_
  obtain ⟨hi5, hm⟩ := zix_s hm
  refine va_sld (i := (x4 + 2)) (xs := xs) hx hb hsb hbl hbA hS hi5 dL_law_296 ?_
  obtain ⟨q6, hq6, hm⟩ := zbind hm
  have hPc := hP.sub (ws' := (wM ad ca mv mu)) [5, 6, 7, 8, 9, 10, 11, 12, 13, 14, 15, 16, 17, 18, 19, 20, 21, 22, 23] rfl
  have hDc := hD.sub (ws' := (wM ad ca mv mu)) [5, 6, 7, 8, 9, 10, 11, 12, 13, 14, 15, 16, 17, 18, 19, 20, 21, 22, 23] (by decide) rfl
  have hKc := hK.sub (tys' := wM_t ca) [3, 4, 5, 6, 7, 8, 9, 10, 11, 12, 13, 14, 15, 16, 17, 18, 19, 20] rfl
  have hFc := va_free (wc := (wM ad ca mv mu)) hD hS hA [5, 6, 7, 8, 9, 10, 11, 12, 13, 14, 15, 16, 17, 18, 19, 20, 21, 22, 23] rfl
  refine zlSi (wr := [(aQ, .inr (4, [.ref aY, .int (pv 1), .ref aS, .ref aNs, .ref aTs, .ref aEs, .ref aDc, .int (pv 7)])), (aDc, .inl (cd, 8, .inr (.inr (.inr (.inr dc))))), (aT, .inr (3, [.ref bT, .int (v 1), .int (v 2), .int (v 3), .int (v 4)])), (bT, .inl (c1, 25, .inl b)), (aO, .inl (co, 1, .inr (.inl q3.2)))]) (w1 := (wM ad ca q6.2 mu)) (w' := (wQDTOM aQ aY aS aNs aTs aEs aDc aT bT aO ad cd c1 co ca pv dc v b q3.2 q6.2 mu)) (va_runV (As := [.int (xs (x4 + 1).toNatClampNeg), .int (xs (x4 + 2).toNatClampNeg)]) (rest := []) ⟨hx, hb, hml, hown, hw⟩ (k_M_get l D ad ca _ (xs (x4 + 1).toNatClampNeg) (xs (x4 + 2).toNatClampNeg) mv mu  q6 hq6) (zcV (C := RX6) 2 hw (zgood zw626) rfl rfl rfl zw7 zw624 zw625 zw627 hdX6_get ⟨Nat.le_of_ble_eq_true rfl, Nat.le_of_ble_eq_true rfl⟩) (zpreV (zpre zN_ok (A := fun q => s.heap.size ≤ q) trivial (zglob hSg hAs hS) (fun q h => hAs q (hFc q h)) hPc hKc (hDc.weaken (fun _ _ _ h => hAs _ h))) (va_recv hK hP rfl (q0 := 5) rfl)) rfl rfl hl.1 rfl (lv_room (Nat.le_of_ble_eq_true rfl)) dL_law_297 ⟨by show c0 + 0 ≤ 601024; omega, by show s0 + 0 ≤ 7293034; omega⟩) hP hD hS hFc [5, 6, 7, 8, 9, 10, 11, 12, 13, 14, 15, 16, 17, 18, 19, 20, 21, 22, 23] [0, 1, 2, 3, 4] [0, 1, 2, 3, 4, 5, 6, 7, 8, 9, 10, 11, 12, 13, 14, 15, 16, 17, 18, 19, 20, 21, 22, 23] rfl rfl (by decide) (by decide) rfl (by decide) (fun H locs hP hD hS => ?_)
  refine W.widen (k := c0 + 0) (n := s0 + 0) (by omega) (by omega) ?_
  refine lv_istore (lv' := [(6, .int q6.1), (5, .int q3.1), (0, .ref sb), (1, .ref aQ), (2, .ref (ad 0)), (3, .ref aO), (4, .int x4)]) hx hb dL_law_300 hl (by decide) rfl (fun ls hl => ?_)
  refine lv_aload_n hx hb dL_law_302 rfl (lv_at hl 4 rfl) ?_
  obtain ⟨q7, hq7, hm⟩ := zbind hm
  have hPc := hP.sub (ws' := (wM ad ca q6.2 mu)) [5, 6, 7, 8, 9, 10, 11, 12, 13, 14, 15, 16, 17, 18, 19, 20, 21, 22, 23] rfl
  have hDc := hD.sub (ws' := (wM ad ca q6.2 mu)) [5, 6, 7, 8, 9, 10, 11, 12, 13, 14, 15, 16, 17, 18, 19, 20, 21, 22, 23] (by decide) rfl
  have hKc := hK.sub (tys' := wM_t ca) [3, 4, 5, 6, 7, 8, 9, 10, 11, 12, 13, 14, 15, 16, 17, 18, 19, 20] rfl
  have hFc := va_free (wc := (wM ad ca q6.2 mu)) hD hS hA [5, 6, 7, 8, 9, 10, 11, 12, 13, 14, 15, 16, 17, 18, 19, 20, 21, 22, 23] rfl
  refine zlSi (wr := [(aQ, .inr (4, [.ref aY, .int (pv 1), .ref aS, .ref aNs, .ref aTs, .ref aEs, .ref aDc, .int (pv 7)])), (aDc, .inl (cd, 8, .inr (.inr (.inr (.inr dc))))), (aT, .inr (3, [.ref bT, .int (v 1), .int (v 2), .int (v 3), .int (v 4)])), (bT, .inl (c1, 25, .inl b)), (aO, .inl (co, 1, .inr (.inl q3.2)))]) (w1 := (wM ad ca q6.2 mu)) (w' := (wQDTOM aQ aY aS aNs aTs aEs aDc aT bT aO ad cd c1 co ca pv dc v b q3.2 q6.2 mu)) (va_runV (As := []) (rest := []) ⟨hx, hb, hml, hown, hw⟩ (k_M_thrown l D ad ca _ q6.2 mu  q7 hq7) (zcV (C := RX6) 0 hw (zgood zw596) rfl rfl rfl zw7 zw594 zw595 zw597 hdX6_thrown ⟨Nat.le_of_ble_eq_true rfl, Nat.le_of_ble_eq_true rfl⟩) (zpreV (zpre zN_ok (A := fun q => s.heap.size ≤ q) trivial (zglob hSg hAs hS) (fun q h => hAs q (hFc q h)) hPc hKc (hDc.weaken (fun _ _ _ h => hAs _ h))) (va_recv hK hP rfl (q0 := 5) rfl)) rfl rfl hl.1 rfl (lv_room (Nat.le_of_ble_eq_true rfl)) dL_law_303 ⟨by show c0 + 0 ≤ 601024; omega, by show s0 + 0 ≤ 7293034; omega⟩) hP hD hS hFc [5, 6, 7, 8, 9, 10, 11, 12, 13, 14, 15, 16, 17, 18, 19, 20, 21, 22, 23] [0, 1, 2, 3, 4] [0, 1, 2, 3, 4, 5, 6, 7, 8, 9, 10, 11, 12, 13, 14, 15, 16, 17, 18, 19, 20, 21, 22, 23] rfl rfl (by decide) (by decide) rfl (by decide) (fun H locs hP hD hS => ?_)
  refine W.widen (k := c0 + 0) (n := s0 + 0) (by omega) (by omega) ?_
  refine lv_iload hx hb dL_law_306 (lv_at hl 1 rfl) ?_
  refine lv_icmp_eq (tgt := 313) hx hb dL_law_308 rfl (fun cd8 => ?_) (fun cd8 => ?_)
  · replace hm := zt cd8 hm
    refine lv_iload hx hb dL_law_313 (lv_at hl 1 rfl) ?_
    refine lv_if_ne (tgt := 330) hx hb dL_law_315 rfl (fun cd9 => ?_) (fun cd9 => ?_)
    · replace hm := zf cd9 hm
      refine lv_goto (tgt := 588) hx hb dL_law_330 rfl ?_
      cases hm
      refine W.widen (k := c0 + 1) (n := s0 + 6) (by omega) (by omega) ?_
      exact kk _ _ _ hP hD hS (lv_sub hl [2, 3, 4, 5, 6] rfl)
    · replace hm := zt cd9 hm
      refine lv_aload_n hx hb dL_law_318 rfl (lv_at hl 5 rfl) ?_
      refine lv_iconst (v := 0) hx hb dL_law_319 (by decide) ?_
      obtain ⟨hi10, hm⟩ := zix_s hm
      refine va_lald (i := 0) (f := q3.2) (n := 1) hx hb hK hP 4 2 rfl rfl hi10 dL_law_320 ?_
      refine lv_iload hx hb dL_law_321 (lv_at hl 0 rfl) ?_
      refine lv_i2l (v := ((q6.1).toInt64)) hx hb dL_law_323 rfl ?_
      refine W.lcmp (x := (q3.2 (0 : Int32).toNatClampNeg)) (y := ((q6.1).toInt64)) hx hb dL_law_324 ?_
      refine lv_if_eq (tgt := 330) hx hb dL_law_325 rfl (fun cd11 => ?_) (fun cd11 => ?_)
      · replace hm := zt cd11 hm
        refine lv_goto (tgt := 588) hx hb dL_law_330 rfl ?_
        cases hm
        refine W.widen (k := c0 + 1) (n := s0 + 6) (by omega) (by omega) ?_
        exact kk _ _ _ hP hD hS (lv_sub hl [2, 3, 4, 5, 6] rfl)
      · replace hm := zf cd11 hm
        refine lv_iconst (v := 0) hx hb dL_law_328 (by decide) ?_
        cases hm
  · replace hm := zf cd8 hm
    refine lv_iconst (v := 0) hx hb dL_law_311 (by decide) ?_
    cases hm

def m_F_L_get_n2T (xs : Nat → Int32) (L : Nat) (x4 : Int32) (pv : Nat → Int32) (dc : Nat → Option Nat) (v : Nat → Int32) (b : Nat → Int32) (ov : Nat → Int64) (mv : Nat → Int32) (mu : Nat → Nat → Int32)  : Option ((Nat → Int32)) := zix (x4 + 1) L (zix (x4 + 2) L ((m_L_get_n2T (xs (x4 + 1).toNatClampNeg) (xs (x4 + 2).toNatClampNeg) pv dc v b).bind (fun q3 => zix (x4 + 1) L (zix (x4 + 2) L ((m_M_get (xs (x4 + 1).toNatClampNeg) (xs (x4 + 2).toNatClampNeg) mv mu).bind (fun q6 => (m_M_thrown q6.2 mu).bind (fun q7 => (if q7 = q3 then (if q3 = 0 then zix 0 1 ((if (lg_cmp (ov (0 : Int32).toNatClampNeg) ((q6.1).toInt64)) = 0 then (some q6.2) else none)) else (some q6.2)) else none))))))))
set_option maxRecDepth 100000 in
set_option maxHeartbeats 4000000 in
theorem f_F_L_get_n2T {p : Program} {l : Launch} {e : Env} {s : State} {m : MethodId} {args : Array Value} {below : List Frame} {meth : Method} {c : Code} {D : va_G} {w0 : va_W} {H0 : Heap} {Q : State → Prop} {sb L : Nat} {xs : Nat → Int32} {x4 : Int32} {c0 s0 : Nat} (aQ aY aS aNs aTs aEs aDc aT bT aO : Nat) (ad : Nat → Nat) (cd c1 co : ClassId) (ca : Nat → ClassId) (pv : Nat → Int32) (dc : Nat → Option Nat) (v : Nat → Int32) (b : Nat → Int32) (ov : Nat → Int64) (mv : Nat → Int32) (mu : Nat → Nat → Int32) (G : zG p s m args meth c cL_law RL 8 (some .boolean)) (hK : va_K D vwCl (wQDToOM_t cd c1 co ca) s) (hX : zW (fun q => s.heap.size ≤ q) s) (hl0 : l.stackTraces = false) (hSg : va_S (fun q => s.heap.size ≤ q) s.heap H0 []) (hAs : ∀ q, (va_A w0 H0.size) q → s.heap.size ≤ q) (hsb : va_X sb L xs s H0) (hbl : sb < H0.size) (hbA : ¬ (va_A w0 H0.size) sb) (hc0 : c0 + 1 ≤ 601024) (hs0 : s0 + 6 ≤ 7293034) (hd : dc (xs (x4 + 1).toNatClampNeg).toNatClampNeg = some aT) {res : (Nat → Int32)} (hm : m_F_L_get_n2T xs L x4 pv dc v b ov mv mu  = some res)
    (kk : ∀ (H : Heap) (locs : List Loc) (ls : Array Slot), va_P D vwCl (wQDToOM aQ aY aS aNs aTs aEs aDc aT bT aO ad cd c1 co ca pv dc v b ov res mu) H → va_D (va_A w0 H0.size) (wQDToOM aQ aY aS aNs aTs aEs aDc aT bT aO ad cd c1 co ca pv dc v b ov res mu) → va_S (va_A w0 H0.size) H0 H locs → lv_has ls 8 [(0, .ref sb), (1, .ref aQ), (2, .ref (ad 0)), (3, .ref aO), (4, .int x4)] → W p l e room_1 s m args below meth c H locs (c0 + 1) (s0 + 6) Q (F0 m 588 ls []))
    (H : Heap) (locs : List Loc) (ls : Array Slot) (hP : va_P D vwCl (wQDToOM aQ aY aS aNs aTs aEs aDc aT bT aO ad cd c1 co ca pv dc v b ov mv mu) H) (hD : va_D (va_A w0 H0.size) (wQDToOM aQ aY aS aNs aTs aEs aDc aT bT aO ad cd c1 co ca pv dc v b ov mv mu)) (hS : va_S (va_A w0 H0.size) H0 H locs) (hl : lv_has ls 8 [(0, .ref sb), (1, .ref aQ), (2, .ref (ad 0)), (3, .ref aO), (4, .int x4)]) : W p l e room_1 s m args below meth c H locs c0 s0 Q (F0 m 265 ls []) := by
  obtain ⟨hx, hb, hr, hml, hown, hw, hlk⟩ := G
  have hA : ∀ q, H0.size ≤ q → (va_A w0 H0.size) q := fun q h => Or.inr h
  unfold m_F_L_get_n2T at hm
  refine lv_aload_n hx hb dL_law_265 rfl (lv_at hl 1 rfl) ?_
  refine lv_aload_n hx hb dL_law_266 rfl (lv_at hl 0 rfl) ?_
  refine lv_iload hx hb dL_law_267 (lv_at hl 4 rfl) ?_
  refine lv_iconst (v := 1) hx hb dL_law_269 (by decide) ?_
  refine lv_iadd hx hb dL_law_270 ?_
  obtain ⟨hi1, hm⟩ := zix_s hm
  refine va_sld (i := (x4 + 1)) (xs := xs) hx hb hsb hbl hbA hS hi1 dL_law_271 ?_
  refine lv_aload_n hx hb dL_law_272 rfl (lv_at hl 0 rfl) ?_
  refine lv_iload hx hb dL_law_273 (lv_at hl 4 rfl) ?_
  refine lv_iconst (v := 2) hx hb dL_law_275 (by decide) ?_
  refine lv_iadd hx hb dL_law_276 ?_
  obtain ⟨hi2, hm⟩ := zix_s hm
  refine va_sld (i := (x4 + 2)) (xs := xs) hx hb hsb hbl hbA hS hi2 dL_law_277 ?_
  refine lv_aload_n hx hb dL_law_278 rfl (lv_at hl 3 rfl) ?_
  obtain ⟨q3, hq3, hm⟩ := zbind hm
  have hPc := hP.sub (ws' := (wQDTo aQ aY aS aNs aTs aEs aDc aT bT aO cd c1 pv dc v b)) [0, 1, 2, 3] rfl
  have hDc := hD.sub (ws' := (wQDTo aQ aY aS aNs aTs aEs aDc aT bT aO cd c1 pv dc v b)) [0, 1, 2, 3] (by decide) rfl
  have hKc := hK.sub (tys' := wQDTo_t cd c1) [0, 1] rfl
  have hFc := va_free (wc := (wQDTo aQ aY aS aNs aTs aEs aDc aT bT aO cd c1 pv dc v b)) hD hS hA [0, 1, 2, 3] rfl
  refine zlSi (wr := [(aO, .inl (co, 1, .inr (.inl ov))), ((ad 0), .inr (5, [.int (mv 0), .int (mv 1), .ref (ad 1), .int (mv 3), .ref (ad 2), .ref (ad 3), .ref (ad 4), .ref (ad 5), .ref (ad 6), .ref (ad 7), .ref (ad 8), .ref (ad 9), .ref (ad 10), .ref (ad 11), .ref (ad 12), .ref (ad 13), .ref (ad 14), .ref (ad 15), .ref (ad 16), .ref (ad 17), .int (mv 20), .int (mv 21), .ref (ad 18), .int (mv 23)])), ((ad 1), .inl ((ca 1), 24, .inl (mu 1))), ((ad 2), .inl ((ca 2), 9, .inl (mu 2))), ((ad 3), .inl ((ca 3), 216, .inl (mu 3))), ((ad 4), .inl ((ca 4), 216, .inl (mu 4))), ((ad 5), .inl ((ca 5), 9, .inl (mu 5))), ((ad 6), .inl ((ca 6), 9, .inl (mu 6))), ((ad 7), .inl ((ca 7), 9, .inl (mu 7))), ((ad 8), .inl ((ca 8), 9, .inl (mu 8))), ((ad 9), .inl ((ca 9), 9, .inl (mu 9))), ((ad 10), .inl ((ca 10), 9, .inl (mu 10))), ((ad 11), .inl ((ca 11), 9, .inl (mu 11))), ((ad 12), .inl ((ca 12), 9, .inl (mu 12))), ((ad 13), .inl ((ca 13), 9, .inl (mu 13))), ((ad 14), .inl ((ca 14), 9, .inl (mu 14))), ((ad 15), .inl ((ca 15), 9, .inl (mu 15))), ((ad 16), .inl ((ca 16), 256, .inl (mu 16))), ((ad 17), .inl ((ca 17), 48, .inl (mu 17))), ((ad 18), .inl ((ca 18), 32, .inl (mu 18)))]) (w1 := (wQDTo aQ aY aS aNs aTs aEs aDc aT bT aO cd c1 pv dc v b)) (w' := (wQDToOM aQ aY aS aNs aTs aEs aDc aT bT aO ad cd c1 co ca pv dc v b ov mv mu)) (vx_runSW (As := [.ref aQ, .int (xs (x4 + 1).toNatClampNeg), .int (xs (x4 + 2).toNatClampNeg), .ref aO]) (rest := []) ⟨hx, hb, hml, hown, hw⟩ (k_L_get_n2T l D aQ aY aS aNs aTs aEs aDc aT bT aO cd c1 _ (xs (x4 + 1).toNatClampNeg) (xs (x4 + 2).toNatClampNeg) pv dc v b hl0 hd q3 hq3) (vx_cwSW 4 hw (zgoodW (List.forall_mem_cons.mpr ⟨zw621, List.forall_mem_cons.mpr ⟨zw622, List.forall_mem_cons.mpr ⟨zw587, fun _ h => absurd h List.not_mem_nil⟩⟩⟩) zw623) rfl rfl rfl hdL_get ⟨Nat.le_of_ble_eq_true rfl, Nat.le_of_ble_eq_true rfl⟩) (zpre zW_ok (A := fun q => s.heap.size ≤ q) hX (zglob hSg hAs hS) (fun q h => hAs q (hFc q h)) hPc hKc (hDc.weaken (fun _ _ _ h => hAs _ h))) rfl rfl hl.1 rfl (lv_room (Nat.le_of_ble_eq_true rfl)) dL_law_279 ⟨by show c0 + 1 ≤ 601024; omega, by show s0 + 6 ≤ 7293034; omega⟩) hP hD hS hFc [0, 1, 2, 3] [4, 5, 6, 7, 8, 9, 10, 11, 12, 13, 14, 15, 16, 17, 18, 19, 20, 21, 22, 23] [20, 21, 22, 23, 0, 1, 2, 3, 4, 5, 6, 7, 8, 9, 10, 11, 12, 13, 14, 15, 16, 17, 18, 19] rfl rfl (by decide) (by decide) rfl (by decide) (fun H locs hP hD hS => ?_)
  refine W.widen (k := c0 + 1) (n := s0 + 6) (by omega) (by omega) ?_
  refine lv_istore (lv' := [(5, .int q3), (0, .ref sb), (1, .ref aQ), (2, .ref (ad 0)), (3, .ref aO), (4, .int x4)]) hx hb dL_law_282 hl (by decide) rfl (fun ls hl => ?_)
  refine lv_aload_n hx hb dL_law_284 rfl (lv_at hl 3 rfl) ?_
  refine lv_aload_n hx hb dL_law_285 rfl (lv_at hl 1 rfl) ?_
  refine lv_iload hx hb dL_law_286 (lv_at hl 5 rfl) ?_
  refine lv_iconst (v := 1) hx hb dL_law_288 (by decide) ?_
  refine lv_iadd hx hb dL_law_289 ?_
  obtain ⟨hi4, hm⟩ := zix_s hm
  refine va_sld (i := (x4 + 1)) (xs := xs) hx hb hsb hbl hbA hS hi4 dL_law_290 ?_
  refine lv_aload_n hx hb dL_law_291 rfl (lv_at hl 1 rfl) ?_
  refine lv_iload hx hb dL_law_292 (lv_at hl 5 rfl) ?_
  refine lv_iconst (v := 2) hx hb dL_law_294 (by decide) ?_
  refine lv_iadd hx hb dL_law_295 ?_
  obtain ⟨hi5, hm⟩ := zix_s hm
  refine va_sld (i := (x4 + 2)) (xs := xs) hx hb hsb hbl hbA hS hi5 dL_law_296 ?_
  obtain ⟨q6, hq6, hm⟩ := zbind hm
  have hPc := hP.sub (ws' := (wM ad ca mv mu)) [5, 6, 7, 8, 9, 10, 11, 12, 13, 14, 15, 16, 17, 18, 19, 20, 21, 22, 23] rfl
  have hDc := hD.sub (ws' := (wM ad ca mv mu)) [5, 6, 7, 8, 9, 10, 11, 12, 13, 14, 15, 16, 17, 18, 19, 20, 21, 22, 23] (by decide) rfl
  have hKc := hK.sub (tys' := wM_t ca) [3, 4, 5, 6, 7, 8, 9, 10, 11, 12, 13, 14, 15, 16, 17, 18, 19, 20] rfl
  have hFc := va_free (wc := (wM ad ca mv mu)) hD hS hA [5, 6, 7, 8, 9, 10, 11, 12, 13, 14, 15, 16, 17, 18, 19, 20, 21, 22, 23] rfl
  refine zlSi (wr := [(aQ, .inr (4, [.ref aY, .int (pv 1), .ref aS, .ref aNs, .ref aTs, .ref aEs, .ref aDc, .int (pv 7)])), (aDc, .inl (cd, 8, .inr (.inr (.inr (.inr dc))))), (aT, .inr (3, [.ref bT, .int (v 1), .int (v 2), .int (v 3), .int (v 4)])), (bT, .inl (c1, 25, .inl b)), (aO, .inl (co, 1, .inr (.inl ov)))]) (w1 := (wM ad ca q6.2 mu)) (w' := (wQDToOM aQ aY aS aNs aTs aEs aDc aT bT aO ad cd c1 co ca pv dc v b ov q6.2 mu)) (va_runV (As := [.int (xs (x4 + 1).toNatClampNeg), .int (xs (x4 + 2).toNatClampNeg)]) (rest := []) ⟨hx, hb, hml, hown, hw⟩ (k_M_get l D ad ca _ (xs (x4 + 1).toNatClampNeg) (xs (x4 + 2).toNatClampNeg) mv mu  q6 hq6) (zcV (C := RX6) 2 hw (zgood zw626) rfl rfl rfl zw7 zw624 zw625 zw627 hdX6_get ⟨Nat.le_of_ble_eq_true rfl, Nat.le_of_ble_eq_true rfl⟩) (zpreV (zpre zN_ok (A := fun q => s.heap.size ≤ q) trivial (zglob hSg hAs hS) (fun q h => hAs q (hFc q h)) hPc hKc (hDc.weaken (fun _ _ _ h => hAs _ h))) (va_recv hK hP rfl (q0 := 5) rfl)) rfl rfl hl.1 rfl (lv_room (Nat.le_of_ble_eq_true rfl)) dL_law_297 ⟨by show c0 + 1 ≤ 601024; omega, by show s0 + 6 ≤ 7293034; omega⟩) hP hD hS hFc [5, 6, 7, 8, 9, 10, 11, 12, 13, 14, 15, 16, 17, 18, 19, 20, 21, 22, 23] [0, 1, 2, 3, 4] [0, 1, 2, 3, 4, 5, 6, 7, 8, 9, 10, 11, 12, 13, 14, 15, 16, 17, 18, 19, 20, 21, 22, 23] rfl rfl (by decide) (by decide) rfl (by decide) (fun H locs hP hD hS => ?_)
  refine W.widen (k := c0 + 1) (n := s0 + 6) (by omega) (by omega) ?_
  refine lv_istore (lv' := [(6, .int q6.1), (5, .int q3), (0, .ref sb), (1, .ref aQ), (2, .ref (ad 0)), (3, .ref aO), (4, .int x4)]) hx hb dL_law_300 hl (by decide) rfl (fun ls hl => ?_)
  refine lv_aload_n hx hb dL_law_302 rfl (lv_at hl 4 rfl) ?_
  obtain ⟨q7, hq7, hm⟩ := zbind hm
  have hPc := hP.sub (ws' := (wM ad ca q6.2 mu)) [5, 6, 7, 8, 9, 10, 11, 12, 13, 14, 15, 16, 17, 18, 19, 20, 21, 22, 23] rfl
  have hDc := hD.sub (ws' := (wM ad ca q6.2 mu)) [5, 6, 7, 8, 9, 10, 11, 12, 13, 14, 15, 16, 17, 18, 19, 20, 21, 22, 23] (by decide) rfl
  have hKc := hK.sub (tys' := wM_t ca) [3, 4, 5, 6, 7, 8, 9, 10, 11, 12, 13, 14, 15, 16, 17, 18, 19, 20] rfl
  have hFc := va_free (wc := (wM ad ca q6.2 mu)) hD hS hA [5, 6, 7, 8, 9, 10, 11, 12, 13, 14, 15, 16, 17, 18, 19, 20, 21, 22, 23] rfl
  refine zlSi (wr := [(aQ, .inr (4, [.ref aY, .int (pv 1), .ref aS, .ref aNs, .ref aTs, .ref aEs, .ref aDc, .int (pv 7)])), (aDc, .inl (cd, 8, .inr (.inr (.inr (.inr dc))))), (aT, .inr (3, [.ref bT, .int (v 1), .int (v 2), .int (v 3), .int (v 4)])), (bT, .inl (c1, 25, .inl b)), (aO, .inl (co, 1, .inr (.inl ov)))]) (w1 := (wM ad ca q6.2 mu)) (w' := (wQDToOM aQ aY aS aNs aTs aEs aDc aT bT aO ad cd c1 co ca pv dc v b ov q6.2 mu)) (va_runV (As := []) (rest := []) ⟨hx, hb, hml, hown, hw⟩ (k_M_thrown l D ad ca _ q6.2 mu  q7 hq7) (zcV (C := RX6) 0 hw (zgood zw596) rfl rfl rfl zw7 zw594 zw595 zw597 hdX6_thrown ⟨Nat.le_of_ble_eq_true rfl, Nat.le_of_ble_eq_true rfl⟩) (zpreV (zpre zN_ok (A := fun q => s.heap.size ≤ q) trivial (zglob hSg hAs hS) (fun q h => hAs q (hFc q h)) hPc hKc (hDc.weaken (fun _ _ _ h => hAs _ h))) (va_recv hK hP rfl (q0 := 5) rfl)) rfl rfl hl.1 rfl (lv_room (Nat.le_of_ble_eq_true rfl)) dL_law_303 ⟨by show c0 + 1 ≤ 601024; omega, by show s0 + 6 ≤ 7293034; omega⟩) hP hD hS hFc [5, 6, 7, 8, 9, 10, 11, 12, 13, 14, 15, 16, 17, 18, 19, 20, 21, 22, 23] [0, 1, 2, 3, 4] [0, 1, 2, 3, 4, 5, 6, 7, 8, 9, 10, 11, 12, 13, 14, 15, 16, 17, 18, 19, 20, 21, 22, 23] rfl rfl (by decide) (by decide) rfl (by decide) (fun H locs hP hD hS => ?_)
  refine W.widen (k := c0 + 1) (n := s0 + 6) (by omega) (by omega) ?_
  refine lv_iload hx hb dL_law_306 (lv_at hl 1 rfl) ?_
  refine lv_icmp_eq (tgt := 313) hx hb dL_law_308 rfl (fun cd8 => ?_) (fun cd8 => ?_)
  · replace hm := zt cd8 hm
    refine lv_iload hx hb dL_law_313 (lv_at hl 1 rfl) ?_
    refine lv_if_ne (tgt := 330) hx hb dL_law_315 rfl (fun cd9 => ?_) (fun cd9 => ?_)
    · replace hm := zf cd9 hm
      refine lv_goto (tgt := 588) hx hb dL_law_330 rfl ?_
      cases hm
      refine W.widen (k := c0 + 1) (n := s0 + 6) (by omega) (by omega) ?_
      exact kk _ _ _ hP hD hS (lv_sub hl [2, 3, 4, 5, 6] rfl)
    · replace hm := zt cd9 hm
      refine lv_aload_n hx hb dL_law_318 rfl (lv_at hl 5 rfl) ?_
      refine lv_iconst (v := 0) hx hb dL_law_319 (by decide) ?_
      obtain ⟨hi10, hm⟩ := zix_s hm
      refine va_lald (i := 0) (f := ov) (n := 1) hx hb hK hP 4 2 rfl rfl hi10 dL_law_320 ?_
      refine lv_iload hx hb dL_law_321 (lv_at hl 0 rfl) ?_
      refine lv_i2l (v := ((q6.1).toInt64)) hx hb dL_law_323 rfl ?_
      refine W.lcmp (x := (ov (0 : Int32).toNatClampNeg)) (y := ((q6.1).toInt64)) hx hb dL_law_324 ?_
      refine lv_if_eq (tgt := 330) hx hb dL_law_325 rfl (fun cd11 => ?_) (fun cd11 => ?_)
      · replace hm := zt cd11 hm
        refine lv_goto (tgt := 588) hx hb dL_law_330 rfl ?_
        cases hm
        refine W.widen (k := c0 + 1) (n := s0 + 6) (by omega) (by omega) ?_
        exact kk _ _ _ hP hD hS (lv_sub hl [2, 3, 4, 5, 6] rfl)
      · replace hm := zf cd11 hm
        refine lv_iconst (v := 0) hx hb dL_law_328 (by decide) ?_
        cases hm
  · replace hm := zf cd8 hm
    refine lv_iconst (v := 0) hx hb dL_law_311 (by decide) ?_
    cases hm

def m_F_L_get_E (xs : Nat → Int32) (L : Nat) (x4 : Int32) (pv : Nat → Int32) (dc : Nat → Option Nat) (v : Nat → Int32) (b : Nat → Int32) (rw : Nat → Int32) (pw : Nat → Int32) (ov : Nat → Int64) (mv : Nat → Int32) (mu : Nat → Nat → Int32)  : Option ((Nat → Int64) × (Nat → Int32)) := zix (x4 + 1) L (zix (x4 + 2) L ((m_L_get_E (xs (x4 + 1).toNatClampNeg) (xs (x4 + 2).toNatClampNeg) pv dc v b rw pw ov).bind (fun q3 => zix (x4 + 1) L (zix (x4 + 2) L ((m_M_get (xs (x4 + 1).toNatClampNeg) (xs (x4 + 2).toNatClampNeg) mv mu).bind (fun q6 => (m_M_thrown q6.2 mu).bind (fun q7 => (if q7 = q3.1 then (if q3.1 = 0 then zix 0 1 ((if (lg_cmp (q3.2 (0 : Int32).toNatClampNeg) ((q6.1).toInt64)) = 0 then (some (q3.2, q6.2)) else none)) else (some (q3.2, q6.2))) else none))))))))
set_option maxRecDepth 100000 in
set_option maxHeartbeats 4000000 in
theorem f_F_L_get_E {p : Program} {l : Launch} {e : Env} {s : State} {m : MethodId} {args : Array Value} {below : List Frame} {meth : Method} {c : Code} {D : va_G} {w0 : va_W} {H0 : Heap} {Q : State → Prop} {sb L : Nat} {xs : Nat → Int32} {x4 : Int32} {c0 s0 : Nat} (aQ aY aS aNs aTs aEs aDc aE bE rE pE aO : Nat) (ad : Nat → Nat) (cd c1 c2 c3 co : ClassId) (ca : Nat → ClassId) (pv : Nat → Int32) (dc : Nat → Option Nat) (v : Nat → Int32) (b : Nat → Int32) (rw : Nat → Int32) (pw : Nat → Int32) (ov : Nat → Int64) (mv : Nat → Int32) (mu : Nat → Nat → Int32) (G : zG p s m args meth c cL_law RL 8 (some .boolean)) (hK : va_K D vwCl (wQDEOM_t cd c1 c2 c3 co ca) s) (hX : zW (fun q => s.heap.size ≤ q) s) (hl0 : l.stackTraces = false) (hSg : va_S (fun q => s.heap.size ≤ q) s.heap H0 []) (hAs : ∀ q, (va_A w0 H0.size) q → s.heap.size ≤ q) (hsb : va_X sb L xs s H0) (hbl : sb < H0.size) (hbA : ¬ (va_A w0 H0.size) sb) (hc0 : c0 + 1 ≤ 601024) (hs0 : s0 + 6 ≤ 7293034) (hd : dc (xs (x4 + 1).toNatClampNeg).toNatClampNeg = some aE) {res : (Nat → Int64) × (Nat → Int32)} (hm : m_F_L_get_E xs L x4 pv dc v b rw pw ov mv mu  = some res)
    (kk : ∀ (H : Heap) (locs : List Loc) (ls : Array Slot), va_P D vwCl (wQDEOM aQ aY aS aNs aTs aEs aDc aE bE rE pE aO ad cd c1 c2 c3 co ca pv dc v b rw pw res.1 res.2 mu) H → va_D (va_A w0 H0.size) (wQDEOM aQ aY aS aNs aTs aEs aDc aE bE rE pE aO ad cd c1 c2 c3 co ca pv dc v b rw pw res.1 res.2 mu) → va_S (va_A w0 H0.size) H0 H locs → lv_has ls 8 [(0, .ref sb), (1, .ref aQ), (2, .ref (ad 0)), (3, .ref aO), (4, .int x4)] → W p l e room_1 s m args below meth c H locs (c0 + 1) (s0 + 6) Q (F0 m 588 ls []))
    (H : Heap) (locs : List Loc) (ls : Array Slot) (hP : va_P D vwCl (wQDEOM aQ aY aS aNs aTs aEs aDc aE bE rE pE aO ad cd c1 c2 c3 co ca pv dc v b rw pw ov mv mu) H) (hD : va_D (va_A w0 H0.size) (wQDEOM aQ aY aS aNs aTs aEs aDc aE bE rE pE aO ad cd c1 c2 c3 co ca pv dc v b rw pw ov mv mu)) (hS : va_S (va_A w0 H0.size) H0 H locs) (hl : lv_has ls 8 [(0, .ref sb), (1, .ref aQ), (2, .ref (ad 0)), (3, .ref aO), (4, .int x4)]) : W p l e room_1 s m args below meth c H locs c0 s0 Q (F0 m 265 ls []) := by
  obtain ⟨hx, hb, hr, hml, hown, hw, hlk⟩ := G
  have hA : ∀ q, H0.size ≤ q → (va_A w0 H0.size) q := fun q h => Or.inr h
  unfold m_F_L_get_E at hm
  refine lv_aload_n hx hb dL_law_265 rfl (lv_at hl 1 rfl) ?_
  refine lv_aload_n hx hb dL_law_266 rfl (lv_at hl 0 rfl) ?_
  refine lv_iload hx hb dL_law_267 (lv_at hl 4 rfl) ?_
  refine lv_iconst (v := 1) hx hb dL_law_269 (by decide) ?_
  refine lv_iadd hx hb dL_law_270 ?_
  obtain ⟨hi1, hm⟩ := zix_s hm
  refine va_sld (i := (x4 + 1)) (xs := xs) hx hb hsb hbl hbA hS hi1 dL_law_271 ?_
  refine lv_aload_n hx hb dL_law_272 rfl (lv_at hl 0 rfl) ?_
  refine lv_iload hx hb dL_law_273 (lv_at hl 4 rfl) ?_
  refine lv_iconst (v := 2) hx hb dL_law_275 (by decide) ?_
  refine lv_iadd hx hb dL_law_276 ?_
  obtain ⟨hi2, hm⟩ := zix_s hm
  refine va_sld (i := (x4 + 2)) (xs := xs) hx hb hsb hbl hbA hS hi2 dL_law_277 ?_
  refine lv_aload_n hx hb dL_law_278 rfl (lv_at hl 3 rfl) ?_
  obtain ⟨q3, hq3, hm⟩ := zbind hm
  have hPc := hP.sub (ws' := (wQDEO aQ aY aS aNs aTs aEs aDc aE bE rE pE aO cd c1 c2 c3 co pv dc v b rw pw ov)) [0, 1, 2, 3, 4, 5, 6] rfl
  have hDc := hD.sub (ws' := (wQDEO aQ aY aS aNs aTs aEs aDc aE bE rE pE aO cd c1 c2 c3 co pv dc v b rw pw ov)) [0, 1, 2, 3, 4, 5, 6] (by decide) rfl
  have hKc := hK.sub (tys' := wQDEO_t cd c1 c2 c3 co) [0, 1, 2, 3, 4] rfl
  have hFc := va_free (wc := (wQDEO aQ aY aS aNs aTs aEs aDc aE bE rE pE aO cd c1 c2 c3 co pv dc v b rw pw ov)) hD hS hA [0, 1, 2, 3, 4, 5, 6] rfl
  refine zlSi (wr := [((ad 0), .inr (5, [.int (mv 0), .int (mv 1), .ref (ad 1), .int (mv 3), .ref (ad 2), .ref (ad 3), .ref (ad 4), .ref (ad 5), .ref (ad 6), .ref (ad 7), .ref (ad 8), .ref (ad 9), .ref (ad 10), .ref (ad 11), .ref (ad 12), .ref (ad 13), .ref (ad 14), .ref (ad 15), .ref (ad 16), .ref (ad 17), .int (mv 20), .int (mv 21), .ref (ad 18), .int (mv 23)])), ((ad 1), .inl ((ca 1), 24, .inl (mu 1))), ((ad 2), .inl ((ca 2), 9, .inl (mu 2))), ((ad 3), .inl ((ca 3), 216, .inl (mu 3))), ((ad 4), .inl ((ca 4), 216, .inl (mu 4))), ((ad 5), .inl ((ca 5), 9, .inl (mu 5))), ((ad 6), .inl ((ca 6), 9, .inl (mu 6))), ((ad 7), .inl ((ca 7), 9, .inl (mu 7))), ((ad 8), .inl ((ca 8), 9, .inl (mu 8))), ((ad 9), .inl ((ca 9), 9, .inl (mu 9))), ((ad 10), .inl ((ca 10), 9, .inl (mu 10))), ((ad 11), .inl ((ca 11), 9, .inl (mu 11))), ((ad 12), .inl ((ca 12), 9, .inl (mu 12))), ((ad 13), .inl ((ca 13), 9, .inl (mu 13))), ((ad 14), .inl ((ca 14), 9, .inl (mu 14))), ((ad 15), .inl ((ca 15), 9, .inl (mu 15))), ((ad 16), .inl ((ca 16), 256, .inl (mu 16))), ((ad 17), .inl ((ca 17), 48, .inl (mu 17))), ((ad 18), .inl ((ca 18), 32, .inl (mu 18)))]) (w1 := (wQDEO aQ aY aS aNs aTs aEs aDc aE bE rE pE aO cd c1 c2 c3 co pv dc v b rw pw q3.2)) (w' := (wQDEOM aQ aY aS aNs aTs aEs aDc aE bE rE pE aO ad cd c1 c2 c3 co ca pv dc v b rw pw q3.2 mv mu)) (vx_runSW (As := [.ref aQ, .int (xs (x4 + 1).toNatClampNeg), .int (xs (x4 + 2).toNatClampNeg), .ref aO]) (rest := []) ⟨hx, hb, hml, hown, hw⟩ (k_L_get_E l D aQ aY aS aNs aTs aEs aDc aE bE rE pE aO cd c1 c2 c3 co _ (xs (x4 + 1).toNatClampNeg) (xs (x4 + 2).toNatClampNeg) pv dc v b rw pw ov hd q3 hq3) (vx_cwSW 4 hw (zgoodW (List.forall_mem_cons.mpr ⟨zw621, List.forall_mem_cons.mpr ⟨zw622, List.forall_mem_cons.mpr ⟨zw587, fun _ h => absurd h List.not_mem_nil⟩⟩⟩) zw623) rfl rfl rfl hdL_get ⟨Nat.le_of_ble_eq_true rfl, Nat.le_of_ble_eq_true rfl⟩) (zpre zW_ok (A := fun q => s.heap.size ≤ q) hX (zglob hSg hAs hS) (fun q h => hAs q (hFc q h)) hPc hKc (hDc.weaken (fun _ _ _ h => hAs _ h))) rfl rfl hl.1 rfl (lv_room (Nat.le_of_ble_eq_true rfl)) dL_law_279 ⟨by show c0 + 0 ≤ 601024; omega, by show s0 + 0 ≤ 7293034; omega⟩) hP hD hS hFc [0, 1, 2, 3, 4, 5, 6] [7, 8, 9, 10, 11, 12, 13, 14, 15, 16, 17, 18, 19, 20, 21, 22, 23, 24, 25] [19, 20, 21, 22, 23, 24, 25, 0, 1, 2, 3, 4, 5, 6, 7, 8, 9, 10, 11, 12, 13, 14, 15, 16, 17, 18] rfl rfl (by decide) (by decide) rfl (by decide) (fun H locs hP hD hS => ?_)
  refine W.widen (k := c0 + 0) (n := s0 + 0) (by omega) (by omega) ?_
  refine lv_istore (lv' := [(5, .int q3.1), (0, .ref sb), (1, .ref aQ), (2, .ref (ad 0)), (3, .ref aO), (4, .int x4)]) hx hb dL_law_282 hl (by decide) rfl (fun ls hl => ?_)
  refine lv_aload_n hx hb dL_law_284 rfl (lv_at hl 3 rfl) ?_
  refine lv_aload_n hx hb dL_law_285 rfl (lv_at hl 1 rfl) ?_
  refine lv_iload hx hb dL_law_286 (lv_at hl 5 rfl) ?_
  refine lv_iconst (v := 1) hx hb dL_law_288 (by decide) ?_
  refine lv_iadd hx hb dL_law_289 ?_
  obtain ⟨hi4, hm⟩ := zix_s hm
  refine va_sld (i := (x4 + 1)) (xs := xs) hx hb hsb hbl hbA hS hi4 dL_law_290 ?_
  refine lv_aload_n hx hb dL_law_291 rfl (lv_at hl 1 rfl) ?_
  refine lv_iload hx hb dL_law_292 (lv_at hl 5 rfl) ?_
  refine lv_iconst (v := 2) hx hb dL_law_294 (by decide) ?_
  refine lv_iadd hx hb dL_law_295 ?_
  obtain ⟨hi5, hm⟩ := zix_s hm
  refine va_sld (i := (x4 + 2)) (xs := xs) hx hb hsb hbl hbA hS hi5 dL_law_296 ?_
  obtain ⟨q6, hq6, hm⟩ := zbind hm
  have hPc := hP.sub (ws' := (wM ad ca mv mu)) [7, 8, 9, 10, 11, 12, 13, 14, 15, 16, 17, 18, 19, 20, 21, 22, 23, 24, 25] rfl
  have hDc := hD.sub (ws' := (wM ad ca mv mu)) [7, 8, 9, 10, 11, 12, 13, 14, 15, 16, 17, 18, 19, 20, 21, 22, 23, 24, 25] (by decide) rfl
  have hKc := hK.sub (tys' := wM_t ca) [5, 6, 7, 8, 9, 10, 11, 12, 13, 14, 15, 16, 17, 18, 19, 20, 21, 22] rfl
  have hFc := va_free (wc := (wM ad ca mv mu)) hD hS hA [7, 8, 9, 10, 11, 12, 13, 14, 15, 16, 17, 18, 19, 20, 21, 22, 23, 24, 25] rfl
  refine zlSi (wr := [(aQ, .inr (4, [.ref aY, .int (pv 1), .ref aS, .ref aNs, .ref aTs, .ref aEs, .ref aDc, .int (pv 7)])), (aDc, .inl (cd, 8, .inr (.inr (.inr (.inr dc))))), (aE, .inr (0, [.ref bE, .int (v 1), .int (v 2), .int (v 3), .int (v 4), .ref rE, .ref pE, .int (v 7), .int (v 8), .int (v 9), .int (v 10), .int (v 11), .int (v 12), .int (v 13), .int (v 14), .int (v 15)])), (bE, .inl (c1, 25, .inl b)), (rE, .inl (c2, 24, .inl rw)), (pE, .inl (c3, 24, .inl pw)), (aO, .inl (co, 1, .inr (.inl q3.2)))]) (w1 := (wM ad ca q6.2 mu)) (w' := (wQDEOM aQ aY aS aNs aTs aEs aDc aE bE rE pE aO ad cd c1 c2 c3 co ca pv dc v b rw pw q3.2 q6.2 mu)) (va_runV (As := [.int (xs (x4 + 1).toNatClampNeg), .int (xs (x4 + 2).toNatClampNeg)]) (rest := []) ⟨hx, hb, hml, hown, hw⟩ (k_M_get l D ad ca _ (xs (x4 + 1).toNatClampNeg) (xs (x4 + 2).toNatClampNeg) mv mu  q6 hq6) (zcV (C := RX6) 2 hw (zgood zw626) rfl rfl rfl zw7 zw624 zw625 zw627 hdX6_get ⟨Nat.le_of_ble_eq_true rfl, Nat.le_of_ble_eq_true rfl⟩) (zpreV (zpre zN_ok (A := fun q => s.heap.size ≤ q) trivial (zglob hSg hAs hS) (fun q h => hAs q (hFc q h)) hPc hKc (hDc.weaken (fun _ _ _ h => hAs _ h))) (va_recv hK hP rfl (q0 := 7) rfl)) rfl rfl hl.1 rfl (lv_room (Nat.le_of_ble_eq_true rfl)) dL_law_297 ⟨by show c0 + 0 ≤ 601024; omega, by show s0 + 0 ≤ 7293034; omega⟩) hP hD hS hFc [7, 8, 9, 10, 11, 12, 13, 14, 15, 16, 17, 18, 19, 20, 21, 22, 23, 24, 25] [0, 1, 2, 3, 4, 5, 6] [0, 1, 2, 3, 4, 5, 6, 7, 8, 9, 10, 11, 12, 13, 14, 15, 16, 17, 18, 19, 20, 21, 22, 23, 24, 25] rfl rfl (by decide) (by decide) rfl (by decide) (fun H locs hP hD hS => ?_)
  refine W.widen (k := c0 + 0) (n := s0 + 0) (by omega) (by omega) ?_
  refine lv_istore (lv' := [(6, .int q6.1), (5, .int q3.1), (0, .ref sb), (1, .ref aQ), (2, .ref (ad 0)), (3, .ref aO), (4, .int x4)]) hx hb dL_law_300 hl (by decide) rfl (fun ls hl => ?_)
  refine lv_aload_n hx hb dL_law_302 rfl (lv_at hl 4 rfl) ?_
  obtain ⟨q7, hq7, hm⟩ := zbind hm
  have hPc := hP.sub (ws' := (wM ad ca q6.2 mu)) [7, 8, 9, 10, 11, 12, 13, 14, 15, 16, 17, 18, 19, 20, 21, 22, 23, 24, 25] rfl
  have hDc := hD.sub (ws' := (wM ad ca q6.2 mu)) [7, 8, 9, 10, 11, 12, 13, 14, 15, 16, 17, 18, 19, 20, 21, 22, 23, 24, 25] (by decide) rfl
  have hKc := hK.sub (tys' := wM_t ca) [5, 6, 7, 8, 9, 10, 11, 12, 13, 14, 15, 16, 17, 18, 19, 20, 21, 22] rfl
  have hFc := va_free (wc := (wM ad ca q6.2 mu)) hD hS hA [7, 8, 9, 10, 11, 12, 13, 14, 15, 16, 17, 18, 19, 20, 21, 22, 23, 24, 25] rfl
  refine zlSi (wr := [(aQ, .inr (4, [.ref aY, .int (pv 1), .ref aS, .ref aNs, .ref aTs, .ref aEs, .ref aDc, .int (pv 7)])), (aDc, .inl (cd, 8, .inr (.inr (.inr (.inr dc))))), (aE, .inr (0, [.ref bE, .int (v 1), .int (v 2), .int (v 3), .int (v 4), .ref rE, .ref pE, .int (v 7), .int (v 8), .int (v 9), .int (v 10), .int (v 11), .int (v 12), .int (v 13), .int (v 14), .int (v 15)])), (bE, .inl (c1, 25, .inl b)), (rE, .inl (c2, 24, .inl rw)), (pE, .inl (c3, 24, .inl pw)), (aO, .inl (co, 1, .inr (.inl q3.2)))]) (w1 := (wM ad ca q6.2 mu)) (w' := (wQDEOM aQ aY aS aNs aTs aEs aDc aE bE rE pE aO ad cd c1 c2 c3 co ca pv dc v b rw pw q3.2 q6.2 mu)) (va_runV (As := []) (rest := []) ⟨hx, hb, hml, hown, hw⟩ (k_M_thrown l D ad ca _ q6.2 mu  q7 hq7) (zcV (C := RX6) 0 hw (zgood zw596) rfl rfl rfl zw7 zw594 zw595 zw597 hdX6_thrown ⟨Nat.le_of_ble_eq_true rfl, Nat.le_of_ble_eq_true rfl⟩) (zpreV (zpre zN_ok (A := fun q => s.heap.size ≤ q) trivial (zglob hSg hAs hS) (fun q h => hAs q (hFc q h)) hPc hKc (hDc.weaken (fun _ _ _ h => hAs _ h))) (va_recv hK hP rfl (q0 := 7) rfl)) rfl rfl hl.1 rfl (lv_room (Nat.le_of_ble_eq_true rfl)) dL_law_303 ⟨by show c0 + 0 ≤ 601024; omega, by show s0 + 0 ≤ 7293034; omega⟩) hP hD hS hFc [7, 8, 9, 10, 11, 12, 13, 14, 15, 16, 17, 18, 19, 20, 21, 22, 23, 24, 25] [0, 1, 2, 3, 4, 5, 6] [0, 1, 2, 3, 4, 5, 6, 7, 8, 9, 10, 11, 12, 13, 14, 15, 16, 17, 18, 19, 20, 21, 22, 23, 24, 25] rfl rfl (by decide) (by decide) rfl (by decide) (fun H locs hP hD hS => ?_)
  refine W.widen (k := c0 + 0) (n := s0 + 0) (by omega) (by omega) ?_
  refine lv_iload hx hb dL_law_306 (lv_at hl 1 rfl) ?_
  refine lv_icmp_eq (tgt := 313) hx hb dL_law_308 rfl (fun cd8 => ?_) (fun cd8 => ?_)
  · replace hm := zt cd8 hm
    refine lv_iload hx hb dL_law_313 (lv_at hl 1 rfl) ?_
    refine lv_if_ne (tgt := 330) hx hb dL_law_315 rfl (fun cd9 => ?_) (fun cd9 => ?_)
    · replace hm := zf cd9 hm
      refine lv_goto (tgt := 588) hx hb dL_law_330 rfl ?_
      cases hm
      refine W.widen (k := c0 + 1) (n := s0 + 6) (by omega) (by omega) ?_
      exact kk _ _ _ hP hD hS (lv_sub hl [2, 3, 4, 5, 6] rfl)
    · replace hm := zt cd9 hm
      refine lv_aload_n hx hb dL_law_318 rfl (lv_at hl 5 rfl) ?_
      refine lv_iconst (v := 0) hx hb dL_law_319 (by decide) ?_
      obtain ⟨hi10, hm⟩ := zix_s hm
      refine va_lald (i := 0) (f := q3.2) (n := 1) hx hb hK hP 6 4 rfl rfl hi10 dL_law_320 ?_
      refine lv_iload hx hb dL_law_321 (lv_at hl 0 rfl) ?_
      refine lv_i2l (v := ((q6.1).toInt64)) hx hb dL_law_323 rfl ?_
      refine W.lcmp (x := (q3.2 (0 : Int32).toNatClampNeg)) (y := ((q6.1).toInt64)) hx hb dL_law_324 ?_
      refine lv_if_eq (tgt := 330) hx hb dL_law_325 rfl (fun cd11 => ?_) (fun cd11 => ?_)
      · replace hm := zt cd11 hm
        refine lv_goto (tgt := 588) hx hb dL_law_330 rfl ?_
        cases hm
        refine W.widen (k := c0 + 1) (n := s0 + 6) (by omega) (by omega) ?_
        exact kk _ _ _ hP hD hS (lv_sub hl [2, 3, 4, 5, 6] rfl)
      · replace hm := zf cd11 hm
        refine lv_iconst (v := 0) hx hb dL_law_328 (by decide) ?_
        cases hm
  · replace hm := zf cd8 hm
    refine lv_iconst (v := 0) hx hb dL_law_311 (by decide) ?_
    cases hm

def m_F_L_get_n2E (xs : Nat → Int32) (L : Nat) (x4 : Int32) (pv : Nat → Int32) (dc : Nat → Option Nat) (v : Nat → Int32) (b : Nat → Int32) (rw : Nat → Int32) (pw : Nat → Int32) (ov : Nat → Int64) (mv : Nat → Int32) (mu : Nat → Nat → Int32)  : Option ((Nat → Int32)) := zix (x4 + 1) L (zix (x4 + 2) L ((m_L_get_n2E (xs (x4 + 1).toNatClampNeg) (xs (x4 + 2).toNatClampNeg) pv dc v b rw pw).bind (fun q3 => zix (x4 + 1) L (zix (x4 + 2) L ((m_M_get (xs (x4 + 1).toNatClampNeg) (xs (x4 + 2).toNatClampNeg) mv mu).bind (fun q6 => (m_M_thrown q6.2 mu).bind (fun q7 => (if q7 = q3 then (if q3 = 0 then zix 0 1 ((if (lg_cmp (ov (0 : Int32).toNatClampNeg) ((q6.1).toInt64)) = 0 then (some q6.2) else none)) else (some q6.2)) else none))))))))
set_option maxRecDepth 100000 in
set_option maxHeartbeats 4000000 in
theorem f_F_L_get_n2E {p : Program} {l : Launch} {e : Env} {s : State} {m : MethodId} {args : Array Value} {below : List Frame} {meth : Method} {c : Code} {D : va_G} {w0 : va_W} {H0 : Heap} {Q : State → Prop} {sb L : Nat} {xs : Nat → Int32} {x4 : Int32} {c0 s0 : Nat} (aQ aY aS aNs aTs aEs aDc aE bE rE pE aO : Nat) (ad : Nat → Nat) (cd c1 c2 c3 co : ClassId) (ca : Nat → ClassId) (pv : Nat → Int32) (dc : Nat → Option Nat) (v : Nat → Int32) (b : Nat → Int32) (rw : Nat → Int32) (pw : Nat → Int32) (ov : Nat → Int64) (mv : Nat → Int32) (mu : Nat → Nat → Int32) (G : zG p s m args meth c cL_law RL 8 (some .boolean)) (hK : va_K D vwCl (wQDEoOM_t cd c1 c2 c3 co ca) s) (hX : zW (fun q => s.heap.size ≤ q) s) (hl0 : l.stackTraces = false) (hSg : va_S (fun q => s.heap.size ≤ q) s.heap H0 []) (hAs : ∀ q, (va_A w0 H0.size) q → s.heap.size ≤ q) (hsb : va_X sb L xs s H0) (hbl : sb < H0.size) (hbA : ¬ (va_A w0 H0.size) sb) (hc0 : c0 + 1 ≤ 601024) (hs0 : s0 + 6 ≤ 7293034) (hd : dc (xs (x4 + 1).toNatClampNeg).toNatClampNeg = some aE) {res : (Nat → Int32)} (hm : m_F_L_get_n2E xs L x4 pv dc v b rw pw ov mv mu  = some res)
    (kk : ∀ (H : Heap) (locs : List Loc) (ls : Array Slot), va_P D vwCl (wQDEoOM aQ aY aS aNs aTs aEs aDc aE bE rE pE aO ad cd c1 c2 c3 co ca pv dc v b rw pw ov res mu) H → va_D (va_A w0 H0.size) (wQDEoOM aQ aY aS aNs aTs aEs aDc aE bE rE pE aO ad cd c1 c2 c3 co ca pv dc v b rw pw ov res mu) → va_S (va_A w0 H0.size) H0 H locs → lv_has ls 8 [(0, .ref sb), (1, .ref aQ), (2, .ref (ad 0)), (3, .ref aO), (4, .int x4)] → W p l e room_1 s m args below meth c H locs (c0 + 1) (s0 + 6) Q (F0 m 588 ls []))
    (H : Heap) (locs : List Loc) (ls : Array Slot) (hP : va_P D vwCl (wQDEoOM aQ aY aS aNs aTs aEs aDc aE bE rE pE aO ad cd c1 c2 c3 co ca pv dc v b rw pw ov mv mu) H) (hD : va_D (va_A w0 H0.size) (wQDEoOM aQ aY aS aNs aTs aEs aDc aE bE rE pE aO ad cd c1 c2 c3 co ca pv dc v b rw pw ov mv mu)) (hS : va_S (va_A w0 H0.size) H0 H locs) (hl : lv_has ls 8 [(0, .ref sb), (1, .ref aQ), (2, .ref (ad 0)), (3, .ref aO), (4, .int x4)]) : W p l e room_1 s m args below meth c H locs c0 s0 Q (F0 m 265 ls []) := by
  obtain ⟨hx, hb, hr, hml, hown, hw, hlk⟩ := G
  have hA : ∀ q, H0.size ≤ q → (va_A w0 H0.size) q := fun q h => Or.inr h
  unfold m_F_L_get_n2E at hm
  refine lv_aload_n hx hb dL_law_265 rfl (lv_at hl 1 rfl) ?_
  refine lv_aload_n hx hb dL_law_266 rfl (lv_at hl 0 rfl) ?_
  refine lv_iload hx hb dL_law_267 (lv_at hl 4 rfl) ?_
  refine lv_iconst (v := 1) hx hb dL_law_269 (by decide) ?_
  refine lv_iadd hx hb dL_law_270 ?_
  obtain ⟨hi1, hm⟩ := zix_s hm
  refine va_sld (i := (x4 + 1)) (xs := xs) hx hb hsb hbl hbA hS hi1 dL_law_271 ?_
  refine lv_aload_n hx hb dL_law_272 rfl (lv_at hl 0 rfl) ?_
  refine lv_iload hx hb dL_law_273 (lv_at hl 4 rfl) ?_
  refine lv_iconst (v := 2) hx hb dL_law_275 (by decide) ?_
  refine lv_iadd hx hb dL_law_276 ?_
  obtain ⟨hi2, hm⟩ := zix_s hm
  refine va_sld (i := (x4 + 2)) (xs := xs) hx hb hsb hbl hbA hS hi2 dL_law_277 ?_
  refine lv_aload_n hx hb dL_law_278 rfl (lv_at hl 3 rfl) ?_
  obtain ⟨q3, hq3, hm⟩ := zbind hm
  have hPc := hP.sub (ws' := (wQDEo aQ aY aS aNs aTs aEs aDc aE bE rE pE aO cd c1 c2 c3 pv dc v b rw pw)) [0, 1, 2, 3, 4, 5] rfl
  have hDc := hD.sub (ws' := (wQDEo aQ aY aS aNs aTs aEs aDc aE bE rE pE aO cd c1 c2 c3 pv dc v b rw pw)) [0, 1, 2, 3, 4, 5] (by decide) rfl
  have hKc := hK.sub (tys' := wQDEo_t cd c1 c2 c3) [0, 1, 2, 3] rfl
  have hFc := va_free (wc := (wQDEo aQ aY aS aNs aTs aEs aDc aE bE rE pE aO cd c1 c2 c3 pv dc v b rw pw)) hD hS hA [0, 1, 2, 3, 4, 5] rfl
  refine zlSi (wr := [(aO, .inl (co, 1, .inr (.inl ov))), ((ad 0), .inr (5, [.int (mv 0), .int (mv 1), .ref (ad 1), .int (mv 3), .ref (ad 2), .ref (ad 3), .ref (ad 4), .ref (ad 5), .ref (ad 6), .ref (ad 7), .ref (ad 8), .ref (ad 9), .ref (ad 10), .ref (ad 11), .ref (ad 12), .ref (ad 13), .ref (ad 14), .ref (ad 15), .ref (ad 16), .ref (ad 17), .int (mv 20), .int (mv 21), .ref (ad 18), .int (mv 23)])), ((ad 1), .inl ((ca 1), 24, .inl (mu 1))), ((ad 2), .inl ((ca 2), 9, .inl (mu 2))), ((ad 3), .inl ((ca 3), 216, .inl (mu 3))), ((ad 4), .inl ((ca 4), 216, .inl (mu 4))), ((ad 5), .inl ((ca 5), 9, .inl (mu 5))), ((ad 6), .inl ((ca 6), 9, .inl (mu 6))), ((ad 7), .inl ((ca 7), 9, .inl (mu 7))), ((ad 8), .inl ((ca 8), 9, .inl (mu 8))), ((ad 9), .inl ((ca 9), 9, .inl (mu 9))), ((ad 10), .inl ((ca 10), 9, .inl (mu 10))), ((ad 11), .inl ((ca 11), 9, .inl (mu 11))), ((ad 12), .inl ((ca 12), 9, .inl (mu 12))), ((ad 13), .inl ((ca 13), 9, .inl (mu 13))), ((ad 14), .inl ((ca 14), 9, .inl (mu 14))), ((ad 15), .inl ((ca 15), 9, .inl (mu 15))), ((ad 16), .inl ((ca 16), 256, .inl (mu 16))), ((ad 17), .inl ((ca 17), 48, .inl (mu 17))), ((ad 18), .inl ((ca 18), 32, .inl (mu 18)))]) (w1 := (wQDEo aQ aY aS aNs aTs aEs aDc aE bE rE pE aO cd c1 c2 c3 pv dc v b rw pw)) (w' := (wQDEoOM aQ aY aS aNs aTs aEs aDc aE bE rE pE aO ad cd c1 c2 c3 co ca pv dc v b rw pw ov mv mu)) (vx_runSW (As := [.ref aQ, .int (xs (x4 + 1).toNatClampNeg), .int (xs (x4 + 2).toNatClampNeg), .ref aO]) (rest := []) ⟨hx, hb, hml, hown, hw⟩ (k_L_get_n2E l D aQ aY aS aNs aTs aEs aDc aE bE rE pE aO cd c1 c2 c3 _ (xs (x4 + 1).toNatClampNeg) (xs (x4 + 2).toNatClampNeg) pv dc v b rw pw hl0 hd q3 hq3) (vx_cwSW 4 hw (zgoodW (List.forall_mem_cons.mpr ⟨zw621, List.forall_mem_cons.mpr ⟨zw622, List.forall_mem_cons.mpr ⟨zw587, fun _ h => absurd h List.not_mem_nil⟩⟩⟩) zw623) rfl rfl rfl hdL_get ⟨Nat.le_of_ble_eq_true rfl, Nat.le_of_ble_eq_true rfl⟩) (zpre zW_ok (A := fun q => s.heap.size ≤ q) hX (zglob hSg hAs hS) (fun q h => hAs q (hFc q h)) hPc hKc (hDc.weaken (fun _ _ _ h => hAs _ h))) rfl rfl hl.1 rfl (lv_room (Nat.le_of_ble_eq_true rfl)) dL_law_279 ⟨by show c0 + 1 ≤ 601024; omega, by show s0 + 6 ≤ 7293034; omega⟩) hP hD hS hFc [0, 1, 2, 3, 4, 5] [6, 7, 8, 9, 10, 11, 12, 13, 14, 15, 16, 17, 18, 19, 20, 21, 22, 23, 24, 25] [20, 21, 22, 23, 24, 25, 0, 1, 2, 3, 4, 5, 6, 7, 8, 9, 10, 11, 12, 13, 14, 15, 16, 17, 18, 19] rfl rfl (by decide) (by decide) rfl (by decide) (fun H locs hP hD hS => ?_)
  refine W.widen (k := c0 + 1) (n := s0 + 6) (by omega) (by omega) ?_
  refine lv_istore (lv' := [(5, .int q3), (0, .ref sb), (1, .ref aQ), (2, .ref (ad 0)), (3, .ref aO), (4, .int x4)]) hx hb dL_law_282 hl (by decide) rfl (fun ls hl => ?_)
  refine lv_aload_n hx hb dL_law_284 rfl (lv_at hl 3 rfl) ?_
  refine lv_aload_n hx hb dL_law_285 rfl (lv_at hl 1 rfl) ?_
  refine lv_iload hx hb dL_law_286 (lv_at hl 5 rfl) ?_
  refine lv_iconst (v := 1) hx hb dL_law_288 (by decide) ?_
  refine lv_iadd hx hb dL_law_289 ?_
  obtain ⟨hi4, hm⟩ := zix_s hm
  refine va_sld (i := (x4 + 1)) (xs := xs) hx hb hsb hbl hbA hS hi4 dL_law_290 ?_
  refine lv_aload_n hx hb dL_law_291 rfl (lv_at hl 1 rfl) ?_
  refine lv_iload hx hb dL_law_292 (lv_at hl 5 rfl) ?_
  refine lv_iconst (v := 2) hx hb dL_law_294 (by decide) ?_
  refine lv_iadd hx hb dL_law_295 ?_
  obtain ⟨hi5, hm⟩ := zix_s hm
  refine va_sld (i := (x4 + 2)) (xs := xs) hx hb hsb hbl hbA hS hi5 dL_law_296 ?_
  obtain ⟨q6, hq6, hm⟩ := zbind hm
  have hPc := hP.sub (ws' := (wM ad ca mv mu)) [7, 8, 9, 10, 11, 12, 13, 14, 15, 16, 17, 18, 19, 20, 21, 22, 23, 24, 25] rfl
  have hDc := hD.sub (ws' := (wM ad ca mv mu)) [7, 8, 9, 10, 11, 12, 13, 14, 15, 16, 17, 18, 19, 20, 21, 22, 23, 24, 25] (by decide) rfl
  have hKc := hK.sub (tys' := wM_t ca) [5, 6, 7, 8, 9, 10, 11, 12, 13, 14, 15, 16, 17, 18, 19, 20, 21, 22] rfl
  have hFc := va_free (wc := (wM ad ca mv mu)) hD hS hA [7, 8, 9, 10, 11, 12, 13, 14, 15, 16, 17, 18, 19, 20, 21, 22, 23, 24, 25] rfl
  refine zlSi (wr := [(aQ, .inr (4, [.ref aY, .int (pv 1), .ref aS, .ref aNs, .ref aTs, .ref aEs, .ref aDc, .int (pv 7)])), (aDc, .inl (cd, 8, .inr (.inr (.inr (.inr dc))))), (aE, .inr (0, [.ref bE, .int (v 1), .int (v 2), .int (v 3), .int (v 4), .ref rE, .ref pE, .int (v 7), .int (v 8), .int (v 9), .int (v 10), .int (v 11), .int (v 12), .int (v 13), .int (v 14), .int (v 15)])), (bE, .inl (c1, 25, .inl b)), (rE, .inl (c2, 24, .inl rw)), (pE, .inl (c3, 24, .inl pw)), (aO, .inl (co, 1, .inr (.inl ov)))]) (w1 := (wM ad ca q6.2 mu)) (w' := (wQDEoOM aQ aY aS aNs aTs aEs aDc aE bE rE pE aO ad cd c1 c2 c3 co ca pv dc v b rw pw ov q6.2 mu)) (va_runV (As := [.int (xs (x4 + 1).toNatClampNeg), .int (xs (x4 + 2).toNatClampNeg)]) (rest := []) ⟨hx, hb, hml, hown, hw⟩ (k_M_get l D ad ca _ (xs (x4 + 1).toNatClampNeg) (xs (x4 + 2).toNatClampNeg) mv mu  q6 hq6) (zcV (C := RX6) 2 hw (zgood zw626) rfl rfl rfl zw7 zw624 zw625 zw627 hdX6_get ⟨Nat.le_of_ble_eq_true rfl, Nat.le_of_ble_eq_true rfl⟩) (zpreV (zpre zN_ok (A := fun q => s.heap.size ≤ q) trivial (zglob hSg hAs hS) (fun q h => hAs q (hFc q h)) hPc hKc (hDc.weaken (fun _ _ _ h => hAs _ h))) (va_recv hK hP rfl (q0 := 7) rfl)) rfl rfl hl.1 rfl (lv_room (Nat.le_of_ble_eq_true rfl)) dL_law_297 ⟨by show c0 + 1 ≤ 601024; omega, by show s0 + 6 ≤ 7293034; omega⟩) hP hD hS hFc [7, 8, 9, 10, 11, 12, 13, 14, 15, 16, 17, 18, 19, 20, 21, 22, 23, 24, 25] [0, 1, 2, 3, 4, 5, 6] [0, 1, 2, 3, 4, 5, 6, 7, 8, 9, 10, 11, 12, 13, 14, 15, 16, 17, 18, 19, 20, 21, 22, 23, 24, 25] rfl rfl (by decide) (by decide) rfl (by decide) (fun H locs hP hD hS => ?_)
  refine W.widen (k := c0 + 1) (n := s0 + 6) (by omega) (by omega) ?_
  refine lv_istore (lv' := [(6, .int q6.1), (5, .int q3), (0, .ref sb), (1, .ref aQ), (2, .ref (ad 0)), (3, .ref aO), (4, .int x4)]) hx hb dL_law_300 hl (by decide) rfl (fun ls hl => ?_)
  refine lv_aload_n hx hb dL_law_302 rfl (lv_at hl 4 rfl) ?_
  obtain ⟨q7, hq7, hm⟩ := zbind hm
  have hPc := hP.sub (ws' := (wM ad ca q6.2 mu)) [7, 8, 9, 10, 11, 12, 13, 14, 15, 16, 17, 18, 19, 20, 21, 22, 23, 24, 25] rfl
  have hDc := hD.sub (ws' := (wM ad ca q6.2 mu)) [7, 8, 9, 10, 11, 12, 13, 14, 15, 16, 17, 18, 19, 20, 21, 22, 23, 24, 25] (by decide) rfl
  have hKc := hK.sub (tys' := wM_t ca) [5, 6, 7, 8, 9, 10, 11, 12, 13, 14, 15, 16, 17, 18, 19, 20, 21, 22] rfl
  have hFc := va_free (wc := (wM ad ca q6.2 mu)) hD hS hA [7, 8, 9, 10, 11, 12, 13, 14, 15, 16, 17, 18, 19, 20, 21, 22, 23, 24, 25] rfl
  refine zlSi (wr := [(aQ, .inr (4, [.ref aY, .int (pv 1), .ref aS, .ref aNs, .ref aTs, .ref aEs, .ref aDc, .int (pv 7)])), (aDc, .inl (cd, 8, .inr (.inr (.inr (.inr dc))))), (aE, .inr (0, [.ref bE, .int (v 1), .int (v 2), .int (v 3), .int (v 4), .ref rE, .ref pE, .int (v 7), .int (v 8), .int (v 9), .int (v 10), .int (v 11), .int (v 12), .int (v 13), .int (v 14), .int (v 15)])), (bE, .inl (c1, 25, .inl b)), (rE, .inl (c2, 24, .inl rw)), (pE, .inl (c3, 24, .inl pw)), (aO, .inl (co, 1, .inr (.inl ov)))]) (w1 := (wM ad ca q6.2 mu)) (w' := (wQDEoOM aQ aY aS aNs aTs aEs aDc aE bE rE pE aO ad cd c1 c2 c3 co ca pv dc v b rw pw ov q6.2 mu)) (va_runV (As := []) (rest := []) ⟨hx, hb, hml, hown, hw⟩ (k_M_thrown l D ad ca _ q6.2 mu  q7 hq7) (zcV (C := RX6) 0 hw (zgood zw596) rfl rfl rfl zw7 zw594 zw595 zw597 hdX6_thrown ⟨Nat.le_of_ble_eq_true rfl, Nat.le_of_ble_eq_true rfl⟩) (zpreV (zpre zN_ok (A := fun q => s.heap.size ≤ q) trivial (zglob hSg hAs hS) (fun q h => hAs q (hFc q h)) hPc hKc (hDc.weaken (fun _ _ _ h => hAs _ h))) (va_recv hK hP rfl (q0 := 7) rfl)) rfl rfl hl.1 rfl (lv_room (Nat.le_of_ble_eq_true rfl)) dL_law_303 ⟨by show c0 + 1 ≤ 601024; omega, by show s0 + 6 ≤ 7293034; omega⟩) hP hD hS hFc [7, 8, 9, 10, 11, 12, 13, 14, 15, 16, 17, 18, 19, 20, 21, 22, 23, 24, 25] [0, 1, 2, 3, 4, 5, 6] [0, 1, 2, 3, 4, 5, 6, 7, 8, 9, 10, 11, 12, 13, 14, 15, 16, 17, 18, 19, 20, 21, 22, 23, 24, 25] rfl rfl (by decide) (by decide) rfl (by decide) (fun H locs hP hD hS => ?_)
  refine W.widen (k := c0 + 1) (n := s0 + 6) (by omega) (by omega) ?_
  refine lv_iload hx hb dL_law_306 (lv_at hl 1 rfl) ?_
  refine lv_icmp_eq (tgt := 313) hx hb dL_law_308 rfl (fun cd8 => ?_) (fun cd8 => ?_)
  · replace hm := zt cd8 hm
    refine lv_iload hx hb dL_law_313 (lv_at hl 1 rfl) ?_
    refine lv_if_ne (tgt := 330) hx hb dL_law_315 rfl (fun cd9 => ?_) (fun cd9 => ?_)
    · replace hm := zf cd9 hm
      refine lv_goto (tgt := 588) hx hb dL_law_330 rfl ?_
      cases hm
      refine W.widen (k := c0 + 1) (n := s0 + 6) (by omega) (by omega) ?_
      exact kk _ _ _ hP hD hS (lv_sub hl [2, 3, 4, 5, 6] rfl)
    · replace hm := zt cd9 hm
      refine lv_aload_n hx hb dL_law_318 rfl (lv_at hl 5 rfl) ?_
      refine lv_iconst (v := 0) hx hb dL_law_319 (by decide) ?_
      obtain ⟨hi10, hm⟩ := zix_s hm
      refine va_lald (i := 0) (f := ov) (n := 1) hx hb hK hP 6 4 rfl rfl hi10 dL_law_320 ?_
      refine lv_iload hx hb dL_law_321 (lv_at hl 0 rfl) ?_
      refine lv_i2l (v := ((q6.1).toInt64)) hx hb dL_law_323 rfl ?_
      refine W.lcmp (x := (ov (0 : Int32).toNatClampNeg)) (y := ((q6.1).toInt64)) hx hb dL_law_324 ?_
      refine lv_if_eq (tgt := 330) hx hb dL_law_325 rfl (fun cd11 => ?_) (fun cd11 => ?_)
      · replace hm := zt cd11 hm
        refine lv_goto (tgt := 588) hx hb dL_law_330 rfl ?_
        cases hm
        refine W.widen (k := c0 + 1) (n := s0 + 6) (by omega) (by omega) ?_
        exact kk _ _ _ hP hD hS (lv_sub hl [2, 3, 4, 5, 6] rfl)
      · replace hm := zf cd11 hm
        refine lv_iconst (v := 0) hx hb dL_law_328 (by decide) ?_
        cases hm
  · replace hm := zf cd8 hm
    refine lv_iconst (v := 0) hx hb dL_law_311 (by decide) ?_
    cases hm

def m_F_L_get_n (xs : Nat → Int32) (L : Nat) (x4 : Int32) (pv : Nat → Int32) (dc : Nat → Option Nat) (ov : Nat → Int64) (mv : Nat → Int32) (mu : Nat → Nat → Int32)  : Option ((Nat → Int32)) := zix (x4 + 1) L (zix (x4 + 2) L ((m_L_get_n (xs (x4 + 1).toNatClampNeg) (xs (x4 + 2).toNatClampNeg) pv dc).bind (fun q3 => zix (x4 + 1) L (zix (x4 + 2) L ((m_M_get (xs (x4 + 1).toNatClampNeg) (xs (x4 + 2).toNatClampNeg) mv mu).bind (fun q6 => (m_M_thrown q6.2 mu).bind (fun q7 => (if q7 = q3 then (if q3 = 0 then zix 0 1 ((if (lg_cmp (ov (0 : Int32).toNatClampNeg) ((q6.1).toInt64)) = 0 then (some q6.2) else none)) else (some q6.2)) else none))))))))
set_option maxRecDepth 100000 in
set_option maxHeartbeats 4000000 in
theorem f_F_L_get_n {p : Program} {l : Launch} {e : Env} {s : State} {m : MethodId} {args : Array Value} {below : List Frame} {meth : Method} {c : Code} {D : va_G} {w0 : va_W} {H0 : Heap} {Q : State → Prop} {sb L : Nat} {xs : Nat → Int32} {x4 : Int32} {c0 s0 : Nat} (aQ aY aS aNs aTs aEs aDc aO : Nat) (ad : Nat → Nat) (cd co : ClassId) (ca : Nat → ClassId) (pv : Nat → Int32) (dc : Nat → Option Nat) (ov : Nat → Int64) (mv : Nat → Int32) (mu : Nat → Nat → Int32) (G : zG p s m args meth c cL_law RL 8 (some .boolean)) (hK : va_K D vwCl (wQDoOM_t cd co ca) s) (hX : zW (fun q => s.heap.size ≤ q) s) (hl0 : l.stackTraces = false) (hSg : va_S (fun q => s.heap.size ≤ q) s.heap H0 []) (hAs : ∀ q, (va_A w0 H0.size) q → s.heap.size ≤ q) (hsb : va_X sb L xs s H0) (hbl : sb < H0.size) (hbA : ¬ (va_A w0 H0.size) sb) (hc0 : c0 + 1 ≤ 601024) (hs0 : s0 + 6 ≤ 7293034) {res : (Nat → Int32)} (hm : m_F_L_get_n xs L x4 pv dc ov mv mu  = some res)
    (kk : ∀ (H : Heap) (locs : List Loc) (ls : Array Slot), va_P D vwCl (wQDoOM aQ aY aS aNs aTs aEs aDc aO ad cd co ca pv dc ov res mu) H → va_D (va_A w0 H0.size) (wQDoOM aQ aY aS aNs aTs aEs aDc aO ad cd co ca pv dc ov res mu) → va_S (va_A w0 H0.size) H0 H locs → lv_has ls 8 [(0, .ref sb), (1, .ref aQ), (2, .ref (ad 0)), (3, .ref aO), (4, .int x4)] → W p l e room_1 s m args below meth c H locs (c0 + 1) (s0 + 6) Q (F0 m 588 ls []))
    (H : Heap) (locs : List Loc) (ls : Array Slot) (hP : va_P D vwCl (wQDoOM aQ aY aS aNs aTs aEs aDc aO ad cd co ca pv dc ov mv mu) H) (hD : va_D (va_A w0 H0.size) (wQDoOM aQ aY aS aNs aTs aEs aDc aO ad cd co ca pv dc ov mv mu)) (hS : va_S (va_A w0 H0.size) H0 H locs) (hl : lv_has ls 8 [(0, .ref sb), (1, .ref aQ), (2, .ref (ad 0)), (3, .ref aO), (4, .int x4)]) : W p l e room_1 s m args below meth c H locs c0 s0 Q (F0 m 265 ls []) := by
  obtain ⟨hx, hb, hr, hml, hown, hw, hlk⟩ := G
  have hA : ∀ q, H0.size ≤ q → (va_A w0 H0.size) q := fun q h => Or.inr h
  unfold m_F_L_get_n at hm
  refine lv_aload_n hx hb dL_law_265 rfl (lv_at hl 1 rfl) ?_
  refine lv_aload_n hx hb dL_law_266 rfl (lv_at hl 0 rfl) ?_
  refine lv_iload hx hb dL_law_267 (lv_at hl 4 rfl) ?_
  refine lv_iconst (v := 1) hx hb dL_law_269 (by decide) ?_
  refine lv_iadd hx hb dL_law_270 ?_
  obtain ⟨hi1, hm⟩ := zix_s hm
  refine va_sld (i := (x4 + 1)) (xs := xs) hx hb hsb hbl hbA hS hi1 dL_law_271 ?_
  refine lv_aload_n hx hb dL_law_272 rfl (lv_at hl 0 rfl) ?_
  refine lv_iload hx hb dL_law_273 (lv_at hl 4 rfl) ?_
  refine lv_iconst (v := 2) hx hb dL_law_275 (by decide) ?_
  refine lv_iadd hx hb dL_law_276 ?_
  obtain ⟨hi2, hm⟩ := zix_s hm
  refine va_sld (i := (x4 + 2)) (xs := xs) hx hb hsb hbl hbA hS hi2 dL_law_277 ?_
  refine lv_aload_n hx hb dL_law_278 rfl (lv_at hl 3 rfl) ?_
  obtain ⟨q3, hq3, hm⟩ := zbind hm
  have hPc := hP.sub (ws' := (wQDo aQ aY aS aNs aTs aEs aDc aO cd pv dc)) [0, 1] rfl
  have hDc := hD.sub (ws' := (wQDo aQ aY aS aNs aTs aEs aDc aO cd pv dc)) [0, 1] (by decide) rfl
  have hKc := hK.sub (tys' := wQDo_t cd) [0] rfl
  have hFc := va_free (wc := (wQDo aQ aY aS aNs aTs aEs aDc aO cd pv dc)) hD hS hA [0, 1] rfl
  refine zlSi (wr := [(aO, .inl (co, 1, .inr (.inl ov))), ((ad 0), .inr (5, [.int (mv 0), .int (mv 1), .ref (ad 1), .int (mv 3), .ref (ad 2), .ref (ad 3), .ref (ad 4), .ref (ad 5), .ref (ad 6), .ref (ad 7), .ref (ad 8), .ref (ad 9), .ref (ad 10), .ref (ad 11), .ref (ad 12), .ref (ad 13), .ref (ad 14), .ref (ad 15), .ref (ad 16), .ref (ad 17), .int (mv 20), .int (mv 21), .ref (ad 18), .int (mv 23)])), ((ad 1), .inl ((ca 1), 24, .inl (mu 1))), ((ad 2), .inl ((ca 2), 9, .inl (mu 2))), ((ad 3), .inl ((ca 3), 216, .inl (mu 3))), ((ad 4), .inl ((ca 4), 216, .inl (mu 4))), ((ad 5), .inl ((ca 5), 9, .inl (mu 5))), ((ad 6), .inl ((ca 6), 9, .inl (mu 6))), ((ad 7), .inl ((ca 7), 9, .inl (mu 7))), ((ad 8), .inl ((ca 8), 9, .inl (mu 8))), ((ad 9), .inl ((ca 9), 9, .inl (mu 9))), ((ad 10), .inl ((ca 10), 9, .inl (mu 10))), ((ad 11), .inl ((ca 11), 9, .inl (mu 11))), ((ad 12), .inl ((ca 12), 9, .inl (mu 12))), ((ad 13), .inl ((ca 13), 9, .inl (mu 13))), ((ad 14), .inl ((ca 14), 9, .inl (mu 14))), ((ad 15), .inl ((ca 15), 9, .inl (mu 15))), ((ad 16), .inl ((ca 16), 256, .inl (mu 16))), ((ad 17), .inl ((ca 17), 48, .inl (mu 17))), ((ad 18), .inl ((ca 18), 32, .inl (mu 18)))]) (w1 := (wQDo aQ aY aS aNs aTs aEs aDc aO cd pv dc)) (w' := (wQDoOM aQ aY aS aNs aTs aEs aDc aO ad cd co ca pv dc ov mv mu)) (vx_runSW (As := [.ref aQ, .int (xs (x4 + 1).toNatClampNeg), .int (xs (x4 + 2).toNatClampNeg), .ref aO]) (rest := []) ⟨hx, hb, hml, hown, hw⟩ (k_L_get_n l D aQ aY aS aNs aTs aEs aDc aO cd _ (xs (x4 + 1).toNatClampNeg) (xs (x4 + 2).toNatClampNeg) pv dc hl0 q3 hq3) (vx_cwSW 4 hw (zgoodW (List.forall_mem_cons.mpr ⟨zw621, List.forall_mem_cons.mpr ⟨zw622, List.forall_mem_cons.mpr ⟨zw587, fun _ h => absurd h List.not_mem_nil⟩⟩⟩) zw623) rfl rfl rfl hdL_get ⟨Nat.le_of_ble_eq_true rfl, Nat.le_of_ble_eq_true rfl⟩) (zpre zW_ok (A := fun q => s.heap.size ≤ q) hX (zglob hSg hAs hS) (fun q h => hAs q (hFc q h)) hPc hKc (hDc.weaken (fun _ _ _ h => hAs _ h))) rfl rfl hl.1 rfl (lv_room (Nat.le_of_ble_eq_true rfl)) dL_law_279 ⟨by show c0 + 1 ≤ 601024; omega, by show s0 + 6 ≤ 7293034; omega⟩) hP hD hS hFc [0, 1] [2, 3, 4, 5, 6, 7, 8, 9, 10, 11, 12, 13, 14, 15, 16, 17, 18, 19, 20, 21] [20, 21, 0, 1, 2, 3, 4, 5, 6, 7, 8, 9, 10, 11, 12, 13, 14, 15, 16, 17, 18, 19] rfl rfl (by decide) (by decide) rfl (by decide) (fun H locs hP hD hS => ?_)
  refine W.widen (k := c0 + 1) (n := s0 + 6) (by omega) (by omega) ?_
  refine lv_istore (lv' := [(5, .int q3), (0, .ref sb), (1, .ref aQ), (2, .ref (ad 0)), (3, .ref aO), (4, .int x4)]) hx hb dL_law_282 hl (by decide) rfl (fun ls hl => ?_)
  refine lv_aload_n hx hb dL_law_284 rfl (lv_at hl 3 rfl) ?_
  refine lv_aload_n hx hb dL_law_285 rfl (lv_at hl 1 rfl) ?_
  refine lv_iload hx hb dL_law_286 (lv_at hl 5 rfl) ?_
  refine lv_iconst (v := 1) hx hb dL_law_288 (by decide) ?_
  refine lv_iadd hx hb dL_law_289 ?_
  obtain ⟨hi4, hm⟩ := zix_s hm
  refine va_sld (i := (x4 + 1)) (xs := xs) hx hb hsb hbl hbA hS hi4 dL_law_290 ?_
  refine lv_aload_n hx hb dL_law_291 rfl (lv_at hl 1 rfl) ?_
  refine lv_iload hx hb dL_law_292 (lv_at hl 5 rfl) ?_
  refine lv_iconst (v := 2) hx hb dL_law_294 (by decide) ?_
  refine lv_iadd hx hb dL_law_295 ?_
  obtain ⟨hi5, hm⟩ := zix_s hm
  refine va_sld (i := (x4 + 2)) (xs := xs) hx hb hsb hbl hbA hS hi5 dL_law_296 ?_
  obtain ⟨q6, hq6, hm⟩ := zbind hm
  have hPc := hP.sub (ws' := (wM ad ca mv mu)) [3, 4, 5, 6, 7, 8, 9, 10, 11, 12, 13, 14, 15, 16, 17, 18, 19, 20, 21] rfl
  have hDc := hD.sub (ws' := (wM ad ca mv mu)) [3, 4, 5, 6, 7, 8, 9, 10, 11, 12, 13, 14, 15, 16, 17, 18, 19, 20, 21] (by decide) rfl
  have hKc := hK.sub (tys' := wM_t ca) [2, 3, 4, 5, 6, 7, 8, 9, 10, 11, 12, 13, 14, 15, 16, 17, 18, 19] rfl
  have hFc := va_free (wc := (wM ad ca mv mu)) hD hS hA [3, 4, 5, 6, 7, 8, 9, 10, 11, 12, 13, 14, 15, 16, 17, 18, 19, 20, 21] rfl
  refine zlSi (wr := [(aQ, .inr (4, [.ref aY, .int (pv 1), .ref aS, .ref aNs, .ref aTs, .ref aEs, .ref aDc, .int (pv 7)])), (aDc, .inl (cd, 8, .inr (.inr (.inr (.inr dc))))), (aO, .inl (co, 1, .inr (.inl ov)))]) (w1 := (wM ad ca q6.2 mu)) (w' := (wQDoOM aQ aY aS aNs aTs aEs aDc aO ad cd co ca pv dc ov q6.2 mu)) (va_runV (As := [.int (xs (x4 + 1).toNatClampNeg), .int (xs (x4 + 2).toNatClampNeg)]) (rest := []) ⟨hx, hb, hml, hown, hw⟩ (k_M_get l D ad ca _ (xs (x4 + 1).toNatClampNeg) (xs (x4 + 2).toNatClampNeg) mv mu  q6 hq6) (zcV (C := RX6) 2 hw (zgood zw626) rfl rfl rfl zw7 zw624 zw625 zw627 hdX6_get ⟨Nat.le_of_ble_eq_true rfl, Nat.le_of_ble_eq_true rfl⟩) (zpreV (zpre zN_ok (A := fun q => s.heap.size ≤ q) trivial (zglob hSg hAs hS) (fun q h => hAs q (hFc q h)) hPc hKc (hDc.weaken (fun _ _ _ h => hAs _ h))) (va_recv hK hP rfl (q0 := 3) rfl)) rfl rfl hl.1 rfl (lv_room (Nat.le_of_ble_eq_true rfl)) dL_law_297 ⟨by show c0 + 1 ≤ 601024; omega, by show s0 + 6 ≤ 7293034; omega⟩) hP hD hS hFc [3, 4, 5, 6, 7, 8, 9, 10, 11, 12, 13, 14, 15, 16, 17, 18, 19, 20, 21] [0, 1, 2] [0, 1, 2, 3, 4, 5, 6, 7, 8, 9, 10, 11, 12, 13, 14, 15, 16, 17, 18, 19, 20, 21] rfl rfl (by decide) (by decide) rfl (by decide) (fun H locs hP hD hS => ?_)
  refine W.widen (k := c0 + 1) (n := s0 + 6) (by omega) (by omega) ?_
  refine lv_istore (lv' := [(6, .int q6.1), (5, .int q3), (0, .ref sb), (1, .ref aQ), (2, .ref (ad 0)), (3, .ref aO), (4, .int x4)]) hx hb dL_law_300 hl (by decide) rfl (fun ls hl => ?_)
  refine lv_aload_n hx hb dL_law_302 rfl (lv_at hl 4 rfl) ?_
  obtain ⟨q7, hq7, hm⟩ := zbind hm
  have hPc := hP.sub (ws' := (wM ad ca q6.2 mu)) [3, 4, 5, 6, 7, 8, 9, 10, 11, 12, 13, 14, 15, 16, 17, 18, 19, 20, 21] rfl
  have hDc := hD.sub (ws' := (wM ad ca q6.2 mu)) [3, 4, 5, 6, 7, 8, 9, 10, 11, 12, 13, 14, 15, 16, 17, 18, 19, 20, 21] (by decide) rfl
  have hKc := hK.sub (tys' := wM_t ca) [2, 3, 4, 5, 6, 7, 8, 9, 10, 11, 12, 13, 14, 15, 16, 17, 18, 19] rfl
  have hFc := va_free (wc := (wM ad ca q6.2 mu)) hD hS hA [3, 4, 5, 6, 7, 8, 9, 10, 11, 12, 13, 14, 15, 16, 17, 18, 19, 20, 21] rfl
  refine zlSi (wr := [(aQ, .inr (4, [.ref aY, .int (pv 1), .ref aS, .ref aNs, .ref aTs, .ref aEs, .ref aDc, .int (pv 7)])), (aDc, .inl (cd, 8, .inr (.inr (.inr (.inr dc))))), (aO, .inl (co, 1, .inr (.inl ov)))]) (w1 := (wM ad ca q6.2 mu)) (w' := (wQDoOM aQ aY aS aNs aTs aEs aDc aO ad cd co ca pv dc ov q6.2 mu)) (va_runV (As := []) (rest := []) ⟨hx, hb, hml, hown, hw⟩ (k_M_thrown l D ad ca _ q6.2 mu  q7 hq7) (zcV (C := RX6) 0 hw (zgood zw596) rfl rfl rfl zw7 zw594 zw595 zw597 hdX6_thrown ⟨Nat.le_of_ble_eq_true rfl, Nat.le_of_ble_eq_true rfl⟩) (zpreV (zpre zN_ok (A := fun q => s.heap.size ≤ q) trivial (zglob hSg hAs hS) (fun q h => hAs q (hFc q h)) hPc hKc (hDc.weaken (fun _ _ _ h => hAs _ h))) (va_recv hK hP rfl (q0 := 3) rfl)) rfl rfl hl.1 rfl (lv_room (Nat.le_of_ble_eq_true rfl)) dL_law_303 ⟨by show c0 + 1 ≤ 601024; omega, by show s0 + 6 ≤ 7293034; omega⟩) hP hD hS hFc [3, 4, 5, 6, 7, 8, 9, 10, 11, 12, 13, 14, 15, 16, 17, 18, 19, 20, 21] [0, 1, 2] [0, 1, 2, 3, 4, 5, 6, 7, 8, 9, 10, 11, 12, 13, 14, 15, 16, 17, 18, 19, 20, 21] rfl rfl (by decide) (by decide) rfl (by decide) (fun H locs hP hD hS => ?_)
  refine W.widen (k := c0 + 1) (n := s0 + 6) (by omega) (by omega) ?_
  refine lv_iload hx hb dL_law_306 (lv_at hl 1 rfl) ?_
  refine lv_icmp_eq (tgt := 313) hx hb dL_law_308 rfl (fun cd8 => ?_) (fun cd8 => ?_)
  · replace hm := zt cd8 hm
    refine lv_iload hx hb dL_law_313 (lv_at hl 1 rfl) ?_
    refine lv_if_ne (tgt := 330) hx hb dL_law_315 rfl (fun cd9 => ?_) (fun cd9 => ?_)
    · replace hm := zf cd9 hm
      refine lv_goto (tgt := 588) hx hb dL_law_330 rfl ?_
      cases hm
      refine W.widen (k := c0 + 1) (n := s0 + 6) (by omega) (by omega) ?_
      exact kk _ _ _ hP hD hS (lv_sub hl [2, 3, 4, 5, 6] rfl)
    · replace hm := zt cd9 hm
      refine lv_aload_n hx hb dL_law_318 rfl (lv_at hl 5 rfl) ?_
      refine lv_iconst (v := 0) hx hb dL_law_319 (by decide) ?_
      obtain ⟨hi10, hm⟩ := zix_s hm
      refine va_lald (i := 0) (f := ov) (n := 1) hx hb hK hP 2 1 rfl rfl hi10 dL_law_320 ?_
      refine lv_iload hx hb dL_law_321 (lv_at hl 0 rfl) ?_
      refine lv_i2l (v := ((q6.1).toInt64)) hx hb dL_law_323 rfl ?_
      refine W.lcmp (x := (ov (0 : Int32).toNatClampNeg)) (y := ((q6.1).toInt64)) hx hb dL_law_324 ?_
      refine lv_if_eq (tgt := 330) hx hb dL_law_325 rfl (fun cd11 => ?_) (fun cd11 => ?_)
      · replace hm := zt cd11 hm
        refine lv_goto (tgt := 588) hx hb dL_law_330 rfl ?_
        cases hm
        refine W.widen (k := c0 + 1) (n := s0 + 6) (by omega) (by omega) ?_
        exact kk _ _ _ hP hD hS (lv_sub hl [2, 3, 4, 5, 6] rfl)
      · replace hm := zf cd11 hm
        refine lv_iconst (v := 0) hx hb dL_law_328 (by decide) ?_
        cases hm
  · replace hm := zf cd8 hm
    refine lv_iconst (v := 0) hx hb dL_law_311 (by decide) ?_
    cases hm

def m_F_L_set_N (xs : Nat → Int32) (L : Nat) (x4 : Int32) (pv : Nat → Int32) (dc : Nat → Option Nat) (v : Nat → Int32) (b : Nat → Int32) (ov : Nat → Int64) (mv : Nat → Int32) (mu : Nat → Nat → Int32)  : Option ((Nat → Int32) × (Nat → Int32) × (Nat → Nat → Int32)) := zix (x4 + 1) L (zix (x4 + 2) L (zix (x4 + 3) L ((m_L_set_N (xs (x4 + 1).toNatClampNeg) (xs (x4 + 2).toNatClampNeg) (xs (x4 + 3).toNatClampNeg) pv dc v b).bind (fun q4 => zix (x4 + 1) L (zix (x4 + 2) L (zix (x4 + 3) L ((m_M_set (xs (x4 + 1).toNatClampNeg) (xs (x4 + 2).toNatClampNeg) (xs (x4 + 3).toNatClampNeg) mv mu).bind (fun q8 => (m_M_thrown q8.1 q8.2).bind (fun q9 => (if q9 = q4.1 then (some (q4.2, q8.1, q8.2)) else none))))))))))
set_option maxRecDepth 100000 in
set_option maxHeartbeats 4000000 in
theorem f_F_L_set_N {p : Program} {l : Launch} {e : Env} {s : State} {m : MethodId} {args : Array Value} {below : List Frame} {meth : Method} {c : Code} {D : va_G} {w0 : va_W} {H0 : Heap} {Q : State → Prop} {sb L : Nat} {xs : Nat → Int32} {x4 : Int32} {c0 s0 : Nat} (aQ aY aS aNs aTs aEs aDc aN bN aO : Nat) (ad : Nat → Nat) (cd c1 co : ClassId) (ca : Nat → ClassId) (pv : Nat → Int32) (dc : Nat → Option Nat) (v : Nat → Int32) (b : Nat → Int32) (ov : Nat → Int64) (mv : Nat → Int32) (mu : Nat → Nat → Int32) (G : zG p s m args meth c cL_law RL 8 (some .boolean)) (hK : va_K D vwCl (wQDNOM_t cd c1 co ca) s) (hX : zW (fun q => s.heap.size ≤ q) s) (hl0 : l.stackTraces = false) (hSg : va_S (fun q => s.heap.size ≤ q) s.heap H0 []) (hAs : ∀ q, (va_A w0 H0.size) q → s.heap.size ≤ q) (hsb : va_X sb L xs s H0) (hbl : sb < H0.size) (hbA : ¬ (va_A w0 H0.size) sb) (hc0 : c0 + 1 ≤ 601024) (hs0 : s0 + 6 ≤ 7293034) (hd : dc (xs (x4 + 1).toNatClampNeg).toNatClampNeg = some aN) {res : (Nat → Int32) × (Nat → Int32) × (Nat → Nat → Int32)} (hm : m_F_L_set_N xs L x4 pv dc v b ov mv mu  = some res)
    (kk : ∀ (H : Heap) (locs : List Loc) (ls : Array Slot), va_P D vwCl (wQDNOM aQ aY aS aNs aTs aEs aDc aN bN aO ad cd c1 co ca pv dc v res.1 ov res.2.1 res.2.2) H → va_D (va_A w0 H0.size) (wQDNOM aQ aY aS aNs aTs aEs aDc aN bN aO ad cd c1 co ca pv dc v res.1 ov res.2.1 res.2.2) → va_S (va_A w0 H0.size) H0 H locs → lv_has ls 8 [(0, .ref sb), (1, .ref aQ), (2, .ref (ad 0)), (3, .ref aO), (4, .int x4)] → W p l e room_1 s m args below meth c H locs (c0 + 1) (s0 + 6) Q (F0 m 588 ls []))
    (H : Heap) (locs : List Loc) (ls : Array Slot) (hP : va_P D vwCl (wQDNOM aQ aY aS aNs aTs aEs aDc aN bN aO ad cd c1 co ca pv dc v b ov mv mu) H) (hD : va_D (va_A w0 H0.size) (wQDNOM aQ aY aS aNs aTs aEs aDc aN bN aO ad cd c1 co ca pv dc v b ov mv mu)) (hS : va_S (va_A w0 H0.size) H0 H locs) (hl : lv_has ls 8 [(0, .ref sb), (1, .ref aQ), (2, .ref (ad 0)), (3, .ref aO), (4, .int x4)]) : W p l e room_1 s m args below meth c H locs c0 s0 Q (F0 m 333 ls []) := by
  obtain ⟨hx, hb, hr, hml, hown, hw, hlk⟩ := G
  have hA : ∀ q, H0.size ≤ q → (va_A w0 H0.size) q := fun q h => Or.inr h
  unfold m_F_L_set_N at hm
  refine lv_aload_n hx hb dL_law_333 rfl (lv_at hl 1 rfl) ?_
  refine lv_aload_n hx hb dL_law_334 rfl (lv_at hl 0 rfl) ?_
  refine lv_iload hx hb dL_law_335 (lv_at hl 4 rfl) ?_
  refine lv_iconst (v := 1) hx hb dL_law_337 (by decide) ?_
  refine lv_iadd hx hb dL_law_338 ?_
  obtain ⟨hi1, hm⟩ := zix_s hm
  refine va_sld (i := (x4 + 1)) (xs := xs) hx hb hsb hbl hbA hS hi1 dL_law_339 ?_
  refine lv_aload_n hx hb dL_law_340 rfl (lv_at hl 0 rfl) ?_
  refine lv_iload hx hb dL_law_341 (lv_at hl 4 rfl) ?_
  refine lv_iconst (v := 2) hx hb dL_law_343 (by decide) ?_
  refine lv_iadd hx hb dL_law_344 ?_
  obtain ⟨hi2, hm⟩ := zix_s hm
  refine va_sld (i := (x4 + 2)) (xs := xs) hx hb hsb hbl hbA hS hi2 dL_law_345 ?_
  refine lv_aload_n hx hb dL_law_346 rfl (lv_at hl 0 rfl) ?_
  refine lv_iload hx hb dL_law_347 (lv_at hl 4 rfl) ?_
  refine lv_iconst (v := 3) hx hb dL_law_349 (by decide) ?_
  refine lv_iadd hx hb dL_law_350 ?_
  obtain ⟨hi3, hm⟩ := zix_s hm
  refine va_sld (i := (x4 + 3)) (xs := xs) hx hb hsb hbl hbA hS hi3 dL_law_351 ?_
  obtain ⟨q4, hq4, hm⟩ := zbind hm
  have hPc := hP.sub (ws' := (wQDN aQ aY aS aNs aTs aEs aDc aN bN cd c1 pv dc v b)) [0, 1, 2, 3] rfl
  have hDc := hD.sub (ws' := (wQDN aQ aY aS aNs aTs aEs aDc aN bN cd c1 pv dc v b)) [0, 1, 2, 3] (by decide) rfl
  have hKc := hK.sub (tys' := wQDN_t cd c1) [0, 1] rfl
  have hFc := va_free (wc := (wQDN aQ aY aS aNs aTs aEs aDc aN bN cd c1 pv dc v b)) hD hS hA [0, 1, 2, 3] rfl
  refine zlSi (wr := [(aO, .inl (co, 1, .inr (.inl ov))), ((ad 0), .inr (5, [.int (mv 0), .int (mv 1), .ref (ad 1), .int (mv 3), .ref (ad 2), .ref (ad 3), .ref (ad 4), .ref (ad 5), .ref (ad 6), .ref (ad 7), .ref (ad 8), .ref (ad 9), .ref (ad 10), .ref (ad 11), .ref (ad 12), .ref (ad 13), .ref (ad 14), .ref (ad 15), .ref (ad 16), .ref (ad 17), .int (mv 20), .int (mv 21), .ref (ad 18), .int (mv 23)])), ((ad 1), .inl ((ca 1), 24, .inl (mu 1))), ((ad 2), .inl ((ca 2), 9, .inl (mu 2))), ((ad 3), .inl ((ca 3), 216, .inl (mu 3))), ((ad 4), .inl ((ca 4), 216, .inl (mu 4))), ((ad 5), .inl ((ca 5), 9, .inl (mu 5))), ((ad 6), .inl ((ca 6), 9, .inl (mu 6))), ((ad 7), .inl ((ca 7), 9, .inl (mu 7))), ((ad 8), .inl ((ca 8), 9, .inl (mu 8))), ((ad 9), .inl ((ca 9), 9, .inl (mu 9))), ((ad 10), .inl ((ca 10), 9, .inl (mu 10))), ((ad 11), .inl ((ca 11), 9, .inl (mu 11))), ((ad 12), .inl ((ca 12), 9, .inl (mu 12))), ((ad 13), .inl ((ca 13), 9, .inl (mu 13))), ((ad 14), .inl ((ca 14), 9, .inl (mu 14))), ((ad 15), .inl ((ca 15), 9, .inl (mu 15))), ((ad 16), .inl ((ca 16), 256, .inl (mu 16))), ((ad 17), .inl ((ca 17), 48, .inl (mu 17))), ((ad 18), .inl ((ca 18), 32, .inl (mu 18)))]) (w1 := (wQDN aQ aY aS aNs aTs aEs aDc aN bN cd c1 pv dc v q4.2)) (w' := (wQDNOM aQ aY aS aNs aTs aEs aDc aN bN aO ad cd c1 co ca pv dc v q4.2 ov mv mu)) (vx_runSW (As := [.ref aQ, .int (xs (x4 + 1).toNatClampNeg), .int (xs (x4 + 2).toNatClampNeg), .int (xs (x4 + 3).toNatClampNeg)]) (rest := []) ⟨hx, hb, hml, hown, hw⟩ (k_L_set_N l D aQ aY aS aNs aTs aEs aDc aN bN cd c1 _ (xs (x4 + 1).toNatClampNeg) (xs (x4 + 2).toNatClampNeg) (xs (x4 + 3).toNatClampNeg) pv dc v b hd q4 hq4) (vx_cwSW 4 hw (zgoodW (List.forall_mem_cons.mpr ⟨zw628, List.forall_mem_cons.mpr ⟨zw629, List.forall_mem_cons.mpr ⟨zw587, fun _ h => absurd h List.not_mem_nil⟩⟩⟩) zw630) rfl rfl rfl hdL_set ⟨Nat.le_of_ble_eq_true rfl, Nat.le_of_ble_eq_true rfl⟩) (zpre zW_ok (A := fun q => s.heap.size ≤ q) hX (zglob hSg hAs hS) (fun q h => hAs q (hFc q h)) hPc hKc (hDc.weaken (fun _ _ _ h => hAs _ h))) rfl rfl hl.1 rfl (lv_room (Nat.le_of_ble_eq_true rfl)) dL_law_352 ⟨by show c0 + 0 ≤ 601024; omega, by show s0 + 0 ≤ 7293034; omega⟩) hP hD hS hFc [0, 1, 2, 3] [4, 5, 6, 7, 8, 9, 10, 11, 12, 13, 14, 15, 16, 17, 18, 19, 20, 21, 22, 23] [20, 21, 22, 23, 0, 1, 2, 3, 4, 5, 6, 7, 8, 9, 10, 11, 12, 13, 14, 15, 16, 17, 18, 19] rfl rfl (by decide) (by decide) rfl (by decide) (fun H locs hP hD hS => ?_)
  refine W.widen (k := c0 + 0) (n := s0 + 0) (by omega) (by omega) ?_
  refine lv_istore (lv' := [(5, .int q4.1), (0, .ref sb), (1, .ref aQ), (2, .ref (ad 0)), (3, .ref aO), (4, .int x4)]) hx hb dL_law_355 hl (by decide) rfl (fun ls hl => ?_)
  refine lv_aload_n hx hb dL_law_357 rfl (lv_at hl 3 rfl) ?_
  refine lv_aload_n hx hb dL_law_358 rfl (lv_at hl 1 rfl) ?_
  refine lv_iload hx hb dL_law_359 (lv_at hl 5 rfl) ?_
  refine lv_iconst (v := 1) hx hb dL_law_361 (by decide) ?_
  refine lv_iadd hx hb dL_law_362 ?_
  obtain ⟨hi5, hm⟩ := zix_s hm
  refine va_sld (i := (x4 + 1)) (xs := xs) hx hb hsb hbl hbA hS hi5 dL_law_363 ?_
  refine lv_aload_n hx hb dL_law_364 rfl (lv_at hl 1 rfl) ?_
  refine lv_iload hx hb dL_law_365 (lv_at hl 5 rfl) ?_
  refine lv_iconst (v := 2) hx hb dL_law_367 (by decide) ?_
  refine lv_iadd hx hb dL_law_368 ?_
  obtain ⟨hi6, hm⟩ := zix_s hm
  refine va_sld (i := (x4 + 2)) (xs := xs) hx hb hsb hbl hbA hS hi6 dL_law_369 ?_
  refine lv_aload_n hx hb dL_law_370 rfl (lv_at hl 1 rfl) ?_
  refine lv_iload hx hb dL_law_371 (lv_at hl 5 rfl) ?_
  refine lv_iconst (v := 3) hx hb dL_law_373 (by decide) ?_
  refine lv_iadd hx hb dL_law_374 ?_
  obtain ⟨hi7, hm⟩ := zix_s hm
  refine va_sld (i := (x4 + 3)) (xs := xs) hx hb hsb hbl hbA hS hi7 dL_law_375 ?_
  obtain ⟨q8, hq8, hm⟩ := zbind hm
  have hPc := hP.sub (ws' := (wM ad ca mv mu)) [5, 6, 7, 8, 9, 10, 11, 12, 13, 14, 15, 16, 17, 18, 19, 20, 21, 22, 23] rfl
  have hDc := hD.sub (ws' := (wM ad ca mv mu)) [5, 6, 7, 8, 9, 10, 11, 12, 13, 14, 15, 16, 17, 18, 19, 20, 21, 22, 23] (by decide) rfl
  have hKc := hK.sub (tys' := wM_t ca) [3, 4, 5, 6, 7, 8, 9, 10, 11, 12, 13, 14, 15, 16, 17, 18, 19, 20] rfl
  have hFc := va_free (wc := (wM ad ca mv mu)) hD hS hA [5, 6, 7, 8, 9, 10, 11, 12, 13, 14, 15, 16, 17, 18, 19, 20, 21, 22, 23] rfl
  refine zlSv (wr := [(aQ, .inr (4, [.ref aY, .int (pv 1), .ref aS, .ref aNs, .ref aTs, .ref aEs, .ref aDc, .int (pv 7)])), (aDc, .inl (cd, 8, .inr (.inr (.inr (.inr dc))))), (aN, .inr (1, [.ref bN, .int (v 1), .int (v 2), .int (v 3), .int (v 4), .int (v 5), .int (v 6), .int (v 7)])), (bN, .inl (c1, 25, .inl q4.2)), (aO, .inl (co, 1, .inr (.inl ov)))]) (w1 := (wM ad ca q8.1 q8.2)) (w' := (wQDNOM aQ aY aS aNs aTs aEs aDc aN bN aO ad cd c1 co ca pv dc v q4.2 ov q8.1 q8.2)) (va_runV (As := [.int (xs (x4 + 1).toNatClampNeg), .int (xs (x4 + 2).toNatClampNeg), .int (xs (x4 + 3).toNatClampNeg)]) (rest := []) ⟨hx, hb, hml, hown, hw⟩ (k_M_set l D ad ca _ (xs (x4 + 1).toNatClampNeg) (xs (x4 + 2).toNatClampNeg) (xs (x4 + 3).toNatClampNeg) mv mu  q8 hq8) (zcV (C := RX6) 3 hw (zgood zw633) rfl rfl rfl zw7 zw631 zw632 zw634 hdX6_set ⟨Nat.le_of_ble_eq_true rfl, Nat.le_of_ble_eq_true rfl⟩) (zpreV (zpre zN_ok (A := fun q => s.heap.size ≤ q) trivial (zglob hSg hAs hS) (fun q h => hAs q (hFc q h)) hPc hKc (hDc.weaken (fun _ _ _ h => hAs _ h))) (va_recv hK hP rfl (q0 := 5) rfl)) rfl rfl hl.1 rfl (lv_room (Nat.le_of_ble_eq_true rfl)) dL_law_376 ⟨by show c0 + 0 ≤ 601024; omega, by show s0 + 0 ≤ 7293034; omega⟩) hP hD hS hFc [5, 6, 7, 8, 9, 10, 11, 12, 13, 14, 15, 16, 17, 18, 19, 20, 21, 22, 23] [0, 1, 2, 3, 4] [0, 1, 2, 3, 4, 5, 6, 7, 8, 9, 10, 11, 12, 13, 14, 15, 16, 17, 18, 19, 20, 21, 22, 23] rfl rfl (by decide) (by decide) rfl (by decide) (fun H locs hP hD hS => ?_)
  refine W.widen (k := c0 + 0) (n := s0 + 0) (by omega) (by omega) ?_
  refine lv_aload_n hx hb dL_law_379 rfl (lv_at hl 3 rfl) ?_
  obtain ⟨q9, hq9, hm⟩ := zbind hm
  have hPc := hP.sub (ws' := (wM ad ca q8.1 q8.2)) [5, 6, 7, 8, 9, 10, 11, 12, 13, 14, 15, 16, 17, 18, 19, 20, 21, 22, 23] rfl
  have hDc := hD.sub (ws' := (wM ad ca q8.1 q8.2)) [5, 6, 7, 8, 9, 10, 11, 12, 13, 14, 15, 16, 17, 18, 19, 20, 21, 22, 23] (by decide) rfl
  have hKc := hK.sub (tys' := wM_t ca) [3, 4, 5, 6, 7, 8, 9, 10, 11, 12, 13, 14, 15, 16, 17, 18, 19, 20] rfl
  have hFc := va_free (wc := (wM ad ca q8.1 q8.2)) hD hS hA [5, 6, 7, 8, 9, 10, 11, 12, 13, 14, 15, 16, 17, 18, 19, 20, 21, 22, 23] rfl
  refine zlSi (wr := [(aQ, .inr (4, [.ref aY, .int (pv 1), .ref aS, .ref aNs, .ref aTs, .ref aEs, .ref aDc, .int (pv 7)])), (aDc, .inl (cd, 8, .inr (.inr (.inr (.inr dc))))), (aN, .inr (1, [.ref bN, .int (v 1), .int (v 2), .int (v 3), .int (v 4), .int (v 5), .int (v 6), .int (v 7)])), (bN, .inl (c1, 25, .inl q4.2)), (aO, .inl (co, 1, .inr (.inl ov)))]) (w1 := (wM ad ca q8.1 q8.2)) (w' := (wQDNOM aQ aY aS aNs aTs aEs aDc aN bN aO ad cd c1 co ca pv dc v q4.2 ov q8.1 q8.2)) (va_runV (As := []) (rest := []) ⟨hx, hb, hml, hown, hw⟩ (k_M_thrown l D ad ca _ q8.1 q8.2  q9 hq9) (zcV (C := RX6) 0 hw (zgood zw596) rfl rfl rfl zw7 zw594 zw595 zw597 hdX6_thrown ⟨Nat.le_of_ble_eq_true rfl, Nat.le_of_ble_eq_true rfl⟩) (zpreV (zpre zN_ok (A := fun q => s.heap.size ≤ q) trivial (zglob hSg hAs hS) (fun q h => hAs q (hFc q h)) hPc hKc (hDc.weaken (fun _ _ _ h => hAs _ h))) (va_recv hK hP rfl (q0 := 5) rfl)) rfl rfl hl.1 rfl (lv_room (Nat.le_of_ble_eq_true rfl)) dL_law_380 ⟨by show c0 + 0 ≤ 601024; omega, by show s0 + 0 ≤ 7293034; omega⟩) hP hD hS hFc [5, 6, 7, 8, 9, 10, 11, 12, 13, 14, 15, 16, 17, 18, 19, 20, 21, 22, 23] [0, 1, 2, 3, 4] [0, 1, 2, 3, 4, 5, 6, 7, 8, 9, 10, 11, 12, 13, 14, 15, 16, 17, 18, 19, 20, 21, 22, 23] rfl rfl (by decide) (by decide) rfl (by decide) (fun H locs hP hD hS => ?_)
  refine W.widen (k := c0 + 0) (n := s0 + 0) (by omega) (by omega) ?_
  refine lv_iload hx hb dL_law_383 (lv_at hl 0 rfl) ?_
  refine lv_icmp_eq (tgt := 390) hx hb dL_law_385 rfl (fun cd10 => ?_) (fun cd10 => ?_)
  · replace hm := zt cd10 hm
    refine lv_goto (tgt := 588) hx hb dL_law_390 rfl ?_
    cases hm
    refine W.widen (k := c0 + 1) (n := s0 + 6) (by omega) (by omega) ?_
    exact kk _ _ _ hP hD hS (lv_sub hl [1, 2, 3, 4, 5] rfl)
  · replace hm := zf cd10 hm
    refine lv_iconst (v := 0) hx hb dL_law_388 (by decide) ?_
    cases hm

def m_F_L_set_n2N (xs : Nat → Int32) (L : Nat) (x4 : Int32) (pv : Nat → Int32) (dc : Nat → Option Nat) (v : Nat → Int32) (b : Nat → Int32) (ov : Nat → Int64) (mv : Nat → Int32) (mu : Nat → Nat → Int32)  : Option ((Nat → Int32) × (Nat → Int32) × (Nat → Nat → Int32)) := zix (x4 + 1) L (zix (x4 + 2) L (zix (x4 + 3) L ((m_L_set_n2N (xs (x4 + 1).toNatClampNeg) (xs (x4 + 2).toNatClampNeg) (xs (x4 + 3).toNatClampNeg) pv dc v b).bind (fun q4 => zix (x4 + 1) L (zix (x4 + 2) L (zix (x4 + 3) L ((m_M_set (xs (x4 + 1).toNatClampNeg) (xs (x4 + 2).toNatClampNeg) (xs (x4 + 3).toNatClampNeg) mv mu).bind (fun q8 => (m_M_thrown q8.1 q8.2).bind (fun q9 => (if q9 = q4.1 then (some (q4.2, q8.1, q8.2)) else none))))))))))
set_option maxRecDepth 100000 in
set_option maxHeartbeats 4000000 in
theorem f_F_L_set_n2N {p : Program} {l : Launch} {e : Env} {s : State} {m : MethodId} {args : Array Value} {below : List Frame} {meth : Method} {c : Code} {D : va_G} {w0 : va_W} {H0 : Heap} {Q : State → Prop} {sb L : Nat} {xs : Nat → Int32} {x4 : Int32} {c0 s0 : Nat} (aQ aY aS aNs aTs aEs aDc aN bN aO : Nat) (ad : Nat → Nat) (cd c1 co : ClassId) (ca : Nat → ClassId) (pv : Nat → Int32) (dc : Nat → Option Nat) (v : Nat → Int32) (b : Nat → Int32) (ov : Nat → Int64) (mv : Nat → Int32) (mu : Nat → Nat → Int32) (G : zG p s m args meth c cL_law RL 8 (some .boolean)) (hK : va_K D vwCl (wQDNOM_t cd c1 co ca) s) (hX : zW (fun q => s.heap.size ≤ q) s) (hl0 : l.stackTraces = false) (hSg : va_S (fun q => s.heap.size ≤ q) s.heap H0 []) (hAs : ∀ q, (va_A w0 H0.size) q → s.heap.size ≤ q) (hsb : va_X sb L xs s H0) (hbl : sb < H0.size) (hbA : ¬ (va_A w0 H0.size) sb) (hc0 : c0 + 1 ≤ 601024) (hs0 : s0 + 6 ≤ 7293034) (hd : dc (xs (x4 + 1).toNatClampNeg).toNatClampNeg = some aN) {res : (Nat → Int32) × (Nat → Int32) × (Nat → Nat → Int32)} (hm : m_F_L_set_n2N xs L x4 pv dc v b ov mv mu  = some res)
    (kk : ∀ (H : Heap) (locs : List Loc) (ls : Array Slot), va_P D vwCl (wQDNOM aQ aY aS aNs aTs aEs aDc aN bN aO ad cd c1 co ca pv dc v res.1 ov res.2.1 res.2.2) H → va_D (va_A w0 H0.size) (wQDNOM aQ aY aS aNs aTs aEs aDc aN bN aO ad cd c1 co ca pv dc v res.1 ov res.2.1 res.2.2) → va_S (va_A w0 H0.size) H0 H locs → lv_has ls 8 [(0, .ref sb), (1, .ref aQ), (2, .ref (ad 0)), (3, .ref aO), (4, .int x4)] → W p l e room_1 s m args below meth c H locs (c0 + 1) (s0 + 6) Q (F0 m 588 ls []))
    (H : Heap) (locs : List Loc) (ls : Array Slot) (hP : va_P D vwCl (wQDNOM aQ aY aS aNs aTs aEs aDc aN bN aO ad cd c1 co ca pv dc v b ov mv mu) H) (hD : va_D (va_A w0 H0.size) (wQDNOM aQ aY aS aNs aTs aEs aDc aN bN aO ad cd c1 co ca pv dc v b ov mv mu)) (hS : va_S (va_A w0 H0.size) H0 H locs) (hl : lv_has ls 8 [(0, .ref sb), (1, .ref aQ), (2, .ref (ad 0)), (3, .ref aO), (4, .int x4)]) : W p l e room_1 s m args below meth c H locs c0 s0 Q (F0 m 333 ls []) := by
  obtain ⟨hx, hb, hr, hml, hown, hw, hlk⟩ := G
  have hA : ∀ q, H0.size ≤ q → (va_A w0 H0.size) q := fun q h => Or.inr h
  unfold m_F_L_set_n2N at hm
  refine lv_aload_n hx hb dL_law_333 rfl (lv_at hl 1 rfl) ?_
  refine lv_aload_n hx hb dL_law_334 rfl (lv_at hl 0 rfl) ?_
  refine lv_iload hx hb dL_law_335 (lv_at hl 4 rfl) ?_
  refine lv_iconst (v := 1) hx hb dL_law_337 (by decide) ?_
  refine lv_iadd hx hb dL_law_338 ?_
  obtain ⟨hi1, hm⟩ := zix_s hm
  refine va_sld (i := (x4 + 1)) (xs := xs) hx hb hsb hbl hbA hS hi1 dL_law_339 ?_
  refine lv_aload_n hx hb dL_law_340 rfl (lv_at hl 0 rfl) ?_
  refine lv_iload hx hb dL_law_341 (lv_at hl 4 rfl) ?_
  refine lv_iconst (v := 2) hx hb dL_law_343 (by decide) ?_
  refine lv_iadd hx hb dL_law_344 ?_
  obtain ⟨hi2, hm⟩ := zix_s hm
  refine va_sld (i := (x4 + 2)) (xs := xs) hx hb hsb hbl hbA hS hi2 dL_law_345 ?_
  refine lv_aload_n hx hb dL_law_346 rfl (lv_at hl 0 rfl) ?_
  refine lv_iload hx hb dL_law_347 (lv_at hl 4 rfl) ?_
  refine lv_iconst (v := 3) hx hb dL_law_349 (by decide) ?_
  refine lv_iadd hx hb dL_law_350 ?_
  obtain ⟨hi3, hm⟩ := zix_s hm
  refine va_sld (i := (x4 + 3)) (xs := xs) hx hb hsb hbl hbA hS hi3 dL_law_351 ?_
  obtain ⟨q4, hq4, hm⟩ := zbind hm
  have hPc := hP.sub (ws' := (wQDN aQ aY aS aNs aTs aEs aDc aN bN cd c1 pv dc v b)) [0, 1, 2, 3] rfl
  have hDc := hD.sub (ws' := (wQDN aQ aY aS aNs aTs aEs aDc aN bN cd c1 pv dc v b)) [0, 1, 2, 3] (by decide) rfl
  have hKc := hK.sub (tys' := wQDN_t cd c1) [0, 1] rfl
  have hFc := va_free (wc := (wQDN aQ aY aS aNs aTs aEs aDc aN bN cd c1 pv dc v b)) hD hS hA [0, 1, 2, 3] rfl
  refine zlSi (wr := [(aO, .inl (co, 1, .inr (.inl ov))), ((ad 0), .inr (5, [.int (mv 0), .int (mv 1), .ref (ad 1), .int (mv 3), .ref (ad 2), .ref (ad 3), .ref (ad 4), .ref (ad 5), .ref (ad 6), .ref (ad 7), .ref (ad 8), .ref (ad 9), .ref (ad 10), .ref (ad 11), .ref (ad 12), .ref (ad 13), .ref (ad 14), .ref (ad 15), .ref (ad 16), .ref (ad 17), .int (mv 20), .int (mv 21), .ref (ad 18), .int (mv 23)])), ((ad 1), .inl ((ca 1), 24, .inl (mu 1))), ((ad 2), .inl ((ca 2), 9, .inl (mu 2))), ((ad 3), .inl ((ca 3), 216, .inl (mu 3))), ((ad 4), .inl ((ca 4), 216, .inl (mu 4))), ((ad 5), .inl ((ca 5), 9, .inl (mu 5))), ((ad 6), .inl ((ca 6), 9, .inl (mu 6))), ((ad 7), .inl ((ca 7), 9, .inl (mu 7))), ((ad 8), .inl ((ca 8), 9, .inl (mu 8))), ((ad 9), .inl ((ca 9), 9, .inl (mu 9))), ((ad 10), .inl ((ca 10), 9, .inl (mu 10))), ((ad 11), .inl ((ca 11), 9, .inl (mu 11))), ((ad 12), .inl ((ca 12), 9, .inl (mu 12))), ((ad 13), .inl ((ca 13), 9, .inl (mu 13))), ((ad 14), .inl ((ca 14), 9, .inl (mu 14))), ((ad 15), .inl ((ca 15), 9, .inl (mu 15))), ((ad 16), .inl ((ca 16), 256, .inl (mu 16))), ((ad 17), .inl ((ca 17), 48, .inl (mu 17))), ((ad 18), .inl ((ca 18), 32, .inl (mu 18)))]) (w1 := (wQDN aQ aY aS aNs aTs aEs aDc aN bN cd c1 pv dc v q4.2)) (w' := (wQDNOM aQ aY aS aNs aTs aEs aDc aN bN aO ad cd c1 co ca pv dc v q4.2 ov mv mu)) (vx_runSW (As := [.ref aQ, .int (xs (x4 + 1).toNatClampNeg), .int (xs (x4 + 2).toNatClampNeg), .int (xs (x4 + 3).toNatClampNeg)]) (rest := []) ⟨hx, hb, hml, hown, hw⟩ (k_L_set_n2N l D aQ aY aS aNs aTs aEs aDc aN bN cd c1 _ (xs (x4 + 1).toNatClampNeg) (xs (x4 + 2).toNatClampNeg) (xs (x4 + 3).toNatClampNeg) pv dc v b hl0 hd q4 hq4) (vx_cwSW 4 hw (zgoodW (List.forall_mem_cons.mpr ⟨zw628, List.forall_mem_cons.mpr ⟨zw629, List.forall_mem_cons.mpr ⟨zw587, fun _ h => absurd h List.not_mem_nil⟩⟩⟩) zw630) rfl rfl rfl hdL_set ⟨Nat.le_of_ble_eq_true rfl, Nat.le_of_ble_eq_true rfl⟩) (zpre zW_ok (A := fun q => s.heap.size ≤ q) hX (zglob hSg hAs hS) (fun q h => hAs q (hFc q h)) hPc hKc (hDc.weaken (fun _ _ _ h => hAs _ h))) rfl rfl hl.1 rfl (lv_room (Nat.le_of_ble_eq_true rfl)) dL_law_352 ⟨by show c0 + 1 ≤ 601024; omega, by show s0 + 6 ≤ 7293034; omega⟩) hP hD hS hFc [0, 1, 2, 3] [4, 5, 6, 7, 8, 9, 10, 11, 12, 13, 14, 15, 16, 17, 18, 19, 20, 21, 22, 23] [20, 21, 22, 23, 0, 1, 2, 3, 4, 5, 6, 7, 8, 9, 10, 11, 12, 13, 14, 15, 16, 17, 18, 19] rfl rfl (by decide) (by decide) rfl (by decide) (fun H locs hP hD hS => ?_)
  refine W.widen (k := c0 + 1) (n := s0 + 6) (by omega) (by omega) ?_
  refine lv_istore (lv' := [(5, .int q4.1), (0, .ref sb), (1, .ref aQ), (2, .ref (ad 0)), (3, .ref aO), (4, .int x4)]) hx hb dL_law_355 hl (by decide) rfl (fun ls hl => ?_)
  refine lv_aload_n hx hb dL_law_357 rfl (lv_at hl 3 rfl) ?_
  refine lv_aload_n hx hb dL_law_358 rfl (lv_at hl 1 rfl) ?_
  refine lv_iload hx hb dL_law_359 (lv_at hl 5 rfl) ?_
  refine lv_iconst (v := 1) hx hb dL_law_361 (by decide) ?_
  refine lv_iadd hx hb dL_law_362 ?_
  obtain ⟨hi5, hm⟩ := zix_s hm
  refine va_sld (i := (x4 + 1)) (xs := xs) hx hb hsb hbl hbA hS hi5 dL_law_363 ?_
  refine lv_aload_n hx hb dL_law_364 rfl (lv_at hl 1 rfl) ?_
  refine lv_iload hx hb dL_law_365 (lv_at hl 5 rfl) ?_
  refine lv_iconst (v := 2) hx hb dL_law_367 (by decide) ?_
  refine lv_iadd hx hb dL_law_368 ?_
  obtain ⟨hi6, hm⟩ := zix_s hm
  refine va_sld (i := (x4 + 2)) (xs := xs) hx hb hsb hbl hbA hS hi6 dL_law_369 ?_
  refine lv_aload_n hx hb dL_law_370 rfl (lv_at hl 1 rfl) ?_
  refine lv_iload hx hb dL_law_371 (lv_at hl 5 rfl) ?_
  refine lv_iconst (v := 3) hx hb dL_law_373 (by decide) ?_
  refine lv_iadd hx hb dL_law_374 ?_
  obtain ⟨hi7, hm⟩ := zix_s hm
  refine va_sld (i := (x4 + 3)) (xs := xs) hx hb hsb hbl hbA hS hi7 dL_law_375 ?_
  obtain ⟨q8, hq8, hm⟩ := zbind hm
  have hPc := hP.sub (ws' := (wM ad ca mv mu)) [5, 6, 7, 8, 9, 10, 11, 12, 13, 14, 15, 16, 17, 18, 19, 20, 21, 22, 23] rfl
  have hDc := hD.sub (ws' := (wM ad ca mv mu)) [5, 6, 7, 8, 9, 10, 11, 12, 13, 14, 15, 16, 17, 18, 19, 20, 21, 22, 23] (by decide) rfl
  have hKc := hK.sub (tys' := wM_t ca) [3, 4, 5, 6, 7, 8, 9, 10, 11, 12, 13, 14, 15, 16, 17, 18, 19, 20] rfl
  have hFc := va_free (wc := (wM ad ca mv mu)) hD hS hA [5, 6, 7, 8, 9, 10, 11, 12, 13, 14, 15, 16, 17, 18, 19, 20, 21, 22, 23] rfl
  refine zlSv (wr := [(aQ, .inr (4, [.ref aY, .int (pv 1), .ref aS, .ref aNs, .ref aTs, .ref aEs, .ref aDc, .int (pv 7)])), (aDc, .inl (cd, 8, .inr (.inr (.inr (.inr dc))))), (aN, .inr (1, [.ref bN, .int (v 1), .int (v 2), .int (v 3), .int (v 4), .int (v 5), .int (v 6), .int (v 7)])), (bN, .inl (c1, 25, .inl q4.2)), (aO, .inl (co, 1, .inr (.inl ov)))]) (w1 := (wM ad ca q8.1 q8.2)) (w' := (wQDNOM aQ aY aS aNs aTs aEs aDc aN bN aO ad cd c1 co ca pv dc v q4.2 ov q8.1 q8.2)) (va_runV (As := [.int (xs (x4 + 1).toNatClampNeg), .int (xs (x4 + 2).toNatClampNeg), .int (xs (x4 + 3).toNatClampNeg)]) (rest := []) ⟨hx, hb, hml, hown, hw⟩ (k_M_set l D ad ca _ (xs (x4 + 1).toNatClampNeg) (xs (x4 + 2).toNatClampNeg) (xs (x4 + 3).toNatClampNeg) mv mu  q8 hq8) (zcV (C := RX6) 3 hw (zgood zw633) rfl rfl rfl zw7 zw631 zw632 zw634 hdX6_set ⟨Nat.le_of_ble_eq_true rfl, Nat.le_of_ble_eq_true rfl⟩) (zpreV (zpre zN_ok (A := fun q => s.heap.size ≤ q) trivial (zglob hSg hAs hS) (fun q h => hAs q (hFc q h)) hPc hKc (hDc.weaken (fun _ _ _ h => hAs _ h))) (va_recv hK hP rfl (q0 := 5) rfl)) rfl rfl hl.1 rfl (lv_room (Nat.le_of_ble_eq_true rfl)) dL_law_376 ⟨by show c0 + 1 ≤ 601024; omega, by show s0 + 6 ≤ 7293034; omega⟩) hP hD hS hFc [5, 6, 7, 8, 9, 10, 11, 12, 13, 14, 15, 16, 17, 18, 19, 20, 21, 22, 23] [0, 1, 2, 3, 4] [0, 1, 2, 3, 4, 5, 6, 7, 8, 9, 10, 11, 12, 13, 14, 15, 16, 17, 18, 19, 20, 21, 22, 23] rfl rfl (by decide) (by decide) rfl (by decide) (fun H locs hP hD hS => ?_)
  refine W.widen (k := c0 + 1) (n := s0 + 6) (by omega) (by omega) ?_
  refine lv_aload_n hx hb dL_law_379 rfl (lv_at hl 3 rfl) ?_
  obtain ⟨q9, hq9, hm⟩ := zbind hm
  have hPc := hP.sub (ws' := (wM ad ca q8.1 q8.2)) [5, 6, 7, 8, 9, 10, 11, 12, 13, 14, 15, 16, 17, 18, 19, 20, 21, 22, 23] rfl
  have hDc := hD.sub (ws' := (wM ad ca q8.1 q8.2)) [5, 6, 7, 8, 9, 10, 11, 12, 13, 14, 15, 16, 17, 18, 19, 20, 21, 22, 23] (by decide) rfl
  have hKc := hK.sub (tys' := wM_t ca) [3, 4, 5, 6, 7, 8, 9, 10, 11, 12, 13, 14, 15, 16, 17, 18, 19, 20] rfl
  have hFc := va_free (wc := (wM ad ca q8.1 q8.2)) hD hS hA [5, 6, 7, 8, 9, 10, 11, 12, 13, 14, 15, 16, 17, 18, 19, 20, 21, 22, 23] rfl
  refine zlSi (wr := [(aQ, .inr (4, [.ref aY, .int (pv 1), .ref aS, .ref aNs, .ref aTs, .ref aEs, .ref aDc, .int (pv 7)])), (aDc, .inl (cd, 8, .inr (.inr (.inr (.inr dc))))), (aN, .inr (1, [.ref bN, .int (v 1), .int (v 2), .int (v 3), .int (v 4), .int (v 5), .int (v 6), .int (v 7)])), (bN, .inl (c1, 25, .inl q4.2)), (aO, .inl (co, 1, .inr (.inl ov)))]) (w1 := (wM ad ca q8.1 q8.2)) (w' := (wQDNOM aQ aY aS aNs aTs aEs aDc aN bN aO ad cd c1 co ca pv dc v q4.2 ov q8.1 q8.2)) (va_runV (As := []) (rest := []) ⟨hx, hb, hml, hown, hw⟩ (k_M_thrown l D ad ca _ q8.1 q8.2  q9 hq9) (zcV (C := RX6) 0 hw (zgood zw596) rfl rfl rfl zw7 zw594 zw595 zw597 hdX6_thrown ⟨Nat.le_of_ble_eq_true rfl, Nat.le_of_ble_eq_true rfl⟩) (zpreV (zpre zN_ok (A := fun q => s.heap.size ≤ q) trivial (zglob hSg hAs hS) (fun q h => hAs q (hFc q h)) hPc hKc (hDc.weaken (fun _ _ _ h => hAs _ h))) (va_recv hK hP rfl (q0 := 5) rfl)) rfl rfl hl.1 rfl (lv_room (Nat.le_of_ble_eq_true rfl)) dL_law_380 ⟨by show c0 + 1 ≤ 601024; omega, by show s0 + 6 ≤ 7293034; omega⟩) hP hD hS hFc [5, 6, 7, 8, 9, 10, 11, 12, 13, 14, 15, 16, 17, 18, 19, 20, 21, 22, 23] [0, 1, 2, 3, 4] [0, 1, 2, 3, 4, 5, 6, 7, 8, 9, 10, 11, 12, 13, 14, 15, 16, 17, 18, 19, 20, 21, 22, 23] rfl rfl (by decide) (by decide) rfl (by decide) (fun H locs hP hD hS => ?_)
  refine W.widen (k := c0 + 1) (n := s0 + 6) (by omega) (by omega) ?_
  refine lv_iload hx hb dL_law_383 (lv_at hl 0 rfl) ?_
  refine lv_icmp_eq (tgt := 390) hx hb dL_law_385 rfl (fun cd10 => ?_) (fun cd10 => ?_)
  · replace hm := zt cd10 hm
    refine lv_goto (tgt := 588) hx hb dL_law_390 rfl ?_
    cases hm
    refine W.widen (k := c0 + 1) (n := s0 + 6) (by omega) (by omega) ?_
    exact kk _ _ _ hP hD hS (lv_sub hl [1, 2, 3, 4, 5] rfl)
  · replace hm := zf cd10 hm
    refine lv_iconst (v := 0) hx hb dL_law_388 (by decide) ?_
    cases hm

def m_F_L_set_iN (xs : Nat → Int32) (L : Nat) (x4 : Int32) (pv : Nat → Int32) (dc : Nat → Option Nat) (v : Nat → Int32) (b : Nat → Int32) (ov : Nat → Int64) (mv : Nat → Int32) (mu : Nat → Nat → Int32)  : Option ((Nat → Int32) × (Nat → Int32) × (Nat → Nat → Int32)) := zix (x4 + 1) L (zix (x4 + 2) L (zix (x4 + 3) L ((m_L_set_iN (xs (x4 + 1).toNatClampNeg) (xs (x4 + 2).toNatClampNeg) (xs (x4 + 3).toNatClampNeg) pv dc v b).bind (fun q4 => zix (x4 + 1) L (zix (x4 + 2) L (zix (x4 + 3) L ((m_M_set (xs (x4 + 1).toNatClampNeg) (xs (x4 + 2).toNatClampNeg) (xs (x4 + 3).toNatClampNeg) mv mu).bind (fun q8 => (m_M_thrown q8.1 q8.2).bind (fun q9 => (if q9 = q4.1 then (some (q4.2, q8.1, q8.2)) else none))))))))))
set_option maxRecDepth 100000 in
set_option maxHeartbeats 4000000 in
theorem f_F_L_set_iN {p : Program} {l : Launch} {e : Env} {s : State} {m : MethodId} {args : Array Value} {below : List Frame} {meth : Method} {c : Code} {D : va_G} {w0 : va_W} {H0 : Heap} {Q : State → Prop} {sb L : Nat} {xs : Nat → Int32} {x4 : Int32} {c0 s0 : Nat} (aQ aY aS aNs aTs aEs aDc aN bN aO : Nat) (ad : Nat → Nat) (cd c1 co : ClassId) (ca : Nat → ClassId) (pv : Nat → Int32) (dc : Nat → Option Nat) (v : Nat → Int32) (b : Nat → Int32) (ov : Nat → Int64) (mv : Nat → Int32) (mu : Nat → Nat → Int32) (G : zG p s m args meth c cL_law RL 8 (some .boolean)) (hK : va_K D vwCl (wQDNOM_t cd c1 co ca) s) (hX : zW (fun q => s.heap.size ≤ q) s) (hl0 : l.stackTraces = false) (hSg : va_S (fun q => s.heap.size ≤ q) s.heap H0 []) (hAs : ∀ q, (va_A w0 H0.size) q → s.heap.size ≤ q) (hsb : va_X sb L xs s H0) (hbl : sb < H0.size) (hbA : ¬ (va_A w0 H0.size) sb) (hc0 : c0 + 1 ≤ 601024) (hs0 : s0 + 6 ≤ 7293034) (hd : dc (xs (x4 + 1).toNatClampNeg).toNatClampNeg = some aN) {res : (Nat → Int32) × (Nat → Int32) × (Nat → Nat → Int32)} (hm : m_F_L_set_iN xs L x4 pv dc v b ov mv mu  = some res)
    (kk : ∀ (H : Heap) (locs : List Loc) (ls : Array Slot), va_P D vwCl (wQDNOM aQ aY aS aNs aTs aEs aDc aN bN aO ad cd c1 co ca pv dc v res.1 ov res.2.1 res.2.2) H → va_D (va_A w0 H0.size) (wQDNOM aQ aY aS aNs aTs aEs aDc aN bN aO ad cd c1 co ca pv dc v res.1 ov res.2.1 res.2.2) → va_S (va_A w0 H0.size) H0 H locs → lv_has ls 8 [(0, .ref sb), (1, .ref aQ), (2, .ref (ad 0)), (3, .ref aO), (4, .int x4)] → W p l e room_1 s m args below meth c H locs (c0 + 1) (s0 + 6) Q (F0 m 588 ls []))
    (H : Heap) (locs : List Loc) (ls : Array Slot) (hP : va_P D vwCl (wQDNOM aQ aY aS aNs aTs aEs aDc aN bN aO ad cd c1 co ca pv dc v b ov mv mu) H) (hD : va_D (va_A w0 H0.size) (wQDNOM aQ aY aS aNs aTs aEs aDc aN bN aO ad cd c1 co ca pv dc v b ov mv mu)) (hS : va_S (va_A w0 H0.size) H0 H locs) (hl : lv_has ls 8 [(0, .ref sb), (1, .ref aQ), (2, .ref (ad 0)), (3, .ref aO), (4, .int x4)]) : W p l e room_1 s m args below meth c H locs c0 s0 Q (F0 m 333 ls []) := by
  obtain ⟨hx, hb, hr, hml, hown, hw, hlk⟩ := G
  have hA : ∀ q, H0.size ≤ q → (va_A w0 H0.size) q := fun q h => Or.inr h
  unfold m_F_L_set_iN at hm
  refine lv_aload_n hx hb dL_law_333 rfl (lv_at hl 1 rfl) ?_
  refine lv_aload_n hx hb dL_law_334 rfl (lv_at hl 0 rfl) ?_
  refine lv_iload hx hb dL_law_335 (lv_at hl 4 rfl) ?_
  refine lv_iconst (v := 1) hx hb dL_law_337 (by decide) ?_
  refine lv_iadd hx hb dL_law_338 ?_
  obtain ⟨hi1, hm⟩ := zix_s hm
  refine va_sld (i := (x4 + 1)) (xs := xs) hx hb hsb hbl hbA hS hi1 dL_law_339 ?_
  refine lv_aload_n hx hb dL_law_340 rfl (lv_at hl 0 rfl) ?_
  refine lv_iload hx hb dL_law_341 (lv_at hl 4 rfl) ?_
  refine lv_iconst (v := 2) hx hb dL_law_343 (by decide) ?_
  refine lv_iadd hx hb dL_law_344 ?_
  obtain ⟨hi2, hm⟩ := zix_s hm
  refine va_sld (i := (x4 + 2)) (xs := xs) hx hb hsb hbl hbA hS hi2 dL_law_345 ?_
  refine lv_aload_n hx hb dL_law_346 rfl (lv_at hl 0 rfl) ?_
  refine lv_iload hx hb dL_law_347 (lv_at hl 4 rfl) ?_
  refine lv_iconst (v := 3) hx hb dL_law_349 (by decide) ?_
  refine lv_iadd hx hb dL_law_350 ?_
  obtain ⟨hi3, hm⟩ := zix_s hm
  refine va_sld (i := (x4 + 3)) (xs := xs) hx hb hsb hbl hbA hS hi3 dL_law_351 ?_
  obtain ⟨q4, hq4, hm⟩ := zbind hm
  have hPc := hP.sub (ws' := (wQDN aQ aY aS aNs aTs aEs aDc aN bN cd c1 pv dc v b)) [0, 1, 2, 3] rfl
  have hDc := hD.sub (ws' := (wQDN aQ aY aS aNs aTs aEs aDc aN bN cd c1 pv dc v b)) [0, 1, 2, 3] (by decide) rfl
  have hKc := hK.sub (tys' := wQDN_t cd c1) [0, 1] rfl
  have hFc := va_free (wc := (wQDN aQ aY aS aNs aTs aEs aDc aN bN cd c1 pv dc v b)) hD hS hA [0, 1, 2, 3] rfl
  refine zlSi (wr := [(aO, .inl (co, 1, .inr (.inl ov))), ((ad 0), .inr (5, [.int (mv 0), .int (mv 1), .ref (ad 1), .int (mv 3), .ref (ad 2), .ref (ad 3), .ref (ad 4), .ref (ad 5), .ref (ad 6), .ref (ad 7), .ref (ad 8), .ref (ad 9), .ref (ad 10), .ref (ad 11), .ref (ad 12), .ref (ad 13), .ref (ad 14), .ref (ad 15), .ref (ad 16), .ref (ad 17), .int (mv 20), .int (mv 21), .ref (ad 18), .int (mv 23)])), ((ad 1), .inl ((ca 1), 24, .inl (mu 1))), ((ad 2), .inl ((ca 2), 9, .inl (mu 2))), ((ad 3), .inl ((ca 3), 216, .inl (mu 3))), ((ad 4), .inl ((ca 4), 216, .inl (mu 4))), ((ad 5), .inl ((ca 5), 9, .inl (mu 5))), ((ad 6), .inl ((ca 6), 9, .inl (mu 6))), ((ad 7), .inl ((ca 7), 9, .inl (mu 7))), ((ad 8), .inl ((ca 8), 9, .inl (mu 8))), ((ad 9), .inl ((ca 9), 9, .inl (mu 9))), ((ad 10), .inl ((ca 10), 9, .inl (mu 10))), ((ad 11), .inl ((ca 11), 9, .inl (mu 11))), ((ad 12), .inl ((ca 12), 9, .inl (mu 12))), ((ad 13), .inl ((ca 13), 9, .inl (mu 13))), ((ad 14), .inl ((ca 14), 9, .inl (mu 14))), ((ad 15), .inl ((ca 15), 9, .inl (mu 15))), ((ad 16), .inl ((ca 16), 256, .inl (mu 16))), ((ad 17), .inl ((ca 17), 48, .inl (mu 17))), ((ad 18), .inl ((ca 18), 32, .inl (mu 18)))]) (w1 := (wQDN aQ aY aS aNs aTs aEs aDc aN bN cd c1 pv dc v q4.2)) (w' := (wQDNOM aQ aY aS aNs aTs aEs aDc aN bN aO ad cd c1 co ca pv dc v q4.2 ov mv mu)) (vx_runSW (As := [.ref aQ, .int (xs (x4 + 1).toNatClampNeg), .int (xs (x4 + 2).toNatClampNeg), .int (xs (x4 + 3).toNatClampNeg)]) (rest := []) ⟨hx, hb, hml, hown, hw⟩ (k_L_set_iN l D aQ aY aS aNs aTs aEs aDc aN bN cd c1 _ (xs (x4 + 1).toNatClampNeg) (xs (x4 + 2).toNatClampNeg) (xs (x4 + 3).toNatClampNeg) pv dc v b hl0 hd q4 hq4) (vx_cwSW 4 hw (zgoodW (List.forall_mem_cons.mpr ⟨zw628, List.forall_mem_cons.mpr ⟨zw629, List.forall_mem_cons.mpr ⟨zw587, fun _ h => absurd h List.not_mem_nil⟩⟩⟩) zw630) rfl rfl rfl hdL_set ⟨Nat.le_of_ble_eq_true rfl, Nat.le_of_ble_eq_true rfl⟩) (zpre zW_ok (A := fun q => s.heap.size ≤ q) hX (zglob hSg hAs hS) (fun q h => hAs q (hFc q h)) hPc hKc (hDc.weaken (fun _ _ _ h => hAs _ h))) rfl rfl hl.1 rfl (lv_room (Nat.le_of_ble_eq_true rfl)) dL_law_352 ⟨by show c0 + 1 ≤ 601024; omega, by show s0 + 6 ≤ 7293034; omega⟩) hP hD hS hFc [0, 1, 2, 3] [4, 5, 6, 7, 8, 9, 10, 11, 12, 13, 14, 15, 16, 17, 18, 19, 20, 21, 22, 23] [20, 21, 22, 23, 0, 1, 2, 3, 4, 5, 6, 7, 8, 9, 10, 11, 12, 13, 14, 15, 16, 17, 18, 19] rfl rfl (by decide) (by decide) rfl (by decide) (fun H locs hP hD hS => ?_)
  refine W.widen (k := c0 + 1) (n := s0 + 6) (by omega) (by omega) ?_
  refine lv_istore (lv' := [(5, .int q4.1), (0, .ref sb), (1, .ref aQ), (2, .ref (ad 0)), (3, .ref aO), (4, .int x4)]) hx hb dL_law_355 hl (by decide) rfl (fun ls hl => ?_)
  refine lv_aload_n hx hb dL_law_357 rfl (lv_at hl 3 rfl) ?_
  refine lv_aload_n hx hb dL_law_358 rfl (lv_at hl 1 rfl) ?_
  refine lv_iload hx hb dL_law_359 (lv_at hl 5 rfl) ?_
  refine lv_iconst (v := 1) hx hb dL_law_361 (by decide) ?_
  refine lv_iadd hx hb dL_law_362 ?_
  obtain ⟨hi5, hm⟩ := zix_s hm
  refine va_sld (i := (x4 + 1)) (xs := xs) hx hb hsb hbl hbA hS hi5 dL_law_363 ?_
  refine lv_aload_n hx hb dL_law_364 rfl (lv_at hl 1 rfl) ?_
  refine lv_iload hx hb dL_law_365 (lv_at hl 5 rfl) ?_
  refine lv_iconst (v := 2) hx hb dL_law_367 (by decide) ?_
  refine lv_iadd hx hb dL_law_368 ?_
  obtain ⟨hi6, hm⟩ := zix_s hm
  refine va_sld (i := (x4 + 2)) (xs := xs) hx hb hsb hbl hbA hS hi6 dL_law_369 ?_
  refine lv_aload_n hx hb dL_law_370 rfl (lv_at hl 1 rfl) ?_
  refine lv_iload hx hb dL_law_371 (lv_at hl 5 rfl) ?_
  refine lv_iconst (v := 3) hx hb dL_law_373 (by decide) ?_
  refine lv_iadd hx hb dL_law_374 ?_
  obtain ⟨hi7, hm⟩ := zix_s hm
  refine va_sld (i := (x4 + 3)) (xs := xs) hx hb hsb hbl hbA hS hi7 dL_law_375 ?_
  obtain ⟨q8, hq8, hm⟩ := zbind hm
  have hPc := hP.sub (ws' := (wM ad ca mv mu)) [5, 6, 7, 8, 9, 10, 11, 12, 13, 14, 15, 16, 17, 18, 19, 20, 21, 22, 23] rfl
  have hDc := hD.sub (ws' := (wM ad ca mv mu)) [5, 6, 7, 8, 9, 10, 11, 12, 13, 14, 15, 16, 17, 18, 19, 20, 21, 22, 23] (by decide) rfl
  have hKc := hK.sub (tys' := wM_t ca) [3, 4, 5, 6, 7, 8, 9, 10, 11, 12, 13, 14, 15, 16, 17, 18, 19, 20] rfl
  have hFc := va_free (wc := (wM ad ca mv mu)) hD hS hA [5, 6, 7, 8, 9, 10, 11, 12, 13, 14, 15, 16, 17, 18, 19, 20, 21, 22, 23] rfl
  refine zlSv (wr := [(aQ, .inr (4, [.ref aY, .int (pv 1), .ref aS, .ref aNs, .ref aTs, .ref aEs, .ref aDc, .int (pv 7)])), (aDc, .inl (cd, 8, .inr (.inr (.inr (.inr dc))))), (aN, .inr (1, [.ref bN, .int (v 1), .int (v 2), .int (v 3), .int (v 4), .int (v 5), .int (v 6), .int (v 7)])), (bN, .inl (c1, 25, .inl q4.2)), (aO, .inl (co, 1, .inr (.inl ov)))]) (w1 := (wM ad ca q8.1 q8.2)) (w' := (wQDNOM aQ aY aS aNs aTs aEs aDc aN bN aO ad cd c1 co ca pv dc v q4.2 ov q8.1 q8.2)) (va_runV (As := [.int (xs (x4 + 1).toNatClampNeg), .int (xs (x4 + 2).toNatClampNeg), .int (xs (x4 + 3).toNatClampNeg)]) (rest := []) ⟨hx, hb, hml, hown, hw⟩ (k_M_set l D ad ca _ (xs (x4 + 1).toNatClampNeg) (xs (x4 + 2).toNatClampNeg) (xs (x4 + 3).toNatClampNeg) mv mu  q8 hq8) (zcV (C := RX6) 3 hw (zgood zw633) rfl rfl rfl zw7 zw631 zw632 zw634 hdX6_set ⟨Nat.le_of_ble_eq_true rfl, Nat.le_of_ble_eq_true rfl⟩) (zpreV (zpre zN_ok (A := fun q => s.heap.size ≤ q) trivial (zglob hSg hAs hS) (fun q h => hAs q (hFc q h)) hPc hKc (hDc.weaken (fun _ _ _ h => hAs _ h))) (va_recv hK hP rfl (q0 := 5) rfl)) rfl rfl hl.1 rfl (lv_room (Nat.le_of_ble_eq_true rfl)) dL_law_376 ⟨by show c0 + 1 ≤ 601024; omega, by show s0 + 6 ≤ 7293034; omega⟩) hP hD hS hFc [5, 6, 7, 8, 9, 10, 11, 12, 13, 14, 15, 16, 17, 18, 19, 20, 21, 22, 23] [0, 1, 2, 3, 4] [0, 1, 2, 3, 4, 5, 6, 7, 8, 9, 10, 11, 12, 13, 14, 15, 16, 17, 18, 19, 20, 21, 22, 23] rfl rfl (by decide) (by decide) rfl (by decide) (fun H locs hP hD hS => ?_)
  refine W.widen (k := c0 + 1) (n := s0 + 6) (by omega) (by omega) ?_
  refine lv_aload_n hx hb dL_law_379 rfl (lv_at hl 3 rfl) ?_
  obtain ⟨q9, hq9, hm⟩ := zbind hm
  have hPc := hP.sub (ws' := (wM ad ca q8.1 q8.2)) [5, 6, 7, 8, 9, 10, 11, 12, 13, 14, 15, 16, 17, 18, 19, 20, 21, 22, 23] rfl
  have hDc := hD.sub (ws' := (wM ad ca q8.1 q8.2)) [5, 6, 7, 8, 9, 10, 11, 12, 13, 14, 15, 16, 17, 18, 19, 20, 21, 22, 23] (by decide) rfl
  have hKc := hK.sub (tys' := wM_t ca) [3, 4, 5, 6, 7, 8, 9, 10, 11, 12, 13, 14, 15, 16, 17, 18, 19, 20] rfl
  have hFc := va_free (wc := (wM ad ca q8.1 q8.2)) hD hS hA [5, 6, 7, 8, 9, 10, 11, 12, 13, 14, 15, 16, 17, 18, 19, 20, 21, 22, 23] rfl
  refine zlSi (wr := [(aQ, .inr (4, [.ref aY, .int (pv 1), .ref aS, .ref aNs, .ref aTs, .ref aEs, .ref aDc, .int (pv 7)])), (aDc, .inl (cd, 8, .inr (.inr (.inr (.inr dc))))), (aN, .inr (1, [.ref bN, .int (v 1), .int (v 2), .int (v 3), .int (v 4), .int (v 5), .int (v 6), .int (v 7)])), (bN, .inl (c1, 25, .inl q4.2)), (aO, .inl (co, 1, .inr (.inl ov)))]) (w1 := (wM ad ca q8.1 q8.2)) (w' := (wQDNOM aQ aY aS aNs aTs aEs aDc aN bN aO ad cd c1 co ca pv dc v q4.2 ov q8.1 q8.2)) (va_runV (As := []) (rest := []) ⟨hx, hb, hml, hown, hw⟩ (k_M_thrown l D ad ca _ q8.1 q8.2  q9 hq9) (zcV (C := RX6) 0 hw (zgood zw596) rfl rfl rfl zw7 zw594 zw595 zw597 hdX6_thrown ⟨Nat.le_of_ble_eq_true rfl, Nat.le_of_ble_eq_true rfl⟩) (zpreV (zpre zN_ok (A := fun q => s.heap.size ≤ q) trivial (zglob hSg hAs hS) (fun q h => hAs q (hFc q h)) hPc hKc (hDc.weaken (fun _ _ _ h => hAs _ h))) (va_recv hK hP rfl (q0 := 5) rfl)) rfl rfl hl.1 rfl (lv_room (Nat.le_of_ble_eq_true rfl)) dL_law_380 ⟨by show c0 + 1 ≤ 601024; omega, by show s0 + 6 ≤ 7293034; omega⟩) hP hD hS hFc [5, 6, 7, 8, 9, 10, 11, 12, 13, 14, 15, 16, 17, 18, 19, 20, 21, 22, 23] [0, 1, 2, 3, 4] [0, 1, 2, 3, 4, 5, 6, 7, 8, 9, 10, 11, 12, 13, 14, 15, 16, 17, 18, 19, 20, 21, 22, 23] rfl rfl (by decide) (by decide) rfl (by decide) (fun H locs hP hD hS => ?_)
  refine W.widen (k := c0 + 1) (n := s0 + 6) (by omega) (by omega) ?_
  refine lv_iload hx hb dL_law_383 (lv_at hl 0 rfl) ?_
  refine lv_icmp_eq (tgt := 390) hx hb dL_law_385 rfl (fun cd10 => ?_) (fun cd10 => ?_)
  · replace hm := zt cd10 hm
    refine lv_goto (tgt := 588) hx hb dL_law_390 rfl ?_
    cases hm
    refine W.widen (k := c0 + 1) (n := s0 + 6) (by omega) (by omega) ?_
    exact kk _ _ _ hP hD hS (lv_sub hl [1, 2, 3, 4, 5] rfl)
  · replace hm := zf cd10 hm
    refine lv_iconst (v := 0) hx hb dL_law_388 (by decide) ?_
    cases hm

