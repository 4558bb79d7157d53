/-! The loop of the law. -/
set_option maxRecDepth 100000 in
set_option maxHeartbeats 8000000 in
theorem g_loop {p : Program} {l : Launch} {e : Env} {s : State} {m : MethodId} {args : Array Value} {below : List Frame} {meth : Method} {c : Code} {D : va_G} {Q : State → Prop} {sb L : Nat} {xs : Nat → Int32} {fa : Nat → Nat → Nat} {fk : Nat → Nat → ClassId} {xa : Nat → Nat} {xk : Nat → ClassId} {aO : Nat} {co : ClassId} {ad : Nat → Nat} {ca : Nat → ClassId} (F : gFix p l s m args meth c D sb L xs fa fk xa xk aO co ad ca) (hL : L ≤ 2560) (ex : ∀ (H : Heap) (ls : Array Slot), W p l e room_1 s m args below meth c H [] 601024 7293034 Q (F0 m 595 ls [.int 1])) :
    ∀ (k i c0 s0 : Nat), L < i + 5 * k + 5 → i ≤ 3000 → c0 + k ≤ 601000 → s0 + 6 * k ≤ 7293000 → ∀ (n t : Nat) (kd : Nat → Nat) (pv y sv sr : Nat → Int32) (dc : Nat → Option Nat) (C : Nat → Nat → Nat → Int32) (ov : Nat → Int64) (mv : Nat → Int32) (mu : Nat → Nat → Int32) (H : Heap) (ls : Array Slot), gInv D s fa fk xa xk aO co ad ca pv y sv sr dc C ov mv mu H → Rel n t kd dc fa pv y C mv mu → lv_has ls 8 [(0, .ref sb), (1, .ref (xa 0)), (2, .ref (ad 0)), (3, .ref aO), (4, .int (nI i))] → W p l e room_1 s m args below meth c H [] c0 s0 Q (F0 m 23 ls []) := by
  have F' := F
  obtain ⟨⟨hx, hb, hr, hml, hown, hw, hlk⟩, -, -, -, hX, hbl, -, -⟩ := F'
  have head : ∀ (i c0 s0 : Nat), i ≤ 3000 → c0 ≤ 601024 → s0 ≤ 7293034 → ∀ (H : Heap) (ls : Array Slot), va_S (fun q => s.heap.size ≤ q) s.heap H [] → lv_has ls 8 [(0, .ref sb), (1, .ref (xa 0)), (2, .ref (ad 0)), (3, .ref aO), (4, .int (nI i))] → (i + 5 ≤ L → W p l e room_1 s m args below meth c H [] c0 s0 Q (F0 m 39 ls [.int (xs i &&& 15)])) → W p l e room_1 s m args below meth c H [] c0 s0 Q (F0 m 23 ls []) := by
    intro i c0 s0 hi hc hs H ls hS hl go
    have hnb : ¬ (fun q => s.heap.size ≤ q) sb := Nat.not_le.mpr hbl
    refine lv_iload hx hb dL_law_23 (lv_at hl 4 rfl) ?_
    refine lv_aload_n hx hb dL_law_25 rfl (lv_at hl 0 rfl) ?_
    refine va_slen hx hb hX hbl hnb hS dL_law_26 ?_
    refine lv_iconst (v := 5) hx hb dL_law_27 (by decide) ?_
    refine lv_isub hx hb dL_law_28 ?_
    have hLi : (Int32.ofNat L - 5).toInt = (L : Int) - 5 := by
      have h1 : (Int32.ofNat L).toInt = (L : Int) := nI_toInt (n := L) (by omega)
      have h5 : (5 : Int32).toInt = 5 := by decide
      rw [i32s (by rw [h1, h5]; omega) (by rw [h1, h5]; omega), h1, h5]
    refine lv_icmp_gt (tgt := 594) hx hb dL_law_29 rfl (fun cd => ?_) (fun cd => ?_)
    · refine lv_iconst (v := 1) hx hb dL_law_594 (by decide) ?_
      refine W.widen (k := 601024) (n := 7293034) hc hs ?_
      exact ex H ls
    · have hle : i + 5 ≤ L := by
        rw [Int32.lt_iff_toInt_lt, hLi, nI_toInt (by omega)] at cd
        omega
      refine lv_aload_n hx hb dL_law_32 rfl (lv_at hl 0 rfl) ?_
      refine lv_iload hx hb dL_law_33 (lv_at hl 4 rfl) ?_
      refine va_sld (i := nI i) (xs := xs) hx hb hX hbl hnb hS (vp_in_nI (by omega) (by omega)) dL_law_35 ?_
      refine lv_bipush (v := 15) hx hb dL_law_36 (by decide) ?_
      refine lv_iand hx hb dL_law_38 ?_
      rw [nI_clamp (by omega)]
      exact go hle
  intro k
  induction k with
  | zero =>
    intro i c0 s0 h1 hi hc hs n t kd pv y sv sr dc C ov mv mu H ls hI hR hl
    exact head i c0 s0 hi (by omega) (by omega) H ls hI.1 hl (fun h => by omega)
  | succ k ih =>
    intro i c0 s0 h1 hi hc hs n t kd pv y sv sr dc C ov mv mu H ls hI hR hl
    refine head i c0 s0 hi (by omega) (by omega) H ls hI.1 hl (fun hle => ?_)
    -- behind the call
    have back : ∀ (n t : Nat) (kd : Nat → Nat) (pv y sv sr : Nat → Int32) (dc : Nat → Option Nat) (C : Nat → Nat → Nat → Int32) (ov : Nat → Int64) (mv : Nat → Int32) (mu : Nat → Nat → Int32) (H : Heap) (ls : Array Slot), gInv D s fa fk xa xk aO co ad ca pv y sv sr dc C ov mv mu H → Rel n t kd dc fa pv y C mv mu → lv_has ls 8 [(0, .ref sb), (1, .ref (xa 0)), (2, .ref (ad 0)), (3, .ref aO), (4, .int (nI i))] → W p l e room_1 s m args below meth c H [] (c0 + 1) (s0 + 6) Q (F0 m 588 ls []) := by
      intro n t kd pv y sv sr dc C ov mv mu H ls hI hR hl
      refine lv_iinc (k := 4) (v := nI (i + 5)) (lv' := [(4, .int (nI (i + 5))), (0, .ref sb), (1, .ref (xa 0)), (2, .ref (ad 0)), (3, .ref aO)]) hx hb dL_law_588 hl rfl (nI_add i 5) (by decide) rfl (fun ls hl => ?_)
      refine lv_goto (tgt := 23) hx hb dL_law_591 rfl ?_
      exact ih (i + 5) (c0 + 1) (s0 + 6) (by omega) (by omega) (by omega) (by omega) n t kd pv y sv sr dc C ov mv mu H ls hI hR (lv_sub hl [1, 2, 3, 4, 0] rfl)
    have v1 : vp_in (nI i + 1) L := by rw [nI_1]; exact vp_in_nI (by omega) (by omega)
    have v2 : vp_in (nI i + 2) L := by rw [show nI i + 2 = nI (i + 2) from nI_add i 2]; exact vp_in_nI (by omega) (by omega)
    have v3 : vp_in (nI i + 3) L := by rw [show nI i + 3 = nI (i + 3) from nI_add i 3]; exact vp_in_nI (by omega) (by omega)
    have v4 : vp_in (nI i + 4) L := by rw [show nI i + 4 = nI (i + 4) from nI_add i 4]; exact vp_in_nI (by omega) (by omega)
    obtain ⟨q, hq, eq⟩ := nI_and15 (xs i)
    rw [eq]
    rcases (show q = 0 ∨ q = 1 ∨ q = 2 ∨ q = 3 ∨ q = 4 ∨ q = 5 ∨ q = 6 ∨ q = 7 ∨ q = 8 ∨ q = 9 ∨ 10 ≤ q by omega) with rfl | rfl | rfl | rfl | rfl | rfl | rfl | rfl | rfl | rfl | hq10
    · refine lv_tableIn (off := 53) (tgt := 92) hx hb dL_law_39 (by decide) (by decide) (by decide) rfl ?_
      exact g_type F hI hR v1 (by omega) (by omega) back hl
    · refine lv_tableIn (off := 78) (tgt := 117) hx hb dL_law_39 (by decide) (by decide) (by decide) rfl ?_
      exact g_declare F hI hR v1 (by omega) (by omega) back hl
    · refine lv_tableIn (off := 134) (tgt := 173) hx hb dL_law_39 (by decide) (by decide) (by decide) rfl ?_
      exact g_clear F hI hR (by omega) (by omega) back hl
    · refine lv_tableIn (off := 145) (tgt := 184) hx hb dL_law_39 (by decide) (by decide) (by decide) rfl ?_
      exact g_fields F hI hR (by omega) (by omega) back hl
    · refine lv_tableIn (off := 158) (tgt := 197) hx hb dL_law_39 (by decide) (by decide) (by decide) rfl ?_
      exact g_look F hI hR v1 v2 (by omega) (by omega) back hl
    · refine lv_tableIn (off := 226) (tgt := 265) hx hb dL_law_39 (by decide) (by decide) (by decide) rfl ?_
      exact g_get F hI hR v1 v2 (by omega) (by omega) back hl
    · refine lv_tableIn (off := 294) (tgt := 333) hx hb dL_law_39 (by decide) (by decide) (by decide) rfl ?_
      exact g_set F hI hR v1 v2 v3 (by omega) (by omega) back hl
    · refine lv_tableIn (off := 354) (tgt := 393) hx hb dL_law_39 (by decide) (by decide) (by decide) rfl ?_
      exact g_put F hI hR v1 v2 v3 v4 (by omega) (by omega) back hl
    · refine lv_tableIn (off := 446) (tgt := 485) hx hb dL_law_39 (by decide) (by decide) (by decide) rfl ?_
      exact g_move F hI hR v1 v2 (by omega) (by omega) back hl
    · refine lv_tableIn (off := 494) (tgt := 533) hx hb dL_law_39 (by decide) (by decide) (by decide) rfl ?_
      exact g_value F hI hR v1 (by omega) (by omega) back hl
    · refine lv_tableOut (tgt := 588) hx hb dL_law_39 (Or.inr (by rw [nI_toInt (by omega)]; omega)) rfl ?_
      refine W.widen (k := c0 + 1) (n := s0 + 6) (by omega) (by omega) ?_
      exact back n t kd pv y sv sr dc C ov mv mu H ls hI hR hl
