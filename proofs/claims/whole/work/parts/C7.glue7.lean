/-! The law's beginning: both objects are made, and the array. -/
theorem g_D0 {s : State} {args : Array Value} (hw : ∀ w ∈ zBIG, w.before args s = true) : ∃ D : va_G, ∀ (c : Nat) (q : vw_C), vwCl[c]? = some q → u_Kn s q.1 q.2.1 q.2.2 (D.1 c) (D.2 c) := by
  obtain ⟨c0, i0, h0⟩ := u_known hw zinX0 (hw _ zw564)
  obtain ⟨c1, i1, h1⟩ := u_known hw zinX2 (hw _ zw558)
  obtain ⟨c2, i2, h2⟩ := u_known hw zinX3 (hw _ zw551)
  obtain ⟨c3, i3, h3⟩ := u_known hw zinX4 (hw _ zw561)
  obtain ⟨c4, i4, h4⟩ := u_known hw zinX5 (hw _ zw568)
  obtain ⟨c5, i5, h5⟩ := u_known hw zinX6 (hw _ zw573)
  refine ⟨(fun c => match c with | 0 => c0 | 1 => c1 | 2 => c2 | 3 => c3 | 4 => c4 | _ => c5, fun c => match c with | 0 => i0 | 1 => i1 | 2 => i2 | 3 => i3 | 4 => i4 | _ => i5), fun c q hq => ?_⟩
  match c, hq with
  | 0, hq => cases hq; exact h0
  | 1, hq => cases hq; exact h1
  | 2, hq => cases hq; exact h2
  | 3, hq => cases hq; exact h3
  | 4, hq => cases hq; exact h4
  | 5, hq => cases hq; exact h5
  | c + 6, hq => cases hq
/-- a cell's place in the list of all -/
def gpos : gI → Nat
  | .inl q => 28 + 8 * (7 - q.1) + q.2
  | .inr j => if j < 8 then j else if j = 8 then 27 else j - 1
theorem gpos_inj {i j : gI} (hi : gOK i) (hj : gOK j) (h : gpos i = gpos j) : i = j := by
  cases i with
  | inl p =>
    cases j with
    | inl q =>
      obtain ⟨p1, p2⟩ := p
      obtain ⟨q1, q2⟩ := q
      have hi : p1 < 8 ∧ p2 < 8 := hi
      have hj : q1 < 8 ∧ q2 < 8 := hj
      have h : 28 + 8 * (7 - p1) + p2 = 28 + 8 * (7 - q1) + q2 := h
      have e1 : p1 = q1 := by omega
      have e2 : p2 = q2 := by omega
      rw [e1, e2]
    | inr q =>
      exfalso
      have hj : q < 28 := hj
      have h : 28 + 8 * (7 - p.1) + p.2 = (if q < 8 then q else if q = 8 then 27 else q - 1) := h
      split at h
      · omega
      · split at h <;> omega
  | inr p =>
    cases j with
    | inl q =>
      exfalso
      have hi : p < 28 := hi
      have h : (if p < 8 then p else if p = 8 then 27 else p - 1) = 28 + 8 * (7 - q.1) + q.2 := h
      split at h
      · omega
      · split at h <;> omega
    | inr q =>
      have hi : p < 28 := hi
      have hj : q < 28 := hj
      have h : (if p < 8 then p else if p = 8 then 27 else p - 1) = (if q < 8 then q else if q = 8 then 27 else q - 1) := h
      have : p = q := by
        split at h
        · split at h
          · exact h
          · split at h <;> omega
        · split at h
          · split at h
            · omega
            · split at h <;> omega
          · split at h
            · omega
            · split at h <;> omega
      rw [this]
set_option maxRecDepth 100000 in
set_option maxHeartbeats 8000000 in
theorem gpos_at {fa : Nat → Nat → Nat} {fk : Nat → Nat → ClassId} {xa : Nat → Nat} {xk : Nat → ClassId} {aO : Nat} {co : ClassId} {ad : Nat → Nat} {ca : Nat → ClassId} : ∀ i, gOK i → (((wX xa xk (fun _ => 0) (fun _ => 0) (fun _ => 0) (fun _ => 0) (zrf fa 0 8) (zrf fa 2 8) (zrf fa 4 8) (fun _ => none) ++ wM ad ca (fun _ => 0) (fun _ _ => 0)) ++ [(aO, .inl (co, 1, .inr (.inl (fun _ => 0))))]) ++ zpool fa fk (fun _ _ _ => 0) 8 : va_W)[gpos i]? = some (gA fa xa aO ad i, gE fa fk xa xk co ad ca (fun _ => 0) (fun _ => 0) (fun _ => 0) (fun _ => 0) (zrf fa 0 8) (zrf fa 2 8) (zrf fa 4 8) (fun _ => none) (fun _ _ _ => 0) (fun _ => 0) (fun _ => 0) (fun _ _ => 0) i) := by
  intro i hi
  cases i with
  | inl q =>
    obtain ⟨k, r⟩ := q
    have hi : k < 8 ∧ r < 8 := hi
    rcases (show k = 0 ∨ k = 1 ∨ k = 2 ∨ k = 3 ∨ k = 4 ∨ k = 5 ∨ k = 6 ∨ k = 7 by omega) with rfl | rfl | rfl | rfl | rfl | rfl | rfl | rfl <;>
      rcases (show r = 0 ∨ r = 1 ∨ r = 2 ∨ r = 3 ∨ r = 4 ∨ r = 5 ∨ r = 6 ∨ r = 7 by omega) with rfl | rfl | rfl | rfl | rfl | rfl | rfl | rfl <;> rfl
  | inr j =>
    have hi : j < 28 := hi
    rcases (show j = 0 ∨ j = 1 ∨ j = 2 ∨ j = 3 ∨ j = 4 ∨ j = 5 ∨ j = 6 ∨ j = 7 ∨ j = 8 ∨ j = 9 ∨ j = 10 ∨ j = 11 ∨ j = 12 ∨ j = 13 ∨ j = 14 ∨ j = 15 ∨ j = 16 ∨ j = 17 ∨ j = 18 ∨ j = 19 ∨ j = 20 ∨ j = 21 ∨ j = 22 ∨ j = 23 ∨ j = 24 ∨ j = 25 ∨ j = 26 ∨ j = 27 by omega) with rfl | rfl | rfl | rfl | rfl | rfl | rfl | rfl | rfl | rfl | rfl | rfl | rfl | rfl | rfl | rfl | rfl | rfl | rfl | rfl | rfl | rfl | rfl | rfl | rfl | rfl | rfl | rfl <;> rfl
theorem zpool_t_in {fk : Nat → Nat → ClassId} {q : ClassId × FieldType} : ∀ (n k : Nat), k < n → q ∈ zblk_t (fk k) → q ∈ zpool_t fk n
  | 0, _, h, _ => absurd h (Nat.not_lt_zero _)
  | n + 1, k, h, hq => by
    show q ∈ zblk_t (fk n) ++ zpool_t fk n
    by_cases c : k = n
    · rw [c] at hq; exact List.mem_append_left _ hq
    · exact List.mem_append_right _ (zpool_t_in n k (by omega) hq)
set_option maxRecDepth 100000 in
set_option maxHeartbeats 8000000 in
theorem g_start {p : Program} {l : Launch} {e : Env} {s : State} {m : MethodId} {below : List Frame} {meth : Method} {c : Code} {Q : State → Prop} {sb L : Nat} {xs : Nat → Int32} {ls : Array Slot} (G : zG p s m #[Value.ref sb] meth c cL_law RL 8 (some .boolean)) (hX : zW (fun q => s.heap.size ≤ q) s) (hl0 : l.stackTraces = false) (hsb : va_X sb L xs s s.heap) (hbl : sb < s.heap.size) (hL : L ≤ 2560) (hl : lv_has ls 8 [(0, .ref sb)]) (ex : ∀ (H : Heap) (ls : Array Slot), W p l e room_1 s m #[Value.ref sb] below meth c H [] 601024 7293034 Q (F0 m 595 ls [.int 1])) : W p l e room_1 s m #[Value.ref sb] below meth c s.heap [] 0 0 Q (F0 m 0 ls []) := by
  have G0 := G
  obtain ⟨hx, hb, hr, hml, hown, hw, hlk⟩ := G
  obtain ⟨D, hD0⟩ := g_D0 hw
  have hXC : zC (fun q => s.heap.size ≤ q) s := hX.1.1
  have hA : ∀ q, s.heap.size ≤ q → (fun q => s.heap.size ≤ q) q := fun q h => h
  have hS : va_S (fun q => s.heap.size ≤ q) s.heap s.heap [] := va_S.rf
  have hK : va_K D vwCl [] s := ⟨hD0, fun k q hk => by simp at hk⟩
  have hP : va_P D vwCl [] s.heap := fun k q hk => by simp at hk
  have hD : va_D (fun q => s.heap.size ≤ q) [] := ⟨fun i j p q h => by simp at h, fun k q hk => by simp at hk⟩
  refine va_new (ci := 4) (fs := [.null, .int 0, .null, .null, .null, .null, .null, .int 0]) (C := RX5) (T := TX5) (N := 8) hx hb hw zinX5 tyX5 tyX5_ok hown (hw _ zw567) (hw _ zw568) (hw _ zw176) hK hP hD hS hA rfl (fun j hj => by rcases j with _ | _ | _ | _ | _ | _ | _ | _ | j <;> first | rfl | omega) (Nat.le_of_ble_eq_true rfl) (Nat.le_of_ble_eq_true rfl) dL_law_0 (fun q H hP hD hS => ?_)
  refine W.widen (k := 1) (n := 8) (by decide) (by decide) ?_
  have hP : va_P D vwCl [(q, .inr (4, [.null, .int 0, .null, .null, .null, .null, .null, .int 0]))] H := hP
  have hD : va_D (fun q => s.heap.size ≤ q) [(q, .inr (4, [.null, .int 0, .null, .null, .null, .null, .null, .int 0]))] := hD
  refine lv_dup hx hb dL_law_3 rfl ?_
  have hKc := hK.sub (tys' := []) [] rfl
  have hFc := va_free (wc := [(q, .inr (4, [.null, .int 0, .null, .null, .null, .null, .null, .int 0]))]) hD hS hA [0] rfl
  refine va_callv (va_runI (As := []) (rest := [.ref q]) ⟨hx, hb, hml, hown, hw⟩ (k_P_init l D q _) ⟨callB_of 0 hw (zgood zw571) rfl rfl rfl (hw _ zw176) (hw _ zw569) hdX5_init ⟨Nat.le_of_ble_eq_true rfl, Nat.le_of_ble_eq_true rfl⟩, rfl, (hw _ zw570)⟩ (zpre zC_ok hXC hS hFc hP hKc hD) rfl rfl hl.1 rfl (lv_room (Nat.le_of_ble_eq_true rfl)) dL_law_4 ⟨Nat.le_of_ble_eq_true rfl, Nat.le_of_ble_eq_true rfl⟩) hS (fun q _ h => hFc q h) hFc (fun u t H1 locs1 ht hvm hpost hB hz hk1 hS1 => ?_)
  refine W.widen (k := 72) (n := 1306) (by decide) (by decide) ?_
  obtain ⟨xa, xk, fa, fk⟩ := u
  have hpost : xa 0 = q := hpost
  subst hpost
  obtain ⟨hP1, hK1, hD1⟩ := hB
  rw [ht] at hP1
  have hK := va_K.moved hvm.symm hK1
  have hP : va_P D vwCl (wX xa xk (fun _ => 0) (fun _ => 0) (fun _ => 0) (fun _ => 0) (zrf fa 0 8) (zrf fa 2 8) (zrf fa 4 8) (fun _ => none) ++ zpool fa fk (fun _ _ _ => 0) 8) H1 := hP1
  have hD : va_D (fun q => s.heap.size ≤ q) (wX xa xk (fun _ => 0) (fun _ => 0) (fun _ => 0) (fun _ => 0) (zrf fa 0 8) (zrf fa 2 8) (zrf fa 4 8) (fun _ => none) ++ zpool fa fk (fun _ _ _ => 0) 8) := hD1.weaken (fun k x hk h => hFc x.1 h)
  have hK : va_K D vwCl (wX_t xk ++ zpool_t fk 8) s := hK
  clear hP1 hK1 hD1 hKc hFc
  have hS := hS1
  refine lv_astore_n (lv' := [(1, .ref (xa 0)), (0, .ref sb)]) hx hb dL_law_7 rfl hl (by decide) rfl (fun ls hl => ?_)
  refine va_new (ci := 5) (fs := [.int 0, .int 0, .null, .int 0, .null, .null, .null, .null, .null, .null, .null, .null, .null, .null, .null, .null, .null, .null, .null, .null, .int 0, .int 0, .null, .int 0]) (C := RX6) (T := TX6) (N := 24) hx hb hw zinX6 tyX6 tyX6_ok hown (hw _ zw572) (hw _ zw573) (hw _ zw7) hK hP hD hS hA rfl (fun j hj => by rcases j with _ | _ | _ | _ | _ | _ | _ | _ | _ | _ | _ | _ | _ | _ | _ | _ | _ | _ | _ | _ | _ | _ | _ | _ | j <;> first | rfl | omega) (Nat.le_of_ble_eq_true rfl) (Nat.le_of_ble_eq_true rfl) dL_law_8 (fun qm H hP hD hS => ?_)
  refine W.widen (k := 73) (n := 1330) (by decide) (by decide) ?_
  have hP : va_P D vwCl ((wX xa xk (fun _ => 0) (fun _ => 0) (fun _ => 0) (fun _ => 0) (zrf fa 0 8) (zrf fa 2 8) (zrf fa 4 8) (fun _ => none) ++ [(qm, .inr (5, [.int 0, .int 0, .null, .int 0, .null, .null, .null, .null, .null, .null, .null, .null, .null, .null, .null, .null, .null, .null, .null, .null, .int 0, .int 0, .null, .int 0]))]) ++ zpool fa fk (fun _ _ _ => 0) 8) H := zPperm (zmv _ _ _) hP
  have hD : va_D (fun q => s.heap.size ≤ q) ((wX xa xk (fun _ => 0) (fun _ => 0) (fun _ => 0) (fun _ => 0) (zrf fa 0 8) (zrf fa 2 8) (zrf fa 4 8) (fun _ => none) ++ [(qm, .inr (5, [.int 0, .int 0, .null, .int 0, .null, .null, .null, .null, .null, .null, .null, .null, .null, .null, .null, .null, .null, .null, .null, .null, .int 0, .int 0, .null, .int 0]))]) ++ zpool fa fk (fun _ _ _ => 0) 8) := zDperm (zmv _ _ _) hD
  refine lv_dup hx hb dL_law_11 rfl ?_
  have hPc := hP.sub (ws' := [(qm, .inr (5, [.int 0, .int 0, .null, .int 0, .null, .null, .null, .null, .null, .null, .null, .null, .null, .null, .null, .null, .null, .null, .null, .null, .int 0, .int 0, .null, .int 0]))]) [8] rfl
  have hDc := hD.sub (ws' := [(qm, .inr (5, [.int 0, .int 0, .null, .int 0, .null, .null, .null, .null, .null, .null, .null, .null, .null, .null, .null, .null, .null, .null, .null, .null, .int 0, .int 0, .null, .int 0]))]) [8] (by decide) rfl
  have hKc := hK.sub (tys' := []) [] rfl
  have hFc := va_free (wc := [(qm, .inr (5, [.int 0, .int 0, .null, .int 0, .null, .null, .null, .null, .null, .null, .null, .null, .null, .null, .null, .null, .null, .null, .null, .null, .int 0, .int 0, .null, .int 0]))]) hD hS hA [8] rfl
  refine va_callv (va_runI (As := []) (rest := [.ref qm]) ⟨hx, hb, hml, hown, hw⟩ (k_M_init l D qm _) ⟨callB_of 0 hw (zgood zw576) rfl rfl rfl (hw _ zw7) (hw _ zw574) hdX6_init ⟨Nat.le_of_ble_eq_true rfl, Nat.le_of_ble_eq_true rfl⟩, rfl, (hw _ zw575)⟩ (zpre zN_ok trivial hS hFc hPc hKc hDc) rfl rfl hl.1 rfl (lv_room (Nat.le_of_ble_eq_true rfl)) dL_law_12 ⟨Nat.le_of_ble_eq_true rfl, Nat.le_of_ble_eq_true rfl⟩) hS (fun q _ h => hFc q h) hFc (fun u t H1 locs1 ht hvm hpost hB hz hk1 hS1 => ?_)
  refine W.widen (k := 91) (n := 2230) (by decide) (by decide) ?_
  obtain ⟨ad, ca⟩ := u
  have hpost : ad 0 = qm := hpost
  subst hpost
  obtain ⟨hP1, hK1, hD1⟩ := hB
  rw [ht] at hP1
  have hK1 := va_K.moved hvm.symm hK1
  obtain ⟨hP, hD⟩ := va_joinQ (X := wX xa xk (fun _ => 0) (fun _ => 0) (fun _ => 0) (fun _ => 0) (zrf fa 0 8) (zrf fa 2 8) (zrf fa 4 8) (fun _ => none) ++ [(ad 0, .inr (5, [.int 0, .int 0, .null, .int 0, .null, .null, .null, .null, .null, .null, .null, .null, .null, .null, .null, .null, .null, .null, .null, .null, .int 0, .int 0, .null, .int 0]))]) (pl := zpool fa fk (fun _ _ _ => 0) 8) (wr := wX xa xk (fun _ => 0) (fun _ => 0) (fun _ => 0) (fun _ => 0) (zrf fa 0 8) (zrf fa 2 8) (zrf fa 4 8) (fun _ => none)) (w1 := wM ad ca (fun _ => 0) (fun _ _ => 0)) hP hD [8] [0, 1, 2, 3, 4, 5, 6, 7] rfl rfl (by decide) (by decide) hk1 hFc hP1 hD1
  have hK := hK.app hK1
  clear hP1 hD1 hK1 hPc hDc hKc hFc
  have hS := hS1
  refine lv_astore_n (lv' := [(2, .ref (ad 0)), (1, .ref (xa 0)), (0, .ref sb)]) hx hb dL_law_15 rfl hl (by decide) rfl (fun ls hl => ?_)
  refine lv_iconst (v := 1) hx hb dL_law_16 (by decide) ?_
  refine va_newa (atype := .long) (ty := .long) (n := 1) (N' := 1) (a0 := (1, .inr (.inl (fun _ => 0)))) hx hb (hw _ zw577) rfl hK hP hD hS hA (fun _ => rfl) (by decide) (by decide) (by decide) (Nat.le_of_ble_eq_true rfl) (Nat.le_of_ble_eq_true rfl) dL_law_17 (fun aO co H hK hP hD hS => ?_)
  refine W.widen (k := 92) (n := 2231) (by decide) (by decide) ?_
  have hP : va_P D vwCl (((wX xa xk (fun _ => 0) (fun _ => 0) (fun _ => 0) (fun _ => 0) (zrf fa 0 8) (zrf fa 2 8) (zrf fa 4 8) (fun _ => none) ++ wM ad ca (fun _ => 0) (fun _ _ => 0)) ++ [(aO, .inl (co, 1, .inr (.inl (fun _ => 0))))]) ++ zpool fa fk (fun _ _ _ => 0) 8) H := zPperm (zmv _ _ _) hP
  have hD : va_D (fun q => s.heap.size ≤ q) (((wX xa xk (fun _ => 0) (fun _ => 0) (fun _ => 0) (fun _ => 0) (zrf fa 0 8) (zrf fa 2 8) (zrf fa 4 8) (fun _ => none) ++ wM ad ca (fun _ => 0) (fun _ _ => 0)) ++ [(aO, .inl (co, 1, .inr (.inl (fun _ => 0))))]) ++ zpool fa fk (fun _ _ _ => 0) 8) := zDperm (zmv _ _ _) hD
  refine lv_astore_n (lv' := [(3, .ref aO), (2, .ref (ad 0)), (1, .ref (xa 0)), (0, .ref sb)]) hx hb dL_law_19 rfl hl (by decide) rfl (fun ls hl => ?_)
  refine lv_iconst (v := 0) hx hb dL_law_20 (by decide) ?_
  refine lv_istore (lv' := [(4, .int 0), (3, .ref aO), (2, .ref (ad 0)), (1, .ref (xa 0)), (0, .ref sb)]) hx hb dL_law_21 hl (by decide) rfl (fun ls hl => ?_)
  have hS2 : ∀ q ∈ locs1, s.heap.size ≤ q.base := hS.2.2
  refine va_forget hS2 ?_
  have F : gFix p l s m #[Value.ref sb] meth c D sb L xs fa fk xa xk aO co ad ca := by
    refine ⟨G0, ⟨hD0, fun q hq => ?_⟩, hX, hl0, hsb, hbl, fun i j hi hj hij => ?_, fun i hi => hD.2 _ _ (gpos_at i hi)⟩
    · have hm : q ∈ ((wX_t xk ++ zpool_t fk 8) ++ wM_t ca) ++ [(co, .long)] := by
        rcases hq with h | h | h | ⟨k, hk, h⟩
        · exact List.mem_append_left _ (List.mem_append_left _ (List.mem_append_left _ h))
        · exact List.mem_append_right _ (by rw [h]; exact List.mem_cons_self)
        · exact List.mem_append_left _ (List.mem_append_right _ h)
        · exact List.mem_append_left _ (List.mem_append_left _ (List.mem_append_right _ (zpool_t_in 8 k hk h)))
      obtain ⟨k, hk⟩ := List.mem_iff_getElem?.mp hm
      exact hK.2 k q hk
    · exact gpos_inj hi hj (hD.1 _ _ _ _ (gpos_at i hi) (gpos_at j hj) hij)
  refine g_loop F hL ex 512 0 92 2231 (by omega) (by omega) (by omega) (by omega) 0 0 (fun _ => 0) (fun _ => 0) (fun _ => 0) (fun _ => 0) (fun _ => 0) (fun _ => none) (fun _ _ _ => 0) (fun _ => 0) (fun _ => 0) (fun _ _ => 0) H ls ⟨⟨hS.1, hS.2.1, fun _ h => by cases h⟩, fun i hi => hP _ _ (gpos_at i hi)⟩ ?_ (lv_sub hl [4, 3, 2, 1, 0] rfl)
  exact ⟨by omega, by omega, rfl, rfl, rfl, rfl, rfl, fun _ _ => ⟨rfl, rfl, rfl⟩, fun x hx => absurd hx (Nat.not_lt_zero _)⟩
