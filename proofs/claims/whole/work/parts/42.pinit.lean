theorem dX5_init_0 : decode cX5_init 0 = .ok (.aload_n 0, 1) := by decide +kernel
theorem dX5_init_1 : decode cX5_init 1 = .ok (.invokespecial 1, 3) := by decide +kernel
theorem dX5_init_4 : decode cX5_init 4 = .ok (.aload_n 0, 1) := by decide +kernel
theorem dX5_init_5 : decode cX5_init 5 = .ok (.bipush 24, 2) := by decide +kernel
theorem dX5_init_7 : decode cX5_init 7 = .ok (.newarray .int, 2) := by decide +kernel
theorem dX5_init_9 : decode cX5_init 9 = .ok (.putfield 9, 3) := by decide +kernel
theorem dX5_init_12 : decode cX5_init 12 = .ok (.aload_n 0, 1) := by decide +kernel
theorem dX5_init_13 : decode cX5_init 13 = .ok (.iconst 0, 1) := by decide +kernel
theorem dX5_init_14 : decode cX5_init 14 = .ok (.putfield 13, 3) := by decide +kernel
theorem dX5_init_17 : decode cX5_init 17 = .ok (.aload_n 0, 1) := by decide +kernel
theorem dX5_init_18 : decode cX5_init 18 = .ok (.new 17, 3) := by decide +kernel
theorem dX5_init_21 : decode cX5_init 21 = .ok (.dup, 1) := by decide +kernel
theorem dX5_init_22 : decode cX5_init 22 = .ok (.invokespecial 19, 3) := by decide +kernel
theorem dX5_init_25 : decode cX5_init 25 = .ok (.putfield 20, 3) := by decide +kernel
theorem dX5_init_28 : decode cX5_init 28 = .ok (.aload_n 0, 1) := by decide +kernel
theorem dX5_init_29 : decode cX5_init 29 = .ok (.bipush 8, 2) := by decide +kernel
theorem dX5_init_31 : decode cX5_init 31 = .ok (.anewarray 24, 3) := by decide +kernel
theorem dX5_init_34 : decode cX5_init 34 = .ok (.putfield 26, 3) := by decide +kernel
theorem dX5_init_37 : decode cX5_init 37 = .ok (.aload_n 0, 1) := by decide +kernel
theorem dX5_init_38 : decode cX5_init 38 = .ok (.bipush 8, 2) := by decide +kernel
theorem dX5_init_40 : decode cX5_init 40 = .ok (.anewarray 30, 3) := by decide +kernel
theorem dX5_init_43 : decode cX5_init 43 = .ok (.putfield 32, 3) := by decide +kernel
theorem dX5_init_46 : decode cX5_init 46 = .ok (.aload_n 0, 1) := by decide +kernel
theorem dX5_init_47 : decode cX5_init 47 = .ok (.bipush 8, 2) := by decide +kernel
theorem dX5_init_49 : decode cX5_init 49 = .ok (.anewarray 36, 3) := by decide +kernel
theorem dX5_init_52 : decode cX5_init 52 = .ok (.putfield 38, 3) := by decide +kernel
theorem dX5_init_55 : decode cX5_init 55 = .ok (.aload_n 0, 1) := by decide +kernel
theorem dX5_init_56 : decode cX5_init 56 = .ok (.bipush 8, 2) := by decide +kernel
theorem dX5_init_58 : decode cX5_init 58 = .ok (.anewarray 42, 3) := by decide +kernel
theorem dX5_init_61 : decode cX5_init 61 = .ok (.putfield 44, 3) := by decide +kernel
theorem dX5_init_64 : decode cX5_init 64 = .ok (.aload_n 0, 1) := by decide +kernel
theorem dX5_init_65 : decode cX5_init 65 = .ok (.iconst 0, 1) := by decide +kernel
theorem dX5_init_66 : decode cX5_init 66 = .ok (.putfield 48, 3) := by decide +kernel
theorem dX5_init_69 : decode cX5_init 69 = .ok (.iconst 0, 1) := by decide +kernel
theorem dX5_init_70 : decode cX5_init 70 = .ok (.istore_n 1, 1) := by decide +kernel
theorem dX5_init_71 : decode cX5_init 71 = .ok (.iload_n 1, 1) := by decide +kernel
theorem dX5_init_72 : decode cX5_init 72 = .ok (.bipush 8, 2) := by decide +kernel
theorem dX5_init_74 : decode cX5_init 74 = .ok (.if_icmp .ge 48, 3) := by decide +kernel
theorem dX5_init_77 : decode cX5_init 77 = .ok (.aload_n 0, 1) := by decide +kernel
theorem dX5_init_78 : decode cX5_init 78 = .ok (.getfield 26, 3) := by decide +kernel
theorem dX5_init_81 : decode cX5_init 81 = .ok (.iload_n 1, 1) := by decide +kernel
theorem dX5_init_82 : decode cX5_init 82 = .ok (.new 24, 3) := by decide +kernel
theorem dX5_init_85 : decode cX5_init 85 = .ok (.dup, 1) := by decide +kernel
theorem dX5_init_86 : decode cX5_init 86 = .ok (.invokespecial 51, 3) := by decide +kernel
theorem dX5_init_89 : decode cX5_init 89 = .ok (.aastore, 1) := by decide +kernel
theorem dX5_init_90 : decode cX5_init 90 = .ok (.aload_n 0, 1) := by decide +kernel
theorem dX5_init_91 : decode cX5_init 91 = .ok (.getfield 32, 3) := by decide +kernel
theorem dX5_init_94 : decode cX5_init 94 = .ok (.iload_n 1, 1) := by decide +kernel
theorem dX5_init_95 : decode cX5_init 95 = .ok (.new 30, 3) := by decide +kernel
theorem dX5_init_98 : decode cX5_init 98 = .ok (.dup, 1) := by decide +kernel
theorem dX5_init_99 : decode cX5_init 99 = .ok (.invokespecial 52, 3) := by decide +kernel
theorem dX5_init_102 : decode cX5_init 102 = .ok (.aastore, 1) := by decide +kernel
theorem dX5_init_103 : decode cX5_init 103 = .ok (.aload_n 0, 1) := by decide +kernel
theorem dX5_init_104 : decode cX5_init 104 = .ok (.getfield 38, 3) := by decide +kernel
theorem dX5_init_107 : decode cX5_init 107 = .ok (.iload_n 1, 1) := by decide +kernel
theorem dX5_init_108 : decode cX5_init 108 = .ok (.new 36, 3) := by decide +kernel
theorem dX5_init_111 : decode cX5_init 111 = .ok (.dup, 1) := by decide +kernel
theorem dX5_init_112 : decode cX5_init 112 = .ok (.invokespecial 53, 3) := by decide +kernel
theorem dX5_init_115 : decode cX5_init 115 = .ok (.aastore, 1) := by decide +kernel
theorem dX5_init_116 : decode cX5_init 116 = .ok (.iinc 1 1, 3) := by decide +kernel
theorem dX5_init_119 : decode cX5_init 119 = .ok (.goto (-48), 3) := by decide +kernel
theorem dX5_init_122 : decode cX5_init 122 = .ok (.return_, 1) := by decide +kernel
theorem zP_mem {D : va_G} {cl : List vw_C} {ws : va_W} {H : Heap} : va_P D cl ws H ↔ ∀ q ∈ ws, va_at D cl q H := by
  constructor
  · intro h q hq
    obtain ⟨k, hk⟩ := List.mem_iff_getElem?.mp hq
    exact h k q hk
  · intro h k q hk
    exact h q (List.mem_of_getElem? hk)
theorem zD_mem {A : Nat → Prop} {ws : va_W} : va_D A ws ↔ (ws.map (fun q => q.1)).Nodup ∧ ∀ q ∈ ws, A q.1 := by
  constructor
  · intro h
    refine ⟨?_, fun q hq => ?_⟩
    · unfold List.Nodup
      rw [List.pairwise_map, List.pairwise_iff_getElem]
      intro i j hi hj hij he
      have := h.1 i j _ _ (List.getElem?_eq_getElem hi) (List.getElem?_eq_getElem hj) he
      omega
    · obtain ⟨k, hk⟩ := List.mem_iff_getElem?.mp hq
      exact h.2 k q hk
  · rintro ⟨h1, h2⟩
    unfold List.Nodup at h1
    rw [List.pairwise_map, List.pairwise_iff_getElem] at h1
    refine ⟨fun i j p q hi hj he => ?_, fun k q hk => h2 q (List.mem_of_getElem? hk)⟩
    obtain ⟨li, ei⟩ := List.getElem?_eq_some_iff.mp hi
    obtain ⟨lj, ej⟩ := List.getElem?_eq_some_iff.mp hj
    rcases Nat.lt_trichotomy i j with h | h | h
    · exact absurd (by rw [ei, ej]; exact he) (h1 i j li lj h)
    · exact h
    · exact absurd (by rw [ei, ej]; exact he.symm) (h1 j i lj li h)
theorem zPperm {D : va_G} {cl : List vw_C} {ws ws' : va_W} {H : Heap} (h : ws.Perm ws') (hP : va_P D cl ws H) : va_P D cl ws' H := zP_mem.mpr (fun q hq => zP_mem.mp hP q (h.mem_iff.mpr hq))
theorem zDperm {A : Nat → Prop} {ws ws' : va_W} (h : ws.Perm ws') (hD : va_D A ws) : va_D A ws' := by
  rw [zD_mem] at hD ⊢
  exact ⟨(h.map _).nodup_iff.mp hD.1, fun q hq => hD.2 q (h.mem_iff.mpr hq)⟩
theorem zKmem {D : va_G} {cl : List vw_C} {tys tys' : List (ClassId × FieldType)} {U : State} (h : ∀ q ∈ tys', q ∈ tys) (hK : va_K D cl tys U) : va_K D cl tys' U := ⟨hK.1, fun k q hk => by
  obtain ⟨j, hj⟩ := List.mem_iff_getElem?.mp (h q (List.mem_of_getElem? hk))
  exact hK.2 j q hj⟩
theorem zmv (X pl : va_W) (c : Nat × va_E) : ((X ++ pl) ++ [c]).Perm ((X ++ [c]) ++ pl) := by
  rw [List.append_assoc, List.append_assoc]
  exact List.Perm.append_left X List.perm_append_comm
abbrev wX (xa : Nat → Nat) (xk : Nat → ClassId) (pv y sv sr : Nat → Int32) (nf tf ef dc : Nat → Option Nat) : va_W := [(xa 0, .inr (4, [.ref (xa 1), .int (pv 1), .ref (xa 2), .ref (xa 4), .ref (xa 5), .ref (xa 6), .ref (xa 7), .int (pv 7)])), (xa 1, .inl (xk 1, 24, .inl y)), (xa 2, .inr (2, [.ref (xa 3), .int (sv 1)])), (xa 3, .inl (xk 3, 24, .inl sr)), (xa 4, .inl (xk 4, 8, .inr (.inr (.inr (.inr nf))))), (xa 5, .inl (xk 5, 8, .inr (.inr (.inr (.inr tf))))), (xa 6, .inl (xk 6, 8, .inr (.inr (.inr (.inr ef))))), (xa 7, .inl (xk 7, 8, .inr (.inr (.inr (.inr dc)))))]
abbrev wX_t (xk : Nat → ClassId) : List (ClassId × FieldType) := [(xk 1, .int), (xk 3, .int), (xk 4, .object RX2), (xk 5, .object RX4), (xk 6, .object RX0), (xk 7, .object RX1)]
abbrev zblk (fa : Nat → Nat) (fk : Nat → ClassId) (fv : Nat → Nat → Int32) : va_W := wN (fa 0) (fa 1) (fk 1) (fv 0) (fv 1) ++ (wT (fa 2) (fa 3) (fk 3) (fv 2) (fv 3) ++ wE (fa 4) (fa 5) (fa 6) (fa 7) (fk 5) (fk 6) (fk 7) (fv 4) (fv 5) (fv 6) (fv 7))
abbrev zblk_t (fk : Nat → ClassId) : List (ClassId × FieldType) := [(fk 1, .int), (fk 3, .int), (fk 5, .int), (fk 6, .int), (fk 7, .int)]
def zpool (fa : Nat → Nat → Nat) (fk : Nat → Nat → ClassId) (fv : Nat → Nat → Nat → Int32) : Nat → va_W
  | 0 => []
  | k + 1 => zblk (fa k) (fk k) (fv k) ++ zpool fa fk fv k
def zpool_t (fk : Nat → Nat → ClassId) : Nat → List (ClassId × FieldType)
  | 0 => []
  | k + 1 => zblk_t (fk k) ++ zpool_t fk k
def zup {α : Type} (f : Nat → α) (k : Nat) (x : α) : Nat → α := fun j => if j = k then x else f j
theorem zup_s {α : Type} (f : Nat → α) (k : Nat) (x : α) : zup f k x k = x := if_pos rfl
theorem zup_n {α : Type} (f : Nat → α) {k j : Nat} (x : α) (h : j ≠ k) : zup f k x j = f j := if_neg h
def zrf (fa : Nat → Nat → Nat) (r k : Nat) : Nat → Option Nat := fun j => if j < k then some (fa j r) else none
theorem zrf_up (fa : Nat → Nat → Nat) (r k : Nat) (g : Nat → Nat) (hk : k < 2 ^ 31) : va_up (zrf fa r k) (nI k).toNatClampNeg (some (g r)) = zrf (zup fa k g) r (k + 1) := by
  rw [nI_clamp hk]
  funext j
  unfold va_up zrf zup
  by_cases h1 : j = k
  · subst h1; simp
  · by_cases h2 : j < k
    · simp [h1, h2, show j < k + 1 by omega]
    · simp [h1, h2, show ¬ j < k + 1 by omega]
theorem zpool_up (fa : Nat → Nat → Nat) (fk : Nat → Nat → ClassId) (fv : Nat → Nat → Nat → Int32) (k : Nat) (g : Nat → Nat) (gk : Nat → ClassId) : ∀ j, j ≤ k → zpool (zup fa k g) (zup fk k gk) fv j = zpool fa fk fv j := by
  intro j
  induction j with
  | zero => intro _; rfl
  | succ j ih =>
    intro h
    simp only [zpool]
    rw [ih (by omega), zup_n fa g (show j ≠ k by omega), zup_n fk gk (show j ≠ k by omega)]
theorem zpool_t_up (fk : Nat → Nat → ClassId) (k : Nat) (gk : Nat → ClassId) : ∀ j, j ≤ k → zpool_t (zup fk k gk) j = zpool_t fk j := by
  intro j
  induction j with
  | zero => intro _; rfl
  | succ j ih =>
    intro h
    simp only [zpool_t]
    rw [ih (by omega), zup_n fk gk (show j ≠ k by omega)]
set_option maxRecDepth 100000 in
set_option maxHeartbeats 8000000 in
theorem zPinit_loop {p : Program} {l : Launch} {e : Env} {s : State} {m : MethodId} {below : List Frame} {meth : Method} {c : Code} {D : va_G} {h : Nat} (G : zG p s m #[Value.ref h] meth c cX5_init RX5 2 none) (hX : zC (va_A [(h, .inr (4, [.null, .int 0, .null, .null, .null, .null, .null, .int 0]))] s.heap.size) s) {xa : Nat → Nat} {xk : Nat → ClassId} (hxa : xa 0 = h) :
    ∀ (n k : Nat), k + n = 8 → ∀ (fa : Nat → Nat → Nat) (fk : Nat → Nat → ClassId) (H : Heap) (locs : List Loc) (ls : Array Slot), va_K D vwCl (wX_t xk ++ zpool_t fk k) s → va_P D vwCl ((wX xa xk (fun _ => 0) (fun _ => 0) (fun _ => 0) (fun _ => 0) (zrf fa 0 k) (zrf fa 2 k) (zrf fa 4 k) (fun _ => none)) ++ zpool fa fk (fun _ _ _ => 0) k) H → va_D (va_A [(h, .inr (4, [.null, .int 0, .null, .null, .null, .null, .null, .int 0]))] s.heap.size) ((wX xa xk (fun _ => 0) (fun _ => 0) (fun _ => 0) (fun _ => 0) (zrf fa 0 k) (zrf fa 2 k) (zrf fa 4 k) (fun _ => none)) ++ zpool fa fk (fun _ _ _ => 0) k) → va_S (va_A [(h, .inr (4, [.null, .int 0, .null, .null, .null, .null, .null, .int 0]))] s.heap.size) s.heap H locs → lv_has ls 2 [(0, .ref (xa 0)), (1, .int (nI k))] → W p l e ({ frames := 3, cells := 71, slots := 1298, locals := 60 } : Room) s m #[Value.ref h] below meth c H locs (7 + 8 * k) (82 + 152 * k) (MQ below (va_Qv (fun (u : (Nat → Nat) × (Nat → ClassId) × (Nat → Nat → Nat) × (Nat → Nat → ClassId)) => u.1 0 = h) (fun u t => va_P D vwCl (wX u.1 u.2.1 (fun _ => 0) (fun _ => 0) (fun _ => 0) (fun _ => 0) (zrf u.2.2.1 0 8) (zrf u.2.2.1 2 8) (zrf u.2.2.1 4 8) (fun _ => none) ++ zpool u.2.2.1 u.2.2.2 (fun _ _ _ => 0) 8) t.heap ∧ va_K D vwCl (wX_t u.2.1 ++ zpool_t u.2.2.2 8) t ∧ va_D (va_A [(h, .inr (4, [.null, .int 0, .null, .null, .null, .null, .null, .int 0]))] s.heap.size) (wX u.1 u.2.1 (fun _ => 0) (fun _ => 0) (fun _ => 0) (fun _ => 0) (zrf u.2.2.1 0 8) (zrf u.2.2.1 2 8) (zrf u.2.2.1 4 8) (fun _ => none) ++ zpool u.2.2.1 u.2.2.2 (fun _ _ _ => 0) 8)) (va_A [(h, .inr (4, [.null, .int 0, .null, .null, .null, .null, .null, .int 0]))] s.heap.size)) #[Value.ref h] s 71 1298 (va_A [(h, .inr (4, [.null, .int 0, .null, .null, .null, .null, .null, .int 0]))] s.heap.size)) (F0 m 71 ls []) := by
  obtain ⟨hx, hb, hr, hml, hown, hw, hlk⟩ := G
  have hA : ∀ q, s.heap.size ≤ q → (va_A [(h, .inr (4, [.null, .int 0, .null, .null, .null, .null, .null, .int 0]))] s.heap.size) q := fun q h => Or.inr h
  intro n
  induction n with
  | zero =>
    intro k hk fa fk H locs ls hK hP hD hS hl
    obtain rfl : k = 8 := by omega
    refine lv_iload_n hx hb dX5_init_71 rfl (lv_at hl 1 rfl) ?_
    refine lv_bipush (v := 8) hx hb dX5_init_72 (by decide) ?_
    refine lv_icmp_ge (tgt := 122) hx hb dX5_init_74 rfl (fun _ => ?_) (fun c1 => absurd (by decide) c1)
    exact W.vret hx hb hr (fun t ht hW => ⟨⟨(xa, xk, fa, fk), rfl, hxa, by rw [ht]; exact hP, va_K.moved hW.alike hK, hD⟩, hS.F ht⟩) hS.2.2 dX5_init_122 hlk
  | succ n ih =>
    intro k hk fa fk H locs ls hK hP hD hS hl
    have hk8 : k < 8 := by omega
    refine lv_iload_n hx hb dX5_init_71 rfl (lv_at hl 1 rfl) ?_
    refine lv_bipush (v := 8) hx hb dX5_init_72 (by decide) ?_
    refine lv_icmp_ge (tgt := 122) hx hb dX5_init_74 rfl (fun c1 => absurd c1 (nI_ge hk8 (by decide))) (fun _ => ?_)
    refine W.widen (k := 7 + 8 * k + 0) (n := 82 + 152 * k + 0) (by omega) (by omega) ?_
    refine lv_aload_n hx hb dX5_init_77 rfl (lv_at hl 0 rfl) ?_
    refine va_get (D := D) (ci := 4) (v := .ref (xa 4)) (C := RX5) (T := TX5) (N := 8) hx hb hw zinX5 hown hK hP 0 rfl rfl 3 (by decide) (hw _ zw460) (fun _ h9 => h9) rfl dX5_init_78 ?_
    refine lv_iload_n hx hb dX5_init_81 rfl (lv_at hl 1 rfl) ?_
    refine va_new (ci := 1) (fs := [.null, .int 0, .int 0, .int 0, .int 0, .int 0, .int 0, .int 0]) (C := RX2) (T := TX2) (N := 8) hx hb hw zinX2 tyX2 tyX2_ok hown (hw _ zw554) (hw _ zw558) (hw _ zw210) hK hP hD hS hA rfl (fun j hj => by rcases j with _ | _ | _ | _ | _ | _ | _ | _ | j <;> first | rfl | omega) (by show 7 + 8 * k + 0 + 1 ≤ 71; omega) (by show 82 + 152 * k + 0 + 8 ≤ 1298; omega) dX5_init_82 (fun qN H hP hD hS => ?_)
    refine W.widen (k := 7 + 8 * k + 1) (n := 82 + 152 * k + 8) (by omega) (by omega) ?_
    have hP : va_P D vwCl ((wX xa xk (fun _ => 0) (fun _ => 0) (fun _ => 0) (fun _ => 0) (zrf fa 0 k) (zrf fa 2 k) (zrf fa 4 k) (fun _ => none) ++ [(qN, .inr (1, [.null, .int 0, .int 0, .int 0, .int 0, .int 0, .int 0, .int 0]))]) ++ zpool fa fk (fun _ _ _ => 0) k) H := zPperm (by first | exact zmv _ _ _ | (rw [← List.append_assoc]; exact zmv _ _ _)) hP
    have hD : va_D (va_A [(h, .inr (4, [.null, .int 0, .null, .null, .null, .null, .null, .int 0]))] s.heap.size) ((wX xa xk (fun _ => 0) (fun _ => 0) (fun _ => 0) (fun _ => 0) (zrf fa 0 k) (zrf fa 2 k) (zrf fa 4 k) (fun _ => none) ++ [(qN, .inr (1, [.null, .int 0, .int 0, .int 0, .int 0, .int 0, .int 0, .int 0]))]) ++ zpool fa fk (fun _ _ _ => 0) k) := zDperm (by first | exact zmv _ _ _ | (rw [← List.append_assoc]; exact zmv _ _ _)) hD
    refine lv_dup hx hb dX5_init_85 rfl ?_
    have hPc := hP.sub (ws' := [(qN, .inr (1, [.null, .int 0, .int 0, .int 0, .int 0, .int 0, .int 0, .int 0]))]) [8] rfl
    have hDc := hD.sub (ws' := [(qN, .inr (1, [.null, .int 0, .int 0, .int 0, .int 0, .int 0, .int 0, .int 0]))]) [8] (by decide) rfl
    have hKc := hK.sub (tys' := []) [] rfl
    have hFc := va_free (wc := [(qN, .inr (1, [.null, .int 0, .int 0, .int 0, .int 0, .int 0, .int 0, .int 0]))]) hD hS hA [8] rfl
    refine va_callv (va_runIN (As := []) (rest := [.ref qN, .int (nI k), .ref (xa 4)]) ⟨hx, hb, hml, hown, hw⟩ (k_N_init l D qN _) ⟨va_cnB 0 hw (zgood zw560) rfl rfl rfl (hX.1 _ zn29) (hw _ zw210) hdX2_init ⟨Nat.le_of_ble_eq_true rfl, Nat.le_of_ble_eq_true rfl⟩, rfl, (hw _ zw559)⟩ (zpre zC_ok hX hS hFc hPc hKc hDc) rfl rfl hl.1 rfl (lv_room (Nat.le_of_ble_eq_true rfl)) dX5_init_86 ⟨by show 7 + 8 * k + 1 + 1 ≤ 71; omega, by show 82 + 152 * k + 8 + 25 ≤ 1298; omega⟩) hS (fun q _ h => hFc q h) hFc (fun u t H1 locs1 ht hvm _ hB hz hk1 hS1 => ?_)
    refine W.widen (k := 7 + 8 * k + 2) (n := 82 + 152 * k + 33) (by omega) (by omega) ?_
    obtain ⟨bN, kN1⟩ := u
    obtain ⟨hP1, hK1, hD1⟩ := hB
    rw [ht] at hP1
    have hK1 := va_K.moved hvm.symm hK1
    obtain ⟨hP, hD⟩ := va_joinQ (X := (wX xa xk (fun _ => 0) (fun _ => 0) (fun _ => 0) (fun _ => 0) (zrf fa 0 k) (zrf fa 2 k) (zrf fa 4 k) (fun _ => none) ++ [(qN, .inr (1, [.null, .int 0, .int 0, .int 0, .int 0, .int 0, .int 0, .int 0]))])) (pl := zpool fa fk (fun _ _ _ => 0) k) (wr := (wX xa xk (fun _ => 0) (fun _ => 0) (fun _ => 0) (fun _ => 0) (zrf fa 0 k) (zrf fa 2 k) (zrf fa 4 k) (fun _ => none))) (w1 := wN qN bN kN1 (fun _ => 0) (fun _ => 0)) hP hD [8] [0, 1, 2, 3, 4, 5, 6, 7] rfl rfl (by decide) (by decide) hk1 hFc hP1 hD1
    have hK := hK.app hK1
    clear hP1 hD1 hK1 hPc hDc hKc hFc
    have hS := hS1
    have hP : va_P D vwCl ((wX xa xk (fun _ => 0) (fun _ => 0) (fun _ => 0) (fun _ => 0) (zrf fa 0 k) (zrf fa 2 k) (zrf fa 4 k) (fun _ => none) ++ (wN qN bN kN1 (fun _ => 0) (fun _ => 0))) ++ zpool fa fk (fun _ _ _ => 0) k) H1 := by first | exact hP | (rw [← List.append_assoc]; exact hP)
    have hD : va_D (va_A [(h, .inr (4, [.null, .int 0, .null, .null, .null, .null, .null, .int 0]))] s.heap.size) ((wX xa xk (fun _ => 0) (fun _ => 0) (fun _ => 0) (fun _ => 0) (zrf fa 0 k) (zrf fa 2 k) (zrf fa 4 k) (fun _ => none) ++ (wN qN bN kN1 (fun _ => 0) (fun _ => 0))) ++ zpool fa fk (fun _ _ _ => 0) k) := by first | exact hD | (rw [← List.append_assoc]; exact hD)
    refine va_astq (i := nI k) (f := (zrf fa 0 k)) (n := 8) (r := (RX2, TX2, 8)) hx hb hK hP hD hS 4 2 8 1 rfl rfl rfl rfl (vp_in_nI hk8 (by decide)) dX5_init_89 (fun H locs hP hD hS => ?_)
    have hP : va_P D vwCl ((wX xa xk (fun _ => 0) (fun _ => 0) (fun _ => 0) (fun _ => 0) (va_up (zrf fa 0 k) (nI k).toNatClampNeg (some qN)) (zrf fa 2 k) (zrf fa 4 k) (fun _ => none) ++ (wN qN bN kN1 (fun _ => 0) (fun _ => 0))) ++ zpool fa fk (fun _ _ _ => 0) k) H := hP
    have hD : va_D (va_A [(h, .inr (4, [.null, .int 0, .null, .null, .null, .null, .null, .int 0]))] s.heap.size) ((wX xa xk (fun _ => 0) (fun _ => 0) (fun _ => 0) (fun _ => 0) (va_up (zrf fa 0 k) (nI k).toNatClampNeg (some qN)) (zrf fa 2 k) (zrf fa 4 k) (fun _ => none) ++ (wN qN bN kN1 (fun _ => 0) (fun _ => 0))) ++ zpool fa fk (fun _ _ _ => 0) k) := hD
    refine lv_aload_n hx hb dX5_init_90 rfl (lv_at hl 0 rfl) ?_
    refine va_get (D := D) (ci := 4) (v := .ref (xa 5)) (C := RX5) (T := TX5) (N := 8) hx hb hw zinX5 hown hK hP 0 rfl rfl 4 (by decide) (hw _ zw466) (fun _ h9 => h9) rfl dX5_init_91 ?_
    refine lv_iload_n hx hb dX5_init_94 rfl (lv_at hl 1 rfl) ?_
    refine va_new (ci := 3) (fs := [.null, .int 0, .int 0, .int 0, .int 0]) (C := RX4) (T := TX4) (N := 5) hx hb hw zinX4 tyX4 tyX4_ok hown (hw _ zw555) (hw _ zw561) (hw _ zw402) hK hP hD hS hA rfl (fun j hj => by rcases j with _ | _ | _ | _ | _ | j <;> first | rfl | omega) (by show 7 + 8 * k + 2 + 1 ≤ 71; omega) (by show 82 + 152 * k + 33 + 5 ≤ 1298; omega) dX5_init_95 (fun qT H hP hD hS => ?_)
    refine W.widen (k := 7 + 8 * k + 3) (n := 82 + 152 * k + 38) (by omega) (by omega) ?_
    have hP : va_P D vwCl ((wX xa xk (fun _ => 0) (fun _ => 0) (fun _ => 0) (fun _ => 0) (va_up (zrf fa 0 k) (nI k).toNatClampNeg (some qN)) (zrf fa 2 k) (zrf fa 4 k) (fun _ => none) ++ ((wN qN bN kN1 (fun _ => 0) (fun _ => 0)) ++ [(qT, .inr (3, [.null, .int 0, .int 0, .int 0, .int 0]))])) ++ zpool fa fk (fun _ _ _ => 0) k) H := zPperm (by first | exact zmv _ _ _ | (rw [← List.append_assoc]; exact zmv _ _ _)) hP
    have hD : va_D (va_A [(h, .inr (4, [.null, .int 0, .null, .null, .null, .null, .null, .int 0]))] s.heap.size) ((wX xa xk (fun _ => 0) (fun _ => 0) (fun _ => 0) (fun _ => 0) (va_up (zrf fa 0 k) (nI k).toNatClampNeg (some qN)) (zrf fa 2 k) (zrf fa 4 k) (fun _ => none) ++ ((wN qN bN kN1 (fun _ => 0) (fun _ => 0)) ++ [(qT, .inr (3, [.null, .int 0, .int 0, .int 0, .int 0]))])) ++ zpool fa fk (fun _ _ _ => 0) k) := zDperm (by first | exact zmv _ _ _ | (rw [← List.append_assoc]; exact zmv _ _ _)) hD
    refine lv_dup hx hb dX5_init_98 rfl ?_
    have hPc := hP.sub (ws' := [(qT, .inr (3, [.null, .int 0, .int 0, .int 0, .int 0]))]) [10] rfl
    have hDc := hD.sub (ws' := [(qT, .inr (3, [.null, .int 0, .int 0, .int 0, .int 0]))]) [10] (by decide) rfl
    have hKc := hK.sub (tys' := []) [] rfl
    have hFc := va_free (wc := [(qT, .inr (3, [.null, .int 0, .int 0, .int 0, .int 0]))]) hD hS hA [10] rfl
    refine va_callv (va_runIN (As := []) (rest := [.ref qT, .int (nI k), .ref (xa 5)]) ⟨hx, hb, hml, hown, hw⟩ (k_T_init l D qT _) ⟨va_cnB 0 hw (zgood zw563) rfl rfl rfl (hX.1 _ zn30) (hw _ zw402) hdX4_init ⟨Nat.le_of_ble_eq_true rfl, Nat.le_of_ble_eq_true rfl⟩, rfl, (hw _ zw562)⟩ (zpre zC_ok hX hS hFc hPc hKc hDc) rfl rfl hl.1 rfl (lv_room (Nat.le_of_ble_eq_true rfl)) dX5_init_99 ⟨by show 7 + 8 * k + 3 + 1 ≤ 71; omega, by show 82 + 152 * k + 38 + 25 ≤ 1298; omega⟩) hS (fun q _ h => hFc q h) hFc (fun u t H1 locs1 ht hvm _ hB hz hk1 hS1 => ?_)
    refine W.widen (k := 7 + 8 * k + 4) (n := 82 + 152 * k + 63) (by omega) (by omega) ?_
    obtain ⟨bT, kT1⟩ := u
    obtain ⟨hP1, hK1, hD1⟩ := hB
    rw [ht] at hP1
    have hK1 := va_K.moved hvm.symm hK1
    obtain ⟨hP, hD⟩ := va_joinQ (X := (wX xa xk (fun _ => 0) (fun _ => 0) (fun _ => 0) (fun _ => 0) (va_up (zrf fa 0 k) (nI k).toNatClampNeg (some qN)) (zrf fa 2 k) (zrf fa 4 k) (fun _ => none) ++ ((wN qN bN kN1 (fun _ => 0) (fun _ => 0)) ++ [(qT, .inr (3, [.null, .int 0, .int 0, .int 0, .int 0]))]))) (pl := zpool fa fk (fun _ _ _ => 0) k) (wr := (wX xa xk (fun _ => 0) (fun _ => 0) (fun _ => 0) (fun _ => 0) (va_up (zrf fa 0 k) (nI k).toNatClampNeg (some qN)) (zrf fa 2 k) (zrf fa 4 k) (fun _ => none) ++ (wN qN bN kN1 (fun _ => 0) (fun _ => 0)))) (w1 := wT qT bT kT1 (fun _ => 0) (fun _ => 0)) hP hD [10] [0, 1, 2, 3, 4, 5, 6, 7, 8, 9] rfl rfl (by decide) (by decide) hk1 hFc hP1 hD1
    have hK := hK.app hK1
    clear hP1 hD1 hK1 hPc hDc hKc hFc
    have hS := hS1
    have hP : va_P D vwCl ((wX xa xk (fun _ => 0) (fun _ => 0) (fun _ => 0) (fun _ => 0) (va_up (zrf fa 0 k) (nI k).toNatClampNeg (some qN)) (zrf fa 2 k) (zrf fa 4 k) (fun _ => none) ++ ((wN qN bN kN1 (fun _ => 0) (fun _ => 0)) ++ wT qT bT kT1 (fun _ => 0) (fun _ => 0))) ++ zpool fa fk (fun _ _ _ => 0) k) H1 := by first | exact hP | (rw [← List.append_assoc]; exact hP)
    have hD : va_D (va_A [(h, .inr (4, [.null, .int 0, .null, .null, .null, .null, .null, .int 0]))] s.heap.size) ((wX xa xk (fun _ => 0) (fun _ => 0) (fun _ => 0) (fun _ => 0) (va_up (zrf fa 0 k) (nI k).toNatClampNeg (some qN)) (zrf fa 2 k) (zrf fa 4 k) (fun _ => none) ++ ((wN qN bN kN1 (fun _ => 0) (fun _ => 0)) ++ wT qT bT kT1 (fun _ => 0) (fun _ => 0))) ++ zpool fa fk (fun _ _ _ => 0) k) := by first | exact hD | (rw [← List.append_assoc]; exact hD)
    refine va_astq (i := nI k) (f := (zrf fa 2 k)) (n := 8) (r := (RX4, TX4, 5)) hx hb hK hP hD hS 5 3 10 3 rfl rfl rfl rfl (vp_in_nI hk8 (by decide)) dX5_init_102 (fun H locs hP hD hS => ?_)
    have hP : va_P D vwCl ((wX xa xk (fun _ => 0) (fun _ => 0) (fun _ => 0) (fun _ => 0) (va_up (zrf fa 0 k) (nI k).toNatClampNeg (some qN)) (va_up (zrf fa 2 k) (nI k).toNatClampNeg (some qT)) (zrf fa 4 k) (fun _ => none) ++ ((wN qN bN kN1 (fun _ => 0) (fun _ => 0)) ++ wT qT bT kT1 (fun _ => 0) (fun _ => 0))) ++ zpool fa fk (fun _ _ _ => 0) k) H := hP
    have hD : va_D (va_A [(h, .inr (4, [.null, .int 0, .null, .null, .null, .null, .null, .int 0]))] s.heap.size) ((wX xa xk (fun _ => 0) (fun _ => 0) (fun _ => 0) (fun _ => 0) (va_up (zrf fa 0 k) (nI k).toNatClampNeg (some qN)) (va_up (zrf fa 2 k) (nI k).toNatClampNeg (some qT)) (zrf fa 4 k) (fun _ => none) ++ ((wN qN bN kN1 (fun _ => 0) (fun _ => 0)) ++ wT qT bT kT1 (fun _ => 0) (fun _ => 0))) ++ zpool fa fk (fun _ _ _ => 0) k) := hD
    refine lv_aload_n hx hb dX5_init_103 rfl (lv_at hl 0 rfl) ?_
    refine va_get (D := D) (ci := 4) (v := .ref (xa 6)) (C := RX5) (T := TX5) (N := 8) hx hb hw zinX5 hown hK hP 0 rfl rfl 5 (by decide) (hw _ zw471) (fun _ h9 => h9) rfl dX5_init_104 ?_
    refine lv_iload_n hx hb dX5_init_107 rfl (lv_at hl 1 rfl) ?_
    refine va_new (ci := 0) (fs := [.null, .int 0, .int 0, .int 0, .int 0, .null, .null, .int 0, .int 0, .int 0, .int 0, .int 0, .int 0, .int 0, .int 0, .int 0]) (C := RX0) (T := TX0) (N := 16) hx hb hw zinX0 tyX0 tyX0_ok hown (hw _ zw556) (hw _ zw564) (hw _ zw259) hK hP hD hS hA rfl (fun j hj => by rcases j with _ | _ | _ | _ | _ | _ | _ | _ | _ | _ | _ | _ | _ | _ | _ | _ | j <;> first | rfl | omega) (by show 7 + 8 * k + 4 + 1 ≤ 71; omega) (by show 82 + 152 * k + 63 + 16 ≤ 1298; omega) dX5_init_108 (fun qE H hP hD hS => ?_)
    refine W.widen (k := 7 + 8 * k + 5) (n := 82 + 152 * k + 79) (by omega) (by omega) ?_
    have hP : va_P D vwCl ((wX xa xk (fun _ => 0) (fun _ => 0) (fun _ => 0) (fun _ => 0) (va_up (zrf fa 0 k) (nI k).toNatClampNeg (some qN)) (va_up (zrf fa 2 k) (nI k).toNatClampNeg (some qT)) (zrf fa 4 k) (fun _ => none) ++ (((wN qN bN kN1 (fun _ => 0) (fun _ => 0)) ++ wT qT bT kT1 (fun _ => 0) (fun _ => 0)) ++ [(qE, .inr (0, [.null, .int 0, .int 0, .int 0, .int 0, .null, .null, .int 0, .int 0, .int 0, .int 0, .int 0, .int 0, .int 0, .int 0, .int 0]))])) ++ zpool fa fk (fun _ _ _ => 0) k) H := zPperm (by first | exact zmv _ _ _ | (rw [← List.append_assoc]; exact zmv _ _ _)) hP
    have hD : va_D (va_A [(h, .inr (4, [.null, .int 0, .null, .null, .null, .null, .null, .int 0]))] s.heap.size) ((wX xa xk (fun _ => 0) (fun _ => 0) (fun _ => 0) (fun _ => 0) (va_up (zrf fa 0 k) (nI k).toNatClampNeg (some qN)) (va_up (zrf fa 2 k) (nI k).toNatClampNeg (some qT)) (zrf fa 4 k) (fun _ => none) ++ (((wN qN bN kN1 (fun _ => 0) (fun _ => 0)) ++ wT qT bT kT1 (fun _ => 0) (fun _ => 0)) ++ [(qE, .inr (0, [.null, .int 0, .int 0, .int 0, .int 0, .null, .null, .int 0, .int 0, .int 0, .int 0, .int 0, .int 0, .int 0, .int 0, .int 0]))])) ++ zpool fa fk (fun _ _ _ => 0) k) := zDperm (by first | exact zmv _ _ _ | (rw [← List.append_assoc]; exact zmv _ _ _)) hD
    refine lv_dup hx hb dX5_init_111 rfl ?_
    have hPc := hP.sub (ws' := [(qE, .inr (0, [.null, .int 0, .int 0, .int 0, .int 0, .null, .null, .int 0, .int 0, .int 0, .int 0, .int 0, .int 0, .int 0, .int 0, .int 0]))]) [12] rfl
    have hDc := hD.sub (ws' := [(qE, .inr (0, [.null, .int 0, .int 0, .int 0, .int 0, .null, .null, .int 0, .int 0, .int 0, .int 0, .int 0, .int 0, .int 0, .int 0, .int 0]))]) [12] (by decide) rfl
    have hKc := hK.sub (tys' := []) [] rfl
    have hFc := va_free (wc := [(qE, .inr (0, [.null, .int 0, .int 0, .int 0, .int 0, .null, .null, .int 0, .int 0, .int 0, .int 0, .int 0, .int 0, .int 0, .int 0, .int 0]))]) hD hS hA [12] rfl
    refine va_callv (va_runIN (As := []) (rest := [.ref qE, .int (nI k), .ref (xa 6)]) ⟨hx, hb, hml, hown, hw⟩ (k_E_init l D qE _) ⟨va_cnB 0 hw (zgood zw566) rfl rfl rfl (hX.1 _ zn31) (hw _ zw259) hdX0_init ⟨Nat.le_of_ble_eq_true rfl, Nat.le_of_ble_eq_true rfl⟩, rfl, (hw _ zw565)⟩ (zpre zC_ok hX hS hFc hPc hKc hDc) rfl rfl hl.1 rfl (lv_room (Nat.le_of_ble_eq_true rfl)) dX5_init_112 ⟨by show 7 + 8 * k + 5 + 3 ≤ 71; omega, by show 82 + 152 * k + 79 + 73 ≤ 1298; omega⟩) hS (fun q _ h => hFc q h) hFc (fun u t H1 locs1 ht hvm _ hB hz hk1 hS1 => ?_)
    refine W.widen (k := 7 + 8 * k + 8) (n := 82 + 152 * k + 152) (by omega) (by omega) ?_
    obtain ⟨⟨bE, kE1⟩, ⟨rE, kE2⟩, ⟨pE, kE3⟩⟩ := u
    obtain ⟨hP1, hK1, hD1⟩ := hB
    rw [ht] at hP1
    have hK1 := va_K.moved hvm.symm hK1
    obtain ⟨hP, hD⟩ := va_joinQ (X := (wX xa xk (fun _ => 0) (fun _ => 0) (fun _ => 0) (fun _ => 0) (va_up (zrf fa 0 k) (nI k).toNatClampNeg (some qN)) (va_up (zrf fa 2 k) (nI k).toNatClampNeg (some qT)) (zrf fa 4 k) (fun _ => none) ++ (((wN qN bN kN1 (fun _ => 0) (fun _ => 0)) ++ wT qT bT kT1 (fun _ => 0) (fun _ => 0)) ++ [(qE, .inr (0, [.null, .int 0, .int 0, .int 0, .int 0, .null, .null, .int 0, .int 0, .int 0, .int 0, .int 0, .int 0, .int 0, .int 0, .int 0]))]))) (pl := zpool fa fk (fun _ _ _ => 0) k) (wr := (wX xa xk (fun _ => 0) (fun _ => 0) (fun _ => 0) (fun _ => 0) (va_up (zrf fa 0 k) (nI k).toNatClampNeg (some qN)) (va_up (zrf fa 2 k) (nI k).toNatClampNeg (some qT)) (zrf fa 4 k) (fun _ => none) ++ ((wN qN bN kN1 (fun _ => 0) (fun _ => 0)) ++ wT qT bT kT1 (fun _ => 0) (fun _ => 0)))) (w1 := wE qE bE rE pE kE1 kE2 kE3 (fun _ => 0) (fun _ => 0) (fun _ => 0) (fun _ => 0)) hP hD [12] [0, 1, 2, 3, 4, 5, 6, 7, 8, 9, 10, 11] rfl rfl (by decide) (by decide) hk1 hFc hP1 hD1
    have hK := hK.app hK1
    clear hP1 hD1 hK1 hPc hDc hKc hFc
    have hS := hS1
    have hP : va_P D vwCl ((wX xa xk (fun _ => 0) (fun _ => 0) (fun _ => 0) (fun _ => 0) (va_up (zrf fa 0 k) (nI k).toNatClampNeg (some qN)) (va_up (zrf fa 2 k) (nI k).toNatClampNeg (some qT)) (zrf fa 4 k) (fun _ => none) ++ (((wN qN bN kN1 (fun _ => 0) (fun _ => 0)) ++ wT qT bT kT1 (fun _ => 0) (fun _ => 0)) ++ wE qE bE rE pE kE1 kE2 kE3 (fun _ => 0) (fun _ => 0) (fun _ => 0) (fun _ => 0))) ++ zpool fa fk (fun _ _ _ => 0) k) H1 := by first | exact hP | (rw [← List.append_assoc]; exact hP)
    have hD : va_D (va_A [(h, .inr (4, [.null, .int 0, .null, .null, .null, .null, .null, .int 0]))] s.heap.size) ((wX xa xk (fun _ => 0) (fun _ => 0) (fun _ => 0) (fun _ => 0) (va_up (zrf fa 0 k) (nI k).toNatClampNeg (some qN)) (va_up (zrf fa 2 k) (nI k).toNatClampNeg (some qT)) (zrf fa 4 k) (fun _ => none) ++ (((wN qN bN kN1 (fun _ => 0) (fun _ => 0)) ++ wT qT bT kT1 (fun _ => 0) (fun _ => 0)) ++ wE qE bE rE pE kE1 kE2 kE3 (fun _ => 0) (fun _ => 0) (fun _ => 0) (fun _ => 0))) ++ zpool fa fk (fun _ _ _ => 0) k) := by first | exact hD | (rw [← List.append_assoc]; exact hD)
    refine va_astq (i := nI k) (f := (zrf fa 4 k)) (n := 8) (r := (RX0, TX0, 16)) hx hb hK hP hD hS 6 4 12 0 rfl rfl rfl rfl (vp_in_nI hk8 (by decide)) dX5_init_115 (fun H locs hP hD hS => ?_)
    have hP : va_P D vwCl ((wX xa xk (fun _ => 0) (fun _ => 0) (fun _ => 0) (fun _ => 0) (va_up (zrf fa 0 k) (nI k).toNatClampNeg (some qN)) (va_up (zrf fa 2 k) (nI k).toNatClampNeg (some qT)) (va_up (zrf fa 4 k) (nI k).toNatClampNeg (some qE)) (fun _ => none) ++ (((wN qN bN kN1 (fun _ => 0) (fun _ => 0)) ++ wT qT bT kT1 (fun _ => 0) (fun _ => 0)) ++ wE qE bE rE pE kE1 kE2 kE3 (fun _ => 0) (fun _ => 0) (fun _ => 0) (fun _ => 0))) ++ zpool fa fk (fun _ _ _ => 0) k) H := hP
    have hD : va_D (va_A [(h, .inr (4, [.null, .int 0, .null, .null, .null, .null, .null, .int 0]))] s.heap.size) ((wX xa xk (fun _ => 0) (fun _ => 0) (fun _ => 0) (fun _ => 0) (va_up (zrf fa 0 k) (nI k).toNatClampNeg (some qN)) (va_up (zrf fa 2 k) (nI k).toNatClampNeg (some qT)) (va_up (zrf fa 4 k) (nI k).toNatClampNeg (some qE)) (fun _ => none) ++ (((wN qN bN kN1 (fun _ => 0) (fun _ => 0)) ++ wT qT bT kT1 (fun _ => 0) (fun _ => 0)) ++ wE qE bE rE pE kE1 kE2 kE3 (fun _ => 0) (fun _ => 0) (fun _ => 0) (fun _ => 0))) ++ zpool fa fk (fun _ _ _ => 0) k) := hD
    refine lv_iinc (k := 1) (v := nI (k + 1)) (lv' := [(1, .int (nI (k + 1))), (0, .ref (xa 0))]) hx hb dX5_init_116 hl rfl (nI_succ k).symm (by decide) rfl (fun ls hl => ?_)
    refine lv_goto (tgt := 71) hx hb dX5_init_119 rfl ?_
    have e1 := zrf_up fa 0 k (fun r => ([qN, bN, qT, bT, qE, bE, rE, pE] : List Nat).getD r 0) (by omega)
    have e2 := zrf_up fa 2 k (fun r => ([qN, bN, qT, bT, qE, bE, rE, pE] : List Nat).getD r 0) (by omega)
    have e3 := zrf_up fa 4 k (fun r => ([qN, bN, qT, bT, qE, bE, rE, pE] : List Nat).getD r 0) (by omega)
    have eP : zpool (zup fa k (fun r => ([qN, bN, qT, bT, qE, bE, rE, pE] : List Nat).getD r 0)) (zup fk k (fun r => ([kN1, kN1, kN1, kT1, kT1, kE1, kE2, kE3] : List ClassId).getD r kN1)) (fun _ _ _ => 0) (k + 1) = zblk (fun r => ([qN, bN, qT, bT, qE, bE, rE, pE] : List Nat).getD r 0) (fun r => ([kN1, kN1, kN1, kT1, kT1, kE1, kE2, kE3] : List ClassId).getD r kN1) (fun _ _ => 0) ++ zpool fa fk (fun _ _ _ => 0) k := by simp only [zpool]; rw [zpool_up fa fk _ k _ _ k (Nat.le_refl _), zup_s, zup_s]
    have eT : zpool_t (zup fk k (fun r => ([kN1, kN1, kN1, kT1, kT1, kE1, kE2, kE3] : List ClassId).getD r kN1)) (k + 1) = zblk_t (fun r => ([kN1, kN1, kN1, kT1, kT1, kE1, kE2, kE3] : List ClassId).getD r kN1) ++ zpool_t fk k := by simp only [zpool_t]; rw [zpool_t_up fk k _ k (Nat.le_refl _), zup_s]
    refine ih (k + 1) (by omega) (zup fa k (fun r => ([qN, bN, qT, bT, qE, bE, rE, pE] : List Nat).getD r 0)) (zup fk k (fun r => ([kN1, kN1, kN1, kT1, kT1, kE1, kE2, kE3] : List ClassId).getD r kN1)) H _ ls ?_ ?_ ?_ hS (lv_sub hl [1, 0] rfl)
    · rw [eT]
      refine zKmem (fun q hq => ?_) hK
      rcases List.mem_append.mp hq with hq | hq
      · exact List.mem_append_left _ (List.mem_append_left _ (List.mem_append_left _ (List.mem_append_left _ hq)))
      · rcases List.mem_append.mp hq with hq | hq
        · simp only [List.mem_cons, List.not_mem_nil, or_false] at hq
          rcases hq with hq | hq | hq | hq | hq
          · exact List.mem_append_left _ (List.mem_append_left _ (List.mem_append_right _ (by rw [hq]; exact List.mem_cons_self)))
          · exact List.mem_append_left _ (List.mem_append_right _ (by rw [hq]; exact List.mem_cons_self))
          · exact List.mem_append_right _ (by rw [hq]; exact List.mem_cons_self)
          · exact List.mem_append_right _ (by rw [hq]; exact List.mem_cons_of_mem _ List.mem_cons_self)
          · exact List.mem_append_right _ (by rw [hq]; exact List.mem_cons_of_mem _ (List.mem_cons_of_mem _ List.mem_cons_self))
        · exact List.mem_append_left _ (List.mem_append_left _ (List.mem_append_left _ (List.mem_append_right _ hq)))
    · rw [eP, ← e1, ← e2, ← e3]
      simp only [List.append_assoc] at hP ⊢
      exact hP
    · rw [eP, ← e1, ← e2, ← e3]
      simp only [List.append_assoc] at hD ⊢
      exact hD
set_option maxRecDepth 100000 in
set_option maxHeartbeats 8000000 in
theorem k_P_init (l : Launch) (D : va_G) (h sz : Nat) : Met l yX5_init (Cond.code yX5_init cX5_init 2 none :: zBIG) ({ frames := 3, cells := 71, slots := 1298, locals := 60 } : Room) (va_Pc [.ref h] (zP zC D vwCl [] [(h, .inr (4, [.null, .int 0, .null, .null, .null, .null, .null, .int 0]))] sz)) (va_Qv (fun (u : (Nat → Nat) × (Nat → ClassId) × (Nat → Nat → Nat) × (Nat → Nat → ClassId)) => u.1 0 = h) (fun u t => va_P D vwCl (wX u.1 u.2.1 (fun _ => 0) (fun _ => 0) (fun _ => 0) (fun _ => 0) (zrf u.2.2.1 0 8) (zrf u.2.2.1 2 8) (zrf u.2.2.1 4 8) (fun _ => none) ++ zpool u.2.2.1 u.2.2.2 (fun _ _ _ => 0) 8) t.heap ∧ va_K D vwCl (wX_t u.2.1 ++ zpool_t u.2.2.2 8) t ∧ va_D (va_A [(h, .inr (4, [.null, .int 0, .null, .null, .null, .null, .null, .int 0]))] sz) (wX u.1 u.2.1 (fun _ => 0) (fun _ => 0) (fun _ => 0) (fun _ => 0) (zrf u.2.2.1 0 8) (zrf u.2.2.1 2 8) (zrf u.2.2.1 4 8) (fun _ => none) ++ zpool u.2.2.1 u.2.2.2 (fun _ _ _ => 0) 8)) (va_A [(h, .inr (4, [.null, .int 0, .null, .null, .null, .null, .null, .int 0]))] sz)) 71 1298 (va_A [(h, .inr (4, [.null, .int 0, .null, .null, .null, .null, .null, .int 0]))] sz) := by
  refine zEnterI RX5 [.ref h] (by decide) rfl (Nat.le_of_ble_eq_true rfl) (fun p e s m below meth c ls hin G hK hX hP hD hsz hl => ?_)
  subst hsz
  have hl : lv_has ls 2 [(0, .ref h)] := hl
  have hS : va_S (va_A [(h, .inr (4, [.null, .int 0, .null, .null, .null, .null, .null, .int 0]))] s.heap.size) s.heap s.heap [] := va_S.rf
  have hA : ∀ q, s.heap.size ≤ q → (va_A [(h, .inr (4, [.null, .int 0, .null, .null, .null, .null, .null, .int 0]))] s.heap.size) q := fun q h => Or.inr h
  have G0 := G
  obtain ⟨hx, hb, hr, hml, hown, hw, hlk⟩ := G
  refine lv_aload_n hx hb dX5_init_0 rfl (lv_at hl 0 rfl) ?_
  refine W.objInit hx hb hown (hw _ zw549) (hw _ zw541) (hw _ zw542) rfl (by rw [hml]; exact hl.1) rfl dX5_init_1 (Nat.le_of_ble_eq_true rfl) (Nat.le_of_ble_eq_true rfl) ?_
  refine W.eq (g2 := F0 m 4 ls []) rfl ?_
  refine lv_aload_n hx hb dX5_init_4 rfl (lv_at hl 0 rfl) ?_
  refine lv_bipush (v := 24) hx hb dX5_init_5 (by decide) ?_
  refine va_newa (atype := .int) (ty := .int) (n := 24) (N' := 24) (a0 := (24, .inl (fun _ => 0))) hx hb (hw _ zw543) rfl hK hP hD hS hA (fun _ => rfl) (by decide) (by decide) (by decide) (Nat.le_of_ble_eq_true rfl) (Nat.le_of_ble_eq_true rfl) dX5_init_7 (fun q1 k1 H hK hP hD hS => ?_)
  refine W.widen (k := 1) (n := 24) (by decide) (by decide) ?_
  have hP : va_P D vwCl [(h, .inr (4, [.null, .int 0, .null, .null, .null, .null, .null, .int 0])), (q1, .inl (k1, 24, .inl (fun _ => 0)))] H := hP
  have hD : va_D (va_A [(h, .inr (4, [.null, .int 0, .null, .null, .null, .null, .null, .int 0]))] s.heap.size) [(h, .inr (4, [.null, .int 0, .null, .null, .null, .null, .null, .int 0])), (q1, .inl (k1, 24, .inl (fun _ => 0)))] := hD
  have hK : va_K D vwCl [(k1, .int)] s := hK
  refine va_putF (D := D) (ci := 4) (v := .ref q1) (ty := .array .int) (C := RX5) (T := TX5) (N := 8) hx hb hw zinX5 tyX5 tyX5_ok nmX5 hown hK hP hD hS 0 rfl rfl 0 (by decide) (hw _ zw419) (fun _ h9 => h9) rfl hin rfl (by decide +kernel) rfl rfl (Nat.le_of_ble_eq_true rfl) dX5_init_9 (fun H locs hP hD hS => ?_)
  have hP : va_P D vwCl [(h, .inr (4, [.ref q1, .int 0, .null, .null, .null, .null, .null, .int 0])), (q1, .inl (k1, 24, .inl (fun _ => 0)))] H := hP
  have hD : va_D (va_A [(h, .inr (4, [.null, .int 0, .null, .null, .null, .null, .null, .int 0]))] s.heap.size) [(h, .inr (4, [.ref q1, .int 0, .null, .null, .null, .null, .null, .int 0])), (q1, .inl (k1, 24, .inl (fun _ => 0)))] := hD
  refine lv_aload_n hx hb dX5_init_12 rfl (lv_at hl 0 rfl) ?_
  refine lv_iconst (v := 0) hx hb dX5_init_13 (by decide) ?_
  refine va_put (D := D) (ci := 4) (v := .int 0) (ty := .int) (C := RX5) (T := TX5) (N := 8) hx hb hw zinX5 tyX5 tyX5_ok nmX5 hown hK hP hD hS 0 rfl rfl 1 (by decide) (hw _ zw418) (fun _ h9 => h9) rfl (by decide +kernel) rfl rfl (Nat.le_of_ble_eq_true rfl) dX5_init_14 (fun H locs hP hD hS => ?_)
  have hP : va_P D vwCl [(h, .inr (4, [.ref q1, .int 0, .null, .null, .null, .null, .null, .int 0])), (q1, .inl (k1, 24, .inl (fun _ => 0)))] H := hP
  have hD : va_D (va_A [(h, .inr (4, [.null, .int 0, .null, .null, .null, .null, .null, .int 0]))] s.heap.size) [(h, .inr (4, [.ref q1, .int 0, .null, .null, .null, .null, .null, .int 0])), (q1, .inl (k1, 24, .inl (fun _ => 0)))] := hD
  refine lv_aload_n hx hb dX5_init_17 rfl (lv_at hl 0 rfl) ?_
  refine va_new (ci := 2) (fs := [.null, .int 0]) (C := RX3) (T := TX3) (N := 2) hx hb hw zinX3 tyX3 tyX3_ok hown (hw _ zw550) (hw _ zw551) (hw _ zw179) hK hP hD hS hA rfl (fun j hj => by rcases j with _ | _ | j <;> first | rfl | omega) (Nat.le_of_ble_eq_true rfl) (Nat.le_of_ble_eq_true rfl) dX5_init_18 (fun q2 H hP hD hS => ?_)
  refine W.widen (k := 2) (n := 26) (by decide) (by decide) ?_
  have hP : va_P D vwCl [(h, .inr (4, [.ref q1, .int 0, .null, .null, .null, .null, .null, .int 0])), (q1, .inl (k1, 24, .inl (fun _ => 0))), (q2, .inr (2, [.null, .int 0]))] H := hP
  have hD : va_D (va_A [(h, .inr (4, [.null, .int 0, .null, .null, .null, .null, .null, .int 0]))] s.heap.size) [(h, .inr (4, [.ref q1, .int 0, .null, .null, .null, .null, .null, .int 0])), (q1, .inl (k1, 24, .inl (fun _ => 0))), (q2, .inr (2, [.null, .int 0]))] := hD
  refine lv_dup hx hb dX5_init_21 rfl ?_
  have hPc := hP.sub (ws' := [(q2, .inr (2, [.null, .int 0]))]) [2] rfl
  have hDc := hD.sub (ws' := [(q2, .inr (2, [.null, .int 0]))]) [2] (by decide) rfl
  have hKc := hK.sub (tys' := []) [] rfl
  have hFc := va_free (wc := [(q2, .inr (2, [.null, .int 0]))]) hD hS hA [2] rfl
  refine va_callv (va_runIN (As := []) (rest := [.ref q2, .ref h]) ⟨hx, hb, hml, hown, hw⟩ (k_S_init l D q2 _) ⟨va_cnB 0 hw (zgood zw553) rfl rfl rfl (hX.1 _ zn24) (hw _ zw179) hdX3_init ⟨(Nat.le_of_ble_eq_true rfl), (Nat.le_of_ble_eq_true rfl)⟩, rfl, (hw _ zw552)⟩ (zpre zC_ok hX hS hFc hPc hKc hDc) rfl rfl hl.1 rfl (lv_room (Nat.le_of_ble_eq_true rfl)) dX5_init_22 ⟨(Nat.le_of_ble_eq_true rfl), (Nat.le_of_ble_eq_true rfl)⟩) hS (fun q _ h => hFc q h) hFc (fun u t H1 locs1 ht hvm _ hB hz hk1 hS1 => ?_)
  refine W.widen (k := 3) (n := 50) (by decide) (by decide) ?_
  obtain ⟨q3, k3⟩ := u
  obtain ⟨hP1, hK1, hD1⟩ := hB
  rw [ht] at hP1
  have hK1 := va_K.moved hvm.symm hK1
  obtain ⟨hP, hD⟩ := va_join (wr := [(h, .inr (4, [.ref q1, .int 0, .null, .null, .null, .null, .null, .int 0])), (q1, .inl (k1, 24, .inl (fun _ => 0)))]) (w1 := wS q2 q3 k3 (fun _ => 0) (fun _ => 0)) hP hD [2] [0, 1] rfl rfl (by decide) (by decide) hk1 hFc hP1 hD1
  have hK := hK.app hK1
  have hS := hS1
  generalize H1 = H at hP hS ⊢
  have hP : va_P D vwCl [(h, .inr (4, [.ref q1, .int 0, .null, .null, .null, .null, .null, .int 0])), (q1, .inl (k1, 24, .inl (fun _ => 0))), (q2, .inr (2, [.ref q3, .int 0])), (q3, .inl (k3, 24, .inl (fun _ => 0)))] H := hP
  have hD : va_D (va_A [(h, .inr (4, [.null, .int 0, .null, .null, .null, .null, .null, .int 0]))] s.heap.size) [(h, .inr (4, [.ref q1, .int 0, .null, .null, .null, .null, .null, .int 0])), (q1, .inl (k1, 24, .inl (fun _ => 0))), (q2, .inr (2, [.ref q3, .int 0])), (q3, .inl (k3, 24, .inl (fun _ => 0)))] := hD
  have hK : va_K D vwCl [(k1, .int), (k3, .int)] s := hK
  refine va_putF (D := D) (ci := 4) (v := .ref q2) (ty := .object "PictureFields$Symbols") (C := RX5) (T := TX5) (N := 8) hx hb hw zinX5 tyX5 tyX5_ok nmX5 hown hK hP hD hS 0 rfl rfl 2 (by decide) (hw _ zw461) (fun _ h9 => h9) rfl hin rfl (by decide +kernel) rfl rfl (Nat.le_of_ble_eq_true rfl) dX5_init_25 (fun H locs hP hD hS => ?_)
  have hP : va_P D vwCl [(h, .inr (4, [.ref q1, .int 0, .ref q2, .null, .null, .null, .null, .int 0])), (q1, .inl (k1, 24, .inl (fun _ => 0))), (q2, .inr (2, [.ref q3, .int 0])), (q3, .inl (k3, 24, .inl (fun _ => 0)))] H := hP
  have hD : va_D (va_A [(h, .inr (4, [.null, .int 0, .null, .null, .null, .null, .null, .int 0]))] s.heap.size) [(h, .inr (4, [.ref q1, .int 0, .ref q2, .null, .null, .null, .null, .int 0])), (q1, .inl (k1, 24, .inl (fun _ => 0))), (q2, .inr (2, [.ref q3, .int 0])), (q3, .inl (k3, 24, .inl (fun _ => 0)))] := hD
  refine lv_aload_n hx hb dX5_init_28 rfl (lv_at hl 0 rfl) ?_
  refine lv_bipush (v := 8) hx hb dX5_init_29 (by decide) ?_
  refine va_newq (C := RX2) (n := 8) (N' := 8) hx hb hown (hw _ zw554) (hX.1 _ zn25) hK hP hD hS hA (by decide) (by decide) (by decide) (Nat.le_of_ble_eq_true rfl) (Nat.le_of_ble_eq_true rfl) dX5_init_31 (fun q4 k4 H hK hP hD hS => ?_)
  refine W.widen (k := 4) (n := 58) (by decide) (by decide) ?_
  have hP : va_P D vwCl [(h, .inr (4, [.ref q1, .int 0, .ref q2, .null, .null, .null, .null, .int 0])), (q1, .inl (k1, 24, .inl (fun _ => 0))), (q2, .inr (2, [.ref q3, .int 0])), (q3, .inl (k3, 24, .inl (fun _ => 0))), (q4, .inl (k4, 8, .inr (.inr (.inr (.inr (fun _ => none))))))] H := hP
  have hD : va_D (va_A [(h, .inr (4, [.null, .int 0, .null, .null, .null, .null, .null, .int 0]))] s.heap.size) [(h, .inr (4, [.ref q1, .int 0, .ref q2, .null, .null, .null, .null, .int 0])), (q1, .inl (k1, 24, .inl (fun _ => 0))), (q2, .inr (2, [.ref q3, .int 0])), (q3, .inl (k3, 24, .inl (fun _ => 0))), (q4, .inl (k4, 8, .inr (.inr (.inr (.inr (fun _ => none))))))] := hD
  have hK : va_K D vwCl [(k1, .int), (k3, .int), (k4, .object RX2)] s := hK
  refine va_putF (D := D) (ci := 4) (v := .ref q4) (ty := .array (.object "PictureFields$NumberField")) (C := RX5) (T := TX5) (N := 8) hx hb hw zinX5 tyX5 tyX5_ok nmX5 hown hK hP hD hS 0 rfl rfl 3 (by decide) (hw _ zw460) (fun _ h9 => h9) rfl hin rfl (by decide +kernel) rfl rfl (Nat.le_of_ble_eq_true rfl) dX5_init_34 (fun H locs hP hD hS => ?_)
  have hP : va_P D vwCl [(h, .inr (4, [.ref q1, .int 0, .ref q2, .ref q4, .null, .null, .null, .int 0])), (q1, .inl (k1, 24, .inl (fun _ => 0))), (q2, .inr (2, [.ref q3, .int 0])), (q3, .inl (k3, 24, .inl (fun _ => 0))), (q4, .inl (k4, 8, .inr (.inr (.inr (.inr (fun _ => none))))))] H := hP
  have hD : va_D (va_A [(h, .inr (4, [.null, .int 0, .null, .null, .null, .null, .null, .int 0]))] s.heap.size) [(h, .inr (4, [.ref q1, .int 0, .ref q2, .ref q4, .null, .null, .null, .int 0])), (q1, .inl (k1, 24, .inl (fun _ => 0))), (q2, .inr (2, [.ref q3, .int 0])), (q3, .inl (k3, 24, .inl (fun _ => 0))), (q4, .inl (k4, 8, .inr (.inr (.inr (.inr (fun _ => none))))))] := hD
  refine lv_aload_n hx hb dX5_init_37 rfl (lv_at hl 0 rfl) ?_
  refine lv_bipush (v := 8) hx hb dX5_init_38 (by decide) ?_
  refine va_newq (C := RX4) (n := 8) (N' := 8) hx hb hown (hw _ zw555) (hX.1 _ zn26) hK hP hD hS hA (by decide) (by decide) (by decide) (Nat.le_of_ble_eq_true rfl) (Nat.le_of_ble_eq_true rfl) dX5_init_40 (fun q5 k5 H hK hP hD hS => ?_)
  refine W.widen (k := 5) (n := 66) (by decide) (by decide) ?_
  have hP : va_P D vwCl [(h, .inr (4, [.ref q1, .int 0, .ref q2, .ref q4, .null, .null, .null, .int 0])), (q1, .inl (k1, 24, .inl (fun _ => 0))), (q2, .inr (2, [.ref q3, .int 0])), (q3, .inl (k3, 24, .inl (fun _ => 0))), (q4, .inl (k4, 8, .inr (.inr (.inr (.inr (fun _ => none)))))), (q5, .inl (k5, 8, .inr (.inr (.inr (.inr (fun _ => none))))))] H := hP
  have hD : va_D (va_A [(h, .inr (4, [.null, .int 0, .null, .null, .null, .null, .null, .int 0]))] s.heap.size) [(h, .inr (4, [.ref q1, .int 0, .ref q2, .ref q4, .null, .null, .null, .int 0])), (q1, .inl (k1, 24, .inl (fun _ => 0))), (q2, .inr (2, [.ref q3, .int 0])), (q3, .inl (k3, 24, .inl (fun _ => 0))), (q4, .inl (k4, 8, .inr (.inr (.inr (.inr (fun _ => none)))))), (q5, .inl (k5, 8, .inr (.inr (.inr (.inr (fun _ => none))))))] := hD
  have hK : va_K D vwCl [(k1, .int), (k3, .int), (k4, .object RX2), (k5, .object RX4)] s := hK
  refine va_putF (D := D) (ci := 4) (v := .ref q5) (ty := .array (.object "PictureFields$TextField")) (C := RX5) (T := TX5) (N := 8) hx hb hw zinX5 tyX5 tyX5_ok nmX5 hown hK hP hD hS 0 rfl rfl 4 (by decide) (hw _ zw466) (fun _ h9 => h9) rfl hin rfl (by decide +kernel) rfl rfl (Nat.le_of_ble_eq_true rfl) dX5_init_43 (fun H locs hP hD hS => ?_)
  have hP : va_P D vwCl [(h, .inr (4, [.ref q1, .int 0, .ref q2, .ref q4, .ref q5, .null, .null, .int 0])), (q1, .inl (k1, 24, .inl (fun _ => 0))), (q2, .inr (2, [.ref q3, .int 0])), (q3, .inl (k3, 24, .inl (fun _ => 0))), (q4, .inl (k4, 8, .inr (.inr (.inr (.inr (fun _ => none)))))), (q5, .inl (k5, 8, .inr (.inr (.inr (.inr (fun _ => none))))))] H := hP
  have hD : va_D (va_A [(h, .inr (4, [.null, .int 0, .null, .null, .null, .null, .null, .int 0]))] s.heap.size) [(h, .inr (4, [.ref q1, .int 0, .ref q2, .ref q4, .ref q5, .null, .null, .int 0])), (q1, .inl (k1, 24, .inl (fun _ => 0))), (q2, .inr (2, [.ref q3, .int 0])), (q3, .inl (k3, 24, .inl (fun _ => 0))), (q4, .inl (k4, 8, .inr (.inr (.inr (.inr (fun _ => none)))))), (q5, .inl (k5, 8, .inr (.inr (.inr (.inr (fun _ => none))))))] := hD
  refine lv_aload_n hx hb dX5_init_46 rfl (lv_at hl 0 rfl) ?_
  refine lv_bipush (v := 8) hx hb dX5_init_47 (by decide) ?_
  refine va_newq (C := RX0) (n := 8) (N' := 8) hx hb hown (hw _ zw556) (hX.1 _ zn27) hK hP hD hS hA (by decide) (by decide) (by decide) (Nat.le_of_ble_eq_true rfl) (Nat.le_of_ble_eq_true rfl) dX5_init_49 (fun q6 k6 H hK hP hD hS => ?_)
  refine W.widen (k := 6) (n := 74) (by decide) (by decide) ?_
  have hP : va_P D vwCl [(h, .inr (4, [.ref q1, .int 0, .ref q2, .ref q4, .ref q5, .null, .null, .int 0])), (q1, .inl (k1, 24, .inl (fun _ => 0))), (q2, .inr (2, [.ref q3, .int 0])), (q3, .inl (k3, 24, .inl (fun _ => 0))), (q4, .inl (k4, 8, .inr (.inr (.inr (.inr (fun _ => none)))))), (q5, .inl (k5, 8, .inr (.inr (.inr (.inr (fun _ => none)))))), (q6, .inl (k6, 8, .inr (.inr (.inr (.inr (fun _ => none))))))] H := hP
  have hD : va_D (va_A [(h, .inr (4, [.null, .int 0, .null, .null, .null, .null, .null, .int 0]))] s.heap.size) [(h, .inr (4, [.ref q1, .int 0, .ref q2, .ref q4, .ref q5, .null, .null, .int 0])), (q1, .inl (k1, 24, .inl (fun _ => 0))), (q2, .inr (2, [.ref q3, .int 0])), (q3, .inl (k3, 24, .inl (fun _ => 0))), (q4, .inl (k4, 8, .inr (.inr (.inr (.inr (fun _ => none)))))), (q5, .inl (k5, 8, .inr (.inr (.inr (.inr (fun _ => none)))))), (q6, .inl (k6, 8, .inr (.inr (.inr (.inr (fun _ => none))))))] := hD
  have hK : va_K D vwCl [(k1, .int), (k3, .int), (k4, .object RX2), (k5, .object RX4), (k6, .object RX0)] s := hK
  refine va_putF (D := D) (ci := 4) (v := .ref q6) (ty := .array (.object "PictureFields$EditedField")) (C := RX5) (T := TX5) (N := 8) hx hb hw zinX5 tyX5 tyX5_ok nmX5 hown hK hP hD hS 0 rfl rfl 5 (by decide) (hw _ zw471) (fun _ h9 => h9) rfl hin rfl (by decide +kernel) rfl rfl (Nat.le_of_ble_eq_true rfl) dX5_init_52 (fun H locs hP hD hS => ?_)
  have hP : va_P D vwCl [(h, .inr (4, [.ref q1, .int 0, .ref q2, .ref q4, .ref q5, .ref q6, .null, .int 0])), (q1, .inl (k1, 24, .inl (fun _ => 0))), (q2, .inr (2, [.ref q3, .int 0])), (q3, .inl (k3, 24, .inl (fun _ => 0))), (q4, .inl (k4, 8, .inr (.inr (.inr (.inr (fun _ => none)))))), (q5, .inl (k5, 8, .inr (.inr (.inr (.inr (fun _ => none)))))), (q6, .inl (k6, 8, .inr (.inr (.inr (.inr (fun _ => none))))))] H := hP
  have hD : va_D (va_A [(h, .inr (4, [.null, .int 0, .null, .null, .null, .null, .null, .int 0]))] s.heap.size) [(h, .inr (4, [.ref q1, .int 0, .ref q2, .ref q4, .ref q5, .ref q6, .null, .int 0])), (q1, .inl (k1, 24, .inl (fun _ => 0))), (q2, .inr (2, [.ref q3, .int 0])), (q3, .inl (k3, 24, .inl (fun _ => 0))), (q4, .inl (k4, 8, .inr (.inr (.inr (.inr (fun _ => none)))))), (q5, .inl (k5, 8, .inr (.inr (.inr (.inr (fun _ => none)))))), (q6, .inl (k6, 8, .inr (.inr (.inr (.inr (fun _ => none))))))] := hD
  refine lv_aload_n hx hb dX5_init_55 rfl (lv_at hl 0 rfl) ?_
  refine lv_bipush (v := 8) hx hb dX5_init_56 (by decide) ?_
  refine va_newq (C := RX1) (n := 8) (N' := 8) hx hb hown (hw _ zw557) (hX.1 _ zn28) hK hP hD hS hA (by decide) (by decide) (by decide) (Nat.le_of_ble_eq_true rfl) (Nat.le_of_ble_eq_true rfl) dX5_init_58 (fun q7 k7 H hK hP hD hS => ?_)
  refine W.widen (k := 7) (n := 82) (by decide) (by decide) ?_
  have hP : va_P D vwCl [(h, .inr (4, [.ref q1, .int 0, .ref q2, .ref q4, .ref q5, .ref q6, .null, .int 0])), (q1, .inl (k1, 24, .inl (fun _ => 0))), (q2, .inr (2, [.ref q3, .int 0])), (q3, .inl (k3, 24, .inl (fun _ => 0))), (q4, .inl (k4, 8, .inr (.inr (.inr (.inr (fun _ => none)))))), (q5, .inl (k5, 8, .inr (.inr (.inr (.inr (fun _ => none)))))), (q6, .inl (k6, 8, .inr (.inr (.inr (.inr (fun _ => none)))))), (q7, .inl (k7, 8, .inr (.inr (.inr (.inr (fun _ => none))))))] H := hP
  have hD : va_D (va_A [(h, .inr (4, [.null, .int 0, .null, .null, .null, .null, .null, .int 0]))] s.heap.size) [(h, .inr (4, [.ref q1, .int 0, .ref q2, .ref q4, .ref q5, .ref q6, .null, .int 0])), (q1, .inl (k1, 24, .inl (fun _ => 0))), (q2, .inr (2, [.ref q3, .int 0])), (q3, .inl (k3, 24, .inl (fun _ => 0))), (q4, .inl (k4, 8, .inr (.inr (.inr (.inr (fun _ => none)))))), (q5, .inl (k5, 8, .inr (.inr (.inr (.inr (fun _ => none)))))), (q6, .inl (k6, 8, .inr (.inr (.inr (.inr (fun _ => none)))))), (q7, .inl (k7, 8, .inr (.inr (.inr (.inr (fun _ => none))))))] := hD
  have hK : va_K D vwCl [(k1, .int), (k3, .int), (k4, .object RX2), (k5, .object RX4), (k6, .object RX0), (k7, .object RX1)] s := hK
  refine va_putF (D := D) (ci := 4) (v := .ref q7) (ty := .array (.object "PictureFields$Field")) (C := RX5) (T := TX5) (N := 8) hx hb hw zinX5 tyX5 tyX5_ok nmX5 hown hK hP hD hS 0 rfl rfl 6 (by decide) (hw _ zw421) (fun _ h9 => h9) rfl hin rfl (by decide +kernel) rfl rfl (Nat.le_of_ble_eq_true rfl) dX5_init_61 (fun H locs hP hD hS => ?_)
  have hP : va_P D vwCl [(h, .inr (4, [.ref q1, .int 0, .ref q2, .ref q4, .ref q5, .ref q6, .ref q7, .int 0])), (q1, .inl (k1, 24, .inl (fun _ => 0))), (q2, .inr (2, [.ref q3, .int 0])), (q3, .inl (k3, 24, .inl (fun _ => 0))), (q4, .inl (k4, 8, .inr (.inr (.inr (.inr (fun _ => none)))))), (q5, .inl (k5, 8, .inr (.inr (.inr (.inr (fun _ => none)))))), (q6, .inl (k6, 8, .inr (.inr (.inr (.inr (fun _ => none)))))), (q7, .inl (k7, 8, .inr (.inr (.inr (.inr (fun _ => none))))))] H := hP
  have hD : va_D (va_A [(h, .inr (4, [.null, .int 0, .null, .null, .null, .null, .null, .int 0]))] s.heap.size) [(h, .inr (4, [.ref q1, .int 0, .ref q2, .ref q4, .ref q5, .ref q6, .ref q7, .int 0])), (q1, .inl (k1, 24, .inl (fun _ => 0))), (q2, .inr (2, [.ref q3, .int 0])), (q3, .inl (k3, 24, .inl (fun _ => 0))), (q4, .inl (k4, 8, .inr (.inr (.inr (.inr (fun _ => none)))))), (q5, .inl (k5, 8, .inr (.inr (.inr (.inr (fun _ => none)))))), (q6, .inl (k6, 8, .inr (.inr (.inr (.inr (fun _ => none)))))), (q7, .inl (k7, 8, .inr (.inr (.inr (.inr (fun _ => none))))))] := hD
  refine lv_aload_n hx hb dX5_init_64 rfl (lv_at hl 0 rfl) ?_
  refine lv_iconst (v := 0) hx hb dX5_init_65 (by decide) ?_
  refine va_put (D := D) (ci := 4) (v := .int 0) (ty := .int) (C := RX5) (T := TX5) (N := 8) hx hb hw zinX5 tyX5 tyX5_ok nmX5 hown hK hP hD hS 0 rfl rfl 7 (by decide) (hw _ zw420) (fun _ h9 => h9) rfl (by decide +kernel) rfl rfl (Nat.le_of_ble_eq_true rfl) dX5_init_66 (fun H locs hP hD hS => ?_)
  have hP : va_P D vwCl [(h, .inr (4, [.ref q1, .int 0, .ref q2, .ref q4, .ref q5, .ref q6, .ref q7, .int 0])), (q1, .inl (k1, 24, .inl (fun _ => 0))), (q2, .inr (2, [.ref q3, .int 0])), (q3, .inl (k3, 24, .inl (fun _ => 0))), (q4, .inl (k4, 8, .inr (.inr (.inr (.inr (fun _ => none)))))), (q5, .inl (k5, 8, .inr (.inr (.inr (.inr (fun _ => none)))))), (q6, .inl (k6, 8, .inr (.inr (.inr (.inr (fun _ => none)))))), (q7, .inl (k7, 8, .inr (.inr (.inr (.inr (fun _ => none))))))] H := hP
  have hD : va_D (va_A [(h, .inr (4, [.null, .int 0, .null, .null, .null, .null, .null, .int 0]))] s.heap.size) [(h, .inr (4, [.ref q1, .int 0, .ref q2, .ref q4, .ref q5, .ref q6, .ref q7, .int 0])), (q1, .inl (k1, 24, .inl (fun _ => 0))), (q2, .inr (2, [.ref q3, .int 0])), (q3, .inl (k3, 24, .inl (fun _ => 0))), (q4, .inl (k4, 8, .inr (.inr (.inr (.inr (fun _ => none)))))), (q5, .inl (k5, 8, .inr (.inr (.inr (.inr (fun _ => none)))))), (q6, .inl (k6, 8, .inr (.inr (.inr (.inr (fun _ => none)))))), (q7, .inl (k7, 8, .inr (.inr (.inr (.inr (fun _ => none))))))] := hD
  refine lv_iconst (v := 0) hx hb dX5_init_69 (by decide) ?_
  refine lv_istore_n (lv' := [(1, .int 0), (0, .ref h)]) hx hb dX5_init_70 rfl hl (by decide) rfl (fun ls hl => ?_)
  refine zPinit_loop G0 hX (xa := (fun j => ([h, q1, q2, q3, q4, q5, q6, q7] : List Nat).getD j 0)) (xk := (fun j => ([k1, k1, k1, k3, k4, k5, k6, k7] : List ClassId).getD j k1)) rfl 8 0 rfl (fun _ _ => 0) (fun _ _ => k1) H _ ls hK ?_ ?_ hS (lv_sub hl [1, 0] rfl)
  · exact hP
  · exact hD

