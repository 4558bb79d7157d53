theorem dX6_isBelow_0 : decode cX6_isBelow 0 = .ok (.iconst 0, 1) := by decide +kernel
theorem dX6_isBelow_1 : decode cX6_isBelow 1 = .ok (.istore_n 2, 1) := by decide +kernel
theorem dX6_isBelow_2 : decode cX6_isBelow 2 = .ok (.iconst 0, 1) := by decide +kernel
theorem dX6_isBelow_3 : decode cX6_isBelow 3 = .ok (.istore_n 3, 1) := by decide +kernel
theorem dX6_isBelow_4 : decode cX6_isBelow 4 = .ok (.iload_n 3, 1) := by decide +kernel
theorem dX6_isBelow_5 : decode cX6_isBelow 5 = .ok (.aload_n 0, 1) := by decide +kernel
theorem dX6_isBelow_6 : decode cX6_isBelow 6 = .ok (.getfield 13, 3) := by decide +kernel
theorem dX6_isBelow_9 : decode cX6_isBelow 9 = .ok (.iload_n 1, 1) := by decide +kernel
theorem dX6_isBelow_10 : decode cX6_isBelow 10 = .ok (.iaload, 1) := by decide +kernel
theorem dX6_isBelow_11 : decode cX6_isBelow 11 = .ok (.if_icmp .ge 28, 3) := by decide +kernel
theorem dX6_isBelow_14 : decode cX6_isBelow 14 = .ok (.iload_n 2, 1) := by decide +kernel
theorem dX6_isBelow_15 : decode cX6_isBelow 15 = .ok (.ifCond .ne 12, 3) := by decide +kernel
theorem dX6_isBelow_18 : decode cX6_isBelow 18 = .ok (.aload_n 0, 1) := by decide +kernel
theorem dX6_isBelow_19 : decode cX6_isBelow 19 = .ok (.iload_n 1, 1) := by decide +kernel
theorem dX6_isBelow_20 : decode cX6_isBelow 20 = .ok (.iload_n 3, 1) := by decide +kernel
theorem dX6_isBelow_21 : decode cX6_isBelow 21 = .ok (.invokevirtual 171, 3) := by decide +kernel
theorem dX6_isBelow_24 : decode cX6_isBelow 24 = .ok (.ifCond .le 7, 3) := by decide +kernel
theorem dX6_isBelow_27 : decode cX6_isBelow 27 = .ok (.iconst 1, 1) := by decide +kernel
theorem dX6_isBelow_28 : decode cX6_isBelow 28 = .ok (.goto 4, 3) := by decide +kernel
theorem dX6_isBelow_31 : decode cX6_isBelow 31 = .ok (.iconst 0, 1) := by decide +kernel
theorem dX6_isBelow_32 : decode cX6_isBelow 32 = .ok (.istore_n 2, 1) := by decide +kernel
theorem dX6_isBelow_33 : decode cX6_isBelow 33 = .ok (.iinc 3 1, 3) := by decide +kernel
theorem dX6_isBelow_36 : decode cX6_isBelow 36 = .ok (.goto (-32), 3) := by decide +kernel
theorem dX6_isBelow_39 : decode cX6_isBelow 39 = .ok (.aload_n 0, 1) := by decide +kernel
theorem dX6_isBelow_40 : decode cX6_isBelow 40 = .ok (.getfield 164, 3) := by decide +kernel
theorem dX6_isBelow_43 : decode cX6_isBelow 43 = .ok (.ifCond .eq 20, 3) := by decide +kernel
theorem dX6_isBelow_46 : decode cX6_isBelow 46 = .ok (.iload_n 2, 1) := by decide +kernel
theorem dX6_isBelow_47 : decode cX6_isBelow 47 = .ok (.ifCond .eq 16, 3) := by decide +kernel
theorem dX6_isBelow_50 : decode cX6_isBelow 50 = .ok (.aload_n 0, 1) := by decide +kernel
theorem dX6_isBelow_51 : decode cX6_isBelow 51 = .ok (.getfield 34, 3) := by decide +kernel
theorem dX6_isBelow_54 : decode cX6_isBelow 54 = .ok (.iload_n 1, 1) := by decide +kernel
theorem dX6_isBelow_55 : decode cX6_isBelow 55 = .ok (.baload, 1) := by decide +kernel
theorem dX6_isBelow_56 : decode cX6_isBelow 56 = .ok (.ifCond .eq 7, 3) := by decide +kernel
theorem dX6_isBelow_59 : decode cX6_isBelow 59 = .ok (.iconst 1, 1) := by decide +kernel
theorem dX6_isBelow_60 : decode cX6_isBelow 60 = .ok (.goto 4, 3) := by decide +kernel
theorem dX6_isBelow_63 : decode cX6_isBelow 63 = .ok (.iconst 0, 1) := by decide +kernel
theorem dX6_isBelow_64 : decode cX6_isBelow 64 = .ok (.ireturn, 1) := by decide +kernel
def m_M_isBelow_32 (v : Nat → Int32) (u : Nat → Nat → Int32) (rec : Int32 → Int32 → Int32 → Option ((Int32))) (x1 : Int32) (x3 : Int32) (t0 : Int32)  : Option ((Int32)) := rec x1 t0 (x3 + 1)
def m_M_isBelow_27 (v : Nat → Int32) (u : Nat → Nat → Int32) (rec : Int32 → Int32 → Int32 → Option ((Int32))) (x1 : Int32) (x3 : Int32)  : Option ((Int32)) := m_M_isBelow_32 v u rec x1 x3 1
def m_M_isBelow_4b (v : Nat → Int32) (u : Nat → Nat → Int32) (rec : Int32 → Int32 → Int32 → Option ((Int32))) (x1 : Int32) (x2 : Int32) (x3 : Int32)  : Option ((Int32)) := zix x1 9 ((if ((u 2) x1.toNatClampNeg) ≤ x3 then (if (v 21) = 0 then (zbo 0 (some 0)) else (if x2 = 0 then (zbo 0 (some 0)) else zix x1 9 ((if ((u 9) x1.toNatClampNeg) = 0 then (zbo 0 (some 0)) else (zbo 1 (some 1)))))) else (if x2 = 0 then (m_M_digitFor x1 x3 v u).bind (fun q12 => (if q12 ≤ 0 then m_M_isBelow_32 v u rec x1 x3 0 else m_M_isBelow_27 v u rec x1 x3)) else m_M_isBelow_27 v u rec x1 x3)))
def m_M_isBelow_4 (v : Nat → Int32) (u : Nat → Nat → Int32) : Nat → Int32 → Int32 → Int32 → Option ((Int32))
  | 0 => fun _ _ _ => none
  | n + 1 => fun x1 x2 x3 => m_M_isBelow_4b v u (m_M_isBelow_4 v u n) x1 x2 x3
def m_M_isBelow (a0 : Int32) (v : Nat → Int32) (u : Nat → Nat → Int32)  : Option ((Int32)) := m_M_isBelow_4 v u 64 a0 0 0
section
variable {p : Program} {l : Launch} {e : Env} {s : State} {m : MethodId} {args : Array Value} {below : List Frame} {meth : Method} {c : Code} {D : va_G} {w0 : va_W} {ad : Nat → Nat} {ca : Nat → ClassId} {v : Nat → Int32} {u : Nat → Nat → Int32}
set_option maxRecDepth 100000 in
set_option maxHeartbeats 4000000 in
theorem b_M_isBelow_32 (G : zG p s m args meth c cX6_isBelow RX6 4 (some .boolean)) (hK : va_K D vwCl (wM_t ca) s) (hX : zN (va_A w0 s.heap.size) s) {res : (Int32)} (rec : Int32 → Int32 → Int32 → Option ((Int32))) (hrec : ∀ (x1 : Int32) (x2 : Int32) (x3 : Int32), rec x1 x2 x3 = some res → zB p l e (zR 2 45) s m args below meth c D vwCl (va_A w0 s.heap.size) (MQ below (zQi D vwCl w0 (wM ad ca v u) s.heap.size res) args s 0 0 (va_A w0 s.heap.size)) 4 (wM ad ca v u) [(0, .ref (ad 0)), (1, .int x1), (2, .int x2), (3, .int x3)] 4 []) : ∀ (x1 : Int32) (x3 : Int32) (t0 : Int32), m_M_isBelow_32 v u rec x1 x3 t0 = some res → zB p l e (zR 2 45) s m args below meth c D vwCl (va_A w0 s.heap.size) (MQ below (zQi D vwCl w0 (wM ad ca v u) s.heap.size res) args s 0 0 (va_A w0 s.heap.size)) 4 (wM ad ca v u) [(0, .ref (ad 0)), (1, .int x1), (3, .int x3)] 32 [.int t0] := by
  intro x1 x3 t0 hm H locs ls hP hD hS hl
  unfold m_M_isBelow_32 at hm
  have G0 := G
  obtain ⟨hx, hb, hr, hml, hown, hw, hlk⟩ := G
  have hA : ∀ q, s.heap.size ≤ q → va_A w0 s.heap.size q := fun q h => Or.inr h
  refine lv_istore_n (lv' := [(2, .int t0), (0, .ref (ad 0)), (1, .int x1), (3, .int x3)]) hx hb dX6_isBelow_32 rfl hl (by decide) rfl (fun ls hl => ?_)
  refine lv_iinc (k := 3) (v := (x3 + 1)) (lv' := [(3, .int (x3 + 1)), (2, .int t0), (0, .ref (ad 0)), (1, .int x1)]) hx hb dX6_isBelow_33 hl rfl rfl (by decide) rfl (fun ls hl => ?_)
  refine lv_goto (tgt := 4) hx hb dX6_isBelow_36 rfl ?_
  exact hrec _ _ _ hm H _ _ hP hD hS (lv_sub hl [2, 3, 1, 0] rfl)
set_option maxRecDepth 100000 in
set_option maxHeartbeats 4000000 in
theorem b_M_isBelow_27 (G : zG p s m args meth c cX6_isBelow RX6 4 (some .boolean)) (hK : va_K D vwCl (wM_t ca) s) (hX : zN (va_A w0 s.heap.size) s) {res : (Int32)} (rec : Int32 → Int32 → Int32 → Option ((Int32))) (hrec : ∀ (x1 : Int32) (x2 : Int32) (x3 : Int32), rec x1 x2 x3 = some res → zB p l e (zR 2 45) s m args below meth c D vwCl (va_A w0 s.heap.size) (MQ below (zQi D vwCl w0 (wM ad ca v u) s.heap.size res) args s 0 0 (va_A w0 s.heap.size)) 4 (wM ad ca v u) [(0, .ref (ad 0)), (1, .int x1), (2, .int x2), (3, .int x3)] 4 []) : ∀ (x1 : Int32) (x3 : Int32), m_M_isBelow_27 v u rec x1 x3 = some res → zB p l e (zR 2 45) s m args below meth c D vwCl (va_A w0 s.heap.size) (MQ below (zQi D vwCl w0 (wM ad ca v u) s.heap.size res) args s 0 0 (va_A w0 s.heap.size)) 4 (wM ad ca v u) [(0, .ref (ad 0)), (1, .int x1), (3, .int x3)] 27 [] := by
  intro x1 x3 hm H locs ls hP hD hS hl
  unfold m_M_isBelow_27 at hm
  have G0 := G
  obtain ⟨hx, hb, hr, hml, hown, hw, hlk⟩ := G
  have hA : ∀ q, s.heap.size ≤ q → va_A w0 s.heap.size q := fun q h => Or.inr h
  refine lv_iconst (v := 1) hx hb dX6_isBelow_27 (by decide) ?_
  refine lv_goto (tgt := 32) hx hb dX6_isBelow_28 rfl ?_
  exact b_M_isBelow_32 G0 hK hX rec hrec _ _ _ hm H _ _ hP hD hS hl
set_option maxRecDepth 100000 in
set_option maxHeartbeats 4000000 in
theorem b_M_isBelow_4 (G : zG p s m args meth c cX6_isBelow RX6 4 (some .boolean)) (hK : va_K D vwCl (wM_t ca) s) (hX : zN (va_A w0 s.heap.size) s) {res : (Int32)} : ∀ n : Nat, ∀ (x1 : Int32) (x2 : Int32) (x3 : Int32), m_M_isBelow_4 v u n x1 x2 x3 = some res → zB p l e (zR 2 45) s m args below meth c D vwCl (va_A w0 s.heap.size) (MQ below (zQi D vwCl w0 (wM ad ca v u) s.heap.size res) args s 0 0 (va_A w0 s.heap.size)) 4 (wM ad ca v u) [(0, .ref (ad 0)), (1, .int x1), (2, .int x2), (3, .int x3)] 4 [] := by
  intro n
  induction n with
  | zero => intro x1 x2 x3 hm; cases hm
  | succ n ih =>
  have hrec := ih
  intro x1 x2 x3 hm H locs ls hP hD hS hl
  replace hm : m_M_isBelow_4b v u (m_M_isBelow_4 v u n) x1 x2 x3 = some res := hm
  generalize m_M_isBelow_4 v u n = rec at hm hrec
  unfold m_M_isBelow_4b at hm
  clear ih
  have G0 := G
  obtain ⟨hx, hb, hr, hml, hown, hw, hlk⟩ := G
  have hA : ∀ q, s.heap.size ≤ q → va_A w0 s.heap.size q := fun q h => Or.inr h
  refine lv_iload_n hx hb dX6_isBelow_4 rfl (lv_at hl 3 rfl) ?_
  refine lv_aload_n hx hb dX6_isBelow_5 rfl (lv_at hl 0 rfl) ?_
  refine va_get (D := D) (ci := 5) (v := .ref (ad 2)) (C := RX6) (T := TX6) (N := 24) hx hb hw zinX6 hown hK hP 0 rfl rfl 4 (by decide) (hw _ zw5) (fun _ h9 => h9) rfl dX6_isBelow_6 ?_
  refine lv_iload_n hx hb dX6_isBelow_9 rfl (lv_at hl 1 rfl) ?_
  obtain ⟨hi1, hm⟩ := zix_s hm
  refine va_iald (i := x1) (f := (u 2)) (n := 9) hx hb hK hP 2 1 rfl rfl hi1 dX6_isBelow_10 ?_
  refine lv_icmp_ge (tgt := 39) hx hb dX6_isBelow_11 rfl (fun cd2 => ?_) (fun cd2 => ?_)
  · replace hm := zt cd2 hm
    refine lv_aload_n hx hb dX6_isBelow_39 rfl (lv_at hl 0 rfl) ?_
    refine va_get (D := D) (ci := 5) (v := .int (v 21)) (C := RX6) (T := TX6) (N := 24) hx hb hw zinX6 hown hK hP 0 rfl rfl 21 (by decide) (hw _ zw19) (fun _ h9 => h9) rfl dX6_isBelow_40 ?_
    refine lv_if_eq (tgt := 63) hx hb dX6_isBelow_43 rfl (fun cd3 => ?_) (fun cd3 => ?_)
    · replace hm := zt cd3 hm
      refine lv_iconst (v := 0) hx hb dX6_isBelow_63 (by decide) ?_
      obtain ⟨hz4, -, hm⟩ := zbo_s hm
      cases hm
      exact zretz hx hb hr hlk hz4 hP hD hS dX6_isBelow_64
    · replace hm := zf cd3 hm
      refine lv_iload_n hx hb dX6_isBelow_46 rfl (lv_at hl 2 rfl) ?_
      refine lv_if_eq (tgt := 63) hx hb dX6_isBelow_47 rfl (fun cd5 => ?_) (fun cd5 => ?_)
      · replace hm := zt cd5 hm
        refine lv_iconst (v := 0) hx hb dX6_isBelow_63 (by decide) ?_
        obtain ⟨hz6, -, hm⟩ := zbo_s hm
        cases hm
        exact zretz hx hb hr hlk hz6 hP hD hS dX6_isBelow_64
      · replace hm := zf cd5 hm
        refine lv_aload_n hx hb dX6_isBelow_50 rfl (lv_at hl 0 rfl) ?_
        refine va_get (D := D) (ci := 5) (v := .ref (ad 9)) (C := RX6) (T := TX6) (N := 24) hx hb hw zinX6 hown hK hP 0 rfl rfl 11 (by decide) (hw _ zw47) (fun _ h9 => h9) rfl dX6_isBelow_51 ?_
        refine lv_iload_n hx hb dX6_isBelow_54 rfl (lv_at hl 1 rfl) ?_
        obtain ⟨hi7, hm⟩ := zix_s hm
        refine va_zald (i := x1) (f := (u 9)) (n := 9) hx hb hK hP 9 8 rfl rfl hi7 dX6_isBelow_55 ?_
        refine lv_if_eq (tgt := 63) hx hb dX6_isBelow_56 rfl (fun cd8 => ?_) (fun cd8 => ?_)
        · replace hm := zt cd8 hm
          refine lv_iconst (v := 0) hx hb dX6_isBelow_63 (by decide) ?_
          obtain ⟨hz9, -, hm⟩ := zbo_s hm
          cases hm
          exact zretz hx hb hr hlk hz9 hP hD hS dX6_isBelow_64
        · replace hm := zf cd8 hm
          refine lv_iconst (v := 1) hx hb dX6_isBelow_59 (by decide) ?_
          refine lv_goto (tgt := 64) hx hb dX6_isBelow_60 rfl ?_
          obtain ⟨hz10, -, hm⟩ := zbo_s hm
          cases hm
          exact zretz hx hb hr hlk hz10 hP hD hS dX6_isBelow_64
  · replace hm := zf cd2 hm
    refine lv_iload_n hx hb dX6_isBelow_14 rfl (lv_at hl 2 rfl) ?_
    refine lv_if_ne (tgt := 27) hx hb dX6_isBelow_15 rfl (fun cd11 => ?_) (fun cd11 => ?_)
    · replace hm := zf cd11 hm
      exact b_M_isBelow_27 G0 hK hX rec hrec _ _ hm H _ _ hP hD hS (lv_sub hl [0, 1, 3] rfl)
    · replace hm := zt cd11 hm
      refine lv_aload_n hx hb dX6_isBelow_18 rfl (lv_at hl 0 rfl) ?_
      refine lv_iload_n hx hb dX6_isBelow_19 rfl (lv_at hl 1 rfl) ?_
      refine lv_iload_n hx hb dX6_isBelow_20 rfl (lv_at hl 3 rfl) ?_
      obtain ⟨q12, hq12, hm⟩ := zbind hm
      refine zbWi (va_runV (As := [.int x1, .int x3]) (rest := []) ⟨hx, hb, hml, hown, hw⟩ (k_M_digitFor l D ad ca _ x1 x3 v u  q12 hq12) (zcV (C := RX6) 2 hw (zgood zw91) rfl rfl rfl zw7 zw93 zw92 zw94 hdX6_digitFor ⟨Nat.le_of_ble_eq_true rfl, Nat.le_of_ble_eq_true rfl⟩) (zpreV (zpre zN_ok trivial hS (zfree hD hS hA) hP hK hD) (va_recv hK hP rfl (q0 := 0) rfl)) rfl rfl hl.1 rfl (lv_room (Nat.le_of_ble_eq_true rfl)) dX6_isBelow_21 ⟨Nat.zero_le _, Nat.zero_le _⟩) hS (zfree hD hS hA) (fun H locs hP hD hS => ?_)
      refine lv_if_le (tgt := 31) hx hb dX6_isBelow_24 rfl (fun cd13 => ?_) (fun cd13 => ?_)
      · replace hm := zt cd13 hm
        refine lv_iconst (v := 0) hx hb dX6_isBelow_31 (by decide) ?_
        exact b_M_isBelow_32 G0 hK hX rec hrec _ _ _ hm H _ _ hP hD hS (lv_sub hl [0, 1, 3] rfl)
      · replace hm := zf cd13 hm
        exact b_M_isBelow_27 G0 hK hX rec hrec _ _ hm H _ _ hP hD hS (lv_sub hl [0, 1, 3] rfl)
end
set_option maxRecDepth 100000 in
set_option maxHeartbeats 4000000 in
theorem k_M_isBelow (l : Launch) (D : va_G) (ad : Nat → Nat) (ca : Nat → ClassId) (sz : Nat) (a0 : Int32) (v : Nat → Int32) (u : Nat → Nat → Int32) (res : (Int32)) (hm : m_M_isBelow a0 v u  = some res) : Met l yX6_isBelow (Cond.code yX6_isBelow cX6_isBelow 4 (some .boolean) :: zBIG) (zR 2 45) (va_Pc [.ref (ad 0), .int a0] (zP zN D vwCl (wM_t ca) (wM ad ca v u) sz)) (zQi D vwCl (wM ad ca v u) (wM ad ca v u) sz res) 0 0 (va_A (wM ad ca v u) sz) := by
  refine zEnter RX6 [.ref (ad 0), .int a0] (by decide) rfl (Nat.le_of_ble_eq_true rfl) (fun p e s m below meth c ls G hK hX hP hD hsz hl => ?_)
  subst hsz
  unfold m_M_isBelow at hm
  have hl : lv_has ls 4 [(0, .ref (ad 0)), (1, .int a0)] := hl
  have hS : va_S (va_A (wM ad ca v u) s.heap.size) s.heap s.heap [] := va_S.rf
  have hA : ∀ q, s.heap.size ≤ q → va_A (wM ad ca v u) s.heap.size q := fun q h => Or.inr h
  have G0 := G
  obtain ⟨hx, hb, hr, hml, hown, hw, hlk⟩ := G
  refine lv_iconst (v := 0) hx hb dX6_isBelow_0 (by decide) ?_
  refine lv_istore_n (lv' := [(2, .int 0), (0, .ref (ad 0)), (1, .int a0)]) hx hb dX6_isBelow_1 rfl hl (by decide) rfl (fun ls hl => ?_)
  refine lv_iconst (v := 0) hx hb dX6_isBelow_2 (by decide) ?_
  refine lv_istore_n (lv' := [(3, .int 0), (2, .int 0), (0, .ref (ad 0)), (1, .int a0)]) hx hb dX6_isBelow_3 rfl hl (by decide) rfl (fun ls hl => ?_)
  exact b_M_isBelow_4 G0 hK hX 64 _ _ _ hm _ _ _ hP hD hS (lv_sub hl [2, 3, 1, 0] rfl)

theorem dX6_zoneEnd_0 : decode cX6_zoneEnd 0 = .ok (.iload_n 2, 1) := by decide +kernel
theorem dX6_zoneEnd_1 : decode cX6_zoneEnd 1 = .ok (.istore_n 3, 1) := by decide +kernel
theorem dX6_zoneEnd_2 : decode cX6_zoneEnd 2 = .ok (.iload_n 3, 1) := by decide +kernel
theorem dX6_zoneEnd_3 : decode cX6_zoneEnd 3 = .ok (.aload_n 0, 1) := by decide +kernel
theorem dX6_zoneEnd_4 : decode cX6_zoneEnd 4 = .ok (.getfield 47, 3) := by decide +kernel
theorem dX6_zoneEnd_7 : decode cX6_zoneEnd 7 = .ok (.iload_n 1, 1) := by decide +kernel
theorem dX6_zoneEnd_8 : decode cX6_zoneEnd 8 = .ok (.iaload, 1) := by decide +kernel
theorem dX6_zoneEnd_9 : decode cX6_zoneEnd 9 = .ok (.if_icmp .ge 39, 3) := by decide +kernel
theorem dX6_zoneEnd_12 : decode cX6_zoneEnd 12 = .ok (.aload_n 0, 1) := by decide +kernel
theorem dX6_zoneEnd_13 : decode cX6_zoneEnd 13 = .ok (.iload_n 1, 1) := by decide +kernel
theorem dX6_zoneEnd_14 : decode cX6_zoneEnd 14 = .ok (.iload_n 3, 1) := by decide +kernel
theorem dX6_zoneEnd_15 : decode cX6_zoneEnd 15 = .ok (.invokevirtual 93, 3) := by decide +kernel
theorem dX6_zoneEnd_18 : decode cX6_zoneEnd 18 = .ok (.bipush 57, 2) := by decide +kernel
theorem dX6_zoneEnd_20 : decode cX6_zoneEnd 20 = .ok (.if_icmp .eq 28, 3) := by decide +kernel
theorem dX6_zoneEnd_23 : decode cX6_zoneEnd 23 = .ok (.iload_n 3, 1) := by decide +kernel
theorem dX6_zoneEnd_24 : decode cX6_zoneEnd 24 = .ok (.aload_n 0, 1) := by decide +kernel
theorem dX6_zoneEnd_25 : decode cX6_zoneEnd 25 = .ok (.getfield 50, 3) := by decide +kernel
theorem dX6_zoneEnd_28 : decode cX6_zoneEnd 28 = .ok (.iload_n 1, 1) := by decide +kernel
theorem dX6_zoneEnd_29 : decode cX6_zoneEnd 29 = .ok (.iaload, 1) := by decide +kernel
theorem dX6_zoneEnd_30 : decode cX6_zoneEnd 30 = .ok (.if_icmp .eq 18, 3) := by decide +kernel
theorem dX6_zoneEnd_33 : decode cX6_zoneEnd 33 = .ok (.aload_n 0, 1) := by decide +kernel
theorem dX6_zoneEnd_34 : decode cX6_zoneEnd 34 = .ok (.iload_n 1, 1) := by decide +kernel
theorem dX6_zoneEnd_35 : decode cX6_zoneEnd 35 = .ok (.iload_n 3, 1) := by decide +kernel
theorem dX6_zoneEnd_36 : decode cX6_zoneEnd 36 = .ok (.invokevirtual 171, 3) := by decide +kernel
theorem dX6_zoneEnd_39 : decode cX6_zoneEnd 39 = .ok (.ifCond .ne 9, 3) := by decide +kernel
theorem dX6_zoneEnd_42 : decode cX6_zoneEnd 42 = .ok (.iinc 3 1, 3) := by decide +kernel
theorem dX6_zoneEnd_45 : decode cX6_zoneEnd 45 = .ok (.goto (-43), 3) := by decide +kernel
theorem dX6_zoneEnd_48 : decode cX6_zoneEnd 48 = .ok (.iload_n 3, 1) := by decide +kernel
theorem dX6_zoneEnd_49 : decode cX6_zoneEnd 49 = .ok (.ireturn, 1) := by decide +kernel
def m_M_zoneEnd_2b (v : Nat → Int32) (u : Nat → Nat → Int32) (rec : Int32 → Int32 → Option ((Int32))) (x1 : Int32) (x3 : Int32)  : Option ((Int32)) := zix x1 9 ((if ((u 13) x1.toNatClampNeg) ≤ x3 then (some x3) else (m_M_sym x1 x3 v u).bind (fun q3 => (if q3 = 57 then (some x3) else zix x1 9 ((if x3 = ((u 14) x1.toNatClampNeg) then (some x3) else (m_M_digitFor x1 x3 v u).bind (fun q7 => (if q7 = 0 then rec x1 (x3 + 1) else (some x3)))))))))
def m_M_zoneEnd_2 (v : Nat → Int32) (u : Nat → Nat → Int32) : Nat → Int32 → Int32 → Option ((Int32))
  | 0 => fun _ _ => none
  | n + 1 => fun x1 x3 => m_M_zoneEnd_2b v u (m_M_zoneEnd_2 v u n) x1 x3
def m_M_zoneEnd (a0 : Int32) (a1 : Int32) (v : Nat → Int32) (u : Nat → Nat → Int32)  : Option ((Int32)) := m_M_zoneEnd_2 v u 64 a0 a1
section
variable {p : Program} {l : Launch} {e : Env} {s : State} {m : MethodId} {args : Array Value} {below : List Frame} {meth : Method} {c : Code} {D : va_G} {w0 : va_W} {ad : Nat → Nat} {ca : Nat → ClassId} {v : Nat → Int32} {u : Nat → Nat → Int32}
set_option maxRecDepth 100000 in
set_option maxHeartbeats 4000000 in
theorem b_M_zoneEnd_2 (G : zG p s m args meth c cX6_zoneEnd RX6 4 (some .int)) (hK : va_K D vwCl (wM_t ca) s) (hX : zN (va_A w0 s.heap.size) s) {res : (Int32)} : ∀ n : Nat, ∀ (x1 : Int32) (x3 : Int32), m_M_zoneEnd_2 v u n x1 x3 = some res → zB p l e (zR 2 45) s m args below meth c D vwCl (va_A w0 s.heap.size) (MQ below (zQi D vwCl w0 (wM ad ca v u) s.heap.size res) args s 0 0 (va_A w0 s.heap.size)) 4 (wM ad ca v u) [(0, .ref (ad 0)), (1, .int x1), (3, .int x3)] 2 [] := by
  intro n
  induction n with
  | zero => intro x1 x3 hm; cases hm
  | succ n ih =>
  have hrec := ih
  intro x1 x3 hm H locs ls hP hD hS hl
  replace hm : m_M_zoneEnd_2b v u (m_M_zoneEnd_2 v u n) x1 x3 = some res := hm
  generalize m_M_zoneEnd_2 v u n = rec at hm hrec
  unfold m_M_zoneEnd_2b at hm
  clear ih
  have G0 := G
  obtain ⟨hx, hb, hr, hml, hown, hw, hlk⟩ := G
  have hA : ∀ q, s.heap.size ≤ q → va_A w0 s.heap.size q := fun q h => Or.inr h
  refine lv_iload_n hx hb dX6_zoneEnd_2 rfl (lv_at hl 2 rfl) ?_
  refine lv_aload_n hx hb dX6_zoneEnd_3 rfl (lv_at hl 0 rfl) ?_
  refine va_get (D := D) (ci := 5) (v := .ref (ad 13)) (C := RX6) (T := TX6) (N := 24) hx hb hw zinX6 hown hK hP 0 rfl rfl 15 (by decide) (hw _ zw54) (fun _ h9 => h9) rfl dX6_zoneEnd_4 ?_
  refine lv_iload_n hx hb dX6_zoneEnd_7 rfl (lv_at hl 1 rfl) ?_
  obtain ⟨hi1, hm⟩ := zix_s hm
  refine va_iald (i := x1) (f := (u 13)) (n := 9) hx hb hK hP 13 12 rfl rfl hi1 dX6_zoneEnd_8 ?_
  refine lv_icmp_ge (tgt := 48) hx hb dX6_zoneEnd_9 rfl (fun cd2 => ?_) (fun cd2 => ?_)
  · replace hm := zt cd2 hm
    refine lv_iload_n hx hb dX6_zoneEnd_48 rfl (lv_at hl 2 rfl) ?_
    cases hm
    exact zreti hx hb hr hlk hP hD hS dX6_zoneEnd_49
  · replace hm := zf cd2 hm
    refine lv_aload_n hx hb dX6_zoneEnd_12 rfl (lv_at hl 0 rfl) ?_
    refine lv_iload_n hx hb dX6_zoneEnd_13 rfl (lv_at hl 1 rfl) ?_
    refine lv_iload_n hx hb dX6_zoneEnd_14 rfl (lv_at hl 2 rfl) ?_
    obtain ⟨q3, hq3, hm⟩ := zbind hm
    refine zbWi (va_runV (As := [.int x1, .int x3]) (rest := []) ⟨hx, hb, hml, hown, hw⟩ (k_M_sym l D ad ca _ x1 x3 v u  q3 hq3) (zcV (C := RX6) 2 hw (zgood zw14) rfl rfl rfl zw7 zw16 zw15 zw17 hdX6_sym ⟨Nat.le_of_ble_eq_true rfl, Nat.le_of_ble_eq_true rfl⟩) (zpreV (zpre zN_ok trivial hS (zfree hD hS hA) hP hK hD) (va_recv hK hP rfl (q0 := 0) rfl)) rfl rfl hl.1 rfl (lv_room (Nat.le_of_ble_eq_true rfl)) dX6_zoneEnd_15 ⟨Nat.zero_le _, Nat.zero_le _⟩) hS (zfree hD hS hA) (fun H locs hP hD hS => ?_)
    refine lv_bipush (v := 57) hx hb dX6_zoneEnd_18 (by decide) ?_
    refine lv_icmp_eq (tgt := 48) hx hb dX6_zoneEnd_20 rfl (fun cd4 => ?_) (fun cd4 => ?_)
    · replace hm := zt cd4 hm
      refine lv_iload_n hx hb dX6_zoneEnd_48 rfl (lv_at hl 2 rfl) ?_
      cases hm
      exact zreti hx hb hr hlk hP hD hS dX6_zoneEnd_49
    · replace hm := zf cd4 hm
      refine lv_iload_n hx hb dX6_zoneEnd_23 rfl (lv_at hl 2 rfl) ?_
      refine lv_aload_n hx hb dX6_zoneEnd_24 rfl (lv_at hl 0 rfl) ?_
      refine va_get (D := D) (ci := 5) (v := .ref (ad 14)) (C := RX6) (T := TX6) (N := 24) hx hb hw zinX6 hown hK hP 0 rfl rfl 16 (by decide) (hw _ zw52) (fun _ h9 => h9) rfl dX6_zoneEnd_25 ?_
      refine lv_iload_n hx hb dX6_zoneEnd_28 rfl (lv_at hl 1 rfl) ?_
      obtain ⟨hi5, hm⟩ := zix_s hm
      refine va_iald (i := x1) (f := (u 14)) (n := 9) hx hb hK hP 14 13 rfl rfl hi5 dX6_zoneEnd_29 ?_
      refine lv_icmp_eq (tgt := 48) hx hb dX6_zoneEnd_30 rfl (fun cd6 => ?_) (fun cd6 => ?_)
      · replace hm := zt cd6 hm
        refine lv_iload_n hx hb dX6_zoneEnd_48 rfl (lv_at hl 2 rfl) ?_
        cases hm
        exact zreti hx hb hr hlk hP hD hS dX6_zoneEnd_49
      · replace hm := zf cd6 hm
        refine lv_aload_n hx hb dX6_zoneEnd_33 rfl (lv_at hl 0 rfl) ?_
        refine lv_iload_n hx hb dX6_zoneEnd_34 rfl (lv_at hl 1 rfl) ?_
        refine lv_iload_n hx hb dX6_zoneEnd_35 rfl (lv_at hl 2 rfl) ?_
        obtain ⟨q7, hq7, hm⟩ := zbind hm
        refine zbWi (va_runV (As := [.int x1, .int x3]) (rest := []) ⟨hx, hb, hml, hown, hw⟩ (k_M_digitFor l D ad ca _ x1 x3 v u  q7 hq7) (zcV (C := RX6) 2 hw (zgood zw91) rfl rfl rfl zw7 zw93 zw92 zw94 hdX6_digitFor ⟨Nat.le_of_ble_eq_true rfl, Nat.le_of_ble_eq_true rfl⟩) (zpreV (zpre zN_ok trivial hS (zfree hD hS hA) hP hK hD) (va_recv hK hP rfl (q0 := 0) rfl)) rfl rfl hl.1 rfl (lv_room (Nat.le_of_ble_eq_true rfl)) dX6_zoneEnd_36 ⟨Nat.zero_le _, Nat.zero_le _⟩) hS (zfree hD hS hA) (fun H locs hP hD hS => ?_)
        refine lv_if_ne (tgt := 48) hx hb dX6_zoneEnd_39 rfl (fun cd8 => ?_) (fun cd8 => ?_)
        · replace hm := zf cd8 hm
          refine lv_iload_n hx hb dX6_zoneEnd_48 rfl (lv_at hl 2 rfl) ?_
          cases hm
          exact zreti hx hb hr hlk hP hD hS dX6_zoneEnd_49
        · replace hm := zt cd8 hm
          refine lv_iinc (k := 2) (v := (x3 + 1)) (lv' := [(3, .int (x3 + 1)), (0, .ref (ad 0)), (1, .int x1)]) hx hb dX6_zoneEnd_42 hl rfl rfl (by decide) rfl (fun ls hl => ?_)
          refine lv_goto (tgt := 2) hx hb dX6_zoneEnd_45 rfl ?_
          exact hrec _ _ hm H _ _ hP hD hS (lv_sub hl [1, 2, 0] rfl)
end
set_option maxRecDepth 100000 in
set_option maxHeartbeats 4000000 in
theorem k_M_zoneEnd (l : Launch) (D : va_G) (ad : Nat → Nat) (ca : Nat → ClassId) (sz : Nat) (a0 : Int32) (a1 : Int32) (v : Nat → Int32) (u : Nat → Nat → Int32) (res : (Int32)) (hm : m_M_zoneEnd a0 a1 v u  = some res) : Met l yX6_zoneEnd (Cond.code yX6_zoneEnd cX6_zoneEnd 4 (some .int) :: zBIG) (zR 2 45) (va_Pc [.ref (ad 0), .int a0, .int a1] (zP zN D vwCl (wM_t ca) (wM ad ca v u) sz)) (zQi D vwCl (wM ad ca v u) (wM ad ca v u) sz res) 0 0 (va_A (wM ad ca v u) sz) := by
  refine zEnter RX6 [.ref (ad 0), .int a0, .int a1] (by decide) rfl (Nat.le_of_ble_eq_true rfl) (fun p e s m below meth c ls G hK hX hP hD hsz hl => ?_)
  subst hsz
  unfold m_M_zoneEnd at hm
  have hl : lv_has ls 4 [(0, .ref (ad 0)), (1, .int a0), (2, .int a1)] := hl
  have hS : va_S (va_A (wM ad ca v u) s.heap.size) s.heap s.heap [] := va_S.rf
  have hA : ∀ q, s.heap.size ≤ q → va_A (wM ad ca v u) s.heap.size q := fun q h => Or.inr h
  have G0 := G
  obtain ⟨hx, hb, hr, hml, hown, hw, hlk⟩ := G
  refine lv_iload_n hx hb dX6_zoneEnd_0 rfl (lv_at hl 2 rfl) ?_
  refine lv_istore_n (lv' := [(3, .int a1), (0, .ref (ad 0)), (1, .int a0), (2, .int a1)]) hx hb dX6_zoneEnd_1 rfl hl (by decide) rfl (fun ls hl => ?_)
  exact b_M_zoneEnd_2 G0 hK hX 64 _ _ hm _ _ _ hP hD hS (lv_sub hl [1, 2, 0] rfl)

theorem dX6_firstDigit_0 : decode cX6_firstDigit 0 = .ok (.aload_n 0, 1) := by decide +kernel
theorem dX6_firstDigit_1 : decode cX6_firstDigit 1 = .ok (.getfield 44, 3) := by decide +kernel
theorem dX6_firstDigit_4 : decode cX6_firstDigit 4 = .ok (.iload_n 1, 1) := by decide +kernel
theorem dX6_firstDigit_5 : decode cX6_firstDigit 5 = .ok (.iaload, 1) := by decide +kernel
theorem dX6_firstDigit_6 : decode cX6_firstDigit 6 = .ok (.istore_n 2, 1) := by decide +kernel
theorem dX6_firstDigit_7 : decode cX6_firstDigit 7 = .ok (.iload_n 2, 1) := by decide +kernel
theorem dX6_firstDigit_8 : decode cX6_firstDigit 8 = .ok (.aload_n 0, 1) := by decide +kernel
theorem dX6_firstDigit_9 : decode cX6_firstDigit 9 = .ok (.getfield 47, 3) := by decide +kernel
theorem dX6_firstDigit_12 : decode cX6_firstDigit 12 = .ok (.iload_n 1, 1) := by decide +kernel
theorem dX6_firstDigit_13 : decode cX6_firstDigit 13 = .ok (.iaload, 1) := by decide +kernel
theorem dX6_firstDigit_14 : decode cX6_firstDigit 14 = .ok (.if_icmp .ge 44, 3) := by decide +kernel
theorem dX6_firstDigit_17 : decode cX6_firstDigit 17 = .ok (.aload_n 0, 1) := by decide +kernel
theorem dX6_firstDigit_18 : decode cX6_firstDigit 18 = .ok (.iload_n 1, 1) := by decide +kernel
theorem dX6_firstDigit_19 : decode cX6_firstDigit 19 = .ok (.iload_n 2, 1) := by decide +kernel
theorem dX6_firstDigit_20 : decode cX6_firstDigit 20 = .ok (.invokevirtual 93, 3) := by decide +kernel
theorem dX6_firstDigit_23 : decode cX6_firstDigit 23 = .ok (.bipush 57, 2) := by decide +kernel
theorem dX6_firstDigit_25 : decode cX6_firstDigit 25 = .ok (.if_icmp .eq 33, 3) := by decide +kernel
theorem dX6_firstDigit_28 : decode cX6_firstDigit 28 = .ok (.aload_n 0, 1) := by decide +kernel
theorem dX6_firstDigit_29 : decode cX6_firstDigit 29 = .ok (.getfield 41, 3) := by decide +kernel
theorem dX6_firstDigit_32 : decode cX6_firstDigit 32 = .ok (.iload_n 1, 1) := by decide +kernel
theorem dX6_firstDigit_33 : decode cX6_firstDigit 33 = .ok (.iaload, 1) := by decide +kernel
theorem dX6_firstDigit_34 : decode cX6_firstDigit 34 = .ok (.ifCond .eq 18, 3) := by decide +kernel
theorem dX6_firstDigit_37 : decode cX6_firstDigit 37 = .ok (.aload_n 0, 1) := by decide +kernel
theorem dX6_firstDigit_38 : decode cX6_firstDigit 38 = .ok (.iload_n 1, 1) := by decide +kernel
theorem dX6_firstDigit_39 : decode cX6_firstDigit 39 = .ok (.iload_n 2, 1) := by decide +kernel
theorem dX6_firstDigit_40 : decode cX6_firstDigit 40 = .ok (.invokevirtual 93, 3) := by decide +kernel
theorem dX6_firstDigit_43 : decode cX6_firstDigit 43 = .ok (.aload_n 0, 1) := by decide +kernel
theorem dX6_firstDigit_44 : decode cX6_firstDigit 44 = .ok (.getfield 41, 3) := by decide +kernel
theorem dX6_firstDigit_47 : decode cX6_firstDigit 47 = .ok (.iload_n 1, 1) := by decide +kernel
theorem dX6_firstDigit_48 : decode cX6_firstDigit 48 = .ok (.iaload, 1) := by decide +kernel
theorem dX6_firstDigit_49 : decode cX6_firstDigit 49 = .ok (.if_icmp .eq 9, 3) := by decide +kernel
theorem dX6_firstDigit_52 : decode cX6_firstDigit 52 = .ok (.iinc 2 1, 3) := by decide +kernel
theorem dX6_firstDigit_55 : decode cX6_firstDigit 55 = .ok (.goto (-48), 3) := by decide +kernel
theorem dX6_firstDigit_58 : decode cX6_firstDigit 58 = .ok (.iload_n 2, 1) := by decide +kernel
theorem dX6_firstDigit_59 : decode cX6_firstDigit 59 = .ok (.ireturn, 1) := by decide +kernel
def m_M_firstDigit_52 (v : Nat → Int32) (u : Nat → Nat → Int32) (rec : Int32 → Int32 → Option ((Int32))) (x1 : Int32) (x2 : Int32)  : Option ((Int32)) := rec x1 (x2 + 1)
def m_M_firstDigit_7b (v : Nat → Int32) (u : Nat → Nat → Int32) (rec : Int32 → Int32 → Option ((Int32))) (x1 : Int32) (x2 : Int32)  : Option ((Int32)) := zix x1 9 ((if ((u 13) x1.toNatClampNeg) ≤ x2 then (some x2) else (m_M_sym x1 x2 v u).bind (fun q4 => (if q4 = 57 then (some x2) else zix x1 9 ((if ((u 11) x1.toNatClampNeg) = 0 then m_M_firstDigit_52 v u rec x1 x2 else (m_M_sym x1 x2 v u).bind (fun q8 => zix x1 9 ((if q8 = ((u 11) x1.toNatClampNeg) then (some x2) else m_M_firstDigit_52 v u rec x1 x2)))))))))
def m_M_firstDigit_7 (v : Nat → Int32) (u : Nat → Nat → Int32) : Nat → Int32 → Int32 → Option ((Int32))
  | 0 => fun _ _ => none
  | n + 1 => fun x1 x2 => m_M_firstDigit_7b v u (m_M_firstDigit_7 v u n) x1 x2
def m_M_firstDigit (a0 : Int32) (v : Nat → Int32) (u : Nat → Nat → Int32)  : Option ((Int32)) := zix a0 9 (m_M_firstDigit_7 v u 64 a0 ((u 12) a0.toNatClampNeg))
section
variable {p : Program} {l : Launch} {e : Env} {s : State} {m : MethodId} {args : Array Value} {below : List Frame} {meth : Method} {c : Code} {D : va_G} {w0 : va_W} {ad : Nat → Nat} {ca : Nat → ClassId} {v : Nat → Int32} {u : Nat → Nat → Int32}
set_option maxRecDepth 100000 in
set_option maxHeartbeats 4000000 in
theorem b_M_firstDigit_52 (G : zG p s m args meth c cX6_firstDigit RX6 3 (some .int)) (hK : va_K D vwCl (wM_t ca) s) (hX : zN (va_A w0 s.heap.size) s) {res : (Int32)} (rec : Int32 → Int32 → Option ((Int32))) (hrec : ∀ (x1 : Int32) (x2 : Int32), rec x1 x2 = some res → zB p l e (zR 1 22) s m args below meth c D vwCl (va_A w0 s.heap.size) (MQ below (zQi D vwCl w0 (wM ad ca v u) s.heap.size res) args s 0 0 (va_A w0 s.heap.size)) 3 (wM ad ca v u) [(0, .ref (ad 0)), (1, .int x1), (2, .int x2)] 7 []) : ∀ (x1 : Int32) (x2 : Int32), m_M_firstDigit_52 v u rec x1 x2 = some res → zB p l e (zR 1 22) s m args below meth c D vwCl (va_A w0 s.heap.size) (MQ below (zQi D vwCl w0 (wM ad ca v u) s.heap.size res) args s 0 0 (va_A w0 s.heap.size)) 3 (wM ad ca v u) [(0, .ref (ad 0)), (1, .int x1), (2, .int x2)] 52 [] := by
  intro x1 x2 hm H locs ls hP hD hS hl
  unfold m_M_firstDigit_52 at hm
  have G0 := G
  obtain ⟨hx, hb, hr, hml, hown, hw, hlk⟩ := G
  have hA : ∀ q, s.heap.size ≤ q → va_A w0 s.heap.size q := fun q h => Or.inr h
  refine lv_iinc (k := 2) (v := (x2 + 1)) (lv' := [(2, .int (x2 + 1)), (0, .ref (ad 0)), (1, .int x1)]) hx hb dX6_firstDigit_52 hl rfl rfl (by decide) rfl (fun ls hl => ?_)
  refine lv_goto (tgt := 7) hx hb dX6_firstDigit_55 rfl ?_
  exact hrec _ _ hm H _ _ hP hD hS (lv_sub hl [1, 2, 0] rfl)
set_option maxRecDepth 100000 in
set_option maxHeartbeats 4000000 in
theorem b_M_firstDigit_7 (G : zG p s m args meth c cX6_firstDigit RX6 3 (some .int)) (hK : va_K D vwCl (wM_t ca) s) (hX : zN (va_A w0 s.heap.size) s) {res : (Int32)} : ∀ n : Nat, ∀ (x1 : Int32) (x2 : Int32), m_M_firstDigit_7 v u n x1 x2 = some res → zB p l e (zR 1 22) s m args below meth c D vwCl (va_A w0 s.heap.size) (MQ below (zQi D vwCl w0 (wM ad ca v u) s.heap.size res) args s 0 0 (va_A w0 s.heap.size)) 3 (wM ad ca v u) [(0, .ref (ad 0)), (1, .int x1), (2, .int x2)] 7 [] := by
  intro n
  induction n with
  | zero => intro x1 x2 hm; cases hm
  | succ n ih =>
  have hrec := ih
  intro x1 x2 hm H locs ls hP hD hS hl
  replace hm : m_M_firstDigit_7b v u (m_M_firstDigit_7 v u n) x1 x2 = some res := hm
  generalize m_M_firstDigit_7 v u n = rec at hm hrec
  unfold m_M_firstDigit_7b at hm
  clear ih
  have G0 := G
  obtain ⟨hx, hb, hr, hml, hown, hw, hlk⟩ := G
  have hA : ∀ q, s.heap.size ≤ q → va_A w0 s.heap.size q := fun q h => Or.inr h
  refine lv_iload_n hx hb dX6_firstDigit_7 rfl (lv_at hl 2 rfl) ?_
  refine lv_aload_n hx hb dX6_firstDigit_8 rfl (lv_at hl 0 rfl) ?_
  refine va_get (D := D) (ci := 5) (v := .ref (ad 13)) (C := RX6) (T := TX6) (N := 24) hx hb hw zinX6 hown hK hP 0 rfl rfl 15 (by decide) (hw _ zw54) (fun _ h9 => h9) rfl dX6_firstDigit_9 ?_
  refine lv_iload_n hx hb dX6_firstDigit_12 rfl (lv_at hl 1 rfl) ?_
  obtain ⟨hi2, hm⟩ := zix_s hm
  refine va_iald (i := x1) (f := (u 13)) (n := 9) hx hb hK hP 13 12 rfl rfl hi2 dX6_firstDigit_13 ?_
  refine lv_icmp_ge (tgt := 58) hx hb dX6_firstDigit_14 rfl (fun cd3 => ?_) (fun cd3 => ?_)
  · replace hm := zt cd3 hm
    refine lv_iload_n hx hb dX6_firstDigit_58 rfl (lv_at hl 2 rfl) ?_
    cases hm
    exact zreti hx hb hr hlk hP hD hS dX6_firstDigit_59
  · replace hm := zf cd3 hm
    refine lv_aload_n hx hb dX6_firstDigit_17 rfl (lv_at hl 0 rfl) ?_
    refine lv_iload_n hx hb dX6_firstDigit_18 rfl (lv_at hl 1 rfl) ?_
    refine lv_iload_n hx hb dX6_firstDigit_19 rfl (lv_at hl 2 rfl) ?_
    obtain ⟨q4, hq4, hm⟩ := zbind hm
    refine zbWi (va_runV (As := [.int x1, .int x2]) (rest := []) ⟨hx, hb, hml, hown, hw⟩ (k_M_sym l D ad ca _ x1 x2 v u  q4 hq4) (zcV (C := RX6) 2 hw (zgood zw14) rfl rfl rfl zw7 zw16 zw15 zw17 hdX6_sym ⟨Nat.le_of_ble_eq_true rfl, Nat.le_of_ble_eq_true rfl⟩) (zpreV (zpre zN_ok trivial hS (zfree hD hS hA) hP hK hD) (va_recv hK hP rfl (q0 := 0) rfl)) rfl rfl hl.1 rfl (lv_room (Nat.le_of_ble_eq_true rfl)) dX6_firstDigit_20 ⟨Nat.zero_le _, Nat.zero_le _⟩) hS (zfree hD hS hA) (fun H locs hP hD hS => ?_)
    refine lv_bipush (v := 57) hx hb dX6_firstDigit_23 (by decide) ?_
    refine lv_icmp_eq (tgt := 58) hx hb dX6_firstDigit_25 rfl (fun cd5 => ?_) (fun cd5 => ?_)
    · replace hm := zt cd5 hm
      refine lv_iload_n hx hb dX6_firstDigit_58 rfl (lv_at hl 2 rfl) ?_
      cases hm
      exact zreti hx hb hr hlk hP hD hS dX6_firstDigit_59
    · replace hm := zf cd5 hm
      refine lv_aload_n hx hb dX6_firstDigit_28 rfl (lv_at hl 0 rfl) ?_
      refine va_get (D := D) (ci := 5) (v := .ref (ad 11)) (C := RX6) (T := TX6) (N := 24) hx hb hw zinX6 hown hK hP 0 rfl rfl 13 (by decide) (hw _ zw51) (fun _ h9 => h9) rfl dX6_firstDigit_29 ?_
      refine lv_iload_n hx hb dX6_firstDigit_32 rfl (lv_at hl 1 rfl) ?_
      obtain ⟨hi6, hm⟩ := zix_s hm
      refine va_iald (i := x1) (f := (u 11)) (n := 9) hx hb hK hP 11 10 rfl rfl hi6 dX6_firstDigit_33 ?_
      refine lv_if_eq (tgt := 52) hx hb dX6_firstDigit_34 rfl (fun cd7 => ?_) (fun cd7 => ?_)
      · replace hm := zt cd7 hm
        exact b_M_firstDigit_52 G0 hK hX rec hrec _ _ hm H _ _ hP hD hS hl
      · replace hm := zf cd7 hm
        refine lv_aload_n hx hb dX6_firstDigit_37 rfl (lv_at hl 0 rfl) ?_
        refine lv_iload_n hx hb dX6_firstDigit_38 rfl (lv_at hl 1 rfl) ?_
        refine lv_iload_n hx hb dX6_firstDigit_39 rfl (lv_at hl 2 rfl) ?_
        obtain ⟨q8, hq8, hm⟩ := zbind hm
        refine zbWi (va_runV (As := [.int x1, .int x2]) (rest := []) ⟨hx, hb, hml, hown, hw⟩ (k_M_sym l D ad ca _ x1 x2 v u  q8 hq8) (zcV (C := RX6) 2 hw (zgood zw14) rfl rfl rfl zw7 zw16 zw15 zw17 hdX6_sym ⟨Nat.le_of_ble_eq_true rfl, Nat.le_of_ble_eq_true rfl⟩) (zpreV (zpre zN_ok trivial hS (zfree hD hS hA) hP hK hD) (va_recv hK hP rfl (q0 := 0) rfl)) rfl rfl hl.1 rfl (lv_room (Nat.le_of_ble_eq_true rfl)) dX6_firstDigit_40 ⟨Nat.zero_le _, Nat.zero_le _⟩) hS (zfree hD hS hA) (fun H locs hP hD hS => ?_)
        refine lv_aload_n hx hb dX6_firstDigit_43 rfl (lv_at hl 0 rfl) ?_
        refine va_get (D := D) (ci := 5) (v := .ref (ad 11)) (C := RX6) (T := TX6) (N := 24) hx hb hw zinX6 hown hK hP 0 rfl rfl 13 (by decide) (hw _ zw51) (fun _ h9 => h9) rfl dX6_firstDigit_44 ?_
        refine lv_iload_n hx hb dX6_firstDigit_47 rfl (lv_at hl 1 rfl) ?_
        obtain ⟨hi9, hm⟩ := zix_s hm
        refine va_iald (i := x1) (f := (u 11)) (n := 9) hx hb hK hP 11 10 rfl rfl hi9 dX6_firstDigit_48 ?_
        refine lv_icmp_eq (tgt := 58) hx hb dX6_firstDigit_49 rfl (fun cd10 => ?_) (fun cd10 => ?_)
        · replace hm := zt cd10 hm
          refine lv_iload_n hx hb dX6_firstDigit_58 rfl (lv_at hl 2 rfl) ?_
          cases hm
          exact zreti hx hb hr hlk hP hD hS dX6_firstDigit_59
        · replace hm := zf cd10 hm
          exact b_M_firstDigit_52 G0 hK hX rec hrec _ _ hm H _ _ hP hD hS hl
end
set_option maxRecDepth 100000 in
set_option maxHeartbeats 4000000 in
theorem k_M_firstDigit (l : Launch) (D : va_G) (ad : Nat → Nat) (ca : Nat → ClassId) (sz : Nat) (a0 : Int32) (v : Nat → Int32) (u : Nat → Nat → Int32) (res : (Int32)) (hm : m_M_firstDigit a0 v u  = some res) : Met l yX6_firstDigit (Cond.code yX6_firstDigit cX6_firstDigit 3 (some .int) :: zBIG) (zR 1 22) (va_Pc [.ref (ad 0), .int a0] (zP zN D vwCl (wM_t ca) (wM ad ca v u) sz)) (zQi D vwCl (wM ad ca v u) (wM ad ca v u) sz res) 0 0 (va_A (wM ad ca v u) sz) := by
  refine zEnter RX6 [.ref (ad 0), .int a0] (by decide) rfl (Nat.le_of_ble_eq_true rfl) (fun p e s m below meth c ls G hK hX hP hD hsz hl => ?_)
  subst hsz
  unfold m_M_firstDigit at hm
  have hl : lv_has ls 3 [(0, .ref (ad 0)), (1, .int a0)] := hl
  have hS : va_S (va_A (wM ad ca v u) s.heap.size) s.heap s.heap [] := va_S.rf
  have hA : ∀ q, s.heap.size ≤ q → va_A (wM ad ca v u) s.heap.size q := fun q h => Or.inr h
  have G0 := G
  obtain ⟨hx, hb, hr, hml, hown, hw, hlk⟩ := G
  refine lv_aload_n hx hb dX6_firstDigit_0 rfl (lv_at hl 0 rfl) ?_
  refine va_get (D := D) (ci := 5) (v := .ref (ad 12)) (C := RX6) (T := TX6) (N := 24) hx hb hw zinX6 hown hK hP 0 rfl rfl 14 (by decide) (hw _ zw53) (fun _ h9 => h9) rfl dX6_firstDigit_1 ?_
  refine lv_iload_n hx hb dX6_firstDigit_4 rfl (lv_at hl 1 rfl) ?_
  obtain ⟨hi1, hm⟩ := zix_s hm
  refine va_iald (i := a0) (f := (u 12)) (n := 9) hx hb hK hP 12 11 rfl rfl hi1 dX6_firstDigit_5 ?_
  refine lv_istore_n (lv' := [(2, .int ((u 12) a0.toNatClampNeg)), (0, .ref (ad 0)), (1, .int a0)]) hx hb dX6_firstDigit_6 rfl hl (by decide) rfl (fun ls hl => ?_)
  exact b_M_firstDigit_7 G0 hK hX 64 _ _ hm _ _ _ hP hD hS (lv_sub hl [1, 2, 0] rfl)

theorem dX6_plain_0 : decode cX6_plain 0 = .ok (.aload_n 0, 1) := by decide +kernel
theorem dX6_plain_1 : decode cX6_plain 1 = .ok (.iload_n 1, 1) := by decide +kernel
theorem dX6_plain_2 : decode cX6_plain 2 = .ok (.iload_n 2, 1) := by decide +kernel
theorem dX6_plain_3 : decode cX6_plain 3 = .ok (.invokevirtual 93, 3) := by decide +kernel
theorem dX6_plain_6 : decode cX6_plain 6 = .ok (.istore 4, 2) := by decide +kernel
theorem dX6_plain_8 : decode cX6_plain 8 = .ok (.aload_n 0, 1) := by decide +kernel
theorem dX6_plain_9 : decode cX6_plain 9 = .ok (.getfield 19, 3) := by decide +kernel
theorem dX6_plain_12 : decode cX6_plain 12 = .ok (.bipush 24, 2) := by decide +kernel
theorem dX6_plain_14 : decode cX6_plain 14 = .ok (.iload_n 1, 1) := by decide +kernel
theorem dX6_plain_15 : decode cX6_plain 15 = .ok (.imul, 1) := by decide +kernel
theorem dX6_plain_16 : decode cX6_plain 16 = .ok (.iload_n 2, 1) := by decide +kernel
theorem dX6_plain_17 : decode cX6_plain 17 = .ok (.iadd, 1) := by decide +kernel
theorem dX6_plain_18 : decode cX6_plain 18 = .ok (.iaload, 1) := by decide +kernel
theorem dX6_plain_19 : decode cX6_plain 19 = .ok (.ifCond .le 13, 3) := by decide +kernel
theorem dX6_plain_22 : decode cX6_plain 22 = .ok (.bipush 48, 2) := by decide +kernel
theorem dX6_plain_24 : decode cX6_plain 24 = .ok (.aload_n 0, 1) := by decide +kernel
theorem dX6_plain_25 : decode cX6_plain 25 = .ok (.iload_n 1, 1) := by decide +kernel
theorem dX6_plain_26 : decode cX6_plain 26 = .ok (.iload_n 2, 1) := by decide +kernel
theorem dX6_plain_27 : decode cX6_plain 27 = .ok (.invokevirtual 171, 3) := by decide +kernel
theorem dX6_plain_30 : decode cX6_plain 30 = .ok (.iadd, 1) := by decide +kernel
theorem dX6_plain_31 : decode cX6_plain 31 = .ok (.ireturn, 1) := by decide +kernel
theorem dX6_plain_32 : decode cX6_plain 32 = .ok (.iload 4, 2) := by decide +kernel
theorem dX6_plain_34 : decode cX6_plain 34 = .ok (.invokestatic 110, 3) := by decide +kernel
theorem dX6_plain_37 : decode cX6_plain 37 = .ok (.ifCond .eq 10, 3) := by decide +kernel
theorem dX6_plain_40 : decode cX6_plain 40 = .ok (.iload 4, 2) := by decide +kernel
theorem dX6_plain_42 : decode cX6_plain 42 = .ok (.iload_n 3, 1) := by decide +kernel
theorem dX6_plain_43 : decode cX6_plain 43 = .ok (.invokestatic 190, 3) := by decide +kernel
theorem dX6_plain_46 : decode cX6_plain 46 = .ok (.ireturn, 1) := by decide +kernel
theorem dX6_plain_47 : decode cX6_plain 47 = .ok (.iload 4, 2) := by decide +kernel
theorem dX6_plain_49 : decode cX6_plain 49 = .ok (.bipush 67, 2) := by decide +kernel
theorem dX6_plain_51 : decode cX6_plain 51 = .ok (.if_icmp .eq 10, 3) := by decide +kernel
theorem dX6_plain_54 : decode cX6_plain 54 = .ok (.iload 4, 2) := by decide +kernel
theorem dX6_plain_56 : decode cX6_plain 56 = .ok (.bipush 68, 2) := by decide +kernel
theorem dX6_plain_58 : decode cX6_plain 58 = .ok (.if_icmp .ne 15, 3) := by decide +kernel
theorem dX6_plain_61 : decode cX6_plain 61 = .ok (.iload_n 3, 1) := by decide +kernel
theorem dX6_plain_62 : decode cX6_plain 62 = .ok (.ifCond .eq 8, 3) := by decide +kernel
theorem dX6_plain_65 : decode cX6_plain 65 = .ok (.iload 4, 2) := by decide +kernel
theorem dX6_plain_67 : decode cX6_plain 67 = .ok (.goto 5, 3) := by decide +kernel
theorem dX6_plain_70 : decode cX6_plain 70 = .ok (.bipush 32, 2) := by decide +kernel
theorem dX6_plain_72 : decode cX6_plain 72 = .ok (.ireturn, 1) := by decide +kernel
theorem dX6_plain_73 : decode cX6_plain 73 = .ok (.iload 4, 2) := by decide +kernel
theorem dX6_plain_75 : decode cX6_plain 75 = .ok (.bipush 66, 2) := by decide +kernel
theorem dX6_plain_77 : decode cX6_plain 77 = .ok (.if_icmp .ne 8, 3) := by decide +kernel
theorem dX6_plain_80 : decode cX6_plain 80 = .ok (.bipush 32, 2) := by decide +kernel
theorem dX6_plain_82 : decode cX6_plain 82 = .ok (.goto 5, 3) := by decide +kernel
theorem dX6_plain_85 : decode cX6_plain 85 = .ok (.iload 4, 2) := by decide +kernel
theorem dX6_plain_87 : decode cX6_plain 87 = .ok (.ireturn, 1) := by decide +kernel
def m_M_plain_61 (v : Nat → Int32) (u : Nat → Nat → Int32) (x3 : Int32) (x4 : Int32)  : Option ((Int32)) := (if x3 = 0 then (some 32) else (some x4))
def m_M_plain (a0 : Int32) (a1 : Int32) (a2 : Int32) (v : Nat → Int32) (u : Nat → Nat → Int32)  : Option ((Int32)) := (m_M_sym a0 a1 v u).bind (fun q1 => zix ((24 * a0) + a1) 216 ((if ((u 4) ((24 * a0) + a1).toNatClampNeg) ≤ 0 then (m_M_isSign q1).bind (fun q4 => (if q4 = 0 then (if q1 = 67 then m_M_plain_61 v u a2 q1 else (if q1 = 68 then m_M_plain_61 v u a2 q1 else (if q1 = 66 then (some 32) else (some q1)))) else (m_M_signFor q1 a2).bind (fun q10 => (some q10)))) else (m_M_digitFor a0 a1 v u).bind (fun q11 => (some (48 + q11))))))
section
variable {p : Program} {l : Launch} {e : Env} {s : State} {m : MethodId} {args : Array Value} {below : List Frame} {meth : Method} {c : Code} {D : va_G} {w0 : va_W} {ad : Nat → Nat} {ca : Nat → ClassId} {v : Nat → Int32} {u : Nat → Nat → Int32}
set_option maxRecDepth 100000 in
set_option maxHeartbeats 4000000 in
theorem b_M_plain_61 (G : zG p s m args meth c cX6_plain RX6 5 (some .int)) (hK : va_K D vwCl (wM_t ca) s) (hX : zN (va_A w0 s.heap.size) s) {res : (Int32)} : ∀ (x3 : Int32) (x4 : Int32), m_M_plain_61 v u x3 x4 = some res → zB p l e (zR 2 45) s m args below meth c D vwCl (va_A w0 s.heap.size) (MQ below (zQi D vwCl w0 (wM ad ca v u) s.heap.size res) args s 0 0 (va_A w0 s.heap.size)) 5 (wM ad ca v u) [(3, .int x3), (4, .int x4)] 61 [] := by
  intro x3 x4 hm H locs ls hP hD hS hl
  unfold m_M_plain_61 at hm
  have G0 := G
  obtain ⟨hx, hb, hr, hml, hown, hw, hlk⟩ := G
  have hA : ∀ q, s.heap.size ≤ q → va_A w0 s.heap.size q := fun q h => Or.inr h
  refine lv_iload_n hx hb dX6_plain_61 rfl (lv_at hl 0 rfl) ?_
  refine lv_if_eq (tgt := 70) hx hb dX6_plain_62 rfl (fun cd7 => ?_) (fun cd7 => ?_)
  · replace hm := zt cd7 hm
    refine lv_bipush (v := 32) hx hb dX6_plain_70 (by decide) ?_
    cases hm
    exact zreti hx hb hr hlk hP hD hS dX6_plain_72
  · replace hm := zf cd7 hm
    refine lv_iload hx hb dX6_plain_65 (lv_at hl 1 rfl) ?_
    refine lv_goto (tgt := 72) hx hb dX6_plain_67 rfl ?_
    cases hm
    exact zreti hx hb hr hlk hP hD hS dX6_plain_72
end
set_option maxRecDepth 100000 in
set_option maxHeartbeats 4000000 in
theorem k_M_plain (l : Launch) (D : va_G) (ad : Nat → Nat) (ca : Nat → ClassId) (sz : Nat) (a0 : Int32) (a1 : Int32) (a2 : Int32) (v : Nat → Int32) (u : Nat → Nat → Int32) (res : (Int32)) (hm : m_M_plain a0 a1 a2 v u  = some res) : Met l yX6_plain (Cond.code yX6_plain cX6_plain 5 (some .int) :: zBIG) (zR 2 45) (va_Pc [.ref (ad 0), .int a0, .int a1, .int a2] (zP zN D vwCl (wM_t ca) (wM ad ca v u) sz)) (zQi D vwCl (wM ad ca v u) (wM ad ca v u) sz res) 0 0 (va_A (wM ad ca v u) sz) := by
  refine zEnter RX6 [.ref (ad 0), .int a0, .int a1, .int a2] (by decide) rfl (Nat.le_of_ble_eq_true rfl) (fun p e s m below meth c ls G hK hX hP hD hsz hl => ?_)
  subst hsz
  unfold m_M_plain at hm
  have hl : lv_has ls 5 [(0, .ref (ad 0)), (1, .int a0), (2, .int a1), (3, .int a2)] := hl
  have hS : va_S (va_A (wM ad ca v u) s.heap.size) s.heap s.heap [] := va_S.rf
  have hA : ∀ q, s.heap.size ≤ q → va_A (wM ad ca v u) s.heap.size q := fun q h => Or.inr h
  have G0 := G
  obtain ⟨hx, hb, hr, hml, hown, hw, hlk⟩ := G
  refine lv_aload_n hx hb dX6_plain_0 rfl (lv_at hl 0 rfl) ?_
  refine lv_iload_n hx hb dX6_plain_1 rfl (lv_at hl 1 rfl) ?_
  refine lv_iload_n hx hb dX6_plain_2 rfl (lv_at hl 2 rfl) ?_
  obtain ⟨q1, hq1, hm⟩ := zbind hm
  refine zbWi (va_runV (As := [.int a0, .int a1]) (rest := []) ⟨hx, hb, hml, hown, hw⟩ (k_M_sym l D ad ca _ a0 a1 v u  q1 hq1) (zcV (C := RX6) 2 hw (zgood zw14) rfl rfl rfl zw7 zw16 zw15 zw17 hdX6_sym ⟨Nat.le_of_ble_eq_true rfl, Nat.le_of_ble_eq_true rfl⟩) (zpreV (zpre zN_ok trivial hS (zfree hD hS hA) hP hK hD) (va_recv hK hP rfl (q0 := 0) rfl)) rfl rfl hl.1 rfl (lv_room (Nat.le_of_ble_eq_true rfl)) dX6_plain_3 ⟨Nat.zero_le _, Nat.zero_le _⟩) hS (zfree hD hS hA) (fun H locs hP hD hS => ?_)
  refine lv_istore (lv' := [(4, .int q1), (0, .ref (ad 0)), (1, .int a0), (2, .int a1), (3, .int a2)]) hx hb dX6_plain_6 hl (by decide) rfl (fun ls hl => ?_)
  refine lv_aload_n hx hb dX6_plain_8 rfl (lv_at hl 1 rfl) ?_
  refine va_get (D := D) (ci := 5) (v := .ref (ad 4)) (C := RX6) (T := TX6) (N := 24) hx hb hw zinX6 hown hK hP 0 rfl rfl 6 (by decide) (hw _ zw21) (fun _ h9 => h9) rfl dX6_plain_9 ?_
  refine lv_bipush (v := 24) hx hb dX6_plain_12 (by decide) ?_
  refine lv_iload_n hx hb dX6_plain_14 rfl (lv_at hl 2 rfl) ?_
  refine lv_imul hx hb dX6_plain_15 ?_
  refine lv_iload_n hx hb dX6_plain_16 rfl (lv_at hl 3 rfl) ?_
  refine lv_iadd hx hb dX6_plain_17 ?_
  obtain ⟨hi2, hm⟩ := zix_s hm
  refine va_iald (i := ((24 * a0) + a1)) (f := (u 4)) (n := 216) hx hb hK hP 4 3 rfl rfl hi2 dX6_plain_18 ?_
  refine lv_if_le (tgt := 32) hx hb dX6_plain_19 rfl (fun cd3 => ?_) (fun cd3 => ?_)
  · replace hm := zt cd3 hm
    refine lv_iload hx hb dX6_plain_32 (lv_at hl 0 rfl) ?_
    obtain ⟨q4, hq4, hm⟩ := zbind hm
    refine zb0i (va_runS (As := [.int q1]) (rest := []) ⟨hx, hb, hml, hown, hw⟩ (k_M_isSign l D  _ q1  q4 hq4) ⟨zcB 1 hw (zgood zw65) rfl rfl rfl zw7 zw67 hdX6_isSign ⟨Nat.le_of_ble_eq_true rfl, Nat.le_of_ble_eq_true rfl⟩, hw _ zw66⟩ (zpre zN_ok trivial hS (zfree0 hS hA) zP0 (hK.sub (tys' := []) [] rfl) zD0) rfl rfl hl.1 rfl (lv_room (Nat.le_of_ble_eq_true rfl)) dX6_plain_34 ⟨Nat.zero_le _, Nat.zero_le _⟩) hP hD hS (zfree0 hS hA) (fun H locs hP hD hS => ?_)
    refine lv_if_eq (tgt := 47) hx hb dX6_plain_37 rfl (fun cd5 => ?_) (fun cd5 => ?_)
    · replace hm := zt cd5 hm
      refine lv_iload hx hb dX6_plain_47 (lv_at hl 0 rfl) ?_
      refine lv_bipush (v := 67) hx hb dX6_plain_49 (by decide) ?_
      refine lv_icmp_eq (tgt := 61) hx hb dX6_plain_51 rfl (fun cd6 => ?_) (fun cd6 => ?_)
      · replace hm := zt cd6 hm
        exact b_M_plain_61 G0 hK hX _ _ hm _ _ _ hP hD hS (lv_sub hl [4, 0] rfl)
      · replace hm := zf cd6 hm
        refine lv_iload hx hb dX6_plain_54 (lv_at hl 0 rfl) ?_
        refine lv_bipush (v := 68) hx hb dX6_plain_56 (by decide) ?_
        refine lv_icmp_ne (tgt := 73) hx hb dX6_plain_58 rfl (fun cd8 => ?_) (fun cd8 => ?_)
        · replace hm := zf cd8 hm
          refine lv_iload hx hb dX6_plain_73 (lv_at hl 0 rfl) ?_
          refine lv_bipush (v := 66) hx hb dX6_plain_75 (by decide) ?_
          refine lv_icmp_ne (tgt := 85) hx hb dX6_plain_77 rfl (fun cd9 => ?_) (fun cd9 => ?_)
          · replace hm := zf cd9 hm
            refine lv_iload hx hb dX6_plain_85 (lv_at hl 0 rfl) ?_
            cases hm
            exact zreti hx hb hr hlk hP hD hS dX6_plain_87
          · replace hm := zt cd9 hm
            refine lv_bipush (v := 32) hx hb dX6_plain_80 (by decide) ?_
            refine lv_goto (tgt := 87) hx hb dX6_plain_82 rfl ?_
            cases hm
            exact zreti hx hb hr hlk hP hD hS dX6_plain_87
        · replace hm := zt cd8 hm
          exact b_M_plain_61 G0 hK hX _ _ hm _ _ _ hP hD hS (lv_sub hl [4, 0] rfl)
    · replace hm := zf cd5 hm
      refine lv_iload hx hb dX6_plain_40 (lv_at hl 0 rfl) ?_
      refine lv_iload_n hx hb dX6_plain_42 rfl (lv_at hl 4 rfl) ?_
      obtain ⟨q10, hq10, hm⟩ := zbind hm
      refine zb0i (va_runS (As := [.int q1, .int a2]) (rest := []) ⟨hx, hb, hml, hown, hw⟩ (k_M_signFor l D  _ q1 a2  q10 hq10) ⟨zcB 2 hw (zgood zw95) rfl rfl rfl zw7 zw97 hdX6_signFor ⟨Nat.le_of_ble_eq_true rfl, Nat.le_of_ble_eq_true rfl⟩, hw _ zw96⟩ (zpre zN_ok trivial hS (zfree0 hS hA) zP0 (hK.sub (tys' := []) [] rfl) zD0) rfl rfl hl.1 rfl (lv_room (Nat.le_of_ble_eq_true rfl)) dX6_plain_43 ⟨Nat.zero_le _, Nat.zero_le _⟩) hP hD hS (zfree0 hS hA) (fun H locs hP hD hS => ?_)
      cases hm
      exact zreti hx hb hr hlk hP hD hS dX6_plain_46
  · replace hm := zf cd3 hm
    refine lv_bipush (v := 48) hx hb dX6_plain_22 (by decide) ?_
    refine lv_aload_n hx hb dX6_plain_24 rfl (lv_at hl 1 rfl) ?_
    refine lv_iload_n hx hb dX6_plain_25 rfl (lv_at hl 2 rfl) ?_
    refine lv_iload_n hx hb dX6_plain_26 rfl (lv_at hl 3 rfl) ?_
    obtain ⟨q11, hq11, hm⟩ := zbind hm
    refine zbWi (va_runV (As := [.int a0, .int a1]) (rest := [.int 48]) ⟨hx, hb, hml, hown, hw⟩ (k_M_digitFor l D ad ca _ a0 a1 v u  q11 hq11) (zcV (C := RX6) 2 hw (zgood zw91) rfl rfl rfl zw7 zw93 zw92 zw94 hdX6_digitFor ⟨Nat.le_of_ble_eq_true rfl, Nat.le_of_ble_eq_true rfl⟩) (zpreV (zpre zN_ok trivial hS (zfree hD hS hA) hP hK hD) (va_recv hK hP rfl (q0 := 0) rfl)) rfl rfl hl.1 rfl (lv_room (Nat.le_of_ble_eq_true rfl)) dX6_plain_27 ⟨Nat.zero_le _, Nat.zero_le _⟩) hS (zfree hD hS hA) (fun H locs hP hD hS => ?_)
    refine lv_iadd hx hb dX6_plain_30 ?_
    cases hm
    exact zreti hx hb hr hlk hP hD hS dX6_plain_31

theorem dX6_edit_0 : decode cX6_edit 0 = .ok (.aload_n 0, 1) := by decide +kernel
theorem dX6_edit_1 : decode cX6_edit 1 = .ok (.iload_n 1, 1) := by decide +kernel
theorem dX6_edit_2 : decode cX6_edit 2 = .ok (.invokevirtual 177, 3) := by decide +kernel
theorem dX6_edit_5 : decode cX6_edit 5 = .ok (.istore_n 2, 1) := by decide +kernel
theorem dX6_edit_6 : decode cX6_edit 6 = .ok (.iconst 0, 1) := by decide +kernel
theorem dX6_edit_7 : decode cX6_edit 7 = .ok (.istore_n 3, 1) := by decide +kernel
theorem dX6_edit_8 : decode cX6_edit 8 = .ok (.iconst 1, 1) := by decide +kernel
theorem dX6_edit_9 : decode cX6_edit 9 = .ok (.istore 4, 2) := by decide +kernel
theorem dX6_edit_11 : decode cX6_edit 11 = .ok (.aload_n 0, 1) := by decide +kernel
theorem dX6_edit_12 : decode cX6_edit 12 = .ok (.getfield 44, 3) := by decide +kernel
theorem dX6_edit_15 : decode cX6_edit 15 = .ok (.iload_n 1, 1) := by decide +kernel
theorem dX6_edit_16 : decode cX6_edit 16 = .ok (.iaload, 1) := by decide +kernel
theorem dX6_edit_17 : decode cX6_edit 17 = .ok (.istore 5, 2) := by decide +kernel
theorem dX6_edit_19 : decode cX6_edit 19 = .ok (.iload 5, 2) := by decide +kernel
theorem dX6_edit_21 : decode cX6_edit 21 = .ok (.aload_n 0, 1) := by decide +kernel
theorem dX6_edit_22 : decode cX6_edit 22 = .ok (.getfield 47, 3) := by decide +kernel
theorem dX6_edit_25 : decode cX6_edit 25 = .ok (.iload_n 1, 1) := by decide +kernel
theorem dX6_edit_26 : decode cX6_edit 26 = .ok (.iaload, 1) := by decide +kernel
theorem dX6_edit_27 : decode cX6_edit 27 = .ok (.if_icmp .ge 53, 3) := by decide +kernel
theorem dX6_edit_30 : decode cX6_edit 30 = .ok (.iload_n 3, 1) := by decide +kernel
theorem dX6_edit_31 : decode cX6_edit 31 = .ok (.ifCond .ne 15, 3) := by decide +kernel
theorem dX6_edit_34 : decode cX6_edit 34 = .ok (.aload_n 0, 1) := by decide +kernel
theorem dX6_edit_35 : decode cX6_edit 35 = .ok (.iload_n 1, 1) := by decide +kernel
theorem dX6_edit_36 : decode cX6_edit 36 = .ok (.iload 5, 2) := by decide +kernel
theorem dX6_edit_38 : decode cX6_edit 38 = .ok (.invokevirtual 93, 3) := by decide +kernel
theorem dX6_edit_41 : decode cX6_edit 41 = .ok (.bipush 57, 2) := by decide +kernel
theorem dX6_edit_43 : decode cX6_edit 43 = .ok (.if_icmp .ne 7, 3) := by decide +kernel
theorem dX6_edit_46 : decode cX6_edit 46 = .ok (.iconst 1, 1) := by decide +kernel
theorem dX6_edit_47 : decode cX6_edit 47 = .ok (.goto 4, 3) := by decide +kernel
theorem dX6_edit_50 : decode cX6_edit 50 = .ok (.iconst 0, 1) := by decide +kernel
theorem dX6_edit_51 : decode cX6_edit 51 = .ok (.istore_n 3, 1) := by decide +kernel
theorem dX6_edit_52 : decode cX6_edit 52 = .ok (.iload 4, 2) := by decide +kernel
theorem dX6_edit_54 : decode cX6_edit 54 = .ok (.ifCond .eq 17, 3) := by decide +kernel
theorem dX6_edit_57 : decode cX6_edit 57 = .ok (.aload_n 0, 1) := by decide +kernel
theorem dX6_edit_58 : decode cX6_edit 58 = .ok (.iload_n 1, 1) := by decide +kernel
theorem dX6_edit_59 : decode cX6_edit 59 = .ok (.iload 5, 2) := by decide +kernel
theorem dX6_edit_61 : decode cX6_edit 61 = .ok (.invokevirtual 171, 3) := by decide +kernel
theorem dX6_edit_64 : decode cX6_edit 64 = .ok (.ifCond .ne 7, 3) := by decide +kernel
theorem dX6_edit_67 : decode cX6_edit 67 = .ok (.iconst 1, 1) := by decide +kernel
theorem dX6_edit_68 : decode cX6_edit 68 = .ok (.goto 4, 3) := by decide +kernel
theorem dX6_edit_71 : decode cX6_edit 71 = .ok (.iconst 0, 1) := by decide +kernel
theorem dX6_edit_72 : decode cX6_edit 72 = .ok (.istore 4, 2) := by decide +kernel
theorem dX6_edit_74 : decode cX6_edit 74 = .ok (.iinc 5 1, 3) := by decide +kernel
theorem dX6_edit_77 : decode cX6_edit 77 = .ok (.goto (-58), 3) := by decide +kernel
theorem dX6_edit_80 : decode cX6_edit 80 = .ok (.aload_n 0, 1) := by decide +kernel
theorem dX6_edit_81 : decode cX6_edit 81 = .ok (.getfield 41, 3) := by decide +kernel
theorem dX6_edit_84 : decode cX6_edit 84 = .ok (.iload_n 1, 1) := by decide +kernel
theorem dX6_edit_85 : decode cX6_edit 85 = .ok (.iaload, 1) := by decide +kernel
theorem dX6_edit_86 : decode cX6_edit 86 = .ok (.ifCond .eq 16, 3) := by decide +kernel
theorem dX6_edit_89 : decode cX6_edit 89 = .ok (.iload_n 3, 1) := by decide +kernel
theorem dX6_edit_90 : decode cX6_edit 90 = .ok (.ifCond .ne 12, 3) := by decide +kernel
theorem dX6_edit_93 : decode cX6_edit 93 = .ok (.iload 4, 2) := by decide +kernel
theorem dX6_edit_95 : decode cX6_edit 95 = .ok (.ifCond .eq 7, 3) := by decide +kernel
theorem dX6_edit_98 : decode cX6_edit 98 = .ok (.iconst 1, 1) := by decide +kernel
theorem dX6_edit_99 : decode cX6_edit 99 = .ok (.goto 4, 3) := by decide +kernel
theorem dX6_edit_102 : decode cX6_edit 102 = .ok (.iconst 0, 1) := by decide +kernel
theorem dX6_edit_103 : decode cX6_edit 103 = .ok (.istore 5, 2) := by decide +kernel
theorem dX6_edit_105 : decode cX6_edit 105 = .ok (.aload_n 0, 1) := by decide +kernel
theorem dX6_edit_106 : decode cX6_edit 106 = .ok (.iload_n 1, 1) := by decide +kernel
theorem dX6_edit_107 : decode cX6_edit 107 = .ok (.invokevirtual 180, 3) := by decide +kernel
theorem dX6_edit_110 : decode cX6_edit 110 = .ok (.istore 6, 2) := by decide +kernel
theorem dX6_edit_112 : decode cX6_edit 112 = .ok (.aload_n 0, 1) := by decide +kernel
theorem dX6_edit_113 : decode cX6_edit 113 = .ok (.getfield 41, 3) := by decide +kernel
theorem dX6_edit_116 : decode cX6_edit 116 = .ok (.iload_n 1, 1) := by decide +kernel
theorem dX6_edit_117 : decode cX6_edit 117 = .ok (.iaload, 1) := by decide +kernel
theorem dX6_edit_118 : decode cX6_edit 118 = .ok (.ifCond .ne 8, 3) := by decide +kernel
theorem dX6_edit_121 : decode cX6_edit 121 = .ok (.iload 6, 2) := by decide +kernel
theorem dX6_edit_123 : decode cX6_edit 123 = .ok (.goto 10, 3) := by decide +kernel
theorem dX6_edit_126 : decode cX6_edit 126 = .ok (.aload_n 0, 1) := by decide +kernel
theorem dX6_edit_127 : decode cX6_edit 127 = .ok (.iload_n 1, 1) := by decide +kernel
theorem dX6_edit_128 : decode cX6_edit 128 = .ok (.iload 6, 2) := by decide +kernel
theorem dX6_edit_130 : decode cX6_edit 130 = .ok (.invokevirtual 183, 3) := by decide +kernel
theorem dX6_edit_133 : decode cX6_edit 133 = .ok (.istore 7, 2) := by decide +kernel
theorem dX6_edit_135 : decode cX6_edit 135 = .ok (.aload_n 0, 1) := by decide +kernel
theorem dX6_edit_136 : decode cX6_edit 136 = .ok (.getfield 41, 3) := by decide +kernel
theorem dX6_edit_139 : decode cX6_edit 139 = .ok (.iload_n 1, 1) := by decide +kernel
theorem dX6_edit_140 : decode cX6_edit 140 = .ok (.iaload, 1) := by decide +kernel
theorem dX6_edit_141 : decode cX6_edit 141 = .ok (.bipush 43, 2) := by decide +kernel
theorem dX6_edit_143 : decode cX6_edit 143 = .ok (.if_icmp .eq 25, 3) := by decide +kernel
theorem dX6_edit_146 : decode cX6_edit 146 = .ok (.aload_n 0, 1) := by decide +kernel
theorem dX6_edit_147 : decode cX6_edit 147 = .ok (.getfield 41, 3) := by decide +kernel
theorem dX6_edit_150 : decode cX6_edit 150 = .ok (.iload_n 1, 1) := by decide +kernel
theorem dX6_edit_151 : decode cX6_edit 151 = .ok (.iaload, 1) := by decide +kernel
theorem dX6_edit_152 : decode cX6_edit 152 = .ok (.bipush 45, 2) := by decide +kernel
theorem dX6_edit_154 : decode cX6_edit 154 = .ok (.if_icmp .eq 14, 3) := by decide +kernel
theorem dX6_edit_157 : decode cX6_edit 157 = .ok (.aload_n 0, 1) := by decide +kernel
theorem dX6_edit_158 : decode cX6_edit 158 = .ok (.getfield 41, 3) := by decide +kernel
theorem dX6_edit_161 : decode cX6_edit 161 = .ok (.iload_n 1, 1) := by decide +kernel
theorem dX6_edit_162 : decode cX6_edit 162 = .ok (.iaload, 1) := by decide +kernel
theorem dX6_edit_163 : decode cX6_edit 163 = .ok (.bipush 36, 2) := by decide +kernel
theorem dX6_edit_165 : decode cX6_edit 165 = .ok (.if_icmp .ne 7, 3) := by decide +kernel
theorem dX6_edit_168 : decode cX6_edit 168 = .ok (.iconst 1, 1) := by decide +kernel
theorem dX6_edit_169 : decode cX6_edit 169 = .ok (.goto 4, 3) := by decide +kernel
theorem dX6_edit_172 : decode cX6_edit 172 = .ok (.iconst 0, 1) := by decide +kernel
theorem dX6_edit_173 : decode cX6_edit 173 = .ok (.istore 8, 2) := by decide +kernel
theorem dX6_edit_175 : decode cX6_edit 175 = .ok (.bipush 32, 2) := by decide +kernel
theorem dX6_edit_177 : decode cX6_edit 177 = .ok (.iload_n 1, 1) := by decide +kernel
theorem dX6_edit_178 : decode cX6_edit 178 = .ok (.imul, 1) := by decide +kernel
theorem dX6_edit_179 : decode cX6_edit 179 = .ok (.istore 9, 2) := by decide +kernel
theorem dX6_edit_181 : decode cX6_edit 181 = .ok (.iconst 0, 1) := by decide +kernel
theorem dX6_edit_182 : decode cX6_edit 182 = .ok (.istore 10, 2) := by decide +kernel
theorem dX6_edit_184 : decode cX6_edit 184 = .ok (.iload 10, 2) := by decide +kernel
theorem dX6_edit_186 : decode cX6_edit 186 = .ok (.aload_n 0, 1) := by decide +kernel
theorem dX6_edit_187 : decode cX6_edit 187 = .ok (.getfield 13, 3) := by decide +kernel
theorem dX6_edit_190 : decode cX6_edit 190 = .ok (.iload_n 1, 1) := by decide +kernel
theorem dX6_edit_191 : decode cX6_edit 191 = .ok (.iaload, 1) := by decide +kernel
theorem dX6_edit_192 : decode cX6_edit 192 = .ok (.if_icmp .ge 231, 3) := by decide +kernel
theorem dX6_edit_195 : decode cX6_edit 195 = .ok (.aload_n 0, 1) := by decide +kernel
theorem dX6_edit_196 : decode cX6_edit 196 = .ok (.iload_n 1, 1) := by decide +kernel
theorem dX6_edit_197 : decode cX6_edit 197 = .ok (.iload 10, 2) := by decide +kernel
theorem dX6_edit_199 : decode cX6_edit 199 = .ok (.invokevirtual 93, 3) := by decide +kernel
theorem dX6_edit_202 : decode cX6_edit 202 = .ok (.istore 11, 2) := by decide +kernel
theorem dX6_edit_204 : decode cX6_edit 204 = .ok (.aload_n 0, 1) := by decide +kernel
theorem dX6_edit_205 : decode cX6_edit 205 = .ok (.iload_n 1, 1) := by decide +kernel
theorem dX6_edit_206 : decode cX6_edit 206 = .ok (.iload 10, 2) := by decide +kernel
theorem dX6_edit_208 : decode cX6_edit 208 = .ok (.iload_n 2, 1) := by decide +kernel
theorem dX6_edit_209 : decode cX6_edit 209 = .ok (.invokevirtual 186, 3) := by decide +kernel
theorem dX6_edit_212 : decode cX6_edit 212 = .ok (.istore 12, 2) := by decide +kernel
theorem dX6_edit_214 : decode cX6_edit 214 = .ok (.iload 10, 2) := by decide +kernel
theorem dX6_edit_216 : decode cX6_edit 216 = .ok (.iload 6, 2) := by decide +kernel
theorem dX6_edit_218 : decode cX6_edit 218 = .ok (.if_icmp .lt 84, 3) := by decide +kernel
theorem dX6_edit_221 : decode cX6_edit 221 = .ok (.iload 10, 2) := by decide +kernel
theorem dX6_edit_223 : decode cX6_edit 223 = .ok (.iload 7, 2) := by decide +kernel
theorem dX6_edit_225 : decode cX6_edit 225 = .ok (.if_icmp .ge 77, 3) := by decide +kernel
theorem dX6_edit_228 : decode cX6_edit 228 = .ok (.iload 10, 2) := by decide +kernel
theorem dX6_edit_230 : decode cX6_edit 230 = .ok (.aload_n 0, 1) := by decide +kernel
theorem dX6_edit_231 : decode cX6_edit 231 = .ok (.getfield 44, 3) := by decide +kernel
theorem dX6_edit_234 : decode cX6_edit 234 = .ok (.iload_n 1, 1) := by decide +kernel
theorem dX6_edit_235 : decode cX6_edit 235 = .ok (.iaload, 1) := by decide +kernel
theorem dX6_edit_236 : decode cX6_edit 236 = .ok (.if_icmp .lt 66, 3) := by decide +kernel
theorem dX6_edit_239 : decode cX6_edit 239 = .ok (.aload_n 0, 1) := by decide +kernel
theorem dX6_edit_240 : decode cX6_edit 240 = .ok (.getfield 41, 3) := by decide +kernel
theorem dX6_edit_243 : decode cX6_edit 243 = .ok (.iload_n 1, 1) := by decide +kernel
theorem dX6_edit_244 : decode cX6_edit 244 = .ok (.iaload, 1) := by decide +kernel
theorem dX6_edit_245 : decode cX6_edit 245 = .ok (.bipush 42, 2) := by decide +kernel
theorem dX6_edit_247 : decode cX6_edit 247 = .ok (.if_icmp .ne 8, 3) := by decide +kernel
theorem dX6_edit_250 : decode cX6_edit 250 = .ok (.bipush 42, 2) := by decide +kernel
theorem dX6_edit_252 : decode cX6_edit 252 = .ok (.goto 48, 3) := by decide +kernel
theorem dX6_edit_255 : decode cX6_edit 255 = .ok (.iload 8, 2) := by decide +kernel
theorem dX6_edit_257 : decode cX6_edit 257 = .ok (.ifCond .eq 41, 3) := by decide +kernel
theorem dX6_edit_260 : decode cX6_edit 260 = .ok (.iload 10, 2) := by decide +kernel
theorem dX6_edit_262 : decode cX6_edit 262 = .ok (.iload 7, 2) := by decide +kernel
theorem dX6_edit_264 : decode cX6_edit 264 = .ok (.iconst 1, 1) := by decide +kernel
theorem dX6_edit_265 : decode cX6_edit 265 = .ok (.isub, 1) := by decide +kernel
theorem dX6_edit_266 : decode cX6_edit 266 = .ok (.if_icmp .ne 32, 3) := by decide +kernel
theorem dX6_edit_269 : decode cX6_edit 269 = .ok (.aload_n 0, 1) := by decide +kernel
theorem dX6_edit_270 : decode cX6_edit 270 = .ok (.getfield 41, 3) := by decide +kernel
theorem dX6_edit_273 : decode cX6_edit 273 = .ok (.iload_n 1, 1) := by decide +kernel
theorem dX6_edit_274 : decode cX6_edit 274 = .ok (.iaload, 1) := by decide +kernel
theorem dX6_edit_275 : decode cX6_edit 275 = .ok (.bipush 36, 2) := by decide +kernel
theorem dX6_edit_277 : decode cX6_edit 277 = .ok (.if_icmp .ne 8, 3) := by decide +kernel
theorem dX6_edit_280 : decode cX6_edit 280 = .ok (.bipush 36, 2) := by decide +kernel
theorem dX6_edit_282 : decode cX6_edit 282 = .ok (.goto 18, 3) := by decide +kernel
theorem dX6_edit_285 : decode cX6_edit 285 = .ok (.aload_n 0, 1) := by decide +kernel
theorem dX6_edit_286 : decode cX6_edit 286 = .ok (.getfield 41, 3) := by decide +kernel
theorem dX6_edit_289 : decode cX6_edit 289 = .ok (.iload_n 1, 1) := by decide +kernel
theorem dX6_edit_290 : decode cX6_edit 290 = .ok (.iaload, 1) := by decide +kernel
theorem dX6_edit_291 : decode cX6_edit 291 = .ok (.iload_n 2, 1) := by decide +kernel
theorem dX6_edit_292 : decode cX6_edit 292 = .ok (.invokestatic 190, 3) := by decide +kernel
theorem dX6_edit_295 : decode cX6_edit 295 = .ok (.goto 5, 3) := by decide +kernel
theorem dX6_edit_298 : decode cX6_edit 298 = .ok (.bipush 32, 2) := by decide +kernel
theorem dX6_edit_300 : decode cX6_edit 300 = .ok (.istore 12, 2) := by decide +kernel
theorem dX6_edit_302 : decode cX6_edit 302 = .ok (.iload 5, 2) := by decide +kernel
theorem dX6_edit_304 : decode cX6_edit 304 = .ok (.ifCond .eq 35, 3) := by decide +kernel
theorem dX6_edit_307 : decode cX6_edit 307 = .ok (.aload_n 0, 1) := by decide +kernel
theorem dX6_edit_308 : decode cX6_edit 308 = .ok (.getfield 41, 3) := by decide +kernel
theorem dX6_edit_311 : decode cX6_edit 311 = .ok (.iload_n 1, 1) := by decide +kernel
theorem dX6_edit_312 : decode cX6_edit 312 = .ok (.iaload, 1) := by decide +kernel
theorem dX6_edit_313 : decode cX6_edit 313 = .ok (.bipush 42, 2) := by decide +kernel
theorem dX6_edit_315 : decode cX6_edit 315 = .ok (.if_icmp .eq 8, 3) := by decide +kernel
theorem dX6_edit_318 : decode cX6_edit 318 = .ok (.bipush 32, 2) := by decide +kernel
theorem dX6_edit_320 : decode cX6_edit 320 = .ok (.goto 17, 3) := by decide +kernel
theorem dX6_edit_323 : decode cX6_edit 323 = .ok (.iload 11, 2) := by decide +kernel
theorem dX6_edit_325 : decode cX6_edit 325 = .ok (.bipush 46, 2) := by decide +kernel
theorem dX6_edit_327 : decode cX6_edit 327 = .ok (.if_icmp .ne 8, 3) := by decide +kernel
theorem dX6_edit_330 : decode cX6_edit 330 = .ok (.bipush 46, 2) := by decide +kernel
theorem dX6_edit_332 : decode cX6_edit 332 = .ok (.goto 5, 3) := by decide +kernel
theorem dX6_edit_335 : decode cX6_edit 335 = .ok (.bipush 42, 2) := by decide +kernel
theorem dX6_edit_337 : decode cX6_edit 337 = .ok (.istore 12, 2) := by decide +kernel
theorem dX6_edit_339 : decode cX6_edit 339 = .ok (.iload 11, 2) := by decide +kernel
theorem dX6_edit_341 : decode cX6_edit 341 = .ok (.invokestatic 119, 3) := by decide +kernel
theorem dX6_edit_344 : decode cX6_edit 344 = .ok (.ifCond .le 12, 3) := by decide +kernel
theorem dX6_edit_347 : decode cX6_edit 347 = .ok (.aload_n 0, 1) := by decide +kernel
theorem dX6_edit_348 : decode cX6_edit 348 = .ok (.getfield 56, 3) := by decide +kernel
theorem dX6_edit_351 : decode cX6_edit 351 = .ok (.iload 9, 2) := by decide +kernel
theorem dX6_edit_353 : decode cX6_edit 353 = .ok (.iload 12, 2) := by decide +kernel
theorem dX6_edit_355 : decode cX6_edit 355 = .ok (.iastore, 1) := by decide +kernel
theorem dX6_edit_356 : decode cX6_edit 356 = .ok (.iload 11, 2) := by decide +kernel
theorem dX6_edit_358 : decode cX6_edit 358 = .ok (.invokestatic 119, 3) := by decide +kernel
theorem dX6_edit_361 : decode cX6_edit 361 = .ok (.iconst 2, 1) := by decide +kernel
theorem dX6_edit_362 : decode cX6_edit 362 = .ok (.if_icmp .ne 45, 3) := by decide +kernel
theorem dX6_edit_365 : decode cX6_edit 365 = .ok (.aload_n 0, 1) := by decide +kernel
theorem dX6_edit_366 : decode cX6_edit 366 = .ok (.getfield 56, 3) := by decide +kernel
theorem dX6_edit_369 : decode cX6_edit 369 = .ok (.iload 9, 2) := by decide +kernel
theorem dX6_edit_371 : decode cX6_edit 371 = .ok (.iconst 1, 1) := by decide +kernel
theorem dX6_edit_372 : decode cX6_edit 372 = .ok (.iadd, 1) := by decide +kernel
theorem dX6_edit_373 : decode cX6_edit 373 = .ok (.iload 5, 2) := by decide +kernel
theorem dX6_edit_375 : decode cX6_edit 375 = .ok (.ifCond .eq 8, 3) := by decide +kernel
theorem dX6_edit_378 : decode cX6_edit 378 = .ok (.iload 12, 2) := by decide +kernel
theorem dX6_edit_380 : decode cX6_edit 380 = .ok (.goto 26, 3) := by decide +kernel
theorem dX6_edit_383 : decode cX6_edit 383 = .ok (.iload_n 2, 1) := by decide +kernel
theorem dX6_edit_384 : decode cX6_edit 384 = .ok (.ifCond .ne 8, 3) := by decide +kernel
theorem dX6_edit_387 : decode cX6_edit 387 = .ok (.bipush 32, 2) := by decide +kernel
theorem dX6_edit_389 : decode cX6_edit 389 = .ok (.goto 17, 3) := by decide +kernel
theorem dX6_edit_392 : decode cX6_edit 392 = .ok (.iload 11, 2) := by decide +kernel
theorem dX6_edit_394 : decode cX6_edit 394 = .ok (.bipush 67, 2) := by decide +kernel
theorem dX6_edit_396 : decode cX6_edit 396 = .ok (.if_icmp .ne 8, 3) := by decide +kernel
theorem dX6_edit_399 : decode cX6_edit 399 = .ok (.bipush 82, 2) := by decide +kernel
theorem dX6_edit_401 : decode cX6_edit 401 = .ok (.goto 5, 3) := by decide +kernel
theorem dX6_edit_404 : decode cX6_edit 404 = .ok (.bipush 66, 2) := by decide +kernel
theorem dX6_edit_406 : decode cX6_edit 406 = .ok (.iastore, 1) := by decide +kernel
theorem dX6_edit_407 : decode cX6_edit 407 = .ok (.iload 9, 2) := by decide +kernel
theorem dX6_edit_409 : decode cX6_edit 409 = .ok (.iload 11, 2) := by decide +kernel
theorem dX6_edit_411 : decode cX6_edit 411 = .ok (.invokestatic 119, 3) := by decide +kernel
theorem dX6_edit_414 : decode cX6_edit 414 = .ok (.iadd, 1) := by decide +kernel
theorem dX6_edit_415 : decode cX6_edit 415 = .ok (.istore 9, 2) := by decide +kernel
theorem dX6_edit_417 : decode cX6_edit 417 = .ok (.iinc 10 1, 3) := by decide +kernel
theorem dX6_edit_420 : decode cX6_edit 420 = .ok (.goto (-236), 3) := by decide +kernel
theorem dX6_edit_423 : decode cX6_edit 423 = .ok (.return_, 1) := by decide +kernel
def m_M_edit_407 (v : Nat → Int32) (rec : Int32 → Int32 → Int32 → Int32 → Int32 → Int32 → Int32 → Int32 → (Nat → Nat → Int32) → Option ((Nat → Nat → Int32))) (x1 : Int32) (x2 : Int32) (x5 : Int32) (x6 : Int32) (x7 : Int32) (x8 : Int32) (x9 : Int32) (x10 : Int32) (x11 : Int32) (u : Nat → Nat → Int32) : Option ((Nat → Nat → Int32)) := (m_M_width x11).bind (fun q23 => rec x1 x2 x5 x6 x7 x8 (x9 + q23) (x10 + 1) u)
def m_M_edit_406 (v : Nat → Int32) (rec : Int32 → Int32 → Int32 → Int32 → Int32 → Int32 → Int32 → Int32 → (Nat → Nat → Int32) → Option ((Nat → Nat → Int32))) (x1 : Int32) (x2 : Int32) (x5 : Int32) (x6 : Int32) (x7 : Int32) (x8 : Int32) (x9 : Int32) (x10 : Int32) (x11 : Int32) (t0 : Int32) (t1 : Int32) (u : Nat → Nat → Int32) : Option ((Nat → Nat → Int32)) := zix t1 256 (m_M_edit_407 v rec x1 x2 x5 x6 x7 x8 x9 x10 x11 (zau u 16 t1 t0))
def m_M_edit_356 (v : Nat → Int32) (rec : Int32 → Int32 → Int32 → Int32 → Int32 → Int32 → Int32 → Int32 → (Nat → Nat → Int32) → Option ((Nat → Nat → Int32))) (x1 : Int32) (x2 : Int32) (x5 : Int32) (x6 : Int32) (x7 : Int32) (x8 : Int32) (x9 : Int32) (x10 : Int32) (x11 : Int32) (x12 : Int32) (u : Nat → Nat → Int32) : Option ((Nat → Nat → Int32)) := (m_M_width x11).bind (fun q21 => (if q21 = 2 then (if x5 = 0 then (if x2 = 0 then m_M_edit_406 v rec x1 x2 x5 x6 x7 x8 x9 x10 x11 32 (x9 + 1) u else (if x11 = 67 then m_M_edit_406 v rec x1 x2 x5 x6 x7 x8 x9 x10 x11 82 (x9 + 1) u else m_M_edit_406 v rec x1 x2 x5 x6 x7 x8 x9 x10 x11 66 (x9 + 1) u)) else m_M_edit_406 v rec x1 x2 x5 x6 x7 x8 x9 x10 x11 x12 (x9 + 1) u) else m_M_edit_407 v rec x1 x2 x5 x6 x7 x8 x9 x10 x11 u))
def m_M_edit_339 (v : Nat → Int32) (rec : Int32 → Int32 → Int32 → Int32 → Int32 → Int32 → Int32 → Int32 → (Nat → Nat → Int32) → Option ((Nat → Nat → Int32))) (x1 : Int32) (x2 : Int32) (x5 : Int32) (x6 : Int32) (x7 : Int32) (x8 : Int32) (x9 : Int32) (x10 : Int32) (x11 : Int32) (x12 : Int32) (u : Nat → Nat → Int32) : Option ((Nat → Nat → Int32)) := (m_M_width x11).bind (fun q19 => (if q19 ≤ 0 then m_M_edit_356 v rec x1 x2 x5 x6 x7 x8 x9 x10 x11 x12 u else zix x9 256 (m_M_edit_356 v rec x1 x2 x5 x6 x7 x8 x9 x10 x11 x12 (zau u 16 x9 x12))))
def m_M_edit_337 (v : Nat → Int32) (rec : Int32 → Int32 → Int32 → Int32 → Int32 → Int32 → Int32 → Int32 → (Nat → Nat → Int32) → Option ((Nat → Nat → Int32))) (x1 : Int32) (x2 : Int32) (x5 : Int32) (x6 : Int32) (x7 : Int32) (x8 : Int32) (x9 : Int32) (x10 : Int32) (x11 : Int32) (t0 : Int32) (u : Nat → Nat → Int32) : Option ((Nat → Nat → Int32)) := m_M_edit_339 v rec x1 x2 x5 x6 x7 x8 x9 x10 x11 t0 u
def m_M_edit_302 (v : Nat → Int32) (rec : Int32 → Int32 → Int32 → Int32 → Int32 → Int32 → Int32 → Int32 → (Nat → Nat → Int32) → Option ((Nat → Nat → Int32))) (x1 : Int32) (x2 : Int32) (x5 : Int32) (x6 : Int32) (x7 : Int32) (x8 : Int32) (x9 : Int32) (x10 : Int32) (x11 : Int32) (x12 : Int32) (u : Nat → Nat → Int32) : Option ((Nat → Nat → Int32)) := (if x5 = 0 then m_M_edit_339 v rec x1 x2 x5 x6 x7 x8 x9 x10 x11 x12 u else zix x1 9 ((if ((u 11) x1.toNatClampNeg) = 42 then (if x11 = 46 then m_M_edit_337 v rec x1 x2 x5 x6 x7 x8 x9 x10 x11 46 u else m_M_edit_337 v rec x1 x2 x5 x6 x7 x8 x9 x10 x11 42 u) else m_M_edit_337 v rec x1 x2 x5 x6 x7 x8 x9 x10 x11 32 u)))
def m_M_edit_300 (v : Nat → Int32) (rec : Int32 → Int32 → Int32 → Int32 → Int32 → Int32 → Int32 → Int32 → (Nat → Nat → Int32) → Option ((Nat → Nat → Int32))) (x1 : Int32) (x2 : Int32) (x5 : Int32) (x6 : Int32) (x7 : Int32) (x8 : Int32) (x9 : Int32) (x10 : Int32) (x11 : Int32) (t0 : Int32) (u : Nat → Nat → Int32) : Option ((Nat → Nat → Int32)) := m_M_edit_302 v rec x1 x2 x5 x6 x7 x8 x9 x10 x11 t0 u
def m_M_edit_298 (v : Nat → Int32) (rec : Int32 → Int32 → Int32 → Int32 → Int32 → Int32 → Int32 → Int32 → (Nat → Nat → Int32) → Option ((Nat → Nat → Int32))) (x1 : Int32) (x2 : Int32) (x5 : Int32) (x6 : Int32) (x7 : Int32) (x8 : Int32) (x9 : Int32) (x10 : Int32) (x11 : Int32) (u : Nat → Nat → Int32) : Option ((Nat → Nat → Int32)) := m_M_edit_300 v rec x1 x2 x5 x6 x7 x8 x9 x10 x11 32 u
def m_M_edit_184b (v : Nat → Int32) (rec : Int32 → Int32 → Int32 → Int32 → Int32 → Int32 → Int32 → Int32 → (Nat → Nat → Int32) → Option ((Nat → Nat → Int32))) (x1 : Int32) (x2 : Int32) (x5 : Int32) (x6 : Int32) (x7 : Int32) (x8 : Int32) (x9 : Int32) (x10 : Int32) (u : Nat → Nat → Int32) : Option ((Nat → Nat → Int32)) := zix x1 9 ((if ((u 2) x1.toNatClampNeg) ≤ x10 then (some u) else (m_M_sym x1 x10 v u).bind (fun q15 => (m_M_plain x1 x10 x2 v u).bind (fun q16 => (if x10 < x6 then m_M_edit_302 v rec x1 x2 x5 x6 x7 x8 x9 x10 q15 q16 u else (if x7 ≤ x10 then m_M_edit_302 v rec x1 x2 x5 x6 x7 x8 x9 x10 q15 q16 u else zix x1 9 ((if x10 < ((u 12) x1.toNatClampNeg) then m_M_edit_302 v rec x1 x2 x5 x6 x7 x8 x9 x10 q15 q16 u else zix x1 9 ((if ((u 11) x1.toNatClampNeg) = 42 then m_M_edit_300 v rec x1 x2 x5 x6 x7 x8 x9 x10 q15 42 u else (if x8 = 0 then m_M_edit_298 v rec x1 x2 x5 x6 x7 x8 x9 x10 q15 u else (if x10 = (x7 - 1) then zix x1 9 ((if ((u 11) x1.toNatClampNeg) = 36 then m_M_edit_300 v rec x1 x2 x5 x6 x7 x8 x9 x10 q15 36 u else zix x1 9 ((m_M_signFor ((u 11) x1.toNatClampNeg) x2).bind (fun q42 => m_M_edit_300 v rec x1 x2 x5 x6 x7 x8 x9 x10 q15 q42 u)))) else m_M_edit_298 v rec x1 x2 x5 x6 x7 x8 x9 x10 q15 u))))))))))))
def m_M_edit_184 (v : Nat → Int32) : Nat → Int32 → Int32 → Int32 → Int32 → Int32 → Int32 → Int32 → Int32 → (Nat → Nat → Int32) → Option ((Nat → Nat → Int32))
  | 0 => fun _ _ _ _ _ _ _ _ _ => none
  | n + 1 => fun x1 x2 x5 x6 x7 x8 x9 x10 u => m_M_edit_184b v (m_M_edit_184 v n) x1 x2 x5 x6 x7 x8 x9 x10 u
def m_M_edit_173 (v : Nat → Int32) (x1 : Int32) (x2 : Int32) (x5 : Int32) (x6 : Int32) (x7 : Int32) (t0 : Int32) (u : Nat → Nat → Int32) : Option ((Nat → Nat → Int32)) := m_M_edit_184 v 64 x1 x2 x5 x6 x7 t0 (32 * x1) 0 u
def m_M_edit_168 (v : Nat → Int32) (x1 : Int32) (x2 : Int32) (x5 : Int32) (x6 : Int32) (x7 : Int32) (u : Nat → Nat → Int32) : Option ((Nat → Nat → Int32)) := m_M_edit_173 v x1 x2 x5 x6 x7 1 u
def m_M_edit_133 (v : Nat → Int32) (x1 : Int32) (x2 : Int32) (x5 : Int32) (x6 : Int32) (t0 : Int32) (u : Nat → Nat → Int32) : Option ((Nat → Nat → Int32)) := zix x1 9 ((if ((u 11) x1.toNatClampNeg) = 43 then m_M_edit_168 v x1 x2 x5 x6 t0 u else zix x1 9 ((if ((u 11) x1.toNatClampNeg) = 45 then m_M_edit_168 v x1 x2 x5 x6 t0 u else zix x1 9 ((if ((u 11) x1.toNatClampNeg) = 36 then m_M_edit_168 v x1 x2 x5 x6 t0 u else m_M_edit_173 v x1 x2 x5 x6 t0 0 u))))))
def m_M_edit_103 (v : Nat → Int32) (x1 : Int32) (x2 : Int32) (t0 : Int32) (u : Nat → Nat → Int32) : Option ((Nat → Nat → Int32)) := (m_M_firstDigit x1 v u).bind (fun q7 => zix x1 9 ((if ((u 11) x1.toNatClampNeg) = 0 then m_M_edit_133 v x1 x2 t0 q7 q7 u else (m_M_zoneEnd x1 q7 v u).bind (fun q10 => m_M_edit_133 v x1 x2 t0 q7 q10 u))))
def m_M_edit_102 (v : Nat → Int32) (x1 : Int32) (x2 : Int32) (u : Nat → Nat → Int32) : Option ((Nat → Nat → Int32)) := m_M_edit_103 v x1 x2 0 u
def m_M_edit_72 (v : Nat → Int32) (rec : Int32 → Int32 → Int32 → Int32 → Int32 → (Nat → Nat → Int32) → Option ((Nat → Nat → Int32))) (x1 : Int32) (x2 : Int32) (x3 : Int32) (x5 : Int32) (t0 : Int32) (u : Nat → Nat → Int32) : Option ((Nat → Nat → Int32)) := rec x1 x2 x3 t0 (x5 + 1) u
def m_M_edit_71 (v : Nat → Int32) (rec : Int32 → Int32 → Int32 → Int32 → Int32 → (Nat → Nat → Int32) → Option ((Nat → Nat → Int32))) (x1 : Int32) (x2 : Int32) (x3 : Int32) (x5 : Int32) (u : Nat → Nat → Int32) : Option ((Nat → Nat → Int32)) := m_M_edit_72 v rec x1 x2 x3 x5 0 u
def m_M_edit_51 (v : Nat → Int32) (rec : Int32 → Int32 → Int32 → Int32 → Int32 → (Nat → Nat → Int32) → Option ((Nat → Nat → Int32))) (x1 : Int32) (x2 : Int32) (x4 : Int32) (x5 : Int32) (t0 : Int32) (u : Nat → Nat → Int32) : Option ((Nat → Nat → Int32)) := (if x4 = 0 then m_M_edit_71 v rec x1 x2 t0 x5 u else (m_M_digitFor x1 x5 v u).bind (fun q51 => (if q51 = 0 then m_M_edit_72 v rec x1 x2 t0 x5 1 u else m_M_edit_71 v rec x1 x2 t0 x5 u)))
def m_M_edit_46 (v : Nat → Int32) (rec : Int32 → Int32 → Int32 → Int32 → Int32 → (Nat → Nat → Int32) → Option ((Nat → Nat → Int32))) (x1 : Int32) (x2 : Int32) (x4 : Int32) (x5 : Int32) (u : Nat → Nat → Int32) : Option ((Nat → Nat → Int32)) := m_M_edit_51 v rec x1 x2 x4 x5 1 u
def m_M_edit_19b (v : Nat → Int32) (rec : Int32 → Int32 → Int32 → Int32 → Int32 → (Nat → Nat → Int32) → Option ((Nat → Nat → Int32))) (x1 : Int32) (x2 : Int32) (x3 : Int32) (x4 : Int32) (x5 : Int32) (u : Nat → Nat → Int32) : Option ((Nat → Nat → Int32)) := zix x1 9 ((if ((u 13) x1.toNatClampNeg) ≤ x5 then zix x1 9 ((if ((u 11) x1.toNatClampNeg) = 0 then m_M_edit_102 v x1 x2 u else (if x3 = 0 then (if x4 = 0 then m_M_edit_102 v x1 x2 u else m_M_edit_103 v x1 x2 1 u) else m_M_edit_102 v x1 x2 u))) else (if x3 = 0 then (m_M_sym x1 x5 v u).bind (fun q53 => (if q53 = 57 then m_M_edit_46 v rec x1 x2 x4 x5 u else m_M_edit_51 v rec x1 x2 x4 x5 0 u)) else m_M_edit_46 v rec x1 x2 x4 x5 u)))
def m_M_edit_19 (v : Nat → Int32) : Nat → Int32 → Int32 → Int32 → Int32 → Int32 → (Nat → Nat → Int32) → Option ((Nat → Nat → Int32))
  | 0 => fun _ _ _ _ _ _ => none
  | n + 1 => fun x1 x2 x3 x4 x5 u => m_M_edit_19b v (m_M_edit_19 v n) x1 x2 x3 x4 x5 u
def m_M_edit (a0 : Int32) (v : Nat → Int32) (u : Nat → Nat → Int32)  : Option ((Nat → Nat → Int32)) := (m_M_isBelow a0 v u).bind (fun q1 => zix a0 9 (m_M_edit_19 v 64 a0 q1 0 1 ((u 12) a0.toNatClampNeg) u))
section
variable {p : Program} {l : Launch} {e : Env} {s : State} {m : MethodId} {args : Array Value} {below : List Frame} {meth : Method} {c : Code} {D : va_G} {w0 : va_W} {ad : Nat → Nat} {ca : Nat → ClassId} {v : Nat → Int32}
set_option maxRecDepth 100000 in
set_option maxHeartbeats 4000000 in
theorem b_M_edit_407 (G : zG p s m args meth c cX6_edit RX6 13 none) (hK : va_K D vwCl (wM_t ca) s) (hX : zN (va_A w0 s.heap.size) s) {res : (Nat → Nat → Int32)} (rec : Int32 → Int32 → Int32 → Int32 → Int32 → Int32 → Int32 → Int32 → (Nat → Nat → Int32) → Option ((Nat → Nat → Int32))) (hrec : ∀ (x1 : Int32) (x2 : Int32) (x5 : Int32) (x6 : Int32) (x7 : Int32) (x8 : Int32) (x9 : Int32) (x10 : Int32) (u : Nat → Nat → Int32), rec x1 x2 x5 x6 x7 x8 x9 x10 u = some res → zB p l e (zR 3 69) s m args below meth c D vwCl (va_A w0 s.heap.size) (MQ below (zQv D vwCl w0 (wM ad ca v res) s.heap.size) args s 0 0 (va_A w0 s.heap.size)) 13 (wM ad ca v u) [(0, .ref (ad 0)), (1, .int x1), (2, .int x2), (5, .int x5), (6, .int x6), (7, .int x7), (8, .int x8), (9, .int x9), (10, .int x10)] 184 []) : ∀ (x1 : Int32) (x2 : Int32) (x5 : Int32) (x6 : Int32) (x7 : Int32) (x8 : Int32) (x9 : Int32) (x10 : Int32) (x11 : Int32) (u : Nat → Nat → Int32), m_M_edit_407 v rec x1 x2 x5 x6 x7 x8 x9 x10 x11 u = some res → zB p l e (zR 3 69) s m args below meth c D vwCl (va_A w0 s.heap.size) (MQ below (zQv D vwCl w0 (wM ad ca v res) s.heap.size) args s 0 0 (va_A w0 s.heap.size)) 13 (wM ad ca v u) [(0, .ref (ad 0)), (1, .int x1), (2, .int x2), (5, .int x5), (6, .int x6), (7, .int x7), (8, .int x8), (9, .int x9), (10, .int x10), (11, .int x11)] 407 [] := by
  intro x1 x2 x5 x6 x7 x8 x9 x10 x11 u hm H locs ls hP hD hS hl
  unfold m_M_edit_407 at hm
  have G0 := G
  obtain ⟨hx, hb, hr, hml, hown, hw, hlk⟩ := G
  have hA : ∀ q, s.heap.size ≤ q → va_A w0 s.heap.size q := fun q h => Or.inr h
  refine lv_iload hx hb dX6_edit_407 (lv_at hl 7 rfl) ?_
  refine lv_iload hx hb dX6_edit_409 (lv_at hl 9 rfl) ?_
  obtain ⟨q23, hq23, hm⟩ := zbind hm
  refine zb0i (va_runS (As := [.int x11]) (rest := [.int x9]) ⟨hx, hb, hml, hown, hw⟩ (k_M_width l D  _ x11  q23 hq23) ⟨zcB 1 hw (zgood zw72) rfl rfl rfl zw7 zw74 hdX6_width ⟨Nat.le_of_ble_eq_true rfl, Nat.le_of_ble_eq_true rfl⟩, hw _ zw73⟩ (zpre zN_ok trivial hS (zfree0 hS hA) zP0 (hK.sub (tys' := []) [] rfl) zD0) rfl rfl hl.1 rfl (lv_room (Nat.le_of_ble_eq_true rfl)) dX6_edit_411 ⟨Nat.zero_le _, Nat.zero_le _⟩) hP hD hS (zfree0 hS hA) (fun H locs hP hD hS => ?_)
  refine lv_iadd hx hb dX6_edit_414 ?_
  refine lv_istore (lv' := [(9, .int (x9 + q23)), (0, .ref (ad 0)), (1, .int x1), (2, .int x2), (5, .int x5), (6, .int x6), (7, .int x7), (8, .int x8), (10, .int x10), (11, .int x11)]) hx hb dX6_edit_415 hl (by decide) rfl (fun ls hl => ?_)
  refine lv_iinc (k := 8) (v := (x10 + 1)) (lv' := [(10, .int (x10 + 1)), (9, .int (x9 + q23)), (0, .ref (ad 0)), (1, .int x1), (2, .int x2), (5, .int x5), (6, .int x6), (7, .int x7), (8, .int x8), (11, .int x11)]) hx hb dX6_edit_417 hl rfl rfl (by decide) rfl (fun ls hl => ?_)
  refine lv_goto (tgt := 184) hx hb dX6_edit_420 rfl ?_
  exact hrec _ _ _ _ _ _ _ _ _ hm H _ _ hP hD hS (lv_sub hl [2, 3, 4, 5, 6, 7, 8, 1, 0] rfl)
set_option maxRecDepth 100000 in
set_option maxHeartbeats 4000000 in
theorem b_M_edit_406 (G : zG p s m args meth c cX6_edit RX6 13 none) (hK : va_K D vwCl (wM_t ca) s) (hX : zN (va_A w0 s.heap.size) s) {res : (Nat → Nat → Int32)} (rec : Int32 → Int32 → Int32 → Int32 → Int32 → Int32 → Int32 → Int32 → (Nat → Nat → Int32) → Option ((Nat → Nat → Int32))) (hrec : ∀ (x1 : Int32) (x2 : Int32) (x5 : Int32) (x6 : Int32) (x7 : Int32) (x8 : Int32) (x9 : Int32) (x10 : Int32) (u : Nat → Nat → Int32), rec x1 x2 x5 x6 x7 x8 x9 x10 u = some res → zB p l e (zR 3 69) s m args below meth c D vwCl (va_A w0 s.heap.size) (MQ below (zQv D vwCl w0 (wM ad ca v res) s.heap.size) args s 0 0 (va_A w0 s.heap.size)) 13 (wM ad ca v u) [(0, .ref (ad 0)), (1, .int x1), (2, .int x2), (5, .int x5), (6, .int x6), (7, .int x7), (8, .int x8), (9, .int x9), (10, .int x10)] 184 []) : ∀ (x1 : Int32) (x2 : Int32) (x5 : Int32) (x6 : Int32) (x7 : Int32) (x8 : Int32) (x9 : Int32) (x10 : Int32) (x11 : Int32) (t0 : Int32) (t1 : Int32) (u : Nat → Nat → Int32), m_M_edit_406 v rec x1 x2 x5 x6 x7 x8 x9 x10 x11 t0 t1 u = some res → zB p l e (zR 3 69) s m args below meth c D vwCl (va_A w0 s.heap.size) (MQ below (zQv D vwCl w0 (wM ad ca v res) s.heap.size) args s 0 0 (va_A w0 s.heap.size)) 13 (wM ad ca v u) [(0, .ref (ad 0)), (1, .int x1), (2, .int x2), (5, .int x5), (6, .int x6), (7, .int x7), (8, .int x8), (9, .int x9), (10, .int x10), (11, .int x11)] 406 [.int t0, .int t1, .ref (ad 16)] := by
  intro x1 x2 x5 x6 x7 x8 x9 x10 x11 t0 t1 u hm H locs ls hP hD hS hl
  unfold m_M_edit_406 at hm
  have G0 := G
  obtain ⟨hx, hb, hr, hml, hown, hw, hlk⟩ := G
  have hA : ∀ q, s.heap.size ≤ q → va_A w0 s.heap.size q := fun q h => Or.inr h
  obtain ⟨hi27, hm⟩ := zix_s hm
  refine va_iast (i := t1) (x := t0) (f := (u 16)) (n := 256) hx hb hK hP hD hS 16 15 rfl rfl hi27 dX6_edit_406 (fun H locs hP hD hS => ?_)
  have hP : va_P D vwCl (wM ad ca v (zau u 16 t1 t0)) H := hP
  have hD : va_D _ (wM ad ca v (zau u 16 t1 t0)) := hD
  exact b_M_edit_407 G0 hK hX rec hrec _ _ _ _ _ _ _ _ _ _ hm H _ _ hP hD hS hl
set_option maxRecDepth 100000 in
set_option maxHeartbeats 4000000 in
theorem b_M_edit_356 (G : zG p s m args meth c cX6_edit RX6 13 none) (hK : va_K D vwCl (wM_t ca) s) (hX : zN (va_A w0 s.heap.size) s) {res : (Nat → Nat → Int32)} (rec : Int32 → Int32 → Int32 → Int32 → Int32 → Int32 → Int32 → Int32 → (Nat → Nat → Int32) → Option ((Nat → Nat → Int32))) (hrec : ∀ (x1 : Int32) (x2 : Int32) (x5 : Int32) (x6 : Int32) (x7 : Int32) (x8 : Int32) (x9 : Int32) (x10 : Int32) (u : Nat → Nat → Int32), rec x1 x2 x5 x6 x7 x8 x9 x10 u = some res → zB p l e (zR 3 69) s m args below meth c D vwCl (va_A w0 s.heap.size) (MQ below (zQv D vwCl w0 (wM ad ca v res) s.heap.size) args s 0 0 (va_A w0 s.heap.size)) 13 (wM ad ca v u) [(0, .ref (ad 0)), (1, .int x1), (2, .int x2), (5, .int x5), (6, .int x6), (7, .int x7), (8, .int x8), (9, .int x9), (10, .int x10)] 184 []) : ∀ (x1 : Int32) (x2 : Int32) (x5 : Int32) (x6 : Int32) (x7 : Int32) (x8 : Int32) (x9 : Int32) (x10 : Int32) (x11 : Int32) (x12 : Int32) (u : Nat → Nat → Int32), m_M_edit_356 v rec x1 x2 x5 x6 x7 x8 x9 x10 x11 x12 u = some res → zB p l e (zR 3 69) s m args below meth c D vwCl (va_A w0 s.heap.size) (MQ below (zQv D vwCl w0 (wM ad ca v res) s.heap.size) args s 0 0 (va_A w0 s.heap.size)) 13 (wM ad ca v u) [(0, .ref (ad 0)), (1, .int x1), (2, .int x2), (5, .int x5), (6, .int x6), (7, .int x7), (8, .int x8), (9, .int x9), (10, .int x10), (11, .int x11), (12, .int x12)] 356 [] := by
  intro x1 x2 x5 x6 x7 x8 x9 x10 x11 x12 u hm H locs ls hP hD hS hl
  unfold m_M_edit_356 at hm
  have G0 := G
  obtain ⟨hx, hb, hr, hml, hown, hw, hlk⟩ := G
  have hA : ∀ q, s.heap.size ≤ q → va_A w0 s.heap.size q := fun q h => Or.inr h
  refine lv_iload hx hb dX6_edit_356 (lv_at hl 9 rfl) ?_
  obtain ⟨q21, hq21, hm⟩ := zbind hm
  refine zb0i (va_runS (As := [.int x11]) (rest := []) ⟨hx, hb, hml, hown, hw⟩ (k_M_width l D  _ x11  q21 hq21) ⟨zcB 1 hw (zgood zw72) rfl rfl rfl zw7 zw74 hdX6_width ⟨Nat.le_of_ble_eq_true rfl, Nat.le_of_ble_eq_true rfl⟩, hw _ zw73⟩ (zpre zN_ok trivial hS (zfree0 hS hA) zP0 (hK.sub (tys' := []) [] rfl) zD0) rfl rfl hl.1 rfl (lv_room (Nat.le_of_ble_eq_true rfl)) dX6_edit_358 ⟨Nat.zero_le _, Nat.zero_le _⟩) hP hD hS (zfree0 hS hA) (fun H locs hP hD hS => ?_)
  refine lv_iconst (v := 2) hx hb dX6_edit_361 (by decide) ?_
  refine lv_icmp_ne (tgt := 407) hx hb dX6_edit_362 rfl (fun cd22 => ?_) (fun cd22 => ?_)
  · replace hm := zf cd22 hm
    exact b_M_edit_407 G0 hK hX rec hrec _ _ _ _ _ _ _ _ _ _ hm H _ _ hP hD hS (lv_sub hl [0, 1, 2, 3, 4, 5, 6, 7, 8, 9] rfl)
  · replace hm := zt cd22 hm
    refine lv_aload_n hx hb dX6_edit_365 rfl (lv_at hl 0 rfl) ?_
    refine va_get (D := D) (ci := 5) (v := .ref (ad 16)) (C := RX6) (T := TX6) (N := 24) hx hb hw zinX6 hown hK hP 0 rfl rfl 18 (by decide) (hw _ zw114) (fun _ h9 => h9) rfl dX6_edit_366 ?_
    refine lv_iload hx hb dX6_edit_369 (lv_at hl 7 rfl) ?_
    refine lv_iconst (v := 1) hx hb dX6_edit_371 (by decide) ?_
    refine lv_iadd hx hb dX6_edit_372 ?_
    refine lv_iload hx hb dX6_edit_373 (lv_at hl 3 rfl) ?_
    refine lv_if_eq (tgt := 383) hx hb dX6_edit_375 rfl (fun cd24 => ?_) (fun cd24 => ?_)
    · replace hm := zt cd24 hm
      refine lv_iload_n hx hb dX6_edit_383 rfl (lv_at hl 2 rfl) ?_
      refine lv_if_ne (tgt := 392) hx hb dX6_edit_384 rfl (fun cd25 => ?_) (fun cd25 => ?_)
      · replace hm := zf cd25 hm
        refine lv_iload hx hb dX6_edit_392 (lv_at hl 9 rfl) ?_
        refine lv_bipush (v := 67) hx hb dX6_edit_394 (by decide) ?_
        refine lv_icmp_ne (tgt := 404) hx hb dX6_edit_396 rfl (fun cd26 => ?_) (fun cd26 => ?_)
        · replace hm := zf cd26 hm
          refine lv_bipush (v := 66) hx hb dX6_edit_404 (by decide) ?_
          exact b_M_edit_406 G0 hK hX rec hrec _ _ _ _ _ _ _ _ _ _ _ _ hm H _ _ hP hD hS (lv_sub hl [0, 1, 2, 3, 4, 5, 6, 7, 8, 9] rfl)
        · replace hm := zt cd26 hm
          refine lv_bipush (v := 82) hx hb dX6_edit_399 (by decide) ?_
          refine lv_goto (tgt := 406) hx hb dX6_edit_401 rfl ?_
          exact b_M_edit_406 G0 hK hX rec hrec _ _ _ _ _ _ _ _ _ _ _ _ hm H _ _ hP hD hS (lv_sub hl [0, 1, 2, 3, 4, 5, 6, 7, 8, 9] rfl)
      · replace hm := zt cd25 hm
        refine lv_bipush (v := 32) hx hb dX6_edit_387 (by decide) ?_
        refine lv_goto (tgt := 406) hx hb dX6_edit_389 rfl ?_
        exact b_M_edit_406 G0 hK hX rec hrec _ _ _ _ _ _ _ _ _ _ _ _ hm H _ _ hP hD hS (lv_sub hl [0, 1, 2, 3, 4, 5, 6, 7, 8, 9] rfl)
    · replace hm := zf cd24 hm
      refine lv_iload hx hb dX6_edit_378 (lv_at hl 10 rfl) ?_
      refine lv_goto (tgt := 406) hx hb dX6_edit_380 rfl ?_
      exact b_M_edit_406 G0 hK hX rec hrec _ _ _ _ _ _ _ _ _ _ _ _ hm H _ _ hP hD hS (lv_sub hl [0, 1, 2, 3, 4, 5, 6, 7, 8, 9] rfl)
set_option maxRecDepth 100000 in
set_option maxHeartbeats 4000000 in
theorem b_M_edit_339 (G : zG p s m args meth c cX6_edit RX6 13 none) (hK : va_K D vwCl (wM_t ca) s) (hX : zN (va_A w0 s.heap.size) s) {res : (Nat → Nat → Int32)} (rec : Int32 → Int32 → Int32 → Int32 → Int32 → Int32 → Int32 → Int32 → (Nat → Nat → Int32) → Option ((Nat → Nat → Int32))) (hrec : ∀ (x1 : Int32) (x2 : Int32) (x5 : Int32) (x6 : Int32) (x7 : Int32) (x8 : Int32) (x9 : Int32) (x10 : Int32) (u : Nat → Nat → Int32), rec x1 x2 x5 x6 x7 x8 x9 x10 u = some res → zB p l e (zR 3 69) s m args below meth c D vwCl (va_A w0 s.heap.size) (MQ below (zQv D vwCl w0 (wM ad ca v res) s.heap.size) args s 0 0 (va_A w0 s.heap.size)) 13 (wM ad ca v u) [(0, .ref (ad 0)), (1, .int x1), (2, .int x2), (5, .int x5), (6, .int x6), (7, .int x7), (8, .int x8), (9, .int x9), (10, .int x10)] 184 []) : ∀ (x1 : Int32) (x2 : Int32) (x5 : Int32) (x6 : Int32) (x7 : Int32) (x8 : Int32) (x9 : Int32) (x10 : Int32) (x11 : Int32) (x12 : Int32) (u : Nat → Nat → Int32), m_M_edit_339 v rec x1 x2 x5 x6 x7 x8 x9 x10 x11 x12 u = some res → zB p l e (zR 3 69) s m args below meth c D vwCl (va_A w0 s.heap.size) (MQ below (zQv D vwCl w0 (wM ad ca v res) s.heap.size) args s 0 0 (va_A w0 s.heap.size)) 13 (wM ad ca v u) [(0, .ref (ad 0)), (1, .int x1), (2, .int x2), (5, .int x5), (6, .int x6), (7, .int x7), (8, .int x8), (9, .int x9), (10, .int x10), (11, .int x11), (12, .int x12)] 339 [] := by
  intro x1 x2 x5 x6 x7 x8 x9 x10 x11 x12 u hm H locs ls hP hD hS hl
  unfold m_M_edit_339 at hm
  have G0 := G
  obtain ⟨hx, hb, hr, hml, hown, hw, hlk⟩ := G
  have hA : ∀ q, s.heap.size ≤ q → va_A w0 s.heap.size q := fun q h => Or.inr h
  refine lv_iload hx hb dX6_edit_339 (lv_at hl 9 rfl) ?_
  obtain ⟨q19, hq19, hm⟩ := zbind hm
  refine zb0i (va_runS (As := [.int x11]) (rest := []) ⟨hx, hb, hml, hown, hw⟩ (k_M_width l D  _ x11  q19 hq19) ⟨zcB 1 hw (zgood zw72) rfl rfl rfl zw7 zw74 hdX6_width ⟨Nat.le_of_ble_eq_true rfl, Nat.le_of_ble_eq_true rfl⟩, hw _ zw73⟩ (zpre zN_ok trivial hS (zfree0 hS hA) zP0 (hK.sub (tys' := []) [] rfl) zD0) rfl rfl hl.1 rfl (lv_room (Nat.le_of_ble_eq_true rfl)) dX6_edit_341 ⟨Nat.zero_le _, Nat.zero_le _⟩) hP hD hS (zfree0 hS hA) (fun H locs hP hD hS => ?_)
  refine lv_if_le (tgt := 356) hx hb dX6_edit_344 rfl (fun cd20 => ?_) (fun cd20 => ?_)
  · replace hm := zt cd20 hm
    exact b_M_edit_356 G0 hK hX rec hrec _ _ _ _ _ _ _ _ _ _ _ hm H _ _ hP hD hS hl
  · replace hm := zf cd20 hm
    refine lv_aload_n hx hb dX6_edit_347 rfl (lv_at hl 0 rfl) ?_
    refine va_get (D := D) (ci := 5) (v := .ref (ad 16)) (C := RX6) (T := TX6) (N := 24) hx hb hw zinX6 hown hK hP 0 rfl rfl 18 (by decide) (hw _ zw114) (fun _ h9 => h9) rfl dX6_edit_348 ?_
    refine lv_iload hx hb dX6_edit_351 (lv_at hl 7 rfl) ?_
    refine lv_iload hx hb dX6_edit_353 (lv_at hl 10 rfl) ?_
    obtain ⟨hi28, hm⟩ := zix_s hm
    refine va_iast (i := x9) (x := x12) (f := (u 16)) (n := 256) hx hb hK hP hD hS 16 15 rfl rfl hi28 dX6_edit_355 (fun H locs hP hD hS => ?_)
    have hP : va_P D vwCl (wM ad ca v (zau u 16 x9 x12)) H := hP
    have hD : va_D _ (wM ad ca v (zau u 16 x9 x12)) := hD
    exact b_M_edit_356 G0 hK hX rec hrec _ _ _ _ _ _ _ _ _ _ _ hm H _ _ hP hD hS hl
set_option maxRecDepth 100000 in
set_option maxHeartbeats 4000000 in
theorem b_M_edit_337 (G : zG p s m args meth c cX6_edit RX6 13 none) (hK : va_K D vwCl (wM_t ca) s) (hX : zN (va_A w0 s.heap.size) s) {res : (Nat → Nat → Int32)} (rec : Int32 → Int32 → Int32 → Int32 → Int32 → Int32 → Int32 → Int32 → (Nat → Nat → Int32) → Option ((Nat → Nat → Int32))) (hrec : ∀ (x1 : Int32) (x2 : Int32) (x5 : Int32) (x6 : Int32) (x7 : Int32) (x8 : Int32) (x9 : Int32) (x10 : Int32) (u : Nat → Nat → Int32), rec x1 x2 x5 x6 x7 x8 x9 x10 u = some res → zB p l e (zR 3 69) s m args below meth c D vwCl (va_A w0 s.heap.size) (MQ below (zQv D vwCl w0 (wM ad ca v res) s.heap.size) args s 0 0 (va_A w0 s.heap.size)) 13 (wM ad ca v u) [(0, .ref (ad 0)), (1, .int x1), (2, .int x2), (5, .int x5), (6, .int x6), (7, .int x7), (8, .int x8), (9, .int x9), (10, .int x10)] 184 []) : ∀ (x1 : Int32) (x2 : Int32) (x5 : Int32) (x6 : Int32) (x7 : Int32) (x8 : Int32) (x9 : Int32) (x10 : Int32) (x11 : Int32) (t0 : Int32) (u : Nat → Nat → Int32), m_M_edit_337 v rec x1 x2 x5 x6 x7 x8 x9 x10 x11 t0 u = some res → zB p l e (zR 3 69) s m args below meth c D vwCl (va_A w0 s.heap.size) (MQ below (zQv D vwCl w0 (wM ad ca v res) s.heap.size) args s 0 0 (va_A w0 s.heap.size)) 13 (wM ad ca v u) [(0, .ref (ad 0)), (1, .int x1), (2, .int x2), (5, .int x5), (6, .int x6), (7, .int x7), (8, .int x8), (9, .int x9), (10, .int x10), (11, .int x11)] 337 [.int t0] := by
  intro x1 x2 x5 x6 x7 x8 x9 x10 x11 t0 u hm H locs ls hP hD hS hl
  unfold m_M_edit_337 at hm
  have G0 := G
  obtain ⟨hx, hb, hr, hml, hown, hw, hlk⟩ := G
  have hA : ∀ q, s.heap.size ≤ q → va_A w0 s.heap.size q := fun q h => Or.inr h
  refine lv_istore (lv' := [(12, .int t0), (0, .ref (ad 0)), (1, .int x1), (2, .int x2), (5, .int x5), (6, .int x6), (7, .int x7), (8, .int x8), (9, .int x9), (10, .int x10), (11, .int x11)]) hx hb dX6_edit_337 hl (by decide) rfl (fun ls hl => ?_)
  exact b_M_edit_339 G0 hK hX rec hrec _ _ _ _ _ _ _ _ _ _ _ hm H _ _ hP hD hS (lv_sub hl [1, 2, 3, 4, 5, 6, 7, 8, 9, 10, 0] rfl)
set_option maxRecDepth 100000 in
set_option maxHeartbeats 4000000 in
theorem b_M_edit_302 (G : zG p s m args meth c cX6_edit RX6 13 none) (hK : va_K D vwCl (wM_t ca) s) (hX : zN (va_A w0 s.heap.size) s) {res : (Nat → Nat → Int32)} (rec : Int32 → Int32 → Int32 → Int32 → Int32 → Int32 → Int32 → Int32 → (Nat → Nat → Int32) → Option ((Nat → Nat → Int32))) (hrec : ∀ (x1 : Int32) (x2 : Int32) (x5 : Int32) (x6 : Int32) (x7 : Int32) (x8 : Int32) (x9 : Int32) (x10 : Int32) (u : Nat → Nat → Int32), rec x1 x2 x5 x6 x7 x8 x9 x10 u = some res → zB p l e (zR 3 69) s m args below meth c D vwCl (va_A w0 s.heap.size) (MQ below (zQv D vwCl w0 (wM ad ca v res) s.heap.size) args s 0 0 (va_A w0 s.heap.size)) 13 (wM ad ca v u) [(0, .ref (ad 0)), (1, .int x1), (2, .int x2), (5, .int x5), (6, .int x6), (7, .int x7), (8, .int x8), (9, .int x9), (10, .int x10)] 184 []) : ∀ (x1 : Int32) (x2 : Int32) (x5 : Int32) (x6 : Int32) (x7 : Int32) (x8 : Int32) (x9 : Int32) (x10 : Int32) (x11 : Int32) (x12 : Int32) (u : Nat → Nat → Int32), m_M_edit_302 v rec x1 x2 x5 x6 x7 x8 x9 x10 x11 x12 u = some res → zB p l e (zR 3 69) s m args below meth c D vwCl (va_A w0 s.heap.size) (MQ below (zQv D vwCl w0 (wM ad ca v res) s.heap.size) args s 0 0 (va_A w0 s.heap.size)) 13 (wM ad ca v u) [(0, .ref (ad 0)), (1, .int x1), (2, .int x2), (5, .int x5), (6, .int x6), (7, .int x7), (8, .int x8), (9, .int x9), (10, .int x10), (11, .int x11), (12, .int x12)] 302 [] := by
  intro x1 x2 x5 x6 x7 x8 x9 x10 x11 x12 u hm H locs ls hP hD hS hl
  unfold m_M_edit_302 at hm
  have G0 := G
  obtain ⟨hx, hb, hr, hml, hown, hw, hlk⟩ := G
  have hA : ∀ q, s.heap.size ≤ q → va_A w0 s.heap.size q := fun q h => Or.inr h
  refine lv_iload hx hb dX6_edit_302 (lv_at hl 3 rfl) ?_
  refine lv_if_eq (tgt := 339) hx hb dX6_edit_304 rfl (fun cd18 => ?_) (fun cd18 => ?_)
  · replace hm := zt cd18 hm
    exact b_M_edit_339 G0 hK hX rec hrec _ _ _ _ _ _ _ _ _ _ _ hm H _ _ hP hD hS hl
  · replace hm := zf cd18 hm
    refine lv_aload_n hx hb dX6_edit_307 rfl (lv_at hl 0 rfl) ?_
    refine va_get (D := D) (ci := 5) (v := .ref (ad 11)) (C := RX6) (T := TX6) (N := 24) hx hb hw zinX6 hown hK hP 0 rfl rfl 13 (by decide) (hw _ zw51) (fun _ h9 => h9) rfl dX6_edit_308 ?_
    refine lv_iload_n hx hb dX6_edit_311 rfl (lv_at hl 1 rfl) ?_
    obtain ⟨hi29, hm⟩ := zix_s hm
    refine va_iald (i := x1) (f := (u 11)) (n := 9) hx hb hK hP 11 10 rfl rfl hi29 dX6_edit_312 ?_
    refine lv_bipush (v := 42) hx hb dX6_edit_313 (by decide) ?_
    refine lv_icmp_eq (tgt := 323) hx hb dX6_edit_315 rfl (fun cd30 => ?_) (fun cd30 => ?_)
    · replace hm := zt cd30 hm
      refine lv_iload hx hb dX6_edit_323 (lv_at hl 9 rfl) ?_
      refine lv_bipush (v := 46) hx hb dX6_edit_325 (by decide) ?_
      refine lv_icmp_ne (tgt := 335) hx hb dX6_edit_327 rfl (fun cd31 => ?_) (fun cd31 => ?_)
      · replace hm := zf cd31 hm
        refine lv_bipush (v := 42) hx hb dX6_edit_335 (by decide) ?_
        exact b_M_edit_337 G0 hK hX rec hrec _ _ _ _ _ _ _ _ _ _ _ hm H _ _ hP hD hS (lv_sub hl [0, 1, 2, 3, 4, 5, 6, 7, 8, 9] rfl)
      · replace hm := zt cd31 hm
        refine lv_bipush (v := 46) hx hb dX6_edit_330 (by decide) ?_
        refine lv_goto (tgt := 337) hx hb dX6_edit_332 rfl ?_
        exact b_M_edit_337 G0 hK hX rec hrec _ _ _ _ _ _ _ _ _ _ _ hm H _ _ hP hD hS (lv_sub hl [0, 1, 2, 3, 4, 5, 6, 7, 8, 9] rfl)
    · replace hm := zf cd30 hm
      refine lv_bipush (v := 32) hx hb dX6_edit_318 (by decide) ?_
      refine lv_goto (tgt := 337) hx hb dX6_edit_320 rfl ?_
      exact b_M_edit_337 G0 hK hX rec hrec _ _ _ _ _ _ _ _ _ _ _ hm H _ _ hP hD hS (lv_sub hl [0, 1, 2, 3, 4, 5, 6, 7, 8, 9] rfl)
set_option maxRecDepth 100000 in
set_option maxHeartbeats 4000000 in
theorem b_M_edit_300 (G : zG p s m args meth c cX6_edit RX6 13 none) (hK : va_K D vwCl (wM_t ca) s) (hX : zN (va_A w0 s.heap.size) s) {res : (Nat → Nat → Int32)} (rec : Int32 → Int32 → Int32 → Int32 → Int32 → Int32 → Int32 → Int32 → (Nat → Nat → Int32) → Option ((Nat → Nat → Int32))) (hrec : ∀ (x1 : Int32) (x2 : Int32) (x5 : Int32) (x6 : Int32) (x7 : Int32) (x8 : Int32) (x9 : Int32) (x10 : Int32) (u : Nat → Nat → Int32), rec x1 x2 x5 x6 x7 x8 x9 x10 u = some res → zB p l e (zR 3 69) s m args below meth c D vwCl (va_A w0 s.heap.size) (MQ below (zQv D vwCl w0 (wM ad ca v res) s.heap.size) args s 0 0 (va_A w0 s.heap.size)) 13 (wM ad ca v u) [(0, .ref (ad 0)), (1, .int x1), (2, .int x2), (5, .int x5), (6, .int x6), (7, .int x7), (8, .int x8), (9, .int x9), (10, .int x10)] 184 []) : ∀ (x1 : Int32) (x2 : Int32) (x5 : Int32) (x6 : Int32) (x7 : Int32) (x8 : Int32) (x9 : Int32) (x10 : Int32) (x11 : Int32) (t0 : Int32) (u : Nat → Nat → Int32), m_M_edit_300 v rec x1 x2 x5 x6 x7 x8 x9 x10 x11 t0 u = some res → zB p l e (zR 3 69) s m args below meth c D vwCl (va_A w0 s.heap.size) (MQ below (zQv D vwCl w0 (wM ad ca v res) s.heap.size) args s 0 0 (va_A w0 s.heap.size)) 13 (wM ad ca v u) [(0, .ref (ad 0)), (1, .int x1), (2, .int x2), (5, .int x5), (6, .int x6), (7, .int x7), (8, .int x8), (9, .int x9), (10, .int x10), (11, .int x11)] 300 [.int t0] := by
  intro x1 x2 x5 x6 x7 x8 x9 x10 x11 t0 u hm H locs ls hP hD hS hl
  unfold m_M_edit_300 at hm
  have G0 := G
  obtain ⟨hx, hb, hr, hml, hown, hw, hlk⟩ := G
  have hA : ∀ q, s.heap.size ≤ q → va_A w0 s.heap.size q := fun q h => Or.inr h
  refine lv_istore (lv' := [(12, .int t0), (0, .ref (ad 0)), (1, .int x1), (2, .int x2), (5, .int x5), (6, .int x6), (7, .int x7), (8, .int x8), (9, .int x9), (10, .int x10), (11, .int x11)]) hx hb dX6_edit_300 hl (by decide) rfl (fun ls hl => ?_)
  exact b_M_edit_302 G0 hK hX rec hrec _ _ _ _ _ _ _ _ _ _ _ hm H _ _ hP hD hS (lv_sub hl [1, 2, 3, 4, 5, 6, 7, 8, 9, 10, 0] rfl)
set_option maxRecDepth 100000 in
set_option maxHeartbeats 4000000 in
theorem b_M_edit_298 (G : zG p s m args meth c cX6_edit RX6 13 none) (hK : va_K D vwCl (wM_t ca) s) (hX : zN (va_A w0 s.heap.size) s) {res : (Nat → Nat → Int32)} (rec : Int32 → Int32 → Int32 → Int32 → Int32 → Int32 → Int32 → Int32 → (Nat → Nat → Int32) → Option ((Nat → Nat → Int32))) (hrec : ∀ (x1 : Int32) (x2 : Int32) (x5 : Int32) (x6 : Int32) (x7 : Int32) (x8 : Int32) (x9 : Int32) (x10 : Int32) (u : Nat → Nat → Int32), rec x1 x2 x5 x6 x7 x8 x9 x10 u = some res → zB p l e (zR 3 69) s m args below meth c D vwCl (va_A w0 s.heap.size) (MQ below (zQv D vwCl w0 (wM ad ca v res) s.heap.size) args s 0 0 (va_A w0 s.heap.size)) 13 (wM ad ca v u) [(0, .ref (ad 0)), (1, .int x1), (2, .int x2), (5, .int x5), (6, .int x6), (7, .int x7), (8, .int x8), (9, .int x9), (10, .int x10)] 184 []) : ∀ (x1 : Int32) (x2 : Int32) (x5 : Int32) (x6 : Int32) (x7 : Int32) (x8 : Int32) (x9 : Int32) (x10 : Int32) (x11 : Int32) (u : Nat → Nat → Int32), m_M_edit_298 v rec x1 x2 x5 x6 x7 x8 x9 x10 x11 u = some res → zB p l e (zR 3 69) s m args below meth c D vwCl (va_A w0 s.heap.size) (MQ below (zQv D vwCl w0 (wM ad ca v res) s.heap.size) args s 0 0 (va_A w0 s.heap.size)) 13 (wM ad ca v u) [(0, .ref (ad 0)), (1, .int x1), (2, .int x2), (5, .int x5), (6, .int x6), (7, .int x7), (8, .int x8), (9, .int x9), (10, .int x10), (11, .int x11)] 298 [] := by
  intro x1 x2 x5 x6 x7 x8 x9 x10 x11 u hm H locs ls hP hD hS hl
  unfold m_M_edit_298 at hm
  have G0 := G
  obtain ⟨hx, hb, hr, hml, hown, hw, hlk⟩ := G
  have hA : ∀ q, s.heap.size ≤ q → va_A w0 s.heap.size q := fun q h => Or.inr h
  refine lv_bipush (v := 32) hx hb dX6_edit_298 (by decide) ?_
  exact b_M_edit_300 G0 hK hX rec hrec _ _ _ _ _ _ _ _ _ _ _ hm H _ _ hP hD hS hl
set_option maxRecDepth 100000 in
set_option maxHeartbeats 4000000 in
theorem b_M_edit_184 (G : zG p s m args meth c cX6_edit RX6 13 none) (hK : va_K D vwCl (wM_t ca) s) (hX : zN (va_A w0 s.heap.size) s) {res : (Nat → Nat → Int32)} : ∀ n : Nat, ∀ (x1 : Int32) (x2 : Int32) (x5 : Int32) (x6 : Int32) (x7 : Int32) (x8 : Int32) (x9 : Int32) (x10 : Int32) (u : Nat → Nat → Int32), m_M_edit_184 v n x1 x2 x5 x6 x7 x8 x9 x10 u = some res → zB p l e (zR 3 69) s m args below meth c D vwCl (va_A w0 s.heap.size) (MQ below (zQv D vwCl w0 (wM ad ca v res) s.heap.size) args s 0 0 (va_A w0 s.heap.size)) 13 (wM ad ca v u) [(0, .ref (ad 0)), (1, .int x1), (2, .int x2), (5, .int x5), (6, .int x6), (7, .int x7), (8, .int x8), (9, .int x9), (10, .int x10)] 184 [] := by
  intro n
  induction n with
  | zero => intro x1 x2 x5 x6 x7 x8 x9 x10 u hm; cases hm
  | succ n ih =>
  have hrec := ih
  intro x1 x2 x5 x6 x7 x8 x9 x10 u hm H locs ls hP hD hS hl
  replace hm : m_M_edit_184b v (m_M_edit_184 v n) x1 x2 x5 x6 x7 x8 x9 x10 u = some res := hm
  generalize m_M_edit_184 v n = rec at hm hrec
  unfold m_M_edit_184b at hm
  clear ih
  have G0 := G
  obtain ⟨hx, hb, hr, hml, hown, hw, hlk⟩ := G
  have hA : ∀ q, s.heap.size ≤ q → va_A w0 s.heap.size q := fun q h => Or.inr h
  refine lv_iload hx hb dX6_edit_184 (lv_at hl 8 rfl) ?_
  refine lv_aload_n hx hb dX6_edit_186 rfl (lv_at hl 0 rfl) ?_
  refine va_get (D := D) (ci := 5) (v := .ref (ad 2)) (C := RX6) (T := TX6) (N := 24) hx hb hw zinX6 hown hK hP 0 rfl rfl 4 (by decide) (hw _ zw5) (fun _ h9 => h9) rfl dX6_edit_187 ?_
  refine lv_iload_n hx hb dX6_edit_190 rfl (lv_at hl 1 rfl) ?_
  obtain ⟨hi13, hm⟩ := zix_s hm
  refine va_iald (i := x1) (f := (u 2)) (n := 9) hx hb hK hP 2 1 rfl rfl hi13 dX6_edit_191 ?_
  refine lv_icmp_ge (tgt := 423) hx hb dX6_edit_192 rfl (fun cd14 => ?_) (fun cd14 => ?_)
  · replace hm := zt cd14 hm
    cases hm
    exact zretv hx hb hr hlk hP hD hS dX6_edit_423
  · replace hm := zf cd14 hm
    refine lv_aload_n hx hb dX6_edit_195 rfl (lv_at hl 0 rfl) ?_
    refine lv_iload_n hx hb dX6_edit_196 rfl (lv_at hl 1 rfl) ?_
    refine lv_iload hx hb dX6_edit_197 (lv_at hl 8 rfl) ?_
    obtain ⟨q15, hq15, hm⟩ := zbind hm
    refine zbWi (va_runV (As := [.int x1, .int x10]) (rest := []) ⟨hx, hb, hml, hown, hw⟩ (k_M_sym l D ad ca _ x1 x10 v u  q15 hq15) (zcV (C := RX6) 2 hw (zgood zw14) rfl rfl rfl zw7 zw16 zw15 zw17 hdX6_sym ⟨Nat.le_of_ble_eq_true rfl, Nat.le_of_ble_eq_true rfl⟩) (zpreV (zpre zN_ok trivial hS (zfree hD hS hA) hP hK hD) (va_recv hK hP rfl (q0 := 0) rfl)) rfl rfl hl.1 rfl (lv_room (Nat.le_of_ble_eq_true rfl)) dX6_edit_199 ⟨Nat.zero_le _, Nat.zero_le _⟩) hS (zfree hD hS hA) (fun H locs hP hD hS => ?_)
    refine lv_istore (lv' := [(11, .int q15), (0, .ref (ad 0)), (1, .int x1), (2, .int x2), (5, .int x5), (6, .int x6), (7, .int x7), (8, .int x8), (9, .int x9), (10, .int x10)]) hx hb dX6_edit_202 hl (by decide) rfl (fun ls hl => ?_)
    refine lv_aload_n hx hb dX6_edit_204 rfl (lv_at hl 1 rfl) ?_
    refine lv_iload_n hx hb dX6_edit_205 rfl (lv_at hl 2 rfl) ?_
    refine lv_iload hx hb dX6_edit_206 (lv_at hl 9 rfl) ?_
    refine lv_iload_n hx hb dX6_edit_208 rfl (lv_at hl 3 rfl) ?_
    obtain ⟨q16, hq16, hm⟩ := zbind hm
    refine zbWi (va_runV (As := [.int x1, .int x10, .int x2]) (rest := []) ⟨hx, hb, hml, hown, hw⟩ (k_M_plain l D ad ca _ x1 x10 x2 v u  q16 hq16) (zcV (C := RX6) 3 hw (zgood zw110) rfl rfl rfl zw7 zw112 zw111 zw113 hdX6_plain ⟨Nat.le_of_ble_eq_true rfl, Nat.le_of_ble_eq_true rfl⟩) (zpreV (zpre zN_ok trivial hS (zfree hD hS hA) hP hK hD) (va_recv hK hP rfl (q0 := 0) rfl)) rfl rfl hl.1 rfl (lv_room (Nat.le_of_ble_eq_true rfl)) dX6_edit_209 ⟨Nat.zero_le _, Nat.zero_le _⟩) hS (zfree hD hS hA) (fun H locs hP hD hS => ?_)
    refine lv_istore (lv' := [(12, .int q16), (11, .int q15), (0, .ref (ad 0)), (1, .int x1), (2, .int x2), (5, .int x5), (6, .int x6), (7, .int x7), (8, .int x8), (9, .int x9), (10, .int x10)]) hx hb dX6_edit_212 hl (by decide) rfl (fun ls hl => ?_)
    refine lv_iload hx hb dX6_edit_214 (lv_at hl 10 rfl) ?_
    refine lv_iload hx hb dX6_edit_216 (lv_at hl 6 rfl) ?_
    refine lv_icmp_lt (tgt := 302) hx hb dX6_edit_218 rfl (fun cd17 => ?_) (fun cd17 => ?_)
    · replace hm := zt cd17 hm
      exact b_M_edit_302 G0 hK hX rec hrec _ _ _ _ _ _ _ _ _ _ _ hm H _ _ hP hD hS (lv_sub hl [2, 3, 4, 5, 6, 7, 8, 9, 10, 1, 0] rfl)
    · replace hm := zf cd17 hm
      refine lv_iload hx hb dX6_edit_221 (lv_at hl 10 rfl) ?_
      refine lv_iload hx hb dX6_edit_223 (lv_at hl 7 rfl) ?_
      refine lv_icmp_ge (tgt := 302) hx hb dX6_edit_225 rfl (fun cd32 => ?_) (fun cd32 => ?_)
      · replace hm := zt cd32 hm
        exact b_M_edit_302 G0 hK hX rec hrec _ _ _ _ _ _ _ _ _ _ _ hm H _ _ hP hD hS (lv_sub hl [2, 3, 4, 5, 6, 7, 8, 9, 10, 1, 0] rfl)
      · replace hm := zf cd32 hm
        refine lv_iload hx hb dX6_edit_228 (lv_at hl 10 rfl) ?_
        refine lv_aload_n hx hb dX6_edit_230 rfl (lv_at hl 2 rfl) ?_
        refine va_get (D := D) (ci := 5) (v := .ref (ad 12)) (C := RX6) (T := TX6) (N := 24) hx hb hw zinX6 hown hK hP 0 rfl rfl 14 (by decide) (hw _ zw53) (fun _ h9 => h9) rfl dX6_edit_231 ?_
        refine lv_iload_n hx hb dX6_edit_234 rfl (lv_at hl 3 rfl) ?_
        obtain ⟨hi33, hm⟩ := zix_s hm
        refine va_iald (i := x1) (f := (u 12)) (n := 9) hx hb hK hP 12 11 rfl rfl hi33 dX6_edit_235 ?_
        refine lv_icmp_lt (tgt := 302) hx hb dX6_edit_236 rfl (fun cd34 => ?_) (fun cd34 => ?_)
        · replace hm := zt cd34 hm
          exact b_M_edit_302 G0 hK hX rec hrec _ _ _ _ _ _ _ _ _ _ _ hm H _ _ hP hD hS (lv_sub hl [2, 3, 4, 5, 6, 7, 8, 9, 10, 1, 0] rfl)
        · replace hm := zf cd34 hm
          refine lv_aload_n hx hb dX6_edit_239 rfl (lv_at hl 2 rfl) ?_
          refine va_get (D := D) (ci := 5) (v := .ref (ad 11)) (C := RX6) (T := TX6) (N := 24) hx hb hw zinX6 hown hK hP 0 rfl rfl 13 (by decide) (hw _ zw51) (fun _ h9 => h9) rfl dX6_edit_240 ?_
          refine lv_iload_n hx hb dX6_edit_243 rfl (lv_at hl 3 rfl) ?_
          obtain ⟨hi35, hm⟩ := zix_s hm
          refine va_iald (i := x1) (f := (u 11)) (n := 9) hx hb hK hP 11 10 rfl rfl hi35 dX6_edit_244 ?_
          refine lv_bipush (v := 42) hx hb dX6_edit_245 (by decide) ?_
          refine lv_icmp_ne (tgt := 255) hx hb dX6_edit_247 rfl (fun cd36 => ?_) (fun cd36 => ?_)
          · replace hm := zf cd36 hm
            refine lv_iload hx hb dX6_edit_255 (lv_at hl 8 rfl) ?_
            refine lv_if_eq (tgt := 298) hx hb dX6_edit_257 rfl (fun cd37 => ?_) (fun cd37 => ?_)
            · replace hm := zt cd37 hm
              exact b_M_edit_298 G0 hK hX rec hrec _ _ _ _ _ _ _ _ _ _ hm H _ _ hP hD hS (lv_sub hl [2, 3, 4, 5, 6, 7, 8, 9, 10, 1] rfl)
            · replace hm := zf cd37 hm
              refine lv_iload hx hb dX6_edit_260 (lv_at hl 10 rfl) ?_
              refine lv_iload hx hb dX6_edit_262 (lv_at hl 7 rfl) ?_
              refine lv_iconst (v := 1) hx hb dX6_edit_264 (by decide) ?_
              refine lv_isub hx hb dX6_edit_265 ?_
              refine lv_icmp_ne (tgt := 298) hx hb dX6_edit_266 rfl (fun cd38 => ?_) (fun cd38 => ?_)
              · replace hm := zf cd38 hm
                exact b_M_edit_298 G0 hK hX rec hrec _ _ _ _ _ _ _ _ _ _ hm H _ _ hP hD hS (lv_sub hl [2, 3, 4, 5, 6, 7, 8, 9, 10, 1] rfl)
              · replace hm := zt cd38 hm
                refine lv_aload_n hx hb dX6_edit_269 rfl (lv_at hl 2 rfl) ?_
                refine va_get (D := D) (ci := 5) (v := .ref (ad 11)) (C := RX6) (T := TX6) (N := 24) hx hb hw zinX6 hown hK hP 0 rfl rfl 13 (by decide) (hw _ zw51) (fun _ h9 => h9) rfl dX6_edit_270 ?_
                refine lv_iload_n hx hb dX6_edit_273 rfl (lv_at hl 3 rfl) ?_
                obtain ⟨hi39, hm⟩ := zix_s hm
                refine va_iald (i := x1) (f := (u 11)) (n := 9) hx hb hK hP 11 10 rfl rfl hi39 dX6_edit_274 ?_
                refine lv_bipush (v := 36) hx hb dX6_edit_275 (by decide) ?_
                refine lv_icmp_ne (tgt := 285) hx hb dX6_edit_277 rfl (fun cd40 => ?_) (fun cd40 => ?_)
                · replace hm := zf cd40 hm
                  refine lv_aload_n hx hb dX6_edit_285 rfl (lv_at hl 2 rfl) ?_
                  refine va_get (D := D) (ci := 5) (v := .ref (ad 11)) (C := RX6) (T := TX6) (N := 24) hx hb hw zinX6 hown hK hP 0 rfl rfl 13 (by decide) (hw _ zw51) (fun _ h9 => h9) rfl dX6_edit_286 ?_
                  refine lv_iload_n hx hb dX6_edit_289 rfl (lv_at hl 3 rfl) ?_
                  obtain ⟨hi41, hm⟩ := zix_s hm
                  refine va_iald (i := x1) (f := (u 11)) (n := 9) hx hb hK hP 11 10 rfl rfl hi41 dX6_edit_290 ?_
                  refine lv_iload_n hx hb dX6_edit_291 rfl (lv_at hl 4 rfl) ?_
                  obtain ⟨q42, hq42, hm⟩ := zbind hm
                  refine zb0i (va_runS (As := [.int ((u 11) x1.toNatClampNeg), .int x2]) (rest := []) ⟨hx, hb, hml, hown, hw⟩ (k_M_signFor l D  _ ((u 11) x1.toNatClampNeg) x2  q42 hq42) ⟨zcB 2 hw (zgood zw95) rfl rfl rfl zw7 zw97 hdX6_signFor ⟨Nat.le_of_ble_eq_true rfl, Nat.le_of_ble_eq_true rfl⟩, hw _ zw96⟩ (zpre zN_ok trivial hS (zfree0 hS hA) zP0 (hK.sub (tys' := []) [] rfl) zD0) rfl rfl hl.1 rfl (lv_room (Nat.le_of_ble_eq_true rfl)) dX6_edit_292 ⟨Nat.zero_le _, Nat.zero_le _⟩) hP hD hS (zfree0 hS hA) (fun H locs hP hD hS => ?_)
                  refine lv_goto (tgt := 300) hx hb dX6_edit_295 rfl ?_
                  exact b_M_edit_300 G0 hK hX rec hrec _ _ _ _ _ _ _ _ _ _ _ hm H _ _ hP hD hS (lv_sub hl [2, 3, 4, 5, 6, 7, 8, 9, 10, 1] rfl)
                · replace hm := zt cd40 hm
                  refine lv_bipush (v := 36) hx hb dX6_edit_280 (by decide) ?_
                  refine lv_goto (tgt := 300) hx hb dX6_edit_282 rfl ?_
                  exact b_M_edit_300 G0 hK hX rec hrec _ _ _ _ _ _ _ _ _ _ _ hm H _ _ hP hD hS (lv_sub hl [2, 3, 4, 5, 6, 7, 8, 9, 10, 1] rfl)
          · replace hm := zt cd36 hm
            refine lv_bipush (v := 42) hx hb dX6_edit_250 (by decide) ?_
            refine lv_goto (tgt := 300) hx hb dX6_edit_252 rfl ?_
            exact b_M_edit_300 G0 hK hX rec hrec _ _ _ _ _ _ _ _ _ _ _ hm H _ _ hP hD hS (lv_sub hl [2, 3, 4, 5, 6, 7, 8, 9, 10, 1] rfl)
set_option maxRecDepth 100000 in
set_option maxHeartbeats 4000000 in
theorem b_M_edit_173 (G : zG p s m args meth c cX6_edit RX6 13 none) (hK : va_K D vwCl (wM_t ca) s) (hX : zN (va_A w0 s.heap.size) s) {res : (Nat → Nat → Int32)} : ∀ (x1 : Int32) (x2 : Int32) (x5 : Int32) (x6 : Int32) (x7 : Int32) (t0 : Int32) (u : Nat → Nat → Int32), m_M_edit_173 v x1 x2 x5 x6 x7 t0 u = some res → zB p l e (zR 3 69) s m args below meth c D vwCl (va_A w0 s.heap.size) (MQ below (zQv D vwCl w0 (wM ad ca v res) s.heap.size) args s 0 0 (va_A w0 s.heap.size)) 13 (wM ad ca v u) [(0, .ref (ad 0)), (1, .int x1), (2, .int x2), (5, .int x5), (6, .int x6), (7, .int x7)] 173 [.int t0] := by
  intro x1 x2 x5 x6 x7 t0 u hm H locs ls hP hD hS hl
  unfold m_M_edit_173 at hm
  have G0 := G
  obtain ⟨hx, hb, hr, hml, hown, hw, hlk⟩ := G
  have hA : ∀ q, s.heap.size ≤ q → va_A w0 s.heap.size q := fun q h => Or.inr h
  refine lv_istore (lv' := [(8, .int t0), (0, .ref (ad 0)), (1, .int x1), (2, .int x2), (5, .int x5), (6, .int x6), (7, .int x7)]) hx hb dX6_edit_173 hl (by decide) rfl (fun ls hl => ?_)
  refine lv_bipush (v := 32) hx hb dX6_edit_175 (by decide) ?_
  refine lv_iload_n hx hb dX6_edit_177 rfl (lv_at hl 2 rfl) ?_
  refine lv_imul hx hb dX6_edit_178 ?_
  refine lv_istore (lv' := [(9, .int (32 * x1)), (8, .int t0), (0, .ref (ad 0)), (1, .int x1), (2, .int x2), (5, .int x5), (6, .int x6), (7, .int x7)]) hx hb dX6_edit_179 hl (by decide) rfl (fun ls hl => ?_)
  refine lv_iconst (v := 0) hx hb dX6_edit_181 (by decide) ?_
  refine lv_istore (lv' := [(10, .int 0), (9, .int (32 * x1)), (8, .int t0), (0, .ref (ad 0)), (1, .int x1), (2, .int x2), (5, .int x5), (6, .int x6), (7, .int x7)]) hx hb dX6_edit_182 hl (by decide) rfl (fun ls hl => ?_)
  exact b_M_edit_184 G0 hK hX 64 _ _ _ _ _ _ _ _ _ hm H _ _ hP hD hS (lv_sub hl [3, 4, 5, 6, 7, 8, 2, 1, 0] rfl)
set_option maxRecDepth 100000 in
set_option maxHeartbeats 4000000 in
theorem b_M_edit_168 (G : zG p s m args meth c cX6_edit RX6 13 none) (hK : va_K D vwCl (wM_t ca) s) (hX : zN (va_A w0 s.heap.size) s) {res : (Nat → Nat → Int32)} : ∀ (x1 : Int32) (x2 : Int32) (x5 : Int32) (x6 : Int32) (x7 : Int32) (u : Nat → Nat → Int32), m_M_edit_168 v x1 x2 x5 x6 x7 u = some res → zB p l e (zR 3 69) s m args below meth c D vwCl (va_A w0 s.heap.size) (MQ below (zQv D vwCl w0 (wM ad ca v res) s.heap.size) args s 0 0 (va_A w0 s.heap.size)) 13 (wM ad ca v u) [(0, .ref (ad 0)), (1, .int x1), (2, .int x2), (5, .int x5), (6, .int x6), (7, .int x7)] 168 [] := by
  intro x1 x2 x5 x6 x7 u hm H locs ls hP hD hS hl
  unfold m_M_edit_168 at hm
  have G0 := G
  obtain ⟨hx, hb, hr, hml, hown, hw, hlk⟩ := G
  have hA : ∀ q, s.heap.size ≤ q → va_A w0 s.heap.size q := fun q h => Or.inr h
  refine lv_iconst (v := 1) hx hb dX6_edit_168 (by decide) ?_
  refine lv_goto (tgt := 173) hx hb dX6_edit_169 rfl ?_
  exact b_M_edit_173 G0 hK hX _ _ _ _ _ _ _ hm H _ _ hP hD hS hl
set_option maxRecDepth 100000 in
set_option maxHeartbeats 4000000 in
theorem b_M_edit_133 (G : zG p s m args meth c cX6_edit RX6 13 none) (hK : va_K D vwCl (wM_t ca) s) (hX : zN (va_A w0 s.heap.size) s) {res : (Nat → Nat → Int32)} : ∀ (x1 : Int32) (x2 : Int32) (x5 : Int32) (x6 : Int32) (t0 : Int32) (u : Nat → Nat → Int32), m_M_edit_133 v x1 x2 x5 x6 t0 u = some res → zB p l e (zR 3 69) s m args below meth c D vwCl (va_A w0 s.heap.size) (MQ below (zQv D vwCl w0 (wM ad ca v res) s.heap.size) args s 0 0 (va_A w0 s.heap.size)) 13 (wM ad ca v u) [(0, .ref (ad 0)), (1, .int x1), (2, .int x2), (5, .int x5), (6, .int x6)] 133 [.int t0] := by
  intro x1 x2 x5 x6 t0 u hm H locs ls hP hD hS hl
  unfold m_M_edit_133 at hm
  have G0 := G
  obtain ⟨hx, hb, hr, hml, hown, hw, hlk⟩ := G
  have hA : ∀ q, s.heap.size ≤ q → va_A w0 s.heap.size q := fun q h => Or.inr h
  refine lv_istore (lv' := [(7, .int t0), (0, .ref (ad 0)), (1, .int x1), (2, .int x2), (5, .int x5), (6, .int x6)]) hx hb dX6_edit_133 hl (by decide) rfl (fun ls hl => ?_)
  refine lv_aload_n hx hb dX6_edit_135 rfl (lv_at hl 1 rfl) ?_
  refine va_get (D := D) (ci := 5) (v := .ref (ad 11)) (C := RX6) (T := TX6) (N := 24) hx hb hw zinX6 hown hK hP 0 rfl rfl 13 (by decide) (hw _ zw51) (fun _ h9 => h9) rfl dX6_edit_136 ?_
  refine lv_iload_n hx hb dX6_edit_139 rfl (lv_at hl 2 rfl) ?_
  obtain ⟨hi11, hm⟩ := zix_s hm
  refine va_iald (i := x1) (f := (u 11)) (n := 9) hx hb hK hP 11 10 rfl rfl hi11 dX6_edit_140 ?_
  refine lv_bipush (v := 43) hx hb dX6_edit_141 (by decide) ?_
  refine lv_icmp_eq (tgt := 168) hx hb dX6_edit_143 rfl (fun cd12 => ?_) (fun cd12 => ?_)
  · replace hm := zt cd12 hm
    exact b_M_edit_168 G0 hK hX _ _ _ _ _ _ hm H _ _ hP hD hS (lv_sub hl [1, 2, 3, 4, 5, 0] rfl)
  · replace hm := zf cd12 hm
    refine lv_aload_n hx hb dX6_edit_146 rfl (lv_at hl 1 rfl) ?_
    refine va_get (D := D) (ci := 5) (v := .ref (ad 11)) (C := RX6) (T := TX6) (N := 24) hx hb hw zinX6 hown hK hP 0 rfl rfl 13 (by decide) (hw _ zw51) (fun _ h9 => h9) rfl dX6_edit_147 ?_
    refine lv_iload_n hx hb dX6_edit_150 rfl (lv_at hl 2 rfl) ?_
    obtain ⟨hi43, hm⟩ := zix_s hm
    refine va_iald (i := x1) (f := (u 11)) (n := 9) hx hb hK hP 11 10 rfl rfl hi43 dX6_edit_151 ?_
    refine lv_bipush (v := 45) hx hb dX6_edit_152 (by decide) ?_
    refine lv_icmp_eq (tgt := 168) hx hb dX6_edit_154 rfl (fun cd44 => ?_) (fun cd44 => ?_)
    · replace hm := zt cd44 hm
      exact b_M_edit_168 G0 hK hX _ _ _ _ _ _ hm H _ _ hP hD hS (lv_sub hl [1, 2, 3, 4, 5, 0] rfl)
    · replace hm := zf cd44 hm
      refine lv_aload_n hx hb dX6_edit_157 rfl (lv_at hl 1 rfl) ?_
      refine va_get (D := D) (ci := 5) (v := .ref (ad 11)) (C := RX6) (T := TX6) (N := 24) hx hb hw zinX6 hown hK hP 0 rfl rfl 13 (by decide) (hw _ zw51) (fun _ h9 => h9) rfl dX6_edit_158 ?_
      refine lv_iload_n hx hb dX6_edit_161 rfl (lv_at hl 2 rfl) ?_
      obtain ⟨hi45, hm⟩ := zix_s hm
      refine va_iald (i := x1) (f := (u 11)) (n := 9) hx hb hK hP 11 10 rfl rfl hi45 dX6_edit_162 ?_
      refine lv_bipush (v := 36) hx hb dX6_edit_163 (by decide) ?_
      refine lv_icmp_ne (tgt := 172) hx hb dX6_edit_165 rfl (fun cd46 => ?_) (fun cd46 => ?_)
      · replace hm := zf cd46 hm
        refine lv_iconst (v := 0) hx hb dX6_edit_172 (by decide) ?_
        exact b_M_edit_173 G0 hK hX _ _ _ _ _ _ _ hm H _ _ hP hD hS (lv_sub hl [1, 2, 3, 4, 5, 0] rfl)
      · replace hm := zt cd46 hm
        exact b_M_edit_168 G0 hK hX _ _ _ _ _ _ hm H _ _ hP hD hS (lv_sub hl [1, 2, 3, 4, 5, 0] rfl)
set_option maxRecDepth 100000 in
set_option maxHeartbeats 4000000 in
theorem b_M_edit_103 (G : zG p s m args meth c cX6_edit RX6 13 none) (hK : va_K D vwCl (wM_t ca) s) (hX : zN (va_A w0 s.heap.size) s) {res : (Nat → Nat → Int32)} : ∀ (x1 : Int32) (x2 : Int32) (t0 : Int32) (u : Nat → Nat → Int32), m_M_edit_103 v x1 x2 t0 u = some res → zB p l e (zR 3 69) s m args below meth c D vwCl (va_A w0 s.heap.size) (MQ below (zQv D vwCl w0 (wM ad ca v res) s.heap.size) args s 0 0 (va_A w0 s.heap.size)) 13 (wM ad ca v u) [(0, .ref (ad 0)), (1, .int x1), (2, .int x2)] 103 [.int t0] := by
  intro x1 x2 t0 u hm H locs ls hP hD hS hl
  unfold m_M_edit_103 at hm
  have G0 := G
  obtain ⟨hx, hb, hr, hml, hown, hw, hlk⟩ := G
  have hA : ∀ q, s.heap.size ≤ q → va_A w0 s.heap.size q := fun q h => Or.inr h
  refine lv_istore (lv' := [(5, .int t0), (0, .ref (ad 0)), (1, .int x1), (2, .int x2)]) hx hb dX6_edit_103 hl (by decide) rfl (fun ls hl => ?_)
  refine lv_aload_n hx hb dX6_edit_105 rfl (lv_at hl 1 rfl) ?_
  refine lv_iload_n hx hb dX6_edit_106 rfl (lv_at hl 2 rfl) ?_
  obtain ⟨q7, hq7, hm⟩ := zbind hm
  refine zbWi (va_runV (As := [.int x1]) (rest := []) ⟨hx, hb, hml, hown, hw⟩ (k_M_firstDigit l D ad ca _ x1 v u  q7 hq7) (zcV (C := RX6) 1 hw (zgood zw102) rfl rfl rfl zw7 zw104 zw103 zw105 hdX6_firstDigit ⟨Nat.le_of_ble_eq_true rfl, Nat.le_of_ble_eq_true rfl⟩) (zpreV (zpre zN_ok trivial hS (zfree hD hS hA) hP hK hD) (va_recv hK hP rfl (q0 := 0) rfl)) rfl rfl hl.1 rfl (lv_room (Nat.le_of_ble_eq_true rfl)) dX6_edit_107 ⟨Nat.zero_le _, Nat.zero_le _⟩) hS (zfree hD hS hA) (fun H locs hP hD hS => ?_)
  refine lv_istore (lv' := [(6, .int q7), (5, .int t0), (0, .ref (ad 0)), (1, .int x1), (2, .int x2)]) hx hb dX6_edit_110 hl (by decide) rfl (fun ls hl => ?_)
  refine lv_aload_n hx hb dX6_edit_112 rfl (lv_at hl 2 rfl) ?_
  refine va_get (D := D) (ci := 5) (v := .ref (ad 11)) (C := RX6) (T := TX6) (N := 24) hx hb hw zinX6 hown hK hP 0 rfl rfl 13 (by decide) (hw _ zw51) (fun _ h9 => h9) rfl dX6_edit_113 ?_
  refine lv_iload_n hx hb dX6_edit_116 rfl (lv_at hl 3 rfl) ?_
  obtain ⟨hi8, hm⟩ := zix_s hm
  refine va_iald (i := x1) (f := (u 11)) (n := 9) hx hb hK hP 11 10 rfl rfl hi8 dX6_edit_117 ?_
  refine lv_if_ne (tgt := 126) hx hb dX6_edit_118 rfl (fun cd9 => ?_) (fun cd9 => ?_)
  · replace hm := zf cd9 hm
    refine lv_aload_n hx hb dX6_edit_126 rfl (lv_at hl 2 rfl) ?_
    refine lv_iload_n hx hb dX6_edit_127 rfl (lv_at hl 3 rfl) ?_
    refine lv_iload hx hb dX6_edit_128 (lv_at hl 0 rfl) ?_
    obtain ⟨q10, hq10, hm⟩ := zbind hm
    refine zbWi (va_runV (As := [.int x1, .int q7]) (rest := []) ⟨hx, hb, hml, hown, hw⟩ (k_M_zoneEnd l D ad ca _ x1 q7 v u  q10 hq10) (zcV (C := RX6) 2 hw (zgood zw106) rfl rfl rfl zw7 zw108 zw107 zw109 hdX6_zoneEnd ⟨Nat.le_of_ble_eq_true rfl, Nat.le_of_ble_eq_true rfl⟩) (zpreV (zpre zN_ok trivial hS (zfree hD hS hA) hP hK hD) (va_recv hK hP rfl (q0 := 0) rfl)) rfl rfl hl.1 rfl (lv_room (Nat.le_of_ble_eq_true rfl)) dX6_edit_130 ⟨Nat.zero_le _, Nat.zero_le _⟩) hS (zfree hD hS hA) (fun H locs hP hD hS => ?_)
    exact b_M_edit_133 G0 hK hX _ _ _ _ _ _ hm H _ _ hP hD hS (lv_sub hl [2, 3, 4, 1, 0] rfl)
  · replace hm := zt cd9 hm
    refine lv_iload hx hb dX6_edit_121 (lv_at hl 0 rfl) ?_
    refine lv_goto (tgt := 133) hx hb dX6_edit_123 rfl ?_
    exact b_M_edit_133 G0 hK hX _ _ _ _ _ _ hm H _ _ hP hD hS (lv_sub hl [2, 3, 4, 1, 0] rfl)
set_option maxRecDepth 100000 in
set_option maxHeartbeats 4000000 in
theorem b_M_edit_102 (G : zG p s m args meth c cX6_edit RX6 13 none) (hK : va_K D vwCl (wM_t ca) s) (hX : zN (va_A w0 s.heap.size) s) {res : (Nat → Nat → Int32)} : ∀ (x1 : Int32) (x2 : Int32) (u : Nat → Nat → Int32), m_M_edit_102 v x1 x2 u = some res → zB p l e (zR 3 69) s m args below meth c D vwCl (va_A w0 s.heap.size) (MQ below (zQv D vwCl w0 (wM ad ca v res) s.heap.size) args s 0 0 (va_A w0 s.heap.size)) 13 (wM ad ca v u) [(0, .ref (ad 0)), (1, .int x1), (2, .int x2)] 102 [] := by
  intro x1 x2 u hm H locs ls hP hD hS hl
  unfold m_M_edit_102 at hm
  have G0 := G
  obtain ⟨hx, hb, hr, hml, hown, hw, hlk⟩ := G
  have hA : ∀ q, s.heap.size ≤ q → va_A w0 s.heap.size q := fun q h => Or.inr h
  refine lv_iconst (v := 0) hx hb dX6_edit_102 (by decide) ?_
  exact b_M_edit_103 G0 hK hX _ _ _ _ hm H _ _ hP hD hS hl
set_option maxRecDepth 100000 in
set_option maxHeartbeats 4000000 in
theorem b_M_edit_72 (G : zG p s m args meth c cX6_edit RX6 13 none) (hK : va_K D vwCl (wM_t ca) s) (hX : zN (va_A w0 s.heap.size) s) {res : (Nat → Nat → Int32)} (rec : Int32 → Int32 → Int32 → Int32 → Int32 → (Nat → Nat → Int32) → Option ((Nat → Nat → Int32))) (hrec : ∀ (x1 : Int32) (x2 : Int32) (x3 : Int32) (x4 : Int32) (x5 : Int32) (u : Nat → Nat → Int32), rec x1 x2 x3 x4 x5 u = some res → zB p l e (zR 3 69) s m args below meth c D vwCl (va_A w0 s.heap.size) (MQ below (zQv D vwCl w0 (wM ad ca v res) s.heap.size) args s 0 0 (va_A w0 s.heap.size)) 13 (wM ad ca v u) [(0, .ref (ad 0)), (1, .int x1), (2, .int x2), (3, .int x3), (4, .int x4), (5, .int x5)] 19 []) : ∀ (x1 : Int32) (x2 : Int32) (x3 : Int32) (x5 : Int32) (t0 : Int32) (u : Nat → Nat → Int32), m_M_edit_72 v rec x1 x2 x3 x5 t0 u = some res → zB p l e (zR 3 69) s m args below meth c D vwCl (va_A w0 s.heap.size) (MQ below (zQv D vwCl w0 (wM ad ca v res) s.heap.size) args s 0 0 (va_A w0 s.heap.size)) 13 (wM ad ca v u) [(0, .ref (ad 0)), (1, .int x1), (2, .int x2), (3, .int x3), (5, .int x5)] 72 [.int t0] := by
  intro x1 x2 x3 x5 t0 u hm H locs ls hP hD hS hl
  unfold m_M_edit_72 at hm
  have G0 := G
  obtain ⟨hx, hb, hr, hml, hown, hw, hlk⟩ := G
  have hA : ∀ q, s.heap.size ≤ q → va_A w0 s.heap.size q := fun q h => Or.inr h
  refine lv_istore (lv' := [(4, .int t0), (0, .ref (ad 0)), (1, .int x1), (2, .int x2), (3, .int x3), (5, .int x5)]) hx hb dX6_edit_72 hl (by decide) rfl (fun ls hl => ?_)
  refine lv_iinc (k := 5) (v := (x5 + 1)) (lv' := [(5, .int (x5 + 1)), (4, .int t0), (0, .ref (ad 0)), (1, .int x1), (2, .int x2), (3, .int x3)]) hx hb dX6_edit_74 hl rfl rfl (by decide) rfl (fun ls hl => ?_)
  refine lv_goto (tgt := 19) hx hb dX6_edit_77 rfl ?_
  exact hrec _ _ _ _ _ _ hm H _ _ hP hD hS (lv_sub hl [2, 3, 4, 5, 1, 0] rfl)
set_option maxRecDepth 100000 in
set_option maxHeartbeats 4000000 in
theorem b_M_edit_71 (G : zG p s m args meth c cX6_edit RX6 13 none) (hK : va_K D vwCl (wM_t ca) s) (hX : zN (va_A w0 s.heap.size) s) {res : (Nat → Nat → Int32)} (rec : Int32 → Int32 → Int32 → Int32 → Int32 → (Nat → Nat → Int32) → Option ((Nat → Nat → Int32))) (hrec : ∀ (x1 : Int32) (x2 : Int32) (x3 : Int32) (x4 : Int32) (x5 : Int32) (u : Nat → Nat → Int32), rec x1 x2 x3 x4 x5 u = some res → zB p l e (zR 3 69) s m args below meth c D vwCl (va_A w0 s.heap.size) (MQ below (zQv D vwCl w0 (wM ad ca v res) s.heap.size) args s 0 0 (va_A w0 s.heap.size)) 13 (wM ad ca v u) [(0, .ref (ad 0)), (1, .int x1), (2, .int x2), (3, .int x3), (4, .int x4), (5, .int x5)] 19 []) : ∀ (x1 : Int32) (x2 : Int32) (x3 : Int32) (x5 : Int32) (u : Nat → Nat → Int32), m_M_edit_71 v rec x1 x2 x3 x5 u = some res → zB p l e (zR 3 69) s m args below meth c D vwCl (va_A w0 s.heap.size) (MQ below (zQv D vwCl w0 (wM ad ca v res) s.heap.size) args s 0 0 (va_A w0 s.heap.size)) 13 (wM ad ca v u) [(0, .ref (ad 0)), (1, .int x1), (2, .int x2), (3, .int x3), (5, .int x5)] 71 [] := by
  intro x1 x2 x3 x5 u hm H locs ls hP hD hS hl
  unfold m_M_edit_71 at hm
  have G0 := G
  obtain ⟨hx, hb, hr, hml, hown, hw, hlk⟩ := G
  have hA : ∀ q, s.heap.size ≤ q → va_A w0 s.heap.size q := fun q h => Or.inr h
  refine lv_iconst (v := 0) hx hb dX6_edit_71 (by decide) ?_
  exact b_M_edit_72 G0 hK hX rec hrec _ _ _ _ _ _ hm H _ _ hP hD hS hl
set_option maxRecDepth 100000 in
set_option maxHeartbeats 4000000 in
theorem b_M_edit_51 (G : zG p s m args meth c cX6_edit RX6 13 none) (hK : va_K D vwCl (wM_t ca) s) (hX : zN (va_A w0 s.heap.size) s) {res : (Nat → Nat → Int32)} (rec : Int32 → Int32 → Int32 → Int32 → Int32 → (Nat → Nat → Int32) → Option ((Nat → Nat → Int32))) (hrec : ∀ (x1 : Int32) (x2 : Int32) (x3 : Int32) (x4 : Int32) (x5 : Int32) (u : Nat → Nat → Int32), rec x1 x2 x3 x4 x5 u = some res → zB p l e (zR 3 69) s m args below meth c D vwCl (va_A w0 s.heap.size) (MQ below (zQv D vwCl w0 (wM ad ca v res) s.heap.size) args s 0 0 (va_A w0 s.heap.size)) 13 (wM ad ca v u) [(0, .ref (ad 0)), (1, .int x1), (2, .int x2), (3, .int x3), (4, .int x4), (5, .int x5)] 19 []) : ∀ (x1 : Int32) (x2 : Int32) (x4 : Int32) (x5 : Int32) (t0 : Int32) (u : Nat → Nat → Int32), m_M_edit_51 v rec x1 x2 x4 x5 t0 u = some res → zB p l e (zR 3 69) s m args below meth c D vwCl (va_A w0 s.heap.size) (MQ below (zQv D vwCl w0 (wM ad ca v res) s.heap.size) args s 0 0 (va_A w0 s.heap.size)) 13 (wM ad ca v u) [(0, .ref (ad 0)), (1, .int x1), (2, .int x2), (4, .int x4), (5, .int x5)] 51 [.int t0] := by
  intro x1 x2 x4 x5 t0 u hm H locs ls hP hD hS hl
  unfold m_M_edit_51 at hm
  have G0 := G
  obtain ⟨hx, hb, hr, hml, hown, hw, hlk⟩ := G
  have hA : ∀ q, s.heap.size ≤ q → va_A w0 s.heap.size q := fun q h => Or.inr h
  refine lv_istore_n (lv' := [(3, .int t0), (0, .ref (ad 0)), (1, .int x1), (2, .int x2), (4, .int x4), (5, .int x5)]) hx hb dX6_edit_51 rfl hl (by decide) rfl (fun ls hl => ?_)
  refine lv_iload hx hb dX6_edit_52 (lv_at hl 4 rfl) ?_
  refine lv_if_eq (tgt := 71) hx hb dX6_edit_54 rfl (fun cd50 => ?_) (fun cd50 => ?_)
  · replace hm := zt cd50 hm
    exact b_M_edit_71 G0 hK hX rec hrec _ _ _ _ _ hm H _ _ hP hD hS (lv_sub hl [1, 2, 3, 0, 5] rfl)
  · replace hm := zf cd50 hm
    refine lv_aload_n hx hb dX6_edit_57 rfl (lv_at hl 1 rfl) ?_
    refine lv_iload_n hx hb dX6_edit_58 rfl (lv_at hl 2 rfl) ?_
    refine lv_iload hx hb dX6_edit_59 (lv_at hl 5 rfl) ?_
    obtain ⟨q51, hq51, hm⟩ := zbind hm
    refine zbWi (va_runV (As := [.int x1, .int x5]) (rest := []) ⟨hx, hb, hml, hown, hw⟩ (k_M_digitFor l D ad ca _ x1 x5 v u  q51 hq51) (zcV (C := RX6) 2 hw (zgood zw91) rfl rfl rfl zw7 zw93 zw92 zw94 hdX6_digitFor ⟨Nat.le_of_ble_eq_true rfl, Nat.le_of_ble_eq_true rfl⟩) (zpreV (zpre zN_ok trivial hS (zfree hD hS hA) hP hK hD) (va_recv hK hP rfl (q0 := 0) rfl)) rfl rfl hl.1 rfl (lv_room (Nat.le_of_ble_eq_true rfl)) dX6_edit_61 ⟨Nat.zero_le _, Nat.zero_le _⟩) hS (zfree hD hS hA) (fun H locs hP hD hS => ?_)
    refine lv_if_ne (tgt := 71) hx hb dX6_edit_64 rfl (fun cd52 => ?_) (fun cd52 => ?_)
    · replace hm := zf cd52 hm
      exact b_M_edit_71 G0 hK hX rec hrec _ _ _ _ _ hm H _ _ hP hD hS (lv_sub hl [1, 2, 3, 0, 5] rfl)
    · replace hm := zt cd52 hm
      refine lv_iconst (v := 1) hx hb dX6_edit_67 (by decide) ?_
      refine lv_goto (tgt := 72) hx hb dX6_edit_68 rfl ?_
      exact b_M_edit_72 G0 hK hX rec hrec _ _ _ _ _ _ hm H _ _ hP hD hS (lv_sub hl [1, 2, 3, 0, 5] rfl)
set_option maxRecDepth 100000 in
set_option maxHeartbeats 4000000 in
theorem b_M_edit_46 (G : zG p s m args meth c cX6_edit RX6 13 none) (hK : va_K D vwCl (wM_t ca) s) (hX : zN (va_A w0 s.heap.size) s) {res : (Nat → Nat → Int32)} (rec : Int32 → Int32 → Int32 → Int32 → Int32 → (Nat → Nat → Int32) → Option ((Nat → Nat → Int32))) (hrec : ∀ (x1 : Int32) (x2 : Int32) (x3 : Int32) (x4 : Int32) (x5 : Int32) (u : Nat → Nat → Int32), rec x1 x2 x3 x4 x5 u = some res → zB p l e (zR 3 69) s m args below meth c D vwCl (va_A w0 s.heap.size) (MQ below (zQv D vwCl w0 (wM ad ca v res) s.heap.size) args s 0 0 (va_A w0 s.heap.size)) 13 (wM ad ca v u) [(0, .ref (ad 0)), (1, .int x1), (2, .int x2), (3, .int x3), (4, .int x4), (5, .int x5)] 19 []) : ∀ (x1 : Int32) (x2 : Int32) (x4 : Int32) (x5 : Int32) (u : Nat → Nat → Int32), m_M_edit_46 v rec x1 x2 x4 x5 u = some res → zB p l e (zR 3 69) s m args below meth c D vwCl (va_A w0 s.heap.size) (MQ below (zQv D vwCl w0 (wM ad ca v res) s.heap.size) args s 0 0 (va_A w0 s.heap.size)) 13 (wM ad ca v u) [(0, .ref (ad 0)), (1, .int x1), (2, .int x2), (4, .int x4), (5, .int x5)] 46 [] := by
  intro x1 x2 x4 x5 u hm H locs ls hP hD hS hl
  unfold m_M_edit_46 at hm
  have G0 := G
  obtain ⟨hx, hb, hr, hml, hown, hw, hlk⟩ := G
  have hA : ∀ q, s.heap.size ≤ q → va_A w0 s.heap.size q := fun q h => Or.inr h
  refine lv_iconst (v := 1) hx hb dX6_edit_46 (by decide) ?_
  refine lv_goto (tgt := 51) hx hb dX6_edit_47 rfl ?_
  exact b_M_edit_51 G0 hK hX rec hrec _ _ _ _ _ _ hm H _ _ hP hD hS hl
set_option maxRecDepth 100000 in
set_option maxHeartbeats 4000000 in
theorem b_M_edit_19 (G : zG p s m args meth c cX6_edit RX6 13 none) (hK : va_K D vwCl (wM_t ca) s) (hX : zN (va_A w0 s.heap.size) s) {res : (Nat → Nat → Int32)} : ∀ n : Nat, ∀ (x1 : Int32) (x2 : Int32) (x3 : Int32) (x4 : Int32) (x5 : Int32) (u : Nat → Nat → Int32), m_M_edit_19 v n x1 x2 x3 x4 x5 u = some res → zB p l e (zR 3 69) s m args below meth c D vwCl (va_A w0 s.heap.size) (MQ below (zQv D vwCl w0 (wM ad ca v res) s.heap.size) args s 0 0 (va_A w0 s.heap.size)) 13 (wM ad ca v u) [(0, .ref (ad 0)), (1, .int x1), (2, .int x2), (3, .int x3), (4, .int x4), (5, .int x5)] 19 [] := by
  intro n
  induction n with
  | zero => intro x1 x2 x3 x4 x5 u hm; cases hm
  | succ n ih =>
  have hrec := ih
  intro x1 x2 x3 x4 x5 u hm H locs ls hP hD hS hl
  replace hm : m_M_edit_19b v (m_M_edit_19 v n) x1 x2 x3 x4 x5 u = some res := hm
  generalize m_M_edit_19 v n = rec at hm hrec
  unfold m_M_edit_19b at hm
  clear ih
  have G0 := G
  obtain ⟨hx, hb, hr, hml, hown, hw, hlk⟩ := G
  have hA : ∀ q, s.heap.size ≤ q → va_A w0 s.heap.size q := fun q h => Or.inr h
  refine lv_iload hx hb dX6_edit_19 (lv_at hl 5 rfl) ?_
  refine lv_aload_n hx hb dX6_edit_21 rfl (lv_at hl 0 rfl) ?_
  refine va_get (D := D) (ci := 5) (v := .ref (ad 13)) (C := RX6) (T := TX6) (N := 24) hx hb hw zinX6 hown hK hP 0 rfl rfl 15 (by decide) (hw _ zw54) (fun _ h9 => h9) rfl dX6_edit_22 ?_
  refine lv_iload_n hx hb dX6_edit_25 rfl (lv_at hl 1 rfl) ?_
  obtain ⟨hi3, hm⟩ := zix_s hm
  refine va_iald (i := x1) (f := (u 13)) (n := 9) hx hb hK hP 13 12 rfl rfl hi3 dX6_edit_26 ?_
  refine lv_icmp_ge (tgt := 80) hx hb dX6_edit_27 rfl (fun cd4 => ?_) (fun cd4 => ?_)
  · replace hm := zt cd4 hm
    refine lv_aload_n hx hb dX6_edit_80 rfl (lv_at hl 0 rfl) ?_
    refine va_get (D := D) (ci := 5) (v := .ref (ad 11)) (C := RX6) (T := TX6) (N := 24) hx hb hw zinX6 hown hK hP 0 rfl rfl 13 (by decide) (hw _ zw51) (fun _ h9 => h9) rfl dX6_edit_81 ?_
    refine lv_iload_n hx hb dX6_edit_84 rfl (lv_at hl 1 rfl) ?_
    obtain ⟨hi5, hm⟩ := zix_s hm
    refine va_iald (i := x1) (f := (u 11)) (n := 9) hx hb hK hP 11 10 rfl rfl hi5 dX6_edit_85 ?_
    refine lv_if_eq (tgt := 102) hx hb dX6_edit_86 rfl (fun cd6 => ?_) (fun cd6 => ?_)
    · replace hm := zt cd6 hm
      exact b_M_edit_102 G0 hK hX _ _ _ hm H _ _ hP hD hS (lv_sub hl [0, 1, 2] rfl)
    · replace hm := zf cd6 hm
      refine lv_iload_n hx hb dX6_edit_89 rfl (lv_at hl 3 rfl) ?_
      refine lv_if_ne (tgt := 102) hx hb dX6_edit_90 rfl (fun cd47 => ?_) (fun cd47 => ?_)
      · replace hm := zf cd47 hm
        exact b_M_edit_102 G0 hK hX _ _ _ hm H _ _ hP hD hS (lv_sub hl [0, 1, 2] rfl)
      · replace hm := zt cd47 hm
        refine lv_iload hx hb dX6_edit_93 (lv_at hl 4 rfl) ?_
        refine lv_if_eq (tgt := 102) hx hb dX6_edit_95 rfl (fun cd48 => ?_) (fun cd48 => ?_)
        · replace hm := zt cd48 hm
          exact b_M_edit_102 G0 hK hX _ _ _ hm H _ _ hP hD hS (lv_sub hl [0, 1, 2] rfl)
        · replace hm := zf cd48 hm
          refine lv_iconst (v := 1) hx hb dX6_edit_98 (by decide) ?_
          refine lv_goto (tgt := 103) hx hb dX6_edit_99 rfl ?_
          exact b_M_edit_103 G0 hK hX _ _ _ _ hm H _ _ hP hD hS (lv_sub hl [0, 1, 2] rfl)
  · replace hm := zf cd4 hm
    refine lv_iload_n hx hb dX6_edit_30 rfl (lv_at hl 3 rfl) ?_
    refine lv_if_ne (tgt := 46) hx hb dX6_edit_31 rfl (fun cd49 => ?_) (fun cd49 => ?_)
    · replace hm := zf cd49 hm
      exact b_M_edit_46 G0 hK hX rec hrec _ _ _ _ _ hm H _ _ hP hD hS (lv_sub hl [0, 1, 2, 4, 5] rfl)
    · replace hm := zt cd49 hm
      refine lv_aload_n hx hb dX6_edit_34 rfl (lv_at hl 0 rfl) ?_
      refine lv_iload_n hx hb dX6_edit_35 rfl (lv_at hl 1 rfl) ?_
      refine lv_iload hx hb dX6_edit_36 (lv_at hl 5 rfl) ?_
      obtain ⟨q53, hq53, hm⟩ := zbind hm
      refine zbWi (va_runV (As := [.int x1, .int x5]) (rest := []) ⟨hx, hb, hml, hown, hw⟩ (k_M_sym l D ad ca _ x1 x5 v u  q53 hq53) (zcV (C := RX6) 2 hw (zgood zw14) rfl rfl rfl zw7 zw16 zw15 zw17 hdX6_sym ⟨Nat.le_of_ble_eq_true rfl, Nat.le_of_ble_eq_true rfl⟩) (zpreV (zpre zN_ok trivial hS (zfree hD hS hA) hP hK hD) (va_recv hK hP rfl (q0 := 0) rfl)) rfl rfl hl.1 rfl (lv_room (Nat.le_of_ble_eq_true rfl)) dX6_edit_38 ⟨Nat.zero_le _, Nat.zero_le _⟩) hS (zfree hD hS hA) (fun H locs hP hD hS => ?_)
      refine lv_bipush (v := 57) hx hb dX6_edit_41 (by decide) ?_
      refine lv_icmp_ne (tgt := 50) hx hb dX6_edit_43 rfl (fun cd54 => ?_) (fun cd54 => ?_)
      · replace hm := zf cd54 hm
        refine lv_iconst (v := 0) hx hb dX6_edit_50 (by decide) ?_
        exact b_M_edit_51 G0 hK hX rec hrec _ _ _ _ _ _ hm H _ _ hP hD hS (lv_sub hl [0, 1, 2, 4, 5] rfl)
      · replace hm := zt cd54 hm
        exact b_M_edit_46 G0 hK hX rec hrec _ _ _ _ _ hm H _ _ hP hD hS (lv_sub hl [0, 1, 2, 4, 5] rfl)
end
set_option maxRecDepth 100000 in
set_option maxHeartbeats 4000000 in
theorem k_M_edit (l : Launch) (D : va_G) (ad : Nat → Nat) (ca : Nat → ClassId) (sz : Nat) (a0 : Int32) (v : Nat → Int32) (u : Nat → Nat → Int32) (res : (Nat → Nat → Int32)) (hm : m_M_edit a0 v u  = some res) : Met l yX6_edit (Cond.code yX6_edit cX6_edit 13 none :: zBIG) (zR 3 69) (va_Pc [.ref (ad 0), .int a0] (zP zN D vwCl (wM_t ca) (wM ad ca v u) sz)) (zQv D vwCl (wM ad ca v u) (wM ad ca v res) sz) 0 0 (va_A (wM ad ca v u) sz) := by
  refine zEnter RX6 [.ref (ad 0), .int a0] (by decide) rfl (Nat.le_of_ble_eq_true rfl) (fun p e s m below meth c ls G hK hX hP hD hsz hl => ?_)
  subst hsz
  unfold m_M_edit at hm
  have hl : lv_has ls 13 [(0, .ref (ad 0)), (1, .int a0)] := hl
  have hS : va_S (va_A (wM ad ca v u) s.heap.size) s.heap s.heap [] := va_S.rf
  have hA : ∀ q, s.heap.size ≤ q → va_A (wM ad ca v u) s.heap.size q := fun q h => Or.inr h
  have G0 := G
  obtain ⟨hx, hb, hr, hml, hown, hw, hlk⟩ := G
  refine lv_aload_n hx hb dX6_edit_0 rfl (lv_at hl 0 rfl) ?_
  refine lv_iload_n hx hb dX6_edit_1 rfl (lv_at hl 1 rfl) ?_
  obtain ⟨q1, hq1, hm⟩ := zbind hm
  refine zbWi (va_runV (As := [.int a0]) (rest := []) ⟨hx, hb, hml, hown, hw⟩ (k_M_isBelow l D ad ca _ a0 v u  q1 hq1) (zcV (C := RX6) 1 hw (zgood zw98) rfl rfl rfl zw7 zw100 zw99 zw101 hdX6_isBelow ⟨Nat.le_of_ble_eq_true rfl, Nat.le_of_ble_eq_true rfl⟩) (zpreV (zpre zN_ok trivial hS (zfree hD hS hA) hP hK hD) (va_recv hK hP rfl (q0 := 0) rfl)) rfl rfl hl.1 rfl (lv_room (Nat.le_of_ble_eq_true rfl)) dX6_edit_2 ⟨Nat.zero_le _, Nat.zero_le _⟩) hS (zfree hD hS hA) (fun H locs hP hD hS => ?_)
  refine lv_istore_n (lv' := [(2, .int q1), (0, .ref (ad 0)), (1, .int a0)]) hx hb dX6_edit_5 rfl hl (by decide) rfl (fun ls hl => ?_)
  refine lv_iconst (v := 0) hx hb dX6_edit_6 (by decide) ?_
  refine lv_istore_n (lv' := [(3, .int 0), (2, .int q1), (0, .ref (ad 0)), (1, .int a0)]) hx hb dX6_edit_7 rfl hl (by decide) rfl (fun ls hl => ?_)
  refine lv_iconst (v := 1) hx hb dX6_edit_8 (by decide) ?_
  refine lv_istore (lv' := [(4, .int 1), (3, .int 0), (2, .int q1), (0, .ref (ad 0)), (1, .int a0)]) hx hb dX6_edit_9 hl (by decide) rfl (fun ls hl => ?_)
  refine lv_aload_n hx hb dX6_edit_11 rfl (lv_at hl 3 rfl) ?_
  refine va_get (D := D) (ci := 5) (v := .ref (ad 12)) (C := RX6) (T := TX6) (N := 24) hx hb hw zinX6 hown hK hP 0 rfl rfl 14 (by decide) (hw _ zw53) (fun _ h9 => h9) rfl dX6_edit_12 ?_
  refine lv_iload_n hx hb dX6_edit_15 rfl (lv_at hl 4 rfl) ?_
  obtain ⟨hi2, hm⟩ := zix_s hm
  refine va_iald (i := a0) (f := (u 12)) (n := 9) hx hb hK hP 12 11 rfl rfl hi2 dX6_edit_16 ?_
  refine lv_istore (lv' := [(5, .int ((u 12) a0.toNatClampNeg)), (4, .int 1), (3, .int 0), (2, .int q1), (0, .ref (ad 0)), (1, .int a0)]) hx hb dX6_edit_17 hl (by decide) rfl (fun ls hl => ?_)
  exact b_M_edit_19 G0 hK hX 64 _ _ _ _ _ _ hm _ _ _ hP hD hS (lv_sub hl [4, 5, 3, 2, 1, 0] rfl)

theorem dX6_storeNumber_0 : decode cX6_storeNumber 0 = .ok (.aload_n 0, 1) := by decide +kernel
theorem dX6_storeNumber_1 : decode cX6_storeNumber 1 = .ok (.getfield 22, 3) := by decide +kernel
theorem dX6_storeNumber_4 : decode cX6_storeNumber 4 = .ok (.iload_n 1, 1) := by decide +kernel
theorem dX6_storeNumber_5 : decode cX6_storeNumber 5 = .ok (.iaload, 1) := by decide +kernel
theorem dX6_storeNumber_6 : decode cX6_storeNumber 6 = .ok (.iconst 2, 1) := by decide +kernel
theorem dX6_storeNumber_7 : decode cX6_storeNumber 7 = .ok (.if_icmp .ne 9, 3) := by decide +kernel
theorem dX6_storeNumber_10 : decode cX6_storeNumber 10 = .ok (.aload_n 0, 1) := by decide +kernel
theorem dX6_storeNumber_11 : decode cX6_storeNumber 11 = .ok (.iload_n 1, 1) := by decide +kernel
theorem dX6_storeNumber_12 : decode cX6_storeNumber 12 = .ok (.invokevirtual 174, 3) := by decide +kernel
theorem dX6_storeNumber_15 : decode cX6_storeNumber 15 = .ok (.return_, 1) := by decide +kernel
theorem dX6_storeNumber_16 : decode cX6_storeNumber 16 = .ok (.aload_n 0, 1) := by decide +kernel
theorem dX6_storeNumber_17 : decode cX6_storeNumber 17 = .ok (.iload_n 1, 1) := by decide +kernel
theorem dX6_storeNumber_18 : decode cX6_storeNumber 18 = .ok (.invokevirtual 177, 3) := by decide +kernel
theorem dX6_storeNumber_21 : decode cX6_storeNumber 21 = .ok (.istore_n 2, 1) := by decide +kernel
theorem dX6_storeNumber_22 : decode cX6_storeNumber 22 = .ok (.iconst 0, 1) := by decide +kernel
theorem dX6_storeNumber_23 : decode cX6_storeNumber 23 = .ok (.istore_n 3, 1) := by decide +kernel
theorem dX6_storeNumber_24 : decode cX6_storeNumber 24 = .ok (.iconst 0, 1) := by decide +kernel
theorem dX6_storeNumber_25 : decode cX6_storeNumber 25 = .ok (.istore 4, 2) := by decide +kernel
theorem dX6_storeNumber_27 : decode cX6_storeNumber 27 = .ok (.iload 4, 2) := by decide +kernel
theorem dX6_storeNumber_29 : decode cX6_storeNumber 29 = .ok (.aload_n 0, 1) := by decide +kernel
theorem dX6_storeNumber_30 : decode cX6_storeNumber 30 = .ok (.getfield 13, 3) := by decide +kernel
theorem dX6_storeNumber_33 : decode cX6_storeNumber 33 = .ok (.iload_n 1, 1) := by decide +kernel
theorem dX6_storeNumber_34 : decode cX6_storeNumber 34 = .ok (.iaload, 1) := by decide +kernel
theorem dX6_storeNumber_35 : decode cX6_storeNumber 35 = .ok (.if_icmp .ge 37, 3) := by decide +kernel
theorem dX6_storeNumber_38 : decode cX6_storeNumber 38 = .ok (.aload_n 0, 1) := by decide +kernel
theorem dX6_storeNumber_39 : decode cX6_storeNumber 39 = .ok (.iload_n 1, 1) := by decide +kernel
theorem dX6_storeNumber_40 : decode cX6_storeNumber 40 = .ok (.iload 4, 2) := by decide +kernel
theorem dX6_storeNumber_42 : decode cX6_storeNumber 42 = .ok (.invokevirtual 93, 3) := by decide +kernel
theorem dX6_storeNumber_45 : decode cX6_storeNumber 45 = .ok (.bipush 57, 2) := by decide +kernel
theorem dX6_storeNumber_47 : decode cX6_storeNumber 47 = .ok (.if_icmp .ne 19, 3) := by decide +kernel
theorem dX6_storeNumber_50 : decode cX6_storeNumber 50 = .ok (.aload_n 0, 1) := by decide +kernel
theorem dX6_storeNumber_51 : decode cX6_storeNumber 51 = .ok (.getfield 62, 3) := by decide +kernel
theorem dX6_storeNumber_54 : decode cX6_storeNumber 54 = .ok (.iload_n 3, 1) := by decide +kernel
theorem dX6_storeNumber_55 : decode cX6_storeNumber 55 = .ok (.aload_n 0, 1) := by decide +kernel
theorem dX6_storeNumber_56 : decode cX6_storeNumber 56 = .ok (.iload_n 1, 1) := by decide +kernel
theorem dX6_storeNumber_57 : decode cX6_storeNumber 57 = .ok (.iload 4, 2) := by decide +kernel
theorem dX6_storeNumber_59 : decode cX6_storeNumber 59 = .ok (.invokevirtual 171, 3) := by decide +kernel
theorem dX6_storeNumber_62 : decode cX6_storeNumber 62 = .ok (.iastore, 1) := by decide +kernel
theorem dX6_storeNumber_63 : decode cX6_storeNumber 63 = .ok (.iinc 3 1, 3) := by decide +kernel
theorem dX6_storeNumber_66 : decode cX6_storeNumber 66 = .ok (.iinc 4 1, 3) := by decide +kernel
theorem dX6_storeNumber_69 : decode cX6_storeNumber 69 = .ok (.goto (-42), 3) := by decide +kernel
theorem dX6_storeNumber_72 : decode cX6_storeNumber 72 = .ok (.bipush 32, 2) := by decide +kernel
theorem dX6_storeNumber_74 : decode cX6_storeNumber 74 = .ok (.iload_n 1, 1) := by decide +kernel
theorem dX6_storeNumber_75 : decode cX6_storeNumber 75 = .ok (.imul, 1) := by decide +kernel
theorem dX6_storeNumber_76 : decode cX6_storeNumber 76 = .ok (.istore 4, 2) := by decide +kernel
theorem dX6_storeNumber_78 : decode cX6_storeNumber 78 = .ok (.aload_n 0, 1) := by decide +kernel
theorem dX6_storeNumber_79 : decode cX6_storeNumber 79 = .ok (.getfield 25, 3) := by decide +kernel
theorem dX6_storeNumber_82 : decode cX6_storeNumber 82 = .ok (.iload_n 1, 1) := by decide +kernel
theorem dX6_storeNumber_83 : decode cX6_storeNumber 83 = .ok (.iaload, 1) := by decide +kernel
theorem dX6_storeNumber_84 : decode cX6_storeNumber 84 = .ok (.ifCond .ne 59, 3) := by decide +kernel
theorem dX6_storeNumber_87 : decode cX6_storeNumber 87 = .ok (.iconst 0, 1) := by decide +kernel
theorem dX6_storeNumber_88 : decode cX6_storeNumber 88 = .ok (.istore 5, 2) := by decide +kernel
theorem dX6_storeNumber_90 : decode cX6_storeNumber 90 = .ok (.iload 5, 2) := by decide +kernel
theorem dX6_storeNumber_92 : decode cX6_storeNumber 92 = .ok (.iload_n 3, 1) := by decide +kernel
theorem dX6_storeNumber_93 : decode cX6_storeNumber 93 = .ok (.if_icmp .ge 29, 3) := by decide +kernel
theorem dX6_storeNumber_96 : decode cX6_storeNumber 96 = .ok (.aload_n 0, 1) := by decide +kernel
theorem dX6_storeNumber_97 : decode cX6_storeNumber 97 = .ok (.getfield 56, 3) := by decide +kernel
theorem dX6_storeNumber_100 : decode cX6_storeNumber 100 = .ok (.iload 4, 2) := by decide +kernel
theorem dX6_storeNumber_102 : decode cX6_storeNumber 102 = .ok (.iload 5, 2) := by decide +kernel
theorem dX6_storeNumber_104 : decode cX6_storeNumber 104 = .ok (.iadd, 1) := by decide +kernel
theorem dX6_storeNumber_105 : decode cX6_storeNumber 105 = .ok (.bipush 48, 2) := by decide +kernel
theorem dX6_storeNumber_107 : decode cX6_storeNumber 107 = .ok (.aload_n 0, 1) := by decide +kernel
theorem dX6_storeNumber_108 : decode cX6_storeNumber 108 = .ok (.getfield 62, 3) := by decide +kernel
theorem dX6_storeNumber_111 : decode cX6_storeNumber 111 = .ok (.iload 5, 2) := by decide +kernel
theorem dX6_storeNumber_113 : decode cX6_storeNumber 113 = .ok (.iaload, 1) := by decide +kernel
theorem dX6_storeNumber_114 : decode cX6_storeNumber 114 = .ok (.iadd, 1) := by decide +kernel
theorem dX6_storeNumber_115 : decode cX6_storeNumber 115 = .ok (.iastore, 1) := by decide +kernel
theorem dX6_storeNumber_116 : decode cX6_storeNumber 116 = .ok (.iinc 5 1, 3) := by decide +kernel
theorem dX6_storeNumber_119 : decode cX6_storeNumber 119 = .ok (.goto (-29), 3) := by decide +kernel
theorem dX6_storeNumber_122 : decode cX6_storeNumber 122 = .ok (.iload_n 2, 1) := by decide +kernel
theorem dX6_storeNumber_123 : decode cX6_storeNumber 123 = .ok (.ifCond .eq 19, 3) := by decide +kernel
theorem dX6_storeNumber_126 : decode cX6_storeNumber 126 = .ok (.aload_n 0, 1) := by decide +kernel
theorem dX6_storeNumber_127 : decode cX6_storeNumber 127 = .ok (.getfield 56, 3) := by decide +kernel
theorem dX6_storeNumber_130 : decode cX6_storeNumber 130 = .ok (.iload 4, 2) := by decide +kernel
theorem dX6_storeNumber_132 : decode cX6_storeNumber 132 = .ok (.iload_n 3, 1) := by decide +kernel
theorem dX6_storeNumber_133 : decode cX6_storeNumber 133 = .ok (.iadd, 1) := by decide +kernel
theorem dX6_storeNumber_134 : decode cX6_storeNumber 134 = .ok (.iconst 1, 1) := by decide +kernel
theorem dX6_storeNumber_135 : decode cX6_storeNumber 135 = .ok (.isub, 1) := by decide +kernel
theorem dX6_storeNumber_136 : decode cX6_storeNumber 136 = .ok (.dup2, 1) := by decide +kernel
theorem dX6_storeNumber_137 : decode cX6_storeNumber 137 = .ok (.iaload, 1) := by decide +kernel
theorem dX6_storeNumber_138 : decode cX6_storeNumber 138 = .ok (.bipush 64, 2) := by decide +kernel
theorem dX6_storeNumber_140 : decode cX6_storeNumber 140 = .ok (.iadd, 1) := by decide +kernel
theorem dX6_storeNumber_141 : decode cX6_storeNumber 141 = .ok (.iastore, 1) := by decide +kernel
theorem dX6_storeNumber_142 : decode cX6_storeNumber 142 = .ok (.return_, 1) := by decide +kernel
theorem dX6_storeNumber_143 : decode cX6_storeNumber 143 = .ok (.aload_n 0, 1) := by decide +kernel
theorem dX6_storeNumber_144 : decode cX6_storeNumber 144 = .ok (.getfield 62, 3) := by decide +kernel
theorem dX6_storeNumber_147 : decode cX6_storeNumber 147 = .ok (.iload_n 3, 1) := by decide +kernel
theorem dX6_storeNumber_148 : decode cX6_storeNumber 148 = .ok (.aload_n 0, 1) := by decide +kernel
theorem dX6_storeNumber_149 : decode cX6_storeNumber 149 = .ok (.getfield 34, 3) := by decide +kernel
theorem dX6_storeNumber_152 : decode cX6_storeNumber 152 = .ok (.iload_n 1, 1) := by decide +kernel
theorem dX6_storeNumber_153 : decode cX6_storeNumber 153 = .ok (.baload, 1) := by decide +kernel
theorem dX6_storeNumber_154 : decode cX6_storeNumber 154 = .ok (.ifCond .ne 8, 3) := by decide +kernel
theorem dX6_storeNumber_157 : decode cX6_storeNumber 157 = .ok (.bipush 15, 2) := by decide +kernel
theorem dX6_storeNumber_159 : decode cX6_storeNumber 159 = .ok (.goto 14, 3) := by decide +kernel
theorem dX6_storeNumber_162 : decode cX6_storeNumber 162 = .ok (.iload_n 2, 1) := by decide +kernel
theorem dX6_storeNumber_163 : decode cX6_storeNumber 163 = .ok (.ifCond .eq 8, 3) := by decide +kernel
theorem dX6_storeNumber_166 : decode cX6_storeNumber 166 = .ok (.bipush 13, 2) := by decide +kernel
theorem dX6_storeNumber_168 : decode cX6_storeNumber 168 = .ok (.goto 5, 3) := by decide +kernel
theorem dX6_storeNumber_171 : decode cX6_storeNumber 171 = .ok (.bipush 12, 2) := by decide +kernel
theorem dX6_storeNumber_173 : decode cX6_storeNumber 173 = .ok (.iastore, 1) := by decide +kernel
theorem dX6_storeNumber_174 : decode cX6_storeNumber 174 = .ok (.iconst 2, 1) := by decide +kernel
theorem dX6_storeNumber_175 : decode cX6_storeNumber 175 = .ok (.aload_n 0, 1) := by decide +kernel
theorem dX6_storeNumber_176 : decode cX6_storeNumber 176 = .ok (.getfield 53, 3) := by decide +kernel
theorem dX6_storeNumber_179 : decode cX6_storeNumber 179 = .ok (.iload_n 1, 1) := by decide +kernel
theorem dX6_storeNumber_180 : decode cX6_storeNumber 180 = .ok (.iaload, 1) := by decide +kernel
theorem dX6_storeNumber_181 : decode cX6_storeNumber 181 = .ok (.imul, 1) := by decide +kernel
theorem dX6_storeNumber_182 : decode cX6_storeNumber 182 = .ok (.iload_n 3, 1) := by decide +kernel
theorem dX6_storeNumber_183 : decode cX6_storeNumber 183 = .ok (.isub, 1) := by decide +kernel
theorem dX6_storeNumber_184 : decode cX6_storeNumber 184 = .ok (.iconst 1, 1) := by decide +kernel
theorem dX6_storeNumber_185 : decode cX6_storeNumber 185 = .ok (.isub, 1) := by decide +kernel
theorem dX6_storeNumber_186 : decode cX6_storeNumber 186 = .ok (.istore 5, 2) := by decide +kernel
theorem dX6_storeNumber_188 : decode cX6_storeNumber 188 = .ok (.iconst 0, 1) := by decide +kernel
theorem dX6_storeNumber_189 : decode cX6_storeNumber 189 = .ok (.istore 6, 2) := by decide +kernel
theorem dX6_storeNumber_191 : decode cX6_storeNumber 191 = .ok (.iload 6, 2) := by decide +kernel
theorem dX6_storeNumber_193 : decode cX6_storeNumber 193 = .ok (.aload_n 0, 1) := by decide +kernel
theorem dX6_storeNumber_194 : decode cX6_storeNumber 194 = .ok (.getfield 53, 3) := by decide +kernel
theorem dX6_storeNumber_197 : decode cX6_storeNumber 197 = .ok (.iload_n 1, 1) := by decide +kernel
theorem dX6_storeNumber_198 : decode cX6_storeNumber 198 = .ok (.iaload, 1) := by decide +kernel
theorem dX6_storeNumber_199 : decode cX6_storeNumber 199 = .ok (.if_icmp .ge 20, 3) := by decide +kernel
theorem dX6_storeNumber_202 : decode cX6_storeNumber 202 = .ok (.aload_n 0, 1) := by decide +kernel
theorem dX6_storeNumber_203 : decode cX6_storeNumber 203 = .ok (.getfield 56, 3) := by decide +kernel
theorem dX6_storeNumber_206 : decode cX6_storeNumber 206 = .ok (.iload 4, 2) := by decide +kernel
theorem dX6_storeNumber_208 : decode cX6_storeNumber 208 = .ok (.iload 6, 2) := by decide +kernel
theorem dX6_storeNumber_210 : decode cX6_storeNumber 210 = .ok (.iadd, 1) := by decide +kernel
theorem dX6_storeNumber_211 : decode cX6_storeNumber 211 = .ok (.iconst 0, 1) := by decide +kernel
theorem dX6_storeNumber_212 : decode cX6_storeNumber 212 = .ok (.iastore, 1) := by decide +kernel
theorem dX6_storeNumber_213 : decode cX6_storeNumber 213 = .ok (.iinc 6 1, 3) := by decide +kernel
theorem dX6_storeNumber_216 : decode cX6_storeNumber 216 = .ok (.goto (-25), 3) := by decide +kernel
theorem dX6_storeNumber_219 : decode cX6_storeNumber 219 = .ok (.iconst 0, 1) := by decide +kernel
theorem dX6_storeNumber_220 : decode cX6_storeNumber 220 = .ok (.istore 6, 2) := by decide +kernel
theorem dX6_storeNumber_222 : decode cX6_storeNumber 222 = .ok (.iload 6, 2) := by decide +kernel
theorem dX6_storeNumber_224 : decode cX6_storeNumber 224 = .ok (.iload_n 3, 1) := by decide +kernel
theorem dX6_storeNumber_225 : decode cX6_storeNumber 225 = .ok (.if_icmp .gt 50, 3) := by decide +kernel
theorem dX6_storeNumber_228 : decode cX6_storeNumber 228 = .ok (.aload_n 0, 1) := by decide +kernel
theorem dX6_storeNumber_229 : decode cX6_storeNumber 229 = .ok (.getfield 56, 3) := by decide +kernel
theorem dX6_storeNumber_232 : decode cX6_storeNumber 232 = .ok (.iload 4, 2) := by decide +kernel
theorem dX6_storeNumber_234 : decode cX6_storeNumber 234 = .ok (.iload 5, 2) := by decide +kernel
theorem dX6_storeNumber_236 : decode cX6_storeNumber 236 = .ok (.iload 6, 2) := by decide +kernel
theorem dX6_storeNumber_238 : decode cX6_storeNumber 238 = .ok (.iadd, 1) := by decide +kernel
theorem dX6_storeNumber_239 : decode cX6_storeNumber 239 = .ok (.iconst 2, 1) := by decide +kernel
theorem dX6_storeNumber_240 : decode cX6_storeNumber 240 = .ok (.idiv, 1) := by decide +kernel
theorem dX6_storeNumber_241 : decode cX6_storeNumber 241 = .ok (.iadd, 1) := by decide +kernel
theorem dX6_storeNumber_242 : decode cX6_storeNumber 242 = .ok (.dup2, 1) := by decide +kernel
theorem dX6_storeNumber_243 : decode cX6_storeNumber 243 = .ok (.iaload, 1) := by decide +kernel
theorem dX6_storeNumber_244 : decode cX6_storeNumber 244 = .ok (.aload_n 0, 1) := by decide +kernel
theorem dX6_storeNumber_245 : decode cX6_storeNumber 245 = .ok (.getfield 62, 3) := by decide +kernel
theorem dX6_storeNumber_248 : decode cX6_storeNumber 248 = .ok (.iload 6, 2) := by decide +kernel
theorem dX6_storeNumber_250 : decode cX6_storeNumber 250 = .ok (.iaload, 1) := by decide +kernel
theorem dX6_storeNumber_251 : decode cX6_storeNumber 251 = .ok (.iload 5, 2) := by decide +kernel
theorem dX6_storeNumber_253 : decode cX6_storeNumber 253 = .ok (.iload 6, 2) := by decide +kernel
theorem dX6_storeNumber_255 : decode cX6_storeNumber 255 = .ok (.iadd, 1) := by decide +kernel
theorem dX6_storeNumber_256 : decode cX6_storeNumber 256 = .ok (.iconst 2, 1) := by decide +kernel
theorem dX6_storeNumber_257 : decode cX6_storeNumber 257 = .ok (.irem, 1) := by decide +kernel
theorem dX6_storeNumber_258 : decode cX6_storeNumber 258 = .ok (.ifCond .ne 7, 3) := by decide +kernel
theorem dX6_storeNumber_261 : decode cX6_storeNumber 261 = .ok (.iconst 4, 1) := by decide +kernel
theorem dX6_storeNumber_262 : decode cX6_storeNumber 262 = .ok (.goto 4, 3) := by decide +kernel
theorem dX6_storeNumber_265 : decode cX6_storeNumber 265 = .ok (.iconst 0, 1) := by decide +kernel
theorem dX6_storeNumber_266 : decode cX6_storeNumber 266 = .ok (.ishl, 1) := by decide +kernel
theorem dX6_storeNumber_267 : decode cX6_storeNumber 267 = .ok (.ior, 1) := by decide +kernel
theorem dX6_storeNumber_268 : decode cX6_storeNumber 268 = .ok (.iastore, 1) := by decide +kernel
theorem dX6_storeNumber_269 : decode cX6_storeNumber 269 = .ok (.iinc 6 1, 3) := by decide +kernel
theorem dX6_storeNumber_272 : decode cX6_storeNumber 272 = .ok (.goto (-50), 3) := by decide +kernel
theorem dX6_storeNumber_275 : decode cX6_storeNumber 275 = .ok (.return_, 1) := by decide +kernel
def m_M_storeNumber_266 (v : Nat → Int32) (rec : Int32 → Int32 → Int32 → Int32 → (Nat → Nat → Int32) → Option ((Nat → Nat → Int32))) (x3 : Int32) (x4 : Int32) (x5 : Int32) (x6 : Int32) (t0 : Int32) (t1 : Int32) (t2 : Int32) (t3 : Int32) (u : Nat → Nat → Int32) : Option ((Nat → Nat → Int32)) := zix t3 256 (rec x3 x4 x5 (x6 + 1) (zau u 16 t3 (t2 ||| (t1 <<< (t0 &&& 31)))))
def m_M_storeNumber_222b (v : Nat → Int32) (rec : Int32 → Int32 → Int32 → Int32 → (Nat → Nat → Int32) → Option ((Nat → Nat → Int32))) (x3 : Int32) (x4 : Int32) (x5 : Int32) (x6 : Int32) (u : Nat → Nat → Int32) : Option ((Nat → Nat → Int32)) := (if x3 < x6 then (some u) else zix (x4 + ((x5 + x6) / 2)) 256 (zix x6 32 ((if ((x5 + x6) - (x5 + x6) / 2 * 2) = 0 then m_M_storeNumber_266 v rec x3 x4 x5 x6 4 ((u 18) x6.toNatClampNeg) ((u 16) (x4 + ((x5 + x6) / 2)).toNatClampNeg) (x4 + ((x5 + x6) / 2)) u else m_M_storeNumber_266 v rec x3 x4 x5 x6 0 ((u 18) x6.toNatClampNeg) ((u 16) (x4 + ((x5 + x6) / 2)).toNatClampNeg) (x4 + ((x5 + x6) / 2)) u))))
def m_M_storeNumber_222 (v : Nat → Int32) : Nat → Int32 → Int32 → Int32 → Int32 → (Nat → Nat → Int32) → Option ((Nat → Nat → Int32))
  | 0 => fun _ _ _ _ _ => none
  | n + 1 => fun x3 x4 x5 x6 u => m_M_storeNumber_222b v (m_M_storeNumber_222 v n) x3 x4 x5 x6 u
def m_M_storeNumber_191b (v : Nat → Int32) (rec : Int32 → Int32 → Int32 → Int32 → Int32 → (Nat → Nat → Int32) → Option ((Nat → Nat → Int32))) (x1 : Int32) (x3 : Int32) (x4 : Int32) (x5 : Int32) (x6 : Int32) (u : Nat → Nat → Int32) : Option ((Nat → Nat → Int32)) := zix x1 9 ((if ((u 15) x1.toNatClampNeg) ≤ x6 then m_M_storeNumber_222 v 64 x3 x4 x5 0 u else zix (x4 + x6) 256 (rec x1 x3 x4 x5 (x6 + 1) (zau u 16 (x4 + x6) 0))))
def m_M_storeNumber_191 (v : Nat → Int32) : Nat → Int32 → Int32 → Int32 → Int32 → Int32 → (Nat → Nat → Int32) → Option ((Nat → Nat → Int32))
  | 0 => fun _ _ _ _ _ _ => none
  | n + 1 => fun x1 x3 x4 x5 x6 u => m_M_storeNumber_191b v (m_M_storeNumber_191 v n) x1 x3 x4 x5 x6 u
def m_M_storeNumber_173 (v : Nat → Int32) (x1 : Int32) (x3 : Int32) (x4 : Int32) (t0 : Int32) (t1 : Int32) (u : Nat → Nat → Int32) : Option ((Nat → Nat → Int32)) := zix t1 32 (zix x1 9 (m_M_storeNumber_191 v 64 x1 x3 x4 (((2 * (((zau u 18 t1 t0) 15) x1.toNatClampNeg)) - x3) - 1) 0 (zau u 18 t1 t0)))
def m_M_storeNumber_90b (v : Nat → Int32) (rec : Int32 → Int32 → Int32 → Int32 → (Nat → Nat → Int32) → Option ((Nat → Nat → Int32))) (x2 : Int32) (x3 : Int32) (x4 : Int32) (x5 : Int32) (u : Nat → Nat → Int32) : Option ((Nat → Nat → Int32)) := (if x3 ≤ x5 then (if x2 = 0 then (some u) else zix ((x4 + x3) - 1) 256 (zix ((x4 + x3) - 1) 256 ((some (zau u 16 ((x4 + x3) - 1) (((u 16) ((x4 + x3) - 1).toNatClampNeg) + 64)))))) else zix x5 32 (zix (x4 + x5) 256 (rec x2 x3 x4 (x5 + 1) (zau u 16 (x4 + x5) (48 + ((u 18) x5.toNatClampNeg))))))
def m_M_storeNumber_90 (v : Nat → Int32) : Nat → Int32 → Int32 → Int32 → Int32 → (Nat → Nat → Int32) → Option ((Nat → Nat → Int32))
  | 0 => fun _ _ _ _ _ => none
  | n + 1 => fun x2 x3 x4 x5 u => m_M_storeNumber_90b v (m_M_storeNumber_90 v n) x2 x3 x4 x5 u
def m_M_storeNumber_66 (v : Nat → Int32) (rec : Int32 → Int32 → Int32 → Int32 → (Nat → Nat → Int32) → Option ((Nat → Nat → Int32))) (x1 : Int32) (x2 : Int32) (x3 : Int32) (x4 : Int32) (u : Nat → Nat → Int32) : Option ((Nat → Nat → Int32)) := rec x1 x2 x3 (x4 + 1) u
def m_M_storeNumber_27b (v : Nat → Int32) (rec : Int32 → Int32 → Int32 → Int32 → (Nat → Nat → Int32) → Option ((Nat → Nat → Int32))) (x1 : Int32) (x2 : Int32) (x3 : Int32) (x4 : Int32) (u : Nat → Nat → Int32) : Option ((Nat → Nat → Int32)) := zix x1 9 ((if ((u 2) x1.toNatClampNeg) ≤ x4 then zix x1 9 ((if ((u 6) x1.toNatClampNeg) = 0 then m_M_storeNumber_90 v 64 x2 x3 (32 * x1) 0 u else zix x1 9 ((if ((u 9) x1.toNatClampNeg) = 0 then m_M_storeNumber_173 v x1 x3 (32 * x1) 15 x3 u else (if x2 = 0 then m_M_storeNumber_173 v x1 x3 (32 * x1) 12 x3 u else m_M_storeNumber_173 v x1 x3 (32 * x1) 13 x3 u))))) else (m_M_sym x1 x4 v u).bind (fun q27 => (if q27 = 57 then (m_M_digitFor x1 x4 v u).bind (fun q29 => zix x3 32 (m_M_storeNumber_66 v rec x1 x2 (x3 + 1) x4 (zau u 18 x3 q29))) else m_M_storeNumber_66 v rec x1 x2 x3 x4 u))))
def m_M_storeNumber_27 (v : Nat → Int32) : Nat → Int32 → Int32 → Int32 → Int32 → (Nat → Nat → Int32) → Option ((Nat → Nat → Int32))
  | 0 => fun _ _ _ _ _ => none
  | n + 1 => fun x1 x2 x3 x4 u => m_M_storeNumber_27b v (m_M_storeNumber_27 v n) x1 x2 x3 x4 u
def m_M_storeNumber (a0 : Int32) (v : Nat → Int32) (u : Nat → Nat → Int32)  : Option ((Nat → Nat → Int32)) := zix a0 9 ((if ((u 5) a0.toNatClampNeg) = 2 then (m_M_edit a0 v u).bind (fun q31 => (some q31)) else (m_M_isBelow a0 v u).bind (fun q3 => m_M_storeNumber_27 v 64 a0 q3 0 0 u)))
section
variable {p : Program} {l : Launch} {e : Env} {s : State} {m : MethodId} {args : Array Value} {below : List Frame} {meth : Method} {c : Code} {D : va_G} {w0 : va_W} {ad : Nat → Nat} {ca : Nat → ClassId} {v : Nat → Int32}
set_option maxRecDepth 100000 in
set_option maxHeartbeats 4000000 in
theorem b_M_storeNumber_266 (G : zG p s m args meth c cX6_storeNumber RX6 7 none) (hK : va_K D vwCl (wM_t ca) s) (hX : zN (va_A w0 s.heap.size) s) {res : (Nat → Nat → Int32)} (rec : Int32 → Int32 → Int32 → Int32 → (Nat → Nat → Int32) → Option ((Nat → Nat → Int32))) (hrec : ∀ (x3 : Int32) (x4 : Int32) (x5 : Int32) (x6 : Int32) (u : Nat → Nat → Int32), rec x3 x4 x5 x6 u = some res → zB p l e (zR 4 101) s m args below meth c D vwCl (va_A w0 s.heap.size) (MQ below (zQv D vwCl w0 (wM ad ca v res) s.heap.size) args s 0 0 (va_A w0 s.heap.size)) 7 (wM ad ca v u) [(0, .ref (ad 0)), (3, .int x3), (4, .int x4), (5, .int x5), (6, .int x6)] 222 []) : ∀ (x3 : Int32) (x4 : Int32) (x5 : Int32) (x6 : Int32) (t0 : Int32) (t1 : Int32) (t2 : Int32) (t3 : Int32) (u : Nat → Nat → Int32), m_M_storeNumber_266 v rec x3 x4 x5 x6 t0 t1 t2 t3 u = some res → zB p l e (zR 4 101) s m args below meth c D vwCl (va_A w0 s.heap.size) (MQ below (zQv D vwCl w0 (wM ad ca v res) s.heap.size) args s 0 0 (va_A w0 s.heap.size)) 7 (wM ad ca v u) [(0, .ref (ad 0)), (3, .int x3), (4, .int x4), (5, .int x5), (6, .int x6)] 266 [.int t0, .int t1, .int t2, .int t3, .ref (ad 16)] := by
  intro x3 x4 x5 x6 t0 t1 t2 t3 u hm H locs ls hP hD hS hl
  unfold m_M_storeNumber_266 at hm
  have G0 := G
  obtain ⟨hx, hb, hr, hml, hown, hw, hlk⟩ := G
  have hA : ∀ q, s.heap.size ≤ q → va_A w0 s.heap.size q := fun q h => Or.inr h
  refine lv_ishl hx hb dX6_storeNumber_266 ?_
  refine lv_ior hx hb dX6_storeNumber_267 ?_
  obtain ⟨hi19, hm⟩ := zix_s hm
  refine va_iast (i := t3) (x := (t2 ||| (t1 <<< (t0 &&& 31)))) (f := (u 16)) (n := 256) hx hb hK hP hD hS 16 15 rfl rfl hi19 dX6_storeNumber_268 (fun H locs hP hD hS => ?_)
  have hP : va_P D vwCl (wM ad ca v (zau u 16 t3 (t2 ||| (t1 <<< (t0 &&& 31))))) H := hP
  have hD : va_D _ (wM ad ca v (zau u 16 t3 (t2 ||| (t1 <<< (t0 &&& 31))))) := hD
  refine lv_iinc (k := 4) (v := (x6 + 1)) (lv' := [(6, .int (x6 + 1)), (0, .ref (ad 0)), (3, .int x3), (4, .int x4), (5, .int x5)]) hx hb dX6_storeNumber_269 hl rfl rfl (by decide) rfl (fun ls hl => ?_)
  refine lv_goto (tgt := 222) hx hb dX6_storeNumber_272 rfl ?_
  exact hrec _ _ _ _ _ hm H _ _ hP hD hS (lv_sub hl [1, 2, 3, 4, 0] rfl)
set_option maxRecDepth 100000 in
set_option maxHeartbeats 4000000 in
theorem b_M_storeNumber_222 (G : zG p s m args meth c cX6_storeNumber RX6 7 none) (hK : va_K D vwCl (wM_t ca) s) (hX : zN (va_A w0 s.heap.size) s) {res : (Nat → Nat → Int32)} : ∀ n : Nat, ∀ (x3 : Int32) (x4 : Int32) (x5 : Int32) (x6 : Int32) (u : Nat → Nat → Int32), m_M_storeNumber_222 v n x3 x4 x5 x6 u = some res → zB p l e (zR 4 101) s m args below meth c D vwCl (va_A w0 s.heap.size) (MQ below (zQv D vwCl w0 (wM ad ca v res) s.heap.size) args s 0 0 (va_A w0 s.heap.size)) 7 (wM ad ca v u) [(0, .ref (ad 0)), (3, .int x3), (4, .int x4), (5, .int x5), (6, .int x6)] 222 [] := by
  intro n
  induction n with
  | zero => intro x3 x4 x5 x6 u hm; cases hm
  | succ n ih =>
  have hrec := ih
  intro x3 x4 x5 x6 u hm H locs ls hP hD hS hl
  replace hm : m_M_storeNumber_222b v (m_M_storeNumber_222 v n) x3 x4 x5 x6 u = some res := hm
  generalize m_M_storeNumber_222 v n = rec at hm hrec
  unfold m_M_storeNumber_222b at hm
  clear ih
  have G0 := G
  obtain ⟨hx, hb, hr, hml, hown, hw, hlk⟩ := G
  have hA : ∀ q, s.heap.size ≤ q → va_A w0 s.heap.size q := fun q h => Or.inr h
  refine lv_iload hx hb dX6_storeNumber_222 (lv_at hl 4 rfl) ?_
  refine lv_iload_n hx hb dX6_storeNumber_224 rfl (lv_at hl 1 rfl) ?_
  refine lv_icmp_gt (tgt := 275) hx hb dX6_storeNumber_225 rfl (fun cd15 => ?_) (fun cd15 => ?_)
  · replace hm := zt cd15 hm
    cases hm
    exact zretv hx hb hr hlk hP hD hS dX6_storeNumber_275
  · replace hm := zf cd15 hm
    refine lv_aload_n hx hb dX6_storeNumber_228 rfl (lv_at hl 0 rfl) ?_
    refine va_get (D := D) (ci := 5) (v := .ref (ad 16)) (C := RX6) (T := TX6) (N := 24) hx hb hw zinX6 hown hK hP 0 rfl rfl 18 (by decide) (hw _ zw114) (fun _ h9 => h9) rfl dX6_storeNumber_229 ?_
    refine lv_iload hx hb dX6_storeNumber_232 (lv_at hl 2 rfl) ?_
    refine lv_iload hx hb dX6_storeNumber_234 (lv_at hl 3 rfl) ?_
    refine lv_iload hx hb dX6_storeNumber_236 (lv_at hl 4 rfl) ?_
    refine lv_iadd hx hb dX6_storeNumber_238 ?_
    refine lv_iconst (v := 2) hx hb dX6_storeNumber_239 (by decide) ?_
    refine lv_idiv hx hb dX6_storeNumber_240 (by decide) ?_
    refine lv_iadd hx hb dX6_storeNumber_241 ?_
    refine lv_dup2_11 hx hb dX6_storeNumber_242 rfl rfl ?_
    obtain ⟨hi16, hm⟩ := zix_s hm
    refine va_iald (i := (x4 + ((x5 + x6) / 2))) (f := (u 16)) (n := 256) hx hb hK hP 16 15 rfl rfl hi16 dX6_storeNumber_243 ?_
    refine lv_aload_n hx hb dX6_storeNumber_244 rfl (lv_at hl 0 rfl) ?_
    refine va_get (D := D) (ci := 5) (v := .ref (ad 18)) (C := RX6) (T := TX6) (N := 24) hx hb hw zinX6 hown hK hP 0 rfl rfl 22 (by decide) (hw _ zw116) (fun _ h9 => h9) rfl dX6_storeNumber_245 ?_
    refine lv_iload hx hb dX6_storeNumber_248 (lv_at hl 4 rfl) ?_
    obtain ⟨hi17, hm⟩ := zix_s hm
    refine va_iald (i := x6) (f := (u 18)) (n := 32) hx hb hK hP 18 17 rfl rfl hi17 dX6_storeNumber_250 ?_
    refine lv_iload hx hb dX6_storeNumber_251 (lv_at hl 3 rfl) ?_
    refine lv_iload hx hb dX6_storeNumber_253 (lv_at hl 4 rfl) ?_
    refine lv_iadd hx hb dX6_storeNumber_255 ?_
    refine lv_iconst (v := 2) hx hb dX6_storeNumber_256 (by decide) ?_
    refine lv_irem hx hb dX6_storeNumber_257 (by decide) ?_
    refine lv_if_ne (tgt := 265) hx hb dX6_storeNumber_258 rfl (fun cd18 => ?_) (fun cd18 => ?_)
    · replace hm := zf cd18 hm
      refine lv_iconst (v := 0) hx hb dX6_storeNumber_265 (by decide) ?_
      exact b_M_storeNumber_266 G0 hK hX rec hrec _ _ _ _ _ _ _ _ _ hm H _ _ hP hD hS hl
    · replace hm := zt cd18 hm
      refine lv_iconst (v := 4) hx hb dX6_storeNumber_261 (by decide) ?_
      refine lv_goto (tgt := 266) hx hb dX6_storeNumber_262 rfl ?_
      exact b_M_storeNumber_266 G0 hK hX rec hrec _ _ _ _ _ _ _ _ _ hm H _ _ hP hD hS hl
set_option maxRecDepth 100000 in
set_option maxHeartbeats 4000000 in
theorem b_M_storeNumber_191 (G : zG p s m args meth c cX6_storeNumber RX6 7 none) (hK : va_K D vwCl (wM_t ca) s) (hX : zN (va_A w0 s.heap.size) s) {res : (Nat → Nat → Int32)} : ∀ n : Nat, ∀ (x1 : Int32) (x3 : Int32) (x4 : Int32) (x5 : Int32) (x6 : Int32) (u : Nat → Nat → Int32), m_M_storeNumber_191 v n x1 x3 x4 x5 x6 u = some res → zB p l e (zR 4 101) s m args below meth c D vwCl (va_A w0 s.heap.size) (MQ below (zQv D vwCl w0 (wM ad ca v res) s.heap.size) args s 0 0 (va_A w0 s.heap.size)) 7 (wM ad ca v u) [(0, .ref (ad 0)), (1, .int x1), (3, .int x3), (4, .int x4), (5, .int x5), (6, .int x6)] 191 [] := by
  intro n
  induction n with
  | zero => intro x1 x3 x4 x5 x6 u hm; cases hm
  | succ n ih =>
  have hrec := ih
  intro x1 x3 x4 x5 x6 u hm H locs ls hP hD hS hl
  replace hm : m_M_storeNumber_191b v (m_M_storeNumber_191 v n) x1 x3 x4 x5 x6 u = some res := hm
  generalize m_M_storeNumber_191 v n = rec at hm hrec
  unfold m_M_storeNumber_191b at hm
  clear ih
  have G0 := G
  obtain ⟨hx, hb, hr, hml, hown, hw, hlk⟩ := G
  have hA : ∀ q, s.heap.size ≤ q → va_A w0 s.heap.size q := fun q h => Or.inr h
  refine lv_iload hx hb dX6_storeNumber_191 (lv_at hl 5 rfl) ?_
  refine lv_aload_n hx hb dX6_storeNumber_193 rfl (lv_at hl 0 rfl) ?_
  refine va_get (D := D) (ci := 5) (v := .ref (ad 15)) (C := RX6) (T := TX6) (N := 24) hx hb hw zinX6 hown hK hP 0 rfl rfl 17 (by decide) (hw _ zw50) (fun _ h9 => h9) rfl dX6_storeNumber_194 ?_
  refine lv_iload_n hx hb dX6_storeNumber_197 rfl (lv_at hl 1 rfl) ?_
  obtain ⟨hi13, hm⟩ := zix_s hm
  refine va_iald (i := x1) (f := (u 15)) (n := 9) hx hb hK hP 15 14 rfl rfl hi13 dX6_storeNumber_198 ?_
  refine lv_icmp_ge (tgt := 219) hx hb dX6_storeNumber_199 rfl (fun cd14 => ?_) (fun cd14 => ?_)
  · replace hm := zt cd14 hm
    refine lv_iconst (v := 0) hx hb dX6_storeNumber_219 (by decide) ?_
    refine lv_istore (lv' := [(6, .int 0), (0, .ref (ad 0)), (1, .int x1), (3, .int x3), (4, .int x4), (5, .int x5)]) hx hb dX6_storeNumber_220 hl (by decide) rfl (fun ls hl => ?_)
    exact b_M_storeNumber_222 G0 hK hX 64 _ _ _ _ _ hm H _ _ hP hD hS (lv_sub hl [1, 3, 4, 5, 0] rfl)
  · replace hm := zf cd14 hm
    refine lv_aload_n hx hb dX6_storeNumber_202 rfl (lv_at hl 0 rfl) ?_
    refine va_get (D := D) (ci := 5) (v := .ref (ad 16)) (C := RX6) (T := TX6) (N := 24) hx hb hw zinX6 hown hK hP 0 rfl rfl 18 (by decide) (hw _ zw114) (fun _ h9 => h9) rfl dX6_storeNumber_203 ?_
    refine lv_iload hx hb dX6_storeNumber_206 (lv_at hl 3 rfl) ?_
    refine lv_iload hx hb dX6_storeNumber_208 (lv_at hl 5 rfl) ?_
    refine lv_iadd hx hb dX6_storeNumber_210 ?_
    refine lv_iconst (v := 0) hx hb dX6_storeNumber_211 (by decide) ?_
    obtain ⟨hi20, hm⟩ := zix_s hm
    refine va_iast (i := (x4 + x6)) (x := 0) (f := (u 16)) (n := 256) hx hb hK hP hD hS 16 15 rfl rfl hi20 dX6_storeNumber_212 (fun H locs hP hD hS => ?_)
    have hP : va_P D vwCl (wM ad ca v (zau u 16 (x4 + x6) 0)) H := hP
    have hD : va_D _ (wM ad ca v (zau u 16 (x4 + x6) 0)) := hD
    refine lv_iinc (k := 5) (v := (x6 + 1)) (lv' := [(6, .int (x6 + 1)), (0, .ref (ad 0)), (1, .int x1), (3, .int x3), (4, .int x4), (5, .int x5)]) hx hb dX6_storeNumber_213 hl rfl rfl (by decide) rfl (fun ls hl => ?_)
    refine lv_goto (tgt := 191) hx hb dX6_storeNumber_216 rfl ?_
    exact hrec _ _ _ _ _ _ hm H _ _ hP hD hS (lv_sub hl [1, 2, 3, 4, 5, 0] rfl)
set_option maxRecDepth 100000 in
set_option maxHeartbeats 4000000 in
theorem b_M_storeNumber_173 (G : zG p s m args meth c cX6_storeNumber RX6 7 none) (hK : va_K D vwCl (wM_t ca) s) (hX : zN (va_A w0 s.heap.size) s) {res : (Nat → Nat → Int32)} : ∀ (x1 : Int32) (x3 : Int32) (x4 : Int32) (t0 : Int32) (t1 : Int32) (u : Nat → Nat → Int32), m_M_storeNumber_173 v x1 x3 x4 t0 t1 u = some res → zB p l e (zR 4 101) s m args below meth c D vwCl (va_A w0 s.heap.size) (MQ below (zQv D vwCl w0 (wM ad ca v res) s.heap.size) args s 0 0 (va_A w0 s.heap.size)) 7 (wM ad ca v u) [(0, .ref (ad 0)), (1, .int x1), (3, .int x3), (4, .int x4)] 173 [.int t0, .int t1, .ref (ad 18)] := by
  intro x1 x3 x4 t0 t1 u hm H locs ls hP hD hS hl
  unfold m_M_storeNumber_173 at hm
  have G0 := G
  obtain ⟨hx, hb, hr, hml, hown, hw, hlk⟩ := G
  have hA : ∀ q, s.heap.size ≤ q → va_A w0 s.heap.size q := fun q h => Or.inr h
  obtain ⟨hi11, hm⟩ := zix_s hm
  refine va_iast (i := t1) (x := t0) (f := (u 18)) (n := 32) hx hb hK hP hD hS 18 17 rfl rfl hi11 dX6_storeNumber_173 (fun H locs hP hD hS => ?_)
  have hP : va_P D vwCl (wM ad ca v (zau u 18 t1 t0)) H := hP
  have hD : va_D _ (wM ad ca v (zau u 18 t1 t0)) := hD
  refine lv_iconst (v := 2) hx hb dX6_storeNumber_174 (by decide) ?_
  refine lv_aload_n hx hb dX6_storeNumber_175 rfl (lv_at hl 0 rfl) ?_
  refine va_get (D := D) (ci := 5) (v := .ref (ad 15)) (C := RX6) (T := TX6) (N := 24) hx hb hw zinX6 hown hK hP 0 rfl rfl 17 (by decide) (hw _ zw50) (fun _ h9 => h9) rfl dX6_storeNumber_176 ?_
  refine lv_iload_n hx hb dX6_storeNumber_179 rfl (lv_at hl 1 rfl) ?_
  obtain ⟨hi12, hm⟩ := zix_s hm
  refine va_iald (i := x1) (f := ((zau u 18 t1 t0) 15)) (n := 9) hx hb hK hP 15 14 rfl rfl hi12 dX6_storeNumber_180 ?_
  refine lv_imul hx hb dX6_storeNumber_181 ?_
  refine lv_iload_n hx hb dX6_storeNumber_182 rfl (lv_at hl 2 rfl) ?_
  refine lv_isub hx hb dX6_storeNumber_183 ?_
  refine lv_iconst (v := 1) hx hb dX6_storeNumber_184 (by decide) ?_
  refine lv_isub hx hb dX6_storeNumber_185 ?_
  refine lv_istore (lv' := [(5, .int (((2 * (((zau u 18 t1 t0) 15) x1.toNatClampNeg)) - x3) - 1)), (0, .ref (ad 0)), (1, .int x1), (3, .int x3), (4, .int x4)]) hx hb dX6_storeNumber_186 hl (by decide) rfl (fun ls hl => ?_)
  refine lv_iconst (v := 0) hx hb dX6_storeNumber_188 (by decide) ?_
  refine lv_istore (lv' := [(6, .int 0), (5, .int (((2 * (((zau u 18 t1 t0) 15) x1.toNatClampNeg)) - x3) - 1)), (0, .ref (ad 0)), (1, .int x1), (3, .int x3), (4, .int x4)]) hx hb dX6_storeNumber_189 hl (by decide) rfl (fun ls hl => ?_)
  exact b_M_storeNumber_191 G0 hK hX 64 _ _ _ _ _ _ hm H _ _ hP hD hS (lv_sub hl [2, 3, 4, 5, 1, 0] rfl)
set_option maxRecDepth 100000 in
set_option maxHeartbeats 4000000 in
theorem b_M_storeNumber_90 (G : zG p s m args meth c cX6_storeNumber RX6 7 none) (hK : va_K D vwCl (wM_t ca) s) (hX : zN (va_A w0 s.heap.size) s) {res : (Nat → Nat → Int32)} : ∀ n : Nat, ∀ (x2 : Int32) (x3 : Int32) (x4 : Int32) (x5 : Int32) (u : Nat → Nat → Int32), m_M_storeNumber_90 v n x2 x3 x4 x5 u = some res → zB p l e (zR 4 101) s m args below meth c D vwCl (va_A w0 s.heap.size) (MQ below (zQv D vwCl w0 (wM ad ca v res) s.heap.size) args s 0 0 (va_A w0 s.heap.size)) 7 (wM ad ca v u) [(0, .ref (ad 0)), (2, .int x2), (3, .int x3), (4, .int x4), (5, .int x5)] 90 [] := by
  intro n
  induction n with
  | zero => intro x2 x3 x4 x5 u hm; cases hm
  | succ n ih =>
  have hrec := ih
  intro x2 x3 x4 x5 u hm H locs ls hP hD hS hl
  replace hm : m_M_storeNumber_90b v (m_M_storeNumber_90 v n) x2 x3 x4 x5 u = some res := hm
  generalize m_M_storeNumber_90 v n = rec at hm hrec
  unfold m_M_storeNumber_90b at hm
  clear ih
  have G0 := G
  obtain ⟨hx, hb, hr, hml, hown, hw, hlk⟩ := G
  have hA : ∀ q, s.heap.size ≤ q → va_A w0 s.heap.size q := fun q h => Or.inr h
  refine lv_iload hx hb dX6_storeNumber_90 (lv_at hl 4 rfl) ?_
  refine lv_iload_n hx hb dX6_storeNumber_92 rfl (lv_at hl 2 rfl) ?_
  refine lv_icmp_ge (tgt := 122) hx hb dX6_storeNumber_93 rfl (fun cd21 => ?_) (fun cd21 => ?_)
  · replace hm := zt cd21 hm
    refine lv_iload_n hx hb dX6_storeNumber_122 rfl (lv_at hl 1 rfl) ?_
    refine lv_if_eq (tgt := 142) hx hb dX6_storeNumber_123 rfl (fun cd22 => ?_) (fun cd22 => ?_)
    · replace hm := zt cd22 hm
      cases hm
      exact zretv hx hb hr hlk hP hD hS dX6_storeNumber_142
    · replace hm := zf cd22 hm
      refine lv_aload_n hx hb dX6_storeNumber_126 rfl (lv_at hl 0 rfl) ?_
      refine va_get (D := D) (ci := 5) (v := .ref (ad 16)) (C := RX6) (T := TX6) (N := 24) hx hb hw zinX6 hown hK hP 0 rfl rfl 18 (by decide) (hw _ zw114) (fun _ h9 => h9) rfl dX6_storeNumber_127 ?_
      refine lv_iload hx hb dX6_storeNumber_130 (lv_at hl 3 rfl) ?_
      refine lv_iload_n hx hb dX6_storeNumber_132 rfl (lv_at hl 2 rfl) ?_
      refine lv_iadd hx hb dX6_storeNumber_133 ?_
      refine lv_iconst (v := 1) hx hb dX6_storeNumber_134 (by decide) ?_
      refine lv_isub hx hb dX6_storeNumber_135 ?_
      refine lv_dup2_11 hx hb dX6_storeNumber_136 rfl rfl ?_
      obtain ⟨hi23, hm⟩ := zix_s hm
      refine va_iald (i := ((x4 + x3) - 1)) (f := (u 16)) (n := 256) hx hb hK hP 16 15 rfl rfl hi23 dX6_storeNumber_137 ?_
      refine lv_bipush (v := 64) hx hb dX6_storeNumber_138 (by decide) ?_
      refine lv_iadd hx hb dX6_storeNumber_140 ?_
      obtain ⟨hi24, hm⟩ := zix_s hm
      refine va_iast (i := ((x4 + x3) - 1)) (x := (((u 16) ((x4 + x3) - 1).toNatClampNeg) + 64)) (f := (u 16)) (n := 256) hx hb hK hP hD hS 16 15 rfl rfl hi24 dX6_storeNumber_141 (fun H locs hP hD hS => ?_)
      have hP : va_P D vwCl (wM ad ca v (zau u 16 ((x4 + x3) - 1) (((u 16) ((x4 + x3) - 1).toNatClampNeg) + 64))) H := hP
      have hD : va_D _ (wM ad ca v (zau u 16 ((x4 + x3) - 1) (((u 16) ((x4 + x3) - 1).toNatClampNeg) + 64))) := hD
      cases hm
      exact zretv hx hb hr hlk hP hD hS dX6_storeNumber_142
  · replace hm := zf cd21 hm
    refine lv_aload_n hx hb dX6_storeNumber_96 rfl (lv_at hl 0 rfl) ?_
    refine va_get (D := D) (ci := 5) (v := .ref (ad 16)) (C := RX6) (T := TX6) (N := 24) hx hb hw zinX6 hown hK hP 0 rfl rfl 18 (by decide) (hw _ zw114) (fun _ h9 => h9) rfl dX6_storeNumber_97 ?_
    refine lv_iload hx hb dX6_storeNumber_100 (lv_at hl 3 rfl) ?_
    refine lv_iload hx hb dX6_storeNumber_102 (lv_at hl 4 rfl) ?_
    refine lv_iadd hx hb dX6_storeNumber_104 ?_
    refine lv_bipush (v := 48) hx hb dX6_storeNumber_105 (by decide) ?_
    refine lv_aload_n hx hb dX6_storeNumber_107 rfl (lv_at hl 0 rfl) ?_
    refine va_get (D := D) (ci := 5) (v := .ref (ad 18)) (C := RX6) (T := TX6) (N := 24) hx hb hw zinX6 hown hK hP 0 rfl rfl 22 (by decide) (hw _ zw116) (fun _ h9 => h9) rfl dX6_storeNumber_108 ?_
    refine lv_iload hx hb dX6_storeNumber_111 (lv_at hl 4 rfl) ?_
    obtain ⟨hi25, hm⟩ := zix_s hm
    refine va_iald (i := x5) (f := (u 18)) (n := 32) hx hb hK hP 18 17 rfl rfl hi25 dX6_storeNumber_113 ?_
    refine lv_iadd hx hb dX6_storeNumber_114 ?_
    obtain ⟨hi26, hm⟩ := zix_s hm
    refine va_iast (i := (x4 + x5)) (x := (48 + ((u 18) x5.toNatClampNeg))) (f := (u 16)) (n := 256) hx hb hK hP hD hS 16 15 rfl rfl hi26 dX6_storeNumber_115 (fun H locs hP hD hS => ?_)
    have hP : va_P D vwCl (wM ad ca v (zau u 16 (x4 + x5) (48 + ((u 18) x5.toNatClampNeg)))) H := hP
    have hD : va_D _ (wM ad ca v (zau u 16 (x4 + x5) (48 + ((u 18) x5.toNatClampNeg)))) := hD
    refine lv_iinc (k := 4) (v := (x5 + 1)) (lv' := [(5, .int (x5 + 1)), (0, .ref (ad 0)), (2, .int x2), (3, .int x3), (4, .int x4)]) hx hb dX6_storeNumber_116 hl rfl rfl (by decide) rfl (fun ls hl => ?_)
    refine lv_goto (tgt := 90) hx hb dX6_storeNumber_119 rfl ?_
    exact hrec _ _ _ _ _ hm H _ _ hP hD hS (lv_sub hl [1, 2, 3, 4, 0] rfl)
set_option maxRecDepth 100000 in
set_option maxHeartbeats 4000000 in
theorem b_M_storeNumber_66 (G : zG p s m args meth c cX6_storeNumber RX6 7 none) (hK : va_K D vwCl (wM_t ca) s) (hX : zN (va_A w0 s.heap.size) s) {res : (Nat → Nat → Int32)} (rec : Int32 → Int32 → Int32 → Int32 → (Nat → Nat → Int32) → Option ((Nat → Nat → Int32))) (hrec : ∀ (x1 : Int32) (x2 : Int32) (x3 : Int32) (x4 : Int32) (u : Nat → Nat → Int32), rec x1 x2 x3 x4 u = some res → zB p l e (zR 4 101) s m args below meth c D vwCl (va_A w0 s.heap.size) (MQ below (zQv D vwCl w0 (wM ad ca v res) s.heap.size) args s 0 0 (va_A w0 s.heap.size)) 7 (wM ad ca v u) [(0, .ref (ad 0)), (1, .int x1), (2, .int x2), (3, .int x3), (4, .int x4)] 27 []) : ∀ (x1 : Int32) (x2 : Int32) (x3 : Int32) (x4 : Int32) (u : Nat → Nat → Int32), m_M_storeNumber_66 v rec x1 x2 x3 x4 u = some res → zB p l e (zR 4 101) s m args below meth c D vwCl (va_A w0 s.heap.size) (MQ below (zQv D vwCl w0 (wM ad ca v res) s.heap.size) args s 0 0 (va_A w0 s.heap.size)) 7 (wM ad ca v u) [(0, .ref (ad 0)), (1, .int x1), (2, .int x2), (3, .int x3), (4, .int x4)] 66 [] := by
  intro x1 x2 x3 x4 u hm H locs ls hP hD hS hl
  unfold m_M_storeNumber_66 at hm
  have G0 := G
  obtain ⟨hx, hb, hr, hml, hown, hw, hlk⟩ := G
  have hA : ∀ q, s.heap.size ≤ q → va_A w0 s.heap.size q := fun q h => Or.inr h
  refine lv_iinc (k := 4) (v := (x4 + 1)) (lv' := [(4, .int (x4 + 1)), (0, .ref (ad 0)), (1, .int x1), (2, .int x2), (3, .int x3)]) hx hb dX6_storeNumber_66 hl rfl rfl (by decide) rfl (fun ls hl => ?_)
  refine lv_goto (tgt := 27) hx hb dX6_storeNumber_69 rfl ?_
  exact hrec _ _ _ _ _ hm H _ _ hP hD hS (lv_sub hl [1, 2, 3, 4, 0] rfl)
set_option maxRecDepth 100000 in
set_option maxHeartbeats 4000000 in
theorem b_M_storeNumber_27 (G : zG p s m args meth c cX6_storeNumber RX6 7 none) (hK : va_K D vwCl (wM_t ca) s) (hX : zN (va_A w0 s.heap.size) s) {res : (Nat → Nat → Int32)} : ∀ n : Nat, ∀ (x1 : Int32) (x2 : Int32) (x3 : Int32) (x4 : Int32) (u : Nat → Nat → Int32), m_M_storeNumber_27 v n x1 x2 x3 x4 u = some res → zB p l e (zR 4 101) s m args below meth c D vwCl (va_A w0 s.heap.size) (MQ below (zQv D vwCl w0 (wM ad ca v res) s.heap.size) args s 0 0 (va_A w0 s.heap.size)) 7 (wM ad ca v u) [(0, .ref (ad 0)), (1, .int x1), (2, .int x2), (3, .int x3), (4, .int x4)] 27 [] := by
  intro n
  induction n with
  | zero => intro x1 x2 x3 x4 u hm; cases hm
  | succ n ih =>
  have hrec := ih
  intro x1 x2 x3 x4 u hm H locs ls hP hD hS hl
  replace hm : m_M_storeNumber_27b v (m_M_storeNumber_27 v n) x1 x2 x3 x4 u = some res := hm
  generalize m_M_storeNumber_27 v n = rec at hm hrec
  unfold m_M_storeNumber_27b at hm
  clear ih
  have G0 := G
  obtain ⟨hx, hb, hr, hml, hown, hw, hlk⟩ := G
  have hA : ∀ q, s.heap.size ≤ q → va_A w0 s.heap.size q := fun q h => Or.inr h
  refine lv_iload hx hb dX6_storeNumber_27 (lv_at hl 4 rfl) ?_
  refine lv_aload_n hx hb dX6_storeNumber_29 rfl (lv_at hl 0 rfl) ?_
  refine va_get (D := D) (ci := 5) (v := .ref (ad 2)) (C := RX6) (T := TX6) (N := 24) hx hb hw zinX6 hown hK hP 0 rfl rfl 4 (by decide) (hw _ zw5) (fun _ h9 => h9) rfl dX6_storeNumber_30 ?_
  refine lv_iload_n hx hb dX6_storeNumber_33 rfl (lv_at hl 1 rfl) ?_
  obtain ⟨hi4, hm⟩ := zix_s hm
  refine va_iald (i := x1) (f := (u 2)) (n := 9) hx hb hK hP 2 1 rfl rfl hi4 dX6_storeNumber_34 ?_
  refine lv_icmp_ge (tgt := 72) hx hb dX6_storeNumber_35 rfl (fun cd5 => ?_) (fun cd5 => ?_)
  · replace hm := zt cd5 hm
    refine lv_bipush (v := 32) hx hb dX6_storeNumber_72 (by decide) ?_
    refine lv_iload_n hx hb dX6_storeNumber_74 rfl (lv_at hl 1 rfl) ?_
    refine lv_imul hx hb dX6_storeNumber_75 ?_
    refine lv_istore (lv' := [(4, .int (32 * x1)), (0, .ref (ad 0)), (1, .int x1), (2, .int x2), (3, .int x3)]) hx hb dX6_storeNumber_76 hl (by decide) rfl (fun ls hl => ?_)
    refine lv_aload_n hx hb dX6_storeNumber_78 rfl (lv_at hl 1 rfl) ?_
    refine va_get (D := D) (ci := 5) (v := .ref (ad 6)) (C := RX6) (T := TX6) (N := 24) hx hb hw zinX6 hown hK hP 0 rfl rfl 8 (by decide) (hw _ zw115) (fun _ h9 => h9) rfl dX6_storeNumber_79 ?_
    refine lv_iload_n hx hb dX6_storeNumber_82 rfl (lv_at hl 2 rfl) ?_
    obtain ⟨hi6, hm⟩ := zix_s hm
    refine va_iald (i := x1) (f := (u 6)) (n := 9) hx hb hK hP 6 5 rfl rfl hi6 dX6_storeNumber_83 ?_
    refine lv_if_ne (tgt := 143) hx hb dX6_storeNumber_84 rfl (fun cd7 => ?_) (fun cd7 => ?_)
    · replace hm := zf cd7 hm
      refine lv_aload_n hx hb dX6_storeNumber_143 rfl (lv_at hl 1 rfl) ?_
      refine va_get (D := D) (ci := 5) (v := .ref (ad 18)) (C := RX6) (T := TX6) (N := 24) hx hb hw zinX6 hown hK hP 0 rfl rfl 22 (by decide) (hw _ zw116) (fun _ h9 => h9) rfl dX6_storeNumber_144 ?_
      refine lv_iload_n hx hb dX6_storeNumber_147 rfl (lv_at hl 4 rfl) ?_
      refine lv_aload_n hx hb dX6_storeNumber_148 rfl (lv_at hl 1 rfl) ?_
      refine va_get (D := D) (ci := 5) (v := .ref (ad 9)) (C := RX6) (T := TX6) (N := 24) hx hb hw zinX6 hown hK hP 0 rfl rfl 11 (by decide) (hw _ zw47) (fun _ h9 => h9) rfl dX6_storeNumber_149 ?_
      refine lv_iload_n hx hb dX6_storeNumber_152 rfl (lv_at hl 2 rfl) ?_
      obtain ⟨hi8, hm⟩ := zix_s hm
      refine va_zald (i := x1) (f := (u 9)) (n := 9) hx hb hK hP 9 8 rfl rfl hi8 dX6_storeNumber_153 ?_
      refine lv_if_ne (tgt := 162) hx hb dX6_storeNumber_154 rfl (fun cd9 => ?_) (fun cd9 => ?_)
      · replace hm := zf cd9 hm
        refine lv_iload_n hx hb dX6_storeNumber_162 rfl (lv_at hl 3 rfl) ?_
        refine lv_if_eq (tgt := 171) hx hb dX6_storeNumber_163 rfl (fun cd10 => ?_) (fun cd10 => ?_)
        · replace hm := zt cd10 hm
          refine lv_bipush (v := 12) hx hb dX6_storeNumber_171 (by decide) ?_
          exact b_M_storeNumber_173 G0 hK hX _ _ _ _ _ _ hm H _ _ hP hD hS (lv_sub hl [1, 2, 4, 0] rfl)
        · replace hm := zf cd10 hm
          refine lv_bipush (v := 13) hx hb dX6_storeNumber_166 (by decide) ?_
          refine lv_goto (tgt := 173) hx hb dX6_storeNumber_168 rfl ?_
          exact b_M_storeNumber_173 G0 hK hX _ _ _ _ _ _ hm H _ _ hP hD hS (lv_sub hl [1, 2, 4, 0] rfl)
      · replace hm := zt cd9 hm
        refine lv_bipush (v := 15) hx hb dX6_storeNumber_157 (by decide) ?_
        refine lv_goto (tgt := 173) hx hb dX6_storeNumber_159 rfl ?_
        exact b_M_storeNumber_173 G0 hK hX _ _ _ _ _ _ hm H _ _ hP hD hS (lv_sub hl [1, 2, 4, 0] rfl)
    · replace hm := zt cd7 hm
      refine lv_iconst (v := 0) hx hb dX6_storeNumber_87 (by decide) ?_
      refine lv_istore (lv' := [(5, .int 0), (4, .int (32 * x1)), (0, .ref (ad 0)), (1, .int x1), (2, .int x2), (3, .int x3)]) hx hb dX6_storeNumber_88 hl (by decide) rfl (fun ls hl => ?_)
      exact b_M_storeNumber_90 G0 hK hX 64 _ _ _ _ _ hm H _ _ hP hD hS (lv_sub hl [2, 4, 5, 1, 0] rfl)
  · replace hm := zf cd5 hm
    refine lv_aload_n hx hb dX6_storeNumber_38 rfl (lv_at hl 0 rfl) ?_
    refine lv_iload_n hx hb dX6_storeNumber_39 rfl (lv_at hl 1 rfl) ?_
    refine lv_iload hx hb dX6_storeNumber_40 (lv_at hl 4 rfl) ?_
    obtain ⟨q27, hq27, hm⟩ := zbind hm
    refine zbWi (va_runV (As := [.int x1, .int x4]) (rest := []) ⟨hx, hb, hml, hown, hw⟩ (k_M_sym l D ad ca _ x1 x4 v u  q27 hq27) (zcV (C := RX6) 2 hw (zgood zw14) rfl rfl rfl zw7 zw16 zw15 zw17 hdX6_sym ⟨Nat.le_of_ble_eq_true rfl, Nat.le_of_ble_eq_true rfl⟩) (zpreV (zpre zN_ok trivial hS (zfree hD hS hA) hP hK hD) (va_recv hK hP rfl (q0 := 0) rfl)) rfl rfl hl.1 rfl (lv_room (Nat.le_of_ble_eq_true rfl)) dX6_storeNumber_42 ⟨Nat.zero_le _, Nat.zero_le _⟩) hS (zfree hD hS hA) (fun H locs hP hD hS => ?_)
    refine lv_bipush (v := 57) hx hb dX6_storeNumber_45 (by decide) ?_
    refine lv_icmp_ne (tgt := 66) hx hb dX6_storeNumber_47 rfl (fun cd28 => ?_) (fun cd28 => ?_)
    · replace hm := zf cd28 hm
      exact b_M_storeNumber_66 G0 hK hX rec hrec _ _ _ _ _ hm H _ _ hP hD hS hl
    · replace hm := zt cd28 hm
      refine lv_aload_n hx hb dX6_storeNumber_50 rfl (lv_at hl 0 rfl) ?_
      refine va_get (D := D) (ci := 5) (v := .ref (ad 18)) (C := RX6) (T := TX6) (N := 24) hx hb hw zinX6 hown hK hP 0 rfl rfl 22 (by decide) (hw _ zw116) (fun _ h9 => h9) rfl dX6_storeNumber_51 ?_
      refine lv_iload_n hx hb dX6_storeNumber_54 rfl (lv_at hl 3 rfl) ?_
      refine lv_aload_n hx hb dX6_storeNumber_55 rfl (lv_at hl 0 rfl) ?_
      refine lv_iload_n hx hb dX6_storeNumber_56 rfl (lv_at hl 1 rfl) ?_
      refine lv_iload hx hb dX6_storeNumber_57 (lv_at hl 4 rfl) ?_
      obtain ⟨q29, hq29, hm⟩ := zbind hm
      refine zbWi (va_runV (As := [.int x1, .int x4]) (rest := [.int x3, .ref (ad 18)]) ⟨hx, hb, hml, hown, hw⟩ (k_M_digitFor l D ad ca _ x1 x4 v u  q29 hq29) (zcV (C := RX6) 2 hw (zgood zw91) rfl rfl rfl zw7 zw93 zw92 zw94 hdX6_digitFor ⟨Nat.le_of_ble_eq_true rfl, Nat.le_of_ble_eq_true rfl⟩) (zpreV (zpre zN_ok trivial hS (zfree hD hS hA) hP hK hD) (va_recv hK hP rfl (q0 := 0) rfl)) rfl rfl hl.1 rfl (lv_room (Nat.le_of_ble_eq_true rfl)) dX6_storeNumber_59 ⟨Nat.zero_le _, Nat.zero_le _⟩) hS (zfree hD hS hA) (fun H locs hP hD hS => ?_)
      obtain ⟨hi30, hm⟩ := zix_s hm
      refine va_iast (i := x3) (x := q29) (f := (u 18)) (n := 32) hx hb hK hP hD hS 18 17 rfl rfl hi30 dX6_storeNumber_62 (fun H locs hP hD hS => ?_)
      have hP : va_P D vwCl (wM ad ca v (zau u 18 x3 q29)) H := hP
      have hD : va_D _ (wM ad ca v (zau u 18 x3 q29)) := hD
      refine lv_iinc (k := 3) (v := (x3 + 1)) (lv' := [(3, .int (x3 + 1)), (0, .ref (ad 0)), (1, .int x1), (2, .int x2), (4, .int x4)]) hx hb dX6_storeNumber_63 hl rfl rfl (by decide) rfl (fun ls hl => ?_)
      exact b_M_storeNumber_66 G0 hK hX rec hrec _ _ _ _ _ hm H _ _ hP hD hS (lv_sub hl [1, 2, 3, 0, 4] rfl)
end
set_option maxRecDepth 100000 in
set_option maxHeartbeats 4000000 in
theorem k_M_storeNumber (l : Launch) (D : va_G) (ad : Nat → Nat) (ca : Nat → ClassId) (sz : Nat) (a0 : Int32) (v : Nat → Int32) (u : Nat → Nat → Int32) (res : (Nat → Nat → Int32)) (hm : m_M_storeNumber a0 v u  = some res) : Met l yX6_storeNumber (Cond.code yX6_storeNumber cX6_storeNumber 7 none :: zBIG) (zR 4 101) (va_Pc [.ref (ad 0), .int a0] (zP zN D vwCl (wM_t ca) (wM ad ca v u) sz)) (zQv D vwCl (wM ad ca v u) (wM ad ca v res) sz) 0 0 (va_A (wM ad ca v u) sz) := by
  refine zEnter RX6 [.ref (ad 0), .int a0] (by decide) rfl (Nat.le_of_ble_eq_true rfl) (fun p e s m below meth c ls G hK hX hP hD hsz hl => ?_)
  subst hsz
  unfold m_M_storeNumber at hm
  have hl : lv_has ls 7 [(0, .ref (ad 0)), (1, .int a0)] := hl
  have hS : va_S (va_A (wM ad ca v u) s.heap.size) s.heap s.heap [] := va_S.rf
  have hA : ∀ q, s.heap.size ≤ q → va_A (wM ad ca v u) s.heap.size q := fun q h => Or.inr h
  have G0 := G
  obtain ⟨hx, hb, hr, hml, hown, hw, hlk⟩ := G
  refine lv_aload_n hx hb dX6_storeNumber_0 rfl (lv_at hl 0 rfl) ?_
  refine va_get (D := D) (ci := 5) (v := .ref (ad 5)) (C := RX6) (T := TX6) (N := 24) hx hb hw zinX6 hown hK hP 0 rfl rfl 7 (by decide) (hw _ zw46) (fun _ h9 => h9) rfl dX6_storeNumber_1 ?_
  refine lv_iload_n hx hb dX6_storeNumber_4 rfl (lv_at hl 1 rfl) ?_
  obtain ⟨hi1, hm⟩ := zix_s hm
  refine va_iald (i := a0) (f := (u 5)) (n := 9) hx hb hK hP 5 4 rfl rfl hi1 dX6_storeNumber_5 ?_
  refine lv_iconst (v := 2) hx hb dX6_storeNumber_6 (by decide) ?_
  refine lv_icmp_ne (tgt := 16) hx hb dX6_storeNumber_7 rfl (fun cd2 => ?_) (fun cd2 => ?_)
  · replace hm := zf cd2 hm
    refine lv_aload_n hx hb dX6_storeNumber_16 rfl (lv_at hl 0 rfl) ?_
    refine lv_iload_n hx hb dX6_storeNumber_17 rfl (lv_at hl 1 rfl) ?_
    obtain ⟨q3, hq3, hm⟩ := zbind hm
    refine zbWi (va_runV (As := [.int a0]) (rest := []) ⟨hx, hb, hml, hown, hw⟩ (k_M_isBelow l D ad ca _ a0 v u  q3 hq3) (zcV (C := RX6) 1 hw (zgood zw98) rfl rfl rfl zw7 zw100 zw99 zw101 hdX6_isBelow ⟨Nat.le_of_ble_eq_true rfl, Nat.le_of_ble_eq_true rfl⟩) (zpreV (zpre zN_ok trivial hS (zfree hD hS hA) hP hK hD) (va_recv hK hP rfl (q0 := 0) rfl)) rfl rfl hl.1 rfl (lv_room (Nat.le_of_ble_eq_true rfl)) dX6_storeNumber_18 ⟨Nat.zero_le _, Nat.zero_le _⟩) hS (zfree hD hS hA) (fun H locs hP hD hS => ?_)
    refine lv_istore_n (lv' := [(2, .int q3), (0, .ref (ad 0)), (1, .int a0)]) hx hb dX6_storeNumber_21 rfl hl (by decide) rfl (fun ls hl => ?_)
    refine lv_iconst (v := 0) hx hb dX6_storeNumber_22 (by decide) ?_
    refine lv_istore_n (lv' := [(3, .int 0), (2, .int q3), (0, .ref (ad 0)), (1, .int a0)]) hx hb dX6_storeNumber_23 rfl hl (by decide) rfl (fun ls hl => ?_)
    refine lv_iconst (v := 0) hx hb dX6_storeNumber_24 (by decide) ?_
    refine lv_istore (lv' := [(4, .int 0), (3, .int 0), (2, .int q3), (0, .ref (ad 0)), (1, .int a0)]) hx hb dX6_storeNumber_25 hl (by decide) rfl (fun ls hl => ?_)
    exact b_M_storeNumber_27 G0 hK hX 64 _ _ _ _ _ hm _ _ _ hP hD hS (lv_sub hl [3, 4, 2, 1, 0] rfl)
  · replace hm := zt cd2 hm
    refine lv_aload_n hx hb dX6_storeNumber_10 rfl (lv_at hl 0 rfl) ?_
    refine lv_iload_n hx hb dX6_storeNumber_11 rfl (lv_at hl 1 rfl) ?_
    obtain ⟨q31, hq31, hm⟩ := zbind hm
    refine zbWv (va_runV (As := [.int a0]) (rest := []) ⟨hx, hb, hml, hown, hw⟩ (k_M_edit l D ad ca _ a0 v u  q31 hq31) (zcV (C := RX6) 1 hw (zgood zw117) rfl rfl rfl zw7 zw119 zw118 zw120 hdX6_edit ⟨Nat.le_of_ble_eq_true rfl, Nat.le_of_ble_eq_true rfl⟩) (zpreV (zpre zN_ok trivial hS (zfree hD hS hA) hP hK hD) (va_recv hK hP rfl (q0 := 0) rfl)) rfl rfl hl.1 rfl (lv_room (Nat.le_of_ble_eq_true rfl)) dX6_storeNumber_12 ⟨Nat.zero_le _, Nat.zero_le _⟩) hS (zfree hD hS hA) (fun H locs hP hD hS => ?_)
    have hP : va_P D vwCl (wM ad ca v q31) H := hP
    have hD : va_D _ (wM ad ca v q31) := hD
    cases hm
    exact zretv hx hb hr hlk hP hD hS dX6_storeNumber_15

theorem dX6_storeText_0 : decode cX6_storeText 0 = .ok (.iconst 0, 1) := by decide +kernel
theorem dX6_storeText_1 : decode cX6_storeText 1 = .ok (.istore_n 2, 1) := by decide +kernel
theorem dX6_storeText_2 : decode cX6_storeText 2 = .ok (.iload_n 2, 1) := by decide +kernel
theorem dX6_storeText_3 : decode cX6_storeText 3 = .ok (.aload_n 0, 1) := by decide +kernel
theorem dX6_storeText_4 : decode cX6_storeText 4 = .ok (.getfield 53, 3) := by decide +kernel
theorem dX6_storeText_7 : decode cX6_storeText 7 = .ok (.iload_n 1, 1) := by decide +kernel
theorem dX6_storeText_8 : decode cX6_storeText 8 = .ok (.iaload, 1) := by decide +kernel
theorem dX6_storeText_9 : decode cX6_storeText 9 = .ok (.if_icmp .ge 39, 3) := by decide +kernel
theorem dX6_storeText_12 : decode cX6_storeText 12 = .ok (.aload_n 0, 1) := by decide +kernel
theorem dX6_storeText_13 : decode cX6_storeText 13 = .ok (.getfield 56, 3) := by decide +kernel
theorem dX6_storeText_16 : decode cX6_storeText 16 = .ok (.bipush 32, 2) := by decide +kernel
theorem dX6_storeText_18 : decode cX6_storeText 18 = .ok (.iload_n 1, 1) := by decide +kernel
theorem dX6_storeText_19 : decode cX6_storeText 19 = .ok (.imul, 1) := by decide +kernel
theorem dX6_storeText_20 : decode cX6_storeText 20 = .ok (.iload_n 2, 1) := by decide +kernel
theorem dX6_storeText_21 : decode cX6_storeText 21 = .ok (.iadd, 1) := by decide +kernel
theorem dX6_storeText_22 : decode cX6_storeText 22 = .ok (.iload_n 2, 1) := by decide +kernel
theorem dX6_storeText_23 : decode cX6_storeText 23 = .ok (.aload_n 0, 1) := by decide +kernel
theorem dX6_storeText_24 : decode cX6_storeText 24 = .ok (.getfield 142, 3) := by decide +kernel
theorem dX6_storeText_27 : decode cX6_storeText 27 = .ok (.if_icmp .ge 12, 3) := by decide +kernel
theorem dX6_storeText_30 : decode cX6_storeText 30 = .ok (.aload_n 0, 1) := by decide +kernel
theorem dX6_storeText_31 : decode cX6_storeText 31 = .ok (.getfield 62, 3) := by decide +kernel
theorem dX6_storeText_34 : decode cX6_storeText 34 = .ok (.iload_n 2, 1) := by decide +kernel
theorem dX6_storeText_35 : decode cX6_storeText 35 = .ok (.iaload, 1) := by decide +kernel
theorem dX6_storeText_36 : decode cX6_storeText 36 = .ok (.goto 5, 3) := by decide +kernel
theorem dX6_storeText_39 : decode cX6_storeText 39 = .ok (.bipush 32, 2) := by decide +kernel
theorem dX6_storeText_41 : decode cX6_storeText 41 = .ok (.iastore, 1) := by decide +kernel
theorem dX6_storeText_42 : decode cX6_storeText 42 = .ok (.iinc 2 1, 3) := by decide +kernel
theorem dX6_storeText_45 : decode cX6_storeText 45 = .ok (.goto (-43), 3) := by decide +kernel
theorem dX6_storeText_48 : decode cX6_storeText 48 = .ok (.return_, 1) := by decide +kernel
def m_M_storeText_41 (v : Nat → Int32) (rec : Int32 → Int32 → (Nat → Nat → Int32) → Option ((Nat → Nat → Int32))) (x1 : Int32) (x2 : Int32) (t0 : Int32) (t1 : Int32) (u : Nat → Nat → Int32) : Option ((Nat → Nat → Int32)) := zix t1 256 (rec x1 (x2 + 1) (zau u 16 t1 t0))
def m_M_storeText_2b (v : Nat → Int32) (rec : Int32 → Int32 → (Nat → Nat → Int32) → Option ((Nat → Nat → Int32))) (x1 : Int32) (x2 : Int32) (u : Nat → Nat → Int32) : Option ((Nat → Nat → Int32)) := zix x1 9 ((if ((u 15) x1.toNatClampNeg) ≤ x2 then (some u) else (if (v 23) ≤ x2 then m_M_storeText_41 v rec x1 x2 32 ((32 * x1) + x2) u else zix x2 32 (m_M_storeText_41 v rec x1 x2 ((u 18) x2.toNatClampNeg) ((32 * x1) + x2) u))))
def m_M_storeText_2 (v : Nat → Int32) : Nat → Int32 → Int32 → (Nat → Nat → Int32) → Option ((Nat → Nat → Int32))
  | 0 => fun _ _ _ => none
  | n + 1 => fun x1 x2 u => m_M_storeText_2b v (m_M_storeText_2 v n) x1 x2 u
def m_M_storeText (a0 : Int32) (v : Nat → Int32) (u : Nat → Nat → Int32)  : Option ((Nat → Nat → Int32)) := m_M_storeText_2 v 64 a0 0 u
section
variable {p : Program} {l : Launch} {e : Env} {s : State} {m : MethodId} {args : Array Value} {below : List Frame} {meth : Method} {c : Code} {D : va_G} {w0 : va_W} {ad : Nat → Nat} {ca : Nat → ClassId} {v : Nat → Int32}
set_option maxRecDepth 100000 in
set_option maxHeartbeats 4000000 in
theorem b_M_storeText_41 (G : zG p s m args meth c cX6_storeText RX6 3 none) (hK : va_K D vwCl (wM_t ca) s) (hX : zN (va_A w0 s.heap.size) s) {res : (Nat → Nat → Int32)} (rec : Int32 → Int32 → (Nat → Nat → Int32) → Option ((Nat → Nat → Int32))) (hrec : ∀ (x1 : Int32) (x2 : Int32) (u : Nat → Nat → Int32), rec x1 x2 u = some res → zB p l e (zR 0 0) s m args below meth c D vwCl (va_A w0 s.heap.size) (MQ below (zQv D vwCl w0 (wM ad ca v res) s.heap.size) args s 0 0 (va_A w0 s.heap.size)) 3 (wM ad ca v u) [(0, .ref (ad 0)), (1, .int x1), (2, .int x2)] 2 []) : ∀ (x1 : Int32) (x2 : Int32) (t0 : Int32) (t1 : Int32) (u : Nat → Nat → Int32), m_M_storeText_41 v rec x1 x2 t0 t1 u = some res → zB p l e (zR 0 0) s m args below meth c D vwCl (va_A w0 s.heap.size) (MQ below (zQv D vwCl w0 (wM ad ca v res) s.heap.size) args s 0 0 (va_A w0 s.heap.size)) 3 (wM ad ca v u) [(0, .ref (ad 0)), (1, .int x1), (2, .int x2)] 41 [.int t0, .int t1, .ref (ad 16)] := by
  intro x1 x2 t0 t1 u hm H locs ls hP hD hS hl
  unfold m_M_storeText_41 at hm
  have G0 := G
  obtain ⟨hx, hb, hr, hml, hown, hw, hlk⟩ := G
  have hA : ∀ q, s.heap.size ≤ q → va_A w0 s.heap.size q := fun q h => Or.inr h
  obtain ⟨hi4, hm⟩ := zix_s hm
  refine va_iast (i := t1) (x := t0) (f := (u 16)) (n := 256) hx hb hK hP hD hS 16 15 rfl rfl hi4 dX6_storeText_41 (fun H locs hP hD hS => ?_)
  have hP : va_P D vwCl (wM ad ca v (zau u 16 t1 t0)) H := hP
  have hD : va_D _ (wM ad ca v (zau u 16 t1 t0)) := hD
  refine lv_iinc (k := 2) (v := (x2 + 1)) (lv' := [(2, .int (x2 + 1)), (0, .ref (ad 0)), (1, .int x1)]) hx hb dX6_storeText_42 hl rfl rfl (by decide) rfl (fun ls hl => ?_)
  refine lv_goto (tgt := 2) hx hb dX6_storeText_45 rfl ?_
  exact hrec _ _ _ hm H _ _ hP hD hS (lv_sub hl [1, 2, 0] rfl)
set_option maxRecDepth 100000 in
set_option maxHeartbeats 4000000 in
theorem b_M_storeText_2 (G : zG p s m args meth c cX6_storeText RX6 3 none) (hK : va_K D vwCl (wM_t ca) s) (hX : zN (va_A w0 s.heap.size) s) {res : (Nat → Nat → Int32)} : ∀ n : Nat, ∀ (x1 : Int32) (x2 : Int32) (u : Nat → Nat → Int32), m_M_storeText_2 v n x1 x2 u = some res → zB p l e (zR 0 0) s m args below meth c D vwCl (va_A w0 s.heap.size) (MQ below (zQv D vwCl w0 (wM ad ca v res) s.heap.size) args s 0 0 (va_A w0 s.heap.size)) 3 (wM ad ca v u) [(0, .ref (ad 0)), (1, .int x1), (2, .int x2)] 2 [] := by
  intro n
  induction n with
  | zero => intro x1 x2 u hm; cases hm
  | succ n ih =>
  have hrec := ih
  intro x1 x2 u hm H locs ls hP hD hS hl
  replace hm : m_M_storeText_2b v (m_M_storeText_2 v n) x1 x2 u = some res := hm
  generalize m_M_storeText_2 v n = rec at hm hrec
  unfold m_M_storeText_2b at hm
  clear ih
  have G0 := G
  obtain ⟨hx, hb, hr, hml, hown, hw, hlk⟩ := G
  have hA : ∀ q, s.heap.size ≤ q → va_A w0 s.heap.size q := fun q h => Or.inr h
  refine lv_iload_n hx hb dX6_storeText_2 rfl (lv_at hl 2 rfl) ?_
  refine lv_aload_n hx hb dX6_storeText_3 rfl (lv_at hl 0 rfl) ?_
  refine va_get (D := D) (ci := 5) (v := .ref (ad 15)) (C := RX6) (T := TX6) (N := 24) hx hb hw zinX6 hown hK hP 0 rfl rfl 17 (by decide) (hw _ zw50) (fun _ h9 => h9) rfl dX6_storeText_4 ?_
  refine lv_iload_n hx hb dX6_storeText_7 rfl (lv_at hl 1 rfl) ?_
  obtain ⟨hi1, hm⟩ := zix_s hm
  refine va_iald (i := x1) (f := (u 15)) (n := 9) hx hb hK hP 15 14 rfl rfl hi1 dX6_storeText_8 ?_
  refine lv_icmp_ge (tgt := 48) hx hb dX6_storeText_9 rfl (fun cd2 => ?_) (fun cd2 => ?_)
  · replace hm := zt cd2 hm
    cases hm
    exact zretv hx hb hr hlk hP hD hS dX6_storeText_48
  · replace hm := zf cd2 hm
    refine lv_aload_n hx hb dX6_storeText_12 rfl (lv_at hl 0 rfl) ?_
    refine va_get (D := D) (ci := 5) (v := .ref (ad 16)) (C := RX6) (T := TX6) (N := 24) hx hb hw zinX6 hown hK hP 0 rfl rfl 18 (by decide) (hw _ zw114) (fun _ h9 => h9) rfl dX6_storeText_13 ?_
    refine lv_bipush (v := 32) hx hb dX6_storeText_16 (by decide) ?_
    refine lv_iload_n hx hb dX6_storeText_18 rfl (lv_at hl 1 rfl) ?_
    refine lv_imul hx hb dX6_storeText_19 ?_
    refine lv_iload_n hx hb dX6_storeText_20 rfl (lv_at hl 2 rfl) ?_
    refine lv_iadd hx hb dX6_storeText_21 ?_
    refine lv_iload_n hx hb dX6_storeText_22 rfl (lv_at hl 2 rfl) ?_
    refine lv_aload_n hx hb dX6_storeText_23 rfl (lv_at hl 0 rfl) ?_
    refine va_get (D := D) (ci := 5) (v := .int (v 23)) (C := RX6) (T := TX6) (N := 24) hx hb hw zinX6 hown hK hP 0 rfl rfl 23 (by decide) (hw _ zw121) (fun _ h9 => h9) rfl dX6_storeText_24 ?_
    refine lv_icmp_ge (tgt := 39) hx hb dX6_storeText_27 rfl (fun cd3 => ?_) (fun cd3 => ?_)
    · replace hm := zt cd3 hm
      refine lv_bipush (v := 32) hx hb dX6_storeText_39 (by decide) ?_
      exact b_M_storeText_41 G0 hK hX rec hrec _ _ _ _ _ hm H _ _ hP hD hS hl
    · replace hm := zf cd3 hm
      refine lv_aload_n hx hb dX6_storeText_30 rfl (lv_at hl 0 rfl) ?_
      refine va_get (D := D) (ci := 5) (v := .ref (ad 18)) (C := RX6) (T := TX6) (N := 24) hx hb hw zinX6 hown hK hP 0 rfl rfl 22 (by decide) (hw _ zw116) (fun _ h9 => h9) rfl dX6_storeText_31 ?_
      refine lv_iload_n hx hb dX6_storeText_34 rfl (lv_at hl 2 rfl) ?_
      obtain ⟨hi5, hm⟩ := zix_s hm
      refine va_iald (i := x2) (f := (u 18)) (n := 32) hx hb hK hP 18 17 rfl rfl hi5 dX6_storeText_35 ?_
      refine lv_goto (tgt := 41) hx hb dX6_storeText_36 rfl ?_
      exact b_M_storeText_41 G0 hK hX rec hrec _ _ _ _ _ hm H _ _ hP hD hS hl
end
set_option maxRecDepth 100000 in
set_option maxHeartbeats 4000000 in
theorem k_M_storeText (l : Launch) (D : va_G) (ad : Nat → Nat) (ca : Nat → ClassId) (sz : Nat) (a0 : Int32) (v : Nat → Int32) (u : Nat → Nat → Int32) (res : (Nat → Nat → Int32)) (hm : m_M_storeText a0 v u  = some res) : Met l yX6_storeText (Cond.code yX6_storeText cX6_storeText 3 none :: zBIG) (zR 0 0) (va_Pc [.ref (ad 0), .int a0] (zP zN D vwCl (wM_t ca) (wM ad ca v u) sz)) (zQv D vwCl (wM ad ca v u) (wM ad ca v res) sz) 0 0 (va_A (wM ad ca v u) sz) := by
  refine zEnter RX6 [.ref (ad 0), .int a0] (by decide) rfl (Nat.le_of_ble_eq_true rfl) (fun p e s m below meth c ls G hK hX hP hD hsz hl => ?_)
  subst hsz
  unfold m_M_storeText at hm
  have hl : lv_has ls 3 [(0, .ref (ad 0)), (1, .int a0)] := hl
  have hS : va_S (va_A (wM ad ca v u) s.heap.size) s.heap s.heap [] := va_S.rf
  have hA : ∀ q, s.heap.size ≤ q → va_A (wM ad ca v u) s.heap.size q := fun q h => Or.inr h
  have G0 := G
  obtain ⟨hx, hb, hr, hml, hown, hw, hlk⟩ := G
  refine lv_iconst (v := 0) hx hb dX6_storeText_0 (by decide) ?_
  refine lv_istore_n (lv' := [(2, .int 0), (0, .ref (ad 0)), (1, .int a0)]) hx hb dX6_storeText_1 rfl hl (by decide) rfl (fun ls hl => ?_)
  exact b_M_storeText_2 G0 hK hX 64 _ _ _ hm _ _ _ hP hD hS (lv_sub hl [1, 2, 0] rfl)

