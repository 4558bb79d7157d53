theorem dX6_expands_0 : decode cX6_expands 0 = .ok (.aload_n 0, 1) := by decide +kernel
theorem dX6_expands_1 : decode cX6_expands 1 = .ok (.getfield 13, 3) := by decide +kernel
theorem dX6_expands_4 : decode cX6_expands 4 = .ok (.bipush 8, 2) := by decide +kernel
theorem dX6_expands_6 : decode cX6_expands 6 = .ok (.iconst 0, 1) := by decide +kernel
theorem dX6_expands_7 : decode cX6_expands 7 = .ok (.iastore, 1) := by decide +kernel
theorem dX6_expands_8 : decode cX6_expands 8 = .ok (.iconst 0, 1) := by decide +kernel
theorem dX6_expands_9 : decode cX6_expands 9 = .ok (.istore_n 1, 1) := by decide +kernel
theorem dX6_expands_10 : decode cX6_expands 10 = .ok (.iload_n 1, 1) := by decide +kernel
theorem dX6_expands_11 : decode cX6_expands 11 = .ok (.aload_n 0, 1) := by decide +kernel
theorem dX6_expands_12 : decode cX6_expands 12 = .ok (.getfield 72, 3) := by decide +kernel
theorem dX6_expands_15 : decode cX6_expands 15 = .ok (.if_icmp .ge 156, 3) := by decide +kernel
theorem dX6_expands_18 : decode cX6_expands 18 = .ok (.aload_n 0, 1) := by decide +kernel
theorem dX6_expands_19 : decode cX6_expands 19 = .ok (.getfield 7, 3) := by decide +kernel
theorem dX6_expands_22 : decode cX6_expands 22 = .ok (.iload_n 1, 1) := by decide +kernel
theorem dX6_expands_23 : decode cX6_expands 23 = .ok (.iaload, 1) := by decide +kernel
theorem dX6_expands_24 : decode cX6_expands 24 = .ok (.istore_n 2, 1) := by decide +kernel
theorem dX6_expands_25 : decode cX6_expands 25 = .ok (.iload_n 2, 1) := by decide +kernel
theorem dX6_expands_26 : decode cX6_expands 26 = .ok (.bipush 67, 2) := by decide +kernel
theorem dX6_expands_28 : decode cX6_expands 28 = .ok (.if_icmp .eq 9, 3) := by decide +kernel
theorem dX6_expands_31 : decode cX6_expands 31 = .ok (.iload_n 2, 1) := by decide +kernel
theorem dX6_expands_32 : decode cX6_expands 32 = .ok (.bipush 68, 2) := by decide +kernel
theorem dX6_expands_34 : decode cX6_expands 34 = .ok (.if_icmp .ne 43, 3) := by decide +kernel
theorem dX6_expands_37 : decode cX6_expands 37 = .ok (.aload_n 0, 1) := by decide +kernel
theorem dX6_expands_38 : decode cX6_expands 38 = .ok (.iload_n 1, 1) := by decide +kernel
theorem dX6_expands_39 : decode cX6_expands 39 = .ok (.iconst 1, 1) := by decide +kernel
theorem dX6_expands_40 : decode cX6_expands 40 = .ok (.iadd, 1) := by decide +kernel
theorem dX6_expands_41 : decode cX6_expands 41 = .ok (.invokevirtual 75, 3) := by decide +kernel
theorem dX6_expands_44 : decode cX6_expands 44 = .ok (.iload_n 2, 1) := by decide +kernel
theorem dX6_expands_45 : decode cX6_expands 45 = .ok (.bipush 67, 2) := by decide +kernel
theorem dX6_expands_47 : decode cX6_expands 47 = .ok (.if_icmp .ne 8, 3) := by decide +kernel
theorem dX6_expands_50 : decode cX6_expands 50 = .ok (.bipush 82, 2) := by decide +kernel
theorem dX6_expands_52 : decode cX6_expands 52 = .ok (.goto 5, 3) := by decide +kernel
theorem dX6_expands_55 : decode cX6_expands 55 = .ok (.bipush 66, 2) := by decide +kernel
theorem dX6_expands_57 : decode cX6_expands 57 = .ok (.if_icmp .ne 12, 3) := by decide +kernel
theorem dX6_expands_60 : decode cX6_expands 60 = .ok (.aload_n 0, 1) := by decide +kernel
theorem dX6_expands_61 : decode cX6_expands 61 = .ok (.iload_n 2, 1) := by decide +kernel
theorem dX6_expands_62 : decode cX6_expands 62 = .ok (.iconst 1, 1) := by decide +kernel
theorem dX6_expands_63 : decode cX6_expands 63 = .ok (.invokevirtual 83, 3) := by decide +kernel
theorem dX6_expands_66 : decode cX6_expands 66 = .ok (.ifCond .ne 5, 3) := by decide +kernel
theorem dX6_expands_69 : decode cX6_expands 69 = .ok (.iconst 0, 1) := by decide +kernel
theorem dX6_expands_70 : decode cX6_expands 70 = .ok (.ireturn, 1) := by decide +kernel
theorem dX6_expands_71 : decode cX6_expands 71 = .ok (.iinc 1 2, 3) := by decide +kernel
theorem dX6_expands_74 : decode cX6_expands 74 = .ok (.goto 94, 3) := by decide +kernel
theorem dX6_expands_77 : decode cX6_expands 77 = .ok (.aload_n 0, 1) := by decide +kernel
theorem dX6_expands_78 : decode cX6_expands 78 = .ok (.iload_n 1, 1) := by decide +kernel
theorem dX6_expands_79 : decode cX6_expands 79 = .ok (.iconst 1, 1) := by decide +kernel
theorem dX6_expands_80 : decode cX6_expands 80 = .ok (.iadd, 1) := by decide +kernel
theorem dX6_expands_81 : decode cX6_expands 81 = .ok (.invokevirtual 87, 3) := by decide +kernel
theorem dX6_expands_84 : decode cX6_expands 84 = .ok (.istore_n 3, 1) := by decide +kernel
theorem dX6_expands_85 : decode cX6_expands 85 = .ok (.iload_n 2, 1) := by decide +kernel
theorem dX6_expands_86 : decode cX6_expands 86 = .ok (.invokestatic 90, 3) := by decide +kernel
theorem dX6_expands_89 : decode cX6_expands 89 = .ok (.ifCond .eq 7, 3) := by decide +kernel
theorem dX6_expands_92 : decode cX6_expands 92 = .ok (.iload_n 3, 1) := by decide +kernel
theorem dX6_expands_93 : decode cX6_expands 93 = .ok (.ifCond .ge 5, 3) := by decide +kernel
theorem dX6_expands_96 : decode cX6_expands 96 = .ok (.iconst 0, 1) := by decide +kernel
theorem dX6_expands_97 : decode cX6_expands 97 = .ok (.ireturn, 1) := by decide +kernel
theorem dX6_expands_98 : decode cX6_expands 98 = .ok (.iload_n 3, 1) := by decide +kernel
theorem dX6_expands_99 : decode cX6_expands 99 = .ok (.ifCond .ne 7, 3) := by decide +kernel
theorem dX6_expands_102 : decode cX6_expands 102 = .ok (.iconst 1, 1) := by decide +kernel
theorem dX6_expands_103 : decode cX6_expands 103 = .ok (.goto 45, 3) := by decide +kernel
theorem dX6_expands_106 : decode cX6_expands 106 = .ok (.iload_n 3, 1) := by decide +kernel
theorem dX6_expands_107 : decode cX6_expands 107 = .ok (.iconst 3, 1) := by decide +kernel
theorem dX6_expands_108 : decode cX6_expands 108 = .ok (.if_icmp .ne 16, 3) := by decide +kernel
theorem dX6_expands_111 : decode cX6_expands 111 = .ok (.aload_n 0, 1) := by decide +kernel
theorem dX6_expands_112 : decode cX6_expands 112 = .ok (.iload_n 1, 1) := by decide +kernel
theorem dX6_expands_113 : decode cX6_expands 113 = .ok (.iconst 2, 1) := by decide +kernel
theorem dX6_expands_114 : decode cX6_expands 114 = .ok (.iadd, 1) := by decide +kernel
theorem dX6_expands_115 : decode cX6_expands 115 = .ok (.invokevirtual 75, 3) := by decide +kernel
theorem dX6_expands_118 : decode cX6_expands 118 = .ok (.bipush 48, 2) := by decide +kernel
theorem dX6_expands_120 : decode cX6_expands 120 = .ok (.isub, 1) := by decide +kernel
theorem dX6_expands_121 : decode cX6_expands 121 = .ok (.goto 27, 3) := by decide +kernel
theorem dX6_expands_124 : decode cX6_expands 124 = .ok (.bipush 10, 2) := by decide +kernel
theorem dX6_expands_126 : decode cX6_expands 126 = .ok (.aload_n 0, 1) := by decide +kernel
theorem dX6_expands_127 : decode cX6_expands 127 = .ok (.iload_n 1, 1) := by decide +kernel
theorem dX6_expands_128 : decode cX6_expands 128 = .ok (.iconst 2, 1) := by decide +kernel
theorem dX6_expands_129 : decode cX6_expands 129 = .ok (.iadd, 1) := by decide +kernel
theorem dX6_expands_130 : decode cX6_expands 130 = .ok (.invokevirtual 75, 3) := by decide +kernel
theorem dX6_expands_133 : decode cX6_expands 133 = .ok (.bipush 48, 2) := by decide +kernel
theorem dX6_expands_135 : decode cX6_expands 135 = .ok (.isub, 1) := by decide +kernel
theorem dX6_expands_136 : decode cX6_expands 136 = .ok (.imul, 1) := by decide +kernel
theorem dX6_expands_137 : decode cX6_expands 137 = .ok (.aload_n 0, 1) := by decide +kernel
theorem dX6_expands_138 : decode cX6_expands 138 = .ok (.iload_n 1, 1) := by decide +kernel
theorem dX6_expands_139 : decode cX6_expands 139 = .ok (.iconst 3, 1) := by decide +kernel
theorem dX6_expands_140 : decode cX6_expands 140 = .ok (.iadd, 1) := by decide +kernel
theorem dX6_expands_141 : decode cX6_expands 141 = .ok (.invokevirtual 75, 3) := by decide +kernel
theorem dX6_expands_144 : decode cX6_expands 144 = .ok (.iadd, 1) := by decide +kernel
theorem dX6_expands_145 : decode cX6_expands 145 = .ok (.bipush 48, 2) := by decide +kernel
theorem dX6_expands_147 : decode cX6_expands 147 = .ok (.isub, 1) := by decide +kernel
theorem dX6_expands_148 : decode cX6_expands 148 = .ok (.istore 4, 2) := by decide +kernel
theorem dX6_expands_150 : decode cX6_expands 150 = .ok (.aload_n 0, 1) := by decide +kernel
theorem dX6_expands_151 : decode cX6_expands 151 = .ok (.iload_n 2, 1) := by decide +kernel
theorem dX6_expands_152 : decode cX6_expands 152 = .ok (.iload 4, 2) := by decide +kernel
theorem dX6_expands_154 : decode cX6_expands 154 = .ok (.invokevirtual 83, 3) := by decide +kernel
theorem dX6_expands_157 : decode cX6_expands 157 = .ok (.ifCond .ne 5, 3) := by decide +kernel
theorem dX6_expands_160 : decode cX6_expands 160 = .ok (.iconst 0, 1) := by decide +kernel
theorem dX6_expands_161 : decode cX6_expands 161 = .ok (.ireturn, 1) := by decide +kernel
theorem dX6_expands_162 : decode cX6_expands 162 = .ok (.iload_n 1, 1) := by decide +kernel
theorem dX6_expands_163 : decode cX6_expands 163 = .ok (.iconst 1, 1) := by decide +kernel
theorem dX6_expands_164 : decode cX6_expands 164 = .ok (.iload_n 3, 1) := by decide +kernel
theorem dX6_expands_165 : decode cX6_expands 165 = .ok (.iadd, 1) := by decide +kernel
theorem dX6_expands_166 : decode cX6_expands 166 = .ok (.iadd, 1) := by decide +kernel
theorem dX6_expands_167 : decode cX6_expands 167 = .ok (.istore_n 1, 1) := by decide +kernel
theorem dX6_expands_168 : decode cX6_expands 168 = .ok (.goto (-158), 3) := by decide +kernel
theorem dX6_expands_171 : decode cX6_expands 171 = .ok (.aload_n 0, 1) := by decide +kernel
theorem dX6_expands_172 : decode cX6_expands 172 = .ok (.getfield 72, 3) := by decide +kernel
theorem dX6_expands_175 : decode cX6_expands 175 = .ok (.ifCond .le 7, 3) := by decide +kernel
theorem dX6_expands_178 : decode cX6_expands 178 = .ok (.iconst 1, 1) := by decide +kernel
theorem dX6_expands_179 : decode cX6_expands 179 = .ok (.goto 4, 3) := by decide +kernel
theorem dX6_expands_182 : decode cX6_expands 182 = .ok (.iconst 0, 1) := by decide +kernel
theorem dX6_expands_183 : decode cX6_expands 183 = .ok (.ireturn, 1) := by decide +kernel
def m_M_expands_168 (v : Nat → Int32) (rec : Int32 → (Nat → Nat → Int32) → Option ((Int32) × (Nat → Nat → Int32))) (x1 : Int32) (u : Nat → Nat → Int32) : Option ((Int32) × (Nat → Nat → Int32)) := rec x1 u
def m_M_expands_57 (v : Nat → Int32) (rec : Int32 → (Nat → Nat → Int32) → Option ((Int32) × (Nat → Nat → Int32))) (x1 : Int32) (x2 : Int32) (t0 : Int32) (t1 : Int32) (u : Nat → Nat → Int32) : Option ((Int32) × (Nat → Nat → Int32)) := (if t1 = t0 then (m_M_put2 x2 1 v u).bind (fun q12 => (if q12.1 = 0 then (zbo 0 (some (0, q12.2))) else m_M_expands_168 v rec (x1 + 2) q12.2)) else (zbo 0 (some (0, u))))
def m_M_expands_37 (v : Nat → Int32) (rec : Int32 → (Nat → Nat → Int32) → Option ((Int32) × (Nat → Nat → Int32))) (x1 : Int32) (x2 : Int32) (u : Nat → Nat → Int32) : Option ((Int32) × (Nat → Nat → Int32)) := (m_M_at (x1 + 1) v u).bind (fun q8 => (if x2 = 67 then m_M_expands_57 v rec x1 x2 82 q8 u else m_M_expands_57 v rec x1 x2 66 q8 u))
def m_M_expands_148 (v : Nat → Int32) (rec : Int32 → (Nat → Nat → Int32) → Option ((Int32) × (Nat → Nat → Int32))) (x1 : Int32) (x2 : Int32) (x3 : Int32) (t0 : Int32) (u : Nat → Nat → Int32) : Option ((Int32) × (Nat → Nat → Int32)) := (m_M_put2 x2 t0 v u).bind (fun q25 => (if q25.1 = 0 then (zbo 0 (some (0, q25.2))) else m_M_expands_168 v rec (x1 + (1 + x3)) q25.2))
def m_M_expands_10b (v : Nat → Int32) (rec : Int32 → (Nat → Nat → Int32) → Option ((Int32) × (Nat → Nat → Int32))) (x1 : Int32) (u : Nat → Nat → Int32) : Option ((Int32) × (Nat → Nat → Int32)) := (if (v 1) ≤ x1 then (if (v 1) ≤ 0 then (zbo 0 (some (0, u))) else (zbo 1 (some (1, u)))) else zix x1 24 ((if ((u 1) x1.toNatClampNeg) = 67 then m_M_expands_37 v rec x1 ((u 1) x1.toNatClampNeg) u else (if ((u 1) x1.toNatClampNeg) = 68 then m_M_expands_37 v rec x1 ((u 1) x1.toNatClampNeg) u else (m_M_parentheses (x1 + 1) v u).bind (fun q16 => (m_M_isSymbol ((u 1) x1.toNatClampNeg)).bind (fun q17 => (if q17 = 0 then (zbo 0 (some (0, u))) else (if 0 ≤ q16 then (if q16 = 0 then m_M_expands_148 v rec x1 ((u 1) x1.toNatClampNeg) q16 1 u else (if q16 = 3 then (m_M_at (x1 + 2) v u).bind (fun q28 => m_M_expands_148 v rec x1 ((u 1) x1.toNatClampNeg) q16 (q28 - 48) u) else (m_M_at (x1 + 2) v u).bind (fun q23 => (m_M_at (x1 + 3) v u).bind (fun q24 => m_M_expands_148 v rec x1 ((u 1) x1.toNatClampNeg) q16 (((10 * (q23 - 48)) + q24) - 48) u)))) else (zbo 0 (some (0, u)))))))))))
def m_M_expands_10 (v : Nat → Int32) : Nat → Int32 → (Nat → Nat → Int32) → Option ((Int32) × (Nat → Nat → Int32))
  | 0 => fun _ _ => none
  | n + 1 => fun x1 u => m_M_expands_10b v (m_M_expands_10 v n) x1 u
def m_M_expands  (v : Nat → Int32) (u : Nat → Nat → Int32)  : Option ((Int32) × (Nat → Nat → Int32)) := zix 8 9 (m_M_expands_10 v 64 0 (zau u 2 8 0))
section
variable {p : Program} {l : Launch} {e : Env} {s : State} {m : MethodId} {args : Array Value} {below : List Frame} {meth : Method} {c : Code} {D : va_G} {w0 : va_W} {ad : Nat → Nat} {ca : Nat → ClassId} {v : Nat → Int32}
set_option maxRecDepth 100000 in
set_option maxHeartbeats 4000000 in
theorem b_M_expands_168 (G : zG p s m args meth c cX6_expands RX6 5 (some .boolean)) (hK : va_K D vwCl (wM_t ca) s) (hX : zN (va_A w0 s.heap.size) s) {res : (Int32) × (Nat → Nat → Int32)} (rec : Int32 → (Nat → Nat → Int32) → Option ((Int32) × (Nat → Nat → Int32))) (hrec : ∀ (x1 : Int32) (u : Nat → Nat → Int32), rec x1 u = some res → zB p l e (zR 2 44) s m args below meth c D vwCl (va_A w0 s.heap.size) (MQ below (zQi D vwCl w0 (wM ad ca v res.2) s.heap.size res.1) args s 0 0 (va_A w0 s.heap.size)) 5 (wM ad ca v u) [(0, .ref (ad 0)), (1, .int x1)] 10 []) : ∀ (x1 : Int32) (u : Nat → Nat → Int32), m_M_expands_168 v rec x1 u = some res → zB p l e (zR 2 44) s m args below meth c D vwCl (va_A w0 s.heap.size) (MQ below (zQi D vwCl w0 (wM ad ca v res.2) s.heap.size res.1) args s 0 0 (va_A w0 s.heap.size)) 5 (wM ad ca v u) [(0, .ref (ad 0)), (1, .int x1)] 168 [] := by
  intro x1 u hm H locs ls hP hD hS hl
  unfold m_M_expands_168 at hm
  have G0 := G
  obtain ⟨hx, hb, hr, hml, hown, hw, hlk⟩ := G
  have hA : ∀ q, s.heap.size ≤ q → va_A w0 s.heap.size q := fun q h => Or.inr h
  refine lv_goto (tgt := 10) hx hb dX6_expands_168 rfl ?_
  exact hrec _ _ hm H _ _ hP hD hS hl
set_option maxRecDepth 100000 in
set_option maxHeartbeats 4000000 in
theorem b_M_expands_57 (G : zG p s m args meth c cX6_expands RX6 5 (some .boolean)) (hK : va_K D vwCl (wM_t ca) s) (hX : zN (va_A w0 s.heap.size) s) {res : (Int32) × (Nat → Nat → Int32)} (rec : Int32 → (Nat → Nat → Int32) → Option ((Int32) × (Nat → Nat → Int32))) (hrec : ∀ (x1 : Int32) (u : Nat → Nat → Int32), rec x1 u = some res → zB p l e (zR 2 44) s m args below meth c D vwCl (va_A w0 s.heap.size) (MQ below (zQi D vwCl w0 (wM ad ca v res.2) s.heap.size res.1) args s 0 0 (va_A w0 s.heap.size)) 5 (wM ad ca v u) [(0, .ref (ad 0)), (1, .int x1)] 10 []) : ∀ (x1 : Int32) (x2 : Int32) (t0 : Int32) (t1 : Int32) (u : Nat → Nat → Int32), m_M_expands_57 v rec x1 x2 t0 t1 u = some res → zB p l e (zR 2 44) s m args below meth c D vwCl (va_A w0 s.heap.size) (MQ below (zQi D vwCl w0 (wM ad ca v res.2) s.heap.size res.1) args s 0 0 (va_A w0 s.heap.size)) 5 (wM ad ca v u) [(0, .ref (ad 0)), (1, .int x1), (2, .int x2)] 57 [.int t0, .int t1] := by
  intro x1 x2 t0 t1 u hm H locs ls hP hD hS hl
  unfold m_M_expands_57 at hm
  have G0 := G
  obtain ⟨hx, hb, hr, hml, hown, hw, hlk⟩ := G
  have hA : ∀ q, s.heap.size ≤ q → va_A w0 s.heap.size q := fun q h => Or.inr h
  refine lv_icmp_ne (tgt := 69) hx hb dX6_expands_57 rfl (fun cd10 => ?_) (fun cd10 => ?_)
  · replace hm := zf cd10 hm
    refine lv_iconst (v := 0) hx hb dX6_expands_69 (by decide) ?_
    obtain ⟨hz11, -, hm⟩ := zbo_s hm
    cases hm
    exact zretz hx hb hr hlk hz11 hP hD hS dX6_expands_70
  · replace hm := zt cd10 hm
    refine lv_aload_n hx hb dX6_expands_60 rfl (lv_at hl 0 rfl) ?_
    refine lv_iload_n hx hb dX6_expands_61 rfl (lv_at hl 2 rfl) ?_
    refine lv_iconst (v := 1) hx hb dX6_expands_62 (by decide) ?_
    obtain ⟨q12, hq12, hm⟩ := zbind hm
    refine zbWi (va_runV (As := [.int x2, .int 1]) (rest := []) ⟨hx, hb, hml, hown, hw⟩ (k_M_put2 l D ad ca _ x2 1 v u  q12 hq12) (zcV (C := RX6) 2 hw (zgood zw27) rfl rfl rfl zw7 zw29 zw28 zw30 hdX6_put ⟨Nat.le_of_ble_eq_true rfl, Nat.le_of_ble_eq_true rfl⟩) (zpreV (zpre zN_ok trivial hS (zfree hD hS hA) hP hK hD) (va_recv hK hP rfl (q0 := 0) rfl)) rfl rfl hl.1 rfl (lv_room (Nat.le_of_ble_eq_true rfl)) dX6_expands_63 ⟨Nat.zero_le _, Nat.zero_le _⟩) hS (zfree hD hS hA) (fun H locs hP hD hS => ?_)
    have hP : va_P D vwCl (wM ad ca v q12.2) H := hP
    have hD : va_D _ (wM ad ca v q12.2) := hD
    refine lv_if_ne (tgt := 71) hx hb dX6_expands_66 rfl (fun cd13 => ?_) (fun cd13 => ?_)
    · replace hm := zf cd13 hm
      refine lv_iinc (k := 1) (v := (x1 + 2)) (lv' := [(1, .int (x1 + 2)), (0, .ref (ad 0)), (2, .int x2)]) hx hb dX6_expands_71 hl rfl rfl (by decide) rfl (fun ls hl => ?_)
      refine lv_goto (tgt := 168) hx hb dX6_expands_74 rfl ?_
      exact b_M_expands_168 G0 hK hX rec hrec _ _ hm H _ _ hP hD hS (lv_sub hl [1, 0] rfl)
    · replace hm := zt cd13 hm
      refine lv_iconst (v := 0) hx hb dX6_expands_69 (by decide) ?_
      obtain ⟨hz14, -, hm⟩ := zbo_s hm
      cases hm
      exact zretz hx hb hr hlk hz14 hP hD hS dX6_expands_70
set_option maxRecDepth 100000 in
set_option maxHeartbeats 4000000 in
theorem b_M_expands_37 (G : zG p s m args meth c cX6_expands RX6 5 (some .boolean)) (hK : va_K D vwCl (wM_t ca) s) (hX : zN (va_A w0 s.heap.size) s) {res : (Int32) × (Nat → Nat → Int32)} (rec : Int32 → (Nat → Nat → Int32) → Option ((Int32) × (Nat → Nat → Int32))) (hrec : ∀ (x1 : Int32) (u : Nat → Nat → Int32), rec x1 u = some res → zB p l e (zR 2 44) s m args below meth c D vwCl (va_A w0 s.heap.size) (MQ below (zQi D vwCl w0 (wM ad ca v res.2) s.heap.size res.1) args s 0 0 (va_A w0 s.heap.size)) 5 (wM ad ca v u) [(0, .ref (ad 0)), (1, .int x1)] 10 []) : ∀ (x1 : Int32) (x2 : Int32) (u : Nat → Nat → Int32), m_M_expands_37 v rec x1 x2 u = some res → zB p l e (zR 2 44) s m args below meth c D vwCl (va_A w0 s.heap.size) (MQ below (zQi D vwCl w0 (wM ad ca v res.2) s.heap.size res.1) args s 0 0 (va_A w0 s.heap.size)) 5 (wM ad ca v u) [(0, .ref (ad 0)), (1, .int x1), (2, .int x2)] 37 [] := by
  intro x1 x2 u hm H locs ls hP hD hS hl
  unfold m_M_expands_37 at hm
  have G0 := G
  obtain ⟨hx, hb, hr, hml, hown, hw, hlk⟩ := G
  have hA : ∀ q, s.heap.size ≤ q → va_A w0 s.heap.size q := fun q h => Or.inr h
  refine lv_aload_n hx hb dX6_expands_37 rfl (lv_at hl 0 rfl) ?_
  refine lv_iload_n hx hb dX6_expands_38 rfl (lv_at hl 1 rfl) ?_
  refine lv_iconst (v := 1) hx hb dX6_expands_39 (by decide) ?_
  refine lv_iadd hx hb dX6_expands_40 ?_
  obtain ⟨q8, hq8, hm⟩ := zbind hm
  refine zbWi (va_runV (As := [.int (x1 + 1)]) (rest := []) ⟨hx, hb, hml, hown, hw⟩ (k_M_at l D ad ca _ (x1 + 1) v u  q8 hq8) (zcV (C := RX6) 1 hw (zgood zw6) rfl rfl rfl zw7 zw9 zw8 zw10 hdX6_at ⟨Nat.le_of_ble_eq_true rfl, Nat.le_of_ble_eq_true rfl⟩) (zpreV (zpre zN_ok trivial hS (zfree hD hS hA) hP hK hD) (va_recv hK hP rfl (q0 := 0) rfl)) rfl rfl hl.1 rfl (lv_room (Nat.le_of_ble_eq_true rfl)) dX6_expands_41 ⟨Nat.zero_le _, Nat.zero_le _⟩) hS (zfree hD hS hA) (fun H locs hP hD hS => ?_)
  refine lv_iload_n hx hb dX6_expands_44 rfl (lv_at hl 2 rfl) ?_
  refine lv_bipush (v := 67) hx hb dX6_expands_45 (by decide) ?_
  refine lv_icmp_ne (tgt := 55) hx hb dX6_expands_47 rfl (fun cd9 => ?_) (fun cd9 => ?_)
  · replace hm := zf cd9 hm
    refine lv_bipush (v := 66) hx hb dX6_expands_55 (by decide) ?_
    exact b_M_expands_57 G0 hK hX rec hrec _ _ _ _ _ hm H _ _ hP hD hS hl
  · replace hm := zt cd9 hm
    refine lv_bipush (v := 82) hx hb dX6_expands_50 (by decide) ?_
    refine lv_goto (tgt := 57) hx hb dX6_expands_52 rfl ?_
    exact b_M_expands_57 G0 hK hX rec hrec _ _ _ _ _ hm H _ _ hP hD hS hl
set_option maxRecDepth 100000 in
set_option maxHeartbeats 4000000 in
theorem b_M_expands_148 (G : zG p s m args meth c cX6_expands RX6 5 (some .boolean)) (hK : va_K D vwCl (wM_t ca) s) (hX : zN (va_A w0 s.heap.size) s) {res : (Int32) × (Nat → Nat → Int32)} (rec : Int32 → (Nat → Nat → Int32) → Option ((Int32) × (Nat → Nat → Int32))) (hrec : ∀ (x1 : Int32) (u : Nat → Nat → Int32), rec x1 u = some res → zB p l e (zR 2 44) s m args below meth c D vwCl (va_A w0 s.heap.size) (MQ below (zQi D vwCl w0 (wM ad ca v res.2) s.heap.size res.1) args s 0 0 (va_A w0 s.heap.size)) 5 (wM ad ca v u) [(0, .ref (ad 0)), (1, .int x1)] 10 []) : ∀ (x1 : Int32) (x2 : Int32) (x3 : Int32) (t0 : Int32) (u : Nat → Nat → Int32), m_M_expands_148 v rec x1 x2 x3 t0 u = some res → zB p l e (zR 2 44) s m args below meth c D vwCl (va_A w0 s.heap.size) (MQ below (zQi D vwCl w0 (wM ad ca v res.2) s.heap.size res.1) args s 0 0 (va_A w0 s.heap.size)) 5 (wM ad ca v u) [(0, .ref (ad 0)), (1, .int x1), (2, .int x2), (3, .int x3)] 148 [.int t0] := by
  intro x1 x2 x3 t0 u hm H locs ls hP hD hS hl
  unfold m_M_expands_148 at hm
  have G0 := G
  obtain ⟨hx, hb, hr, hml, hown, hw, hlk⟩ := G
  have hA : ∀ q, s.heap.size ≤ q → va_A w0 s.heap.size q := fun q h => Or.inr h
  refine lv_istore (lv' := [(4, .int t0), (0, .ref (ad 0)), (1, .int x1), (2, .int x2), (3, .int x3)]) hx hb dX6_expands_148 hl (by decide) rfl (fun ls hl => ?_)
  refine lv_aload_n hx hb dX6_expands_150 rfl (lv_at hl 1 rfl) ?_
  refine lv_iload_n hx hb dX6_expands_151 rfl (lv_at hl 3 rfl) ?_
  refine lv_iload hx hb dX6_expands_152 (lv_at hl 0 rfl) ?_
  obtain ⟨q25, hq25, hm⟩ := zbind hm
  refine zbWi (va_runV (As := [.int x2, .int t0]) (rest := []) ⟨hx, hb, hml, hown, hw⟩ (k_M_put2 l D ad ca _ x2 t0 v u  q25 hq25) (zcV (C := RX6) 2 hw (zgood zw27) rfl rfl rfl zw7 zw29 zw28 zw30 hdX6_put ⟨Nat.le_of_ble_eq_true rfl, Nat.le_of_ble_eq_true rfl⟩) (zpreV (zpre zN_ok trivial hS (zfree hD hS hA) hP hK hD) (va_recv hK hP rfl (q0 := 0) rfl)) rfl rfl hl.1 rfl (lv_room (Nat.le_of_ble_eq_true rfl)) dX6_expands_154 ⟨Nat.zero_le _, Nat.zero_le _⟩) hS (zfree hD hS hA) (fun H locs hP hD hS => ?_)
  have hP : va_P D vwCl (wM ad ca v q25.2) H := hP
  have hD : va_D _ (wM ad ca v q25.2) := hD
  refine lv_if_ne (tgt := 162) hx hb dX6_expands_157 rfl (fun cd26 => ?_) (fun cd26 => ?_)
  · replace hm := zf cd26 hm
    refine lv_iload_n hx hb dX6_expands_162 rfl (lv_at hl 2 rfl) ?_
    refine lv_iconst (v := 1) hx hb dX6_expands_163 (by decide) ?_
    refine lv_iload_n hx hb dX6_expands_164 rfl (lv_at hl 4 rfl) ?_
    refine lv_iadd hx hb dX6_expands_165 ?_
    refine lv_iadd hx hb dX6_expands_166 ?_
    refine lv_istore_n (lv' := [(1, .int (x1 + (1 + x3))), (4, .int t0), (0, .ref (ad 0)), (2, .int x2), (3, .int x3)]) hx hb dX6_expands_167 rfl hl (by decide) rfl (fun ls hl => ?_)
    exact b_M_expands_168 G0 hK hX rec hrec _ _ hm H _ _ hP hD hS (lv_sub hl [2, 0] rfl)
  · replace hm := zt cd26 hm
    refine lv_iconst (v := 0) hx hb dX6_expands_160 (by decide) ?_
    obtain ⟨hz27, -, hm⟩ := zbo_s hm
    cases hm
    exact zretz hx hb hr hlk hz27 hP hD hS dX6_expands_161
set_option maxRecDepth 100000 in
set_option maxHeartbeats 4000000 in
theorem b_M_expands_10 (G : zG p s m args meth c cX6_expands RX6 5 (some .boolean)) (hK : va_K D vwCl (wM_t ca) s) (hX : zN (va_A w0 s.heap.size) s) {res : (Int32) × (Nat → Nat → Int32)} : ∀ n : Nat, ∀ (x1 : Int32) (u : Nat → Nat → Int32), m_M_expands_10 v n x1 u = some res → zB p l e (zR 2 44) s m args below meth c D vwCl (va_A w0 s.heap.size) (MQ below (zQi D vwCl w0 (wM ad ca v res.2) s.heap.size res.1) args s 0 0 (va_A w0 s.heap.size)) 5 (wM ad ca v u) [(0, .ref (ad 0)), (1, .int x1)] 10 [] := by
  intro n
  induction n with
  | zero => intro x1 u hm; cases hm
  | succ n ih =>
  have hrec := ih
  intro x1 u hm H locs ls hP hD hS hl
  replace hm : m_M_expands_10b v (m_M_expands_10 v n) x1 u = some res := hm
  generalize m_M_expands_10 v n = rec at hm hrec
  unfold m_M_expands_10b at hm
  clear ih
  have G0 := G
  obtain ⟨hx, hb, hr, hml, hown, hw, hlk⟩ := G
  have hA : ∀ q, s.heap.size ≤ q → va_A w0 s.heap.size q := fun q h => Or.inr h
  refine lv_iload_n hx hb dX6_expands_10 rfl (lv_at hl 1 rfl) ?_
  refine lv_aload_n hx hb dX6_expands_11 rfl (lv_at hl 0 rfl) ?_
  refine va_get (D := D) (ci := 5) (v := .int (v 1)) (C := RX6) (T := TX6) (N := 24) hx hb hw zinX6 hown hK hP 0 rfl rfl 1 (by decide) (hw _ zw2) (fun _ h9 => h9) rfl dX6_expands_12 ?_
  refine lv_icmp_ge (tgt := 171) hx hb dX6_expands_15 rfl (fun cd2 => ?_) (fun cd2 => ?_)
  · replace hm := zt cd2 hm
    refine lv_aload_n hx hb dX6_expands_171 rfl (lv_at hl 0 rfl) ?_
    refine va_get (D := D) (ci := 5) (v := .int (v 1)) (C := RX6) (T := TX6) (N := 24) hx hb hw zinX6 hown hK hP 0 rfl rfl 1 (by decide) (hw _ zw2) (fun _ h9 => h9) rfl dX6_expands_172 ?_
    refine lv_if_le (tgt := 182) hx hb dX6_expands_175 rfl (fun cd3 => ?_) (fun cd3 => ?_)
    · replace hm := zt cd3 hm
      refine lv_iconst (v := 0) hx hb dX6_expands_182 (by decide) ?_
      obtain ⟨hz4, -, hm⟩ := zbo_s hm
      cases hm
      exact zretz hx hb hr hlk hz4 hP hD hS dX6_expands_183
    · replace hm := zf cd3 hm
      refine lv_iconst (v := 1) hx hb dX6_expands_178 (by decide) ?_
      refine lv_goto (tgt := 183) hx hb dX6_expands_179 rfl ?_
      obtain ⟨hz5, -, hm⟩ := zbo_s hm
      cases hm
      exact zretz hx hb hr hlk hz5 hP hD hS dX6_expands_183
  · replace hm := zf cd2 hm
    refine lv_aload_n hx hb dX6_expands_18 rfl (lv_at hl 0 rfl) ?_
    refine va_get (D := D) (ci := 5) (v := .ref (ad 1)) (C := RX6) (T := TX6) (N := 24) hx hb hw zinX6 hown hK hP 0 rfl rfl 2 (by decide) (hw _ zw3) (fun _ h9 => h9) rfl dX6_expands_19 ?_
    refine lv_iload_n hx hb dX6_expands_22 rfl (lv_at hl 1 rfl) ?_
    obtain ⟨hi6, hm⟩ := zix_s hm
    refine va_iald (i := x1) (f := (u 1)) (n := 24) hx hb hK hP 1 0 rfl rfl hi6 dX6_expands_23 ?_
    refine lv_istore_n (lv' := [(2, .int ((u 1) x1.toNatClampNeg)), (0, .ref (ad 0)), (1, .int x1)]) hx hb dX6_expands_24 rfl hl (by decide) rfl (fun ls hl => ?_)
    refine lv_iload_n hx hb dX6_expands_25 rfl (lv_at hl 0 rfl) ?_
    refine lv_bipush (v := 67) hx hb dX6_expands_26 (by decide) ?_
    refine lv_icmp_eq (tgt := 37) hx hb dX6_expands_28 rfl (fun cd7 => ?_) (fun cd7 => ?_)
    · replace hm := zt cd7 hm
      exact b_M_expands_37 G0 hK hX rec hrec _ _ _ hm H _ _ hP hD hS (lv_sub hl [1, 2, 0] rfl)
    · replace hm := zf cd7 hm
      refine lv_iload_n hx hb dX6_expands_31 rfl (lv_at hl 0 rfl) ?_
      refine lv_bipush (v := 68) hx hb dX6_expands_32 (by decide) ?_
      refine lv_icmp_ne (tgt := 77) hx hb dX6_expands_34 rfl (fun cd15 => ?_) (fun cd15 => ?_)
      · replace hm := zf cd15 hm
        refine lv_aload_n hx hb dX6_expands_77 rfl (lv_at hl 1 rfl) ?_
        refine lv_iload_n hx hb dX6_expands_78 rfl (lv_at hl 2 rfl) ?_
        refine lv_iconst (v := 1) hx hb dX6_expands_79 (by decide) ?_
        refine lv_iadd hx hb dX6_expands_80 ?_
        obtain ⟨q16, hq16, hm⟩ := zbind hm
        refine zbWi (va_runV (As := [.int (x1 + 1)]) (rest := []) ⟨hx, hb, hml, hown, hw⟩ (k_M_parentheses l D ad ca _ (x1 + 1) v u  q16 hq16) (zcV (C := RX6) 1 hw (zgood zw31) rfl rfl rfl zw7 zw33 zw32 zw34 hdX6_parentheses ⟨Nat.le_of_ble_eq_true rfl, Nat.le_of_ble_eq_true rfl⟩) (zpreV (zpre zN_ok trivial hS (zfree hD hS hA) hP hK hD) (va_recv hK hP rfl (q0 := 0) rfl)) rfl rfl hl.1 rfl (lv_room (Nat.le_of_ble_eq_true rfl)) dX6_expands_81 ⟨Nat.zero_le _, Nat.zero_le _⟩) hS (zfree hD hS hA) (fun H locs hP hD hS => ?_)
        refine lv_istore_n (lv' := [(3, .int q16), (2, .int ((u 1) x1.toNatClampNeg)), (0, .ref (ad 0)), (1, .int x1)]) hx hb dX6_expands_84 rfl hl (by decide) rfl (fun ls hl => ?_)
        refine lv_iload_n hx hb dX6_expands_85 rfl (lv_at hl 1 rfl) ?_
        obtain ⟨q17, hq17, hm⟩ := zbind hm
        refine zb0i (va_runS (As := [.int ((u 1) x1.toNatClampNeg)]) (rest := []) ⟨hx, hb, hml, hown, hw⟩ (k_M_isSymbol l D  _ ((u 1) x1.toNatClampNeg)  q17 hq17) ⟨zcB 1 hw (zgood zw35) rfl rfl rfl zw7 zw37 hdX6_isSymbol ⟨Nat.le_of_ble_eq_true rfl, Nat.le_of_ble_eq_true rfl⟩, hw _ zw36⟩ (zpre zN_ok trivial hS (zfree0 hS hA) zP0 (hK.sub (tys' := []) [] rfl) zD0) rfl rfl hl.1 rfl (lv_room (Nat.le_of_ble_eq_true rfl)) dX6_expands_86 ⟨Nat.zero_le _, Nat.zero_le _⟩) hP hD hS (zfree0 hS hA) (fun H locs hP hD hS => ?_)
        refine lv_if_eq (tgt := 96) hx hb dX6_expands_89 rfl (fun cd18 => ?_) (fun cd18 => ?_)
        · replace hm := zt cd18 hm
          refine lv_iconst (v := 0) hx hb dX6_expands_96 (by decide) ?_
          obtain ⟨hz19, -, hm⟩ := zbo_s hm
          cases hm
          exact zretz hx hb hr hlk hz19 hP hD hS dX6_expands_97
        · replace hm := zf cd18 hm
          refine lv_iload_n hx hb dX6_expands_92 rfl (lv_at hl 0 rfl) ?_
          refine lv_if_ge (tgt := 98) hx hb dX6_expands_93 rfl (fun cd20 => ?_) (fun cd20 => ?_)
          · replace hm := zt cd20 hm
            refine lv_iload_n hx hb dX6_expands_98 rfl (lv_at hl 0 rfl) ?_
            refine lv_if_ne (tgt := 106) hx hb dX6_expands_99 rfl (fun cd21 => ?_) (fun cd21 => ?_)
            · replace hm := zf cd21 hm
              refine lv_iload_n hx hb dX6_expands_106 rfl (lv_at hl 0 rfl) ?_
              refine lv_iconst (v := 3) hx hb dX6_expands_107 (by decide) ?_
              refine lv_icmp_ne (tgt := 124) hx hb dX6_expands_108 rfl (fun cd22 => ?_) (fun cd22 => ?_)
              · replace hm := zf cd22 hm
                refine lv_bipush (v := 10) hx hb dX6_expands_124 (by decide) ?_
                refine lv_aload_n hx hb dX6_expands_126 rfl (lv_at hl 2 rfl) ?_
                refine lv_iload_n hx hb dX6_expands_127 rfl (lv_at hl 3 rfl) ?_
                refine lv_iconst (v := 2) hx hb dX6_expands_128 (by decide) ?_
                refine lv_iadd hx hb dX6_expands_129 ?_
                obtain ⟨q23, hq23, hm⟩ := zbind hm
                refine zbWi (va_runV (As := [.int (x1 + 2)]) (rest := [.int 10]) ⟨hx, hb, hml, hown, hw⟩ (k_M_at l D ad ca _ (x1 + 2) v u  q23 hq23) (zcV (C := RX6) 1 hw (zgood zw6) rfl rfl rfl zw7 zw9 zw8 zw10 hdX6_at ⟨Nat.le_of_ble_eq_true rfl, Nat.le_of_ble_eq_true rfl⟩) (zpreV (zpre zN_ok trivial hS (zfree hD hS hA) hP hK hD) (va_recv hK hP rfl (q0 := 0) rfl)) rfl rfl hl.1 rfl (lv_room (Nat.le_of_ble_eq_true rfl)) dX6_expands_130 ⟨Nat.zero_le _, Nat.zero_le _⟩) hS (zfree hD hS hA) (fun H locs hP hD hS => ?_)
                refine lv_bipush (v := 48) hx hb dX6_expands_133 (by decide) ?_
                refine lv_isub hx hb dX6_expands_135 ?_
                refine lv_imul hx hb dX6_expands_136 ?_
                refine lv_aload_n hx hb dX6_expands_137 rfl (lv_at hl 2 rfl) ?_
                refine lv_iload_n hx hb dX6_expands_138 rfl (lv_at hl 3 rfl) ?_
                refine lv_iconst (v := 3) hx hb dX6_expands_139 (by decide) ?_
                refine lv_iadd hx hb dX6_expands_140 ?_
                obtain ⟨q24, hq24, hm⟩ := zbind hm
                refine zbWi (va_runV (As := [.int (x1 + 3)]) (rest := [.int (10 * (q23 - 48))]) ⟨hx, hb, hml, hown, hw⟩ (k_M_at l D ad ca _ (x1 + 3) v u  q24 hq24) (zcV (C := RX6) 1 hw (zgood zw6) rfl rfl rfl zw7 zw9 zw8 zw10 hdX6_at ⟨Nat.le_of_ble_eq_true rfl, Nat.le_of_ble_eq_true rfl⟩) (zpreV (zpre zN_ok trivial hS (zfree hD hS hA) hP hK hD) (va_recv hK hP rfl (q0 := 0) rfl)) rfl rfl hl.1 rfl (lv_room (Nat.le_of_ble_eq_true rfl)) dX6_expands_141 ⟨Nat.zero_le _, Nat.zero_le _⟩) hS (zfree hD hS hA) (fun H locs hP hD hS => ?_)
                refine lv_iadd hx hb dX6_expands_144 ?_
                refine lv_bipush (v := 48) hx hb dX6_expands_145 (by decide) ?_
                refine lv_isub hx hb dX6_expands_147 ?_
                exact b_M_expands_148 G0 hK hX rec hrec _ _ _ _ _ hm H _ _ hP hD hS (lv_sub hl [2, 3, 1, 0] rfl)
              · replace hm := zt cd22 hm
                refine lv_aload_n hx hb dX6_expands_111 rfl (lv_at hl 2 rfl) ?_
                refine lv_iload_n hx hb dX6_expands_112 rfl (lv_at hl 3 rfl) ?_
                refine lv_iconst (v := 2) hx hb dX6_expands_113 (by decide) ?_
                refine lv_iadd hx hb dX6_expands_114 ?_
                obtain ⟨q28, hq28, hm⟩ := zbind hm
                refine zbWi (va_runV (As := [.int (x1 + 2)]) (rest := []) ⟨hx, hb, hml, hown, hw⟩ (k_M_at l D ad ca _ (x1 + 2) v u  q28 hq28) (zcV (C := RX6) 1 hw (zgood zw6) rfl rfl rfl zw7 zw9 zw8 zw10 hdX6_at ⟨Nat.le_of_ble_eq_true rfl, Nat.le_of_ble_eq_true rfl⟩) (zpreV (zpre zN_ok trivial hS (zfree hD hS hA) hP hK hD) (va_recv hK hP rfl (q0 := 0) rfl)) rfl rfl hl.1 rfl (lv_room (Nat.le_of_ble_eq_true rfl)) dX6_expands_115 ⟨Nat.zero_le _, Nat.zero_le _⟩) hS (zfree hD hS hA) (fun H locs hP hD hS => ?_)
                refine lv_bipush (v := 48) hx hb dX6_expands_118 (by decide) ?_
                refine lv_isub hx hb dX6_expands_120 ?_
                refine lv_goto (tgt := 148) hx hb dX6_expands_121 rfl ?_
                exact b_M_expands_148 G0 hK hX rec hrec _ _ _ _ _ hm H _ _ hP hD hS (lv_sub hl [2, 3, 1, 0] rfl)
            · replace hm := zt cd21 hm
              refine lv_iconst (v := 1) hx hb dX6_expands_102 (by decide) ?_
              refine lv_goto (tgt := 148) hx hb dX6_expands_103 rfl ?_
              exact b_M_expands_148 G0 hK hX rec hrec _ _ _ _ _ hm H _ _ hP hD hS (lv_sub hl [2, 3, 1, 0] rfl)
          · replace hm := zf cd20 hm
            refine lv_iconst (v := 0) hx hb dX6_expands_96 (by decide) ?_
            obtain ⟨hz29, -, hm⟩ := zbo_s hm
            cases hm
            exact zretz hx hb hr hlk hz29 hP hD hS dX6_expands_97
      · replace hm := zt cd15 hm
        exact b_M_expands_37 G0 hK hX rec hrec _ _ _ hm H _ _ hP hD hS (lv_sub hl [1, 2, 0] rfl)
end
set_option maxRecDepth 100000 in
set_option maxHeartbeats 4000000 in
theorem k_M_expands (l : Launch) (D : va_G) (ad : Nat → Nat) (ca : Nat → ClassId) (sz : Nat)  (v : Nat → Int32) (u : Nat → Nat → Int32) (res : (Int32) × (Nat → Nat → Int32)) (hm : m_M_expands  v u  = some res) : Met l yX6_expands (Cond.code yX6_expands cX6_expands 5 (some .boolean) :: zBIG) (zR 2 44) (va_Pc [.ref (ad 0)] (zP zN D vwCl (wM_t ca) (wM ad ca v u) sz)) (zQi D vwCl (wM ad ca v u) (wM ad ca v res.2) sz res.1) 0 0 (va_A (wM ad ca v u) sz) := by
  refine zEnter RX6 [.ref (ad 0)] (by decide) rfl (Nat.le_of_ble_eq_true rfl) (fun p e s m below meth c ls G hK hX hP hD hsz hl => ?_)
  subst hsz
  unfold m_M_expands at hm
  have hl : lv_has ls 5 [(0, .ref (ad 0))] := hl
  have hS : va_S (va_A (wM ad ca v u) s.heap.size) s.heap s.heap [] := va_S.rf
  have hA : ∀ q, s.heap.size ≤ q → va_A (wM ad ca v u) s.heap.size q := fun q h => Or.inr h
  have G0 := G
  obtain ⟨hx, hb, hr, hml, hown, hw, hlk⟩ := G
  refine lv_aload_n hx hb dX6_expands_0 rfl (lv_at hl 0 rfl) ?_
  refine va_get (D := D) (ci := 5) (v := .ref (ad 2)) (C := RX6) (T := TX6) (N := 24) hx hb hw zinX6 hown hK hP 0 rfl rfl 4 (by decide) (hw _ zw5) (fun _ h9 => h9) rfl dX6_expands_1 ?_
  refine lv_bipush (v := 8) hx hb dX6_expands_4 (by decide) ?_
  refine lv_iconst (v := 0) hx hb dX6_expands_6 (by decide) ?_
  obtain ⟨hi1, hm⟩ := zix_s hm
  refine va_iast (i := 8) (x := 0) (f := (u 2)) (n := 9) hx hb hK hP hD hS 2 1 rfl rfl hi1 dX6_expands_7 (fun H locs hP hD hS => ?_)
  have hP : va_P D vwCl (wM ad ca v (zau u 2 8 0)) H := hP
  have hD : va_D _ (wM ad ca v (zau u 2 8 0)) := hD
  refine lv_iconst (v := 0) hx hb dX6_expands_8 (by decide) ?_
  refine lv_istore_n (lv' := [(1, .int 0), (0, .ref (ad 0))]) hx hb dX6_expands_9 rfl hl (by decide) rfl (fun ls hl => ?_)
  exact b_M_expands_10 G0 hK hX 64 _ _ hm _ _ _ hP hD hS (lv_sub hl [1, 0] rfl)

theorem dX6_isNumber_0 : decode cX6_isNumber 0 = .ok (.aload_n 0, 1) := by decide +kernel
theorem dX6_isNumber_1 : decode cX6_isNumber 1 = .ok (.getfield 13, 3) := by decide +kernel
theorem dX6_isNumber_4 : decode cX6_isNumber 4 = .ok (.bipush 8, 2) := by decide +kernel
theorem dX6_isNumber_6 : decode cX6_isNumber 6 = .ok (.iaload, 1) := by decide +kernel
theorem dX6_isNumber_7 : decode cX6_isNumber 7 = .ok (.istore_n 1, 1) := by decide +kernel
theorem dX6_isNumber_8 : decode cX6_isNumber 8 = .ok (.aload_n 0, 1) := by decide +kernel
theorem dX6_isNumber_9 : decode cX6_isNumber 9 = .ok (.bipush 8, 2) := by decide +kernel
theorem dX6_isNumber_11 : decode cX6_isNumber 11 = .ok (.iconst 0, 1) := by decide +kernel
theorem dX6_isNumber_12 : decode cX6_isNumber 12 = .ok (.invokevirtual 93, 3) := by decide +kernel
theorem dX6_isNumber_15 : decode cX6_isNumber 15 = .ok (.bipush 83, 2) := by decide +kernel
theorem dX6_isNumber_17 : decode cX6_isNumber 17 = .ok (.if_icmp .ne 7, 3) := by decide +kernel
theorem dX6_isNumber_20 : decode cX6_isNumber 20 = .ok (.iconst 1, 1) := by decide +kernel
theorem dX6_isNumber_21 : decode cX6_isNumber 21 = .ok (.goto 4, 3) := by decide +kernel
theorem dX6_isNumber_24 : decode cX6_isNumber 24 = .ok (.iconst 0, 1) := by decide +kernel
theorem dX6_isNumber_25 : decode cX6_isNumber 25 = .ok (.istore_n 2, 1) := by decide +kernel
theorem dX6_isNumber_26 : decode cX6_isNumber 26 = .ok (.aload_n 0, 1) := by decide +kernel
theorem dX6_isNumber_27 : decode cX6_isNumber 27 = .ok (.bipush 57, 2) := by decide +kernel
theorem dX6_isNumber_29 : decode cX6_isNumber 29 = .ok (.iload_n 2, 1) := by decide +kernel
theorem dX6_isNumber_30 : decode cX6_isNumber 30 = .ok (.iload_n 1, 1) := by decide +kernel
theorem dX6_isNumber_31 : decode cX6_isNumber 31 = .ok (.invokevirtual 97, 3) := by decide +kernel
theorem dX6_isNumber_34 : decode cX6_isNumber 34 = .ok (.istore_n 3, 1) := by decide +kernel
theorem dX6_isNumber_35 : decode cX6_isNumber 35 = .ok (.aload_n 0, 1) := by decide +kernel
theorem dX6_isNumber_36 : decode cX6_isNumber 36 = .ok (.bipush 80, 2) := by decide +kernel
theorem dX6_isNumber_38 : decode cX6_isNumber 38 = .ok (.iload_n 2, 1) := by decide +kernel
theorem dX6_isNumber_39 : decode cX6_isNumber 39 = .ok (.iload_n 1, 1) := by decide +kernel
theorem dX6_isNumber_40 : decode cX6_isNumber 40 = .ok (.invokevirtual 97, 3) := by decide +kernel
theorem dX6_isNumber_43 : decode cX6_isNumber 43 = .ok (.istore 4, 2) := by decide +kernel
theorem dX6_isNumber_45 : decode cX6_isNumber 45 = .ok (.aload_n 0, 1) := by decide +kernel
theorem dX6_isNumber_46 : decode cX6_isNumber 46 = .ok (.bipush 86, 2) := by decide +kernel
theorem dX6_isNumber_48 : decode cX6_isNumber 48 = .ok (.iload_n 2, 1) := by decide +kernel
theorem dX6_isNumber_49 : decode cX6_isNumber 49 = .ok (.iload_n 1, 1) := by decide +kernel
theorem dX6_isNumber_50 : decode cX6_isNumber 50 = .ok (.invokevirtual 97, 3) := by decide +kernel
theorem dX6_isNumber_53 : decode cX6_isNumber 53 = .ok (.istore 5, 2) := by decide +kernel
theorem dX6_isNumber_55 : decode cX6_isNumber 55 = .ok (.iload_n 3, 1) := by decide +kernel
theorem dX6_isNumber_56 : decode cX6_isNumber 56 = .ok (.iload 4, 2) := by decide +kernel
theorem dX6_isNumber_58 : decode cX6_isNumber 58 = .ok (.iadd, 1) := by decide +kernel
theorem dX6_isNumber_59 : decode cX6_isNumber 59 = .ok (.iload 5, 2) := by decide +kernel
theorem dX6_isNumber_61 : decode cX6_isNumber 61 = .ok (.iadd, 1) := by decide +kernel
theorem dX6_isNumber_62 : decode cX6_isNumber 62 = .ok (.iload_n 1, 1) := by decide +kernel
theorem dX6_isNumber_63 : decode cX6_isNumber 63 = .ok (.iload_n 2, 1) := by decide +kernel
theorem dX6_isNumber_64 : decode cX6_isNumber 64 = .ok (.isub, 1) := by decide +kernel
theorem dX6_isNumber_65 : decode cX6_isNumber 65 = .ok (.if_icmp .ne 22, 3) := by decide +kernel
theorem dX6_isNumber_68 : decode cX6_isNumber 68 = .ok (.iload_n 3, 1) := by decide +kernel
theorem dX6_isNumber_69 : decode cX6_isNumber 69 = .ok (.ifCond .eq 18, 3) := by decide +kernel
theorem dX6_isNumber_72 : decode cX6_isNumber 72 = .ok (.iload 5, 2) := by decide +kernel
theorem dX6_isNumber_74 : decode cX6_isNumber 74 = .ok (.iconst 1, 1) := by decide +kernel
theorem dX6_isNumber_75 : decode cX6_isNumber 75 = .ok (.if_icmp .gt 12, 3) := by decide +kernel
theorem dX6_isNumber_78 : decode cX6_isNumber 78 = .ok (.iload_n 3, 1) := by decide +kernel
theorem dX6_isNumber_79 : decode cX6_isNumber 79 = .ok (.iload 4, 2) := by decide +kernel
theorem dX6_isNumber_81 : decode cX6_isNumber 81 = .ok (.iadd, 1) := by decide +kernel
theorem dX6_isNumber_82 : decode cX6_isNumber 82 = .ok (.bipush 12, 2) := by decide +kernel
theorem dX6_isNumber_84 : decode cX6_isNumber 84 = .ok (.if_icmp .le 5, 3) := by decide +kernel
theorem dX6_isNumber_87 : decode cX6_isNumber 87 = .ok (.iconst 0, 1) := by decide +kernel
theorem dX6_isNumber_88 : decode cX6_isNumber 88 = .ok (.ireturn, 1) := by decide +kernel
theorem dX6_isNumber_89 : decode cX6_isNumber 89 = .ok (.aload_n 0, 1) := by decide +kernel
theorem dX6_isNumber_90 : decode cX6_isNumber 90 = .ok (.bipush 86, 2) := by decide +kernel
theorem dX6_isNumber_92 : decode cX6_isNumber 92 = .ok (.iload_n 2, 1) := by decide +kernel
theorem dX6_isNumber_93 : decode cX6_isNumber 93 = .ok (.iload_n 1, 1) := by decide +kernel
theorem dX6_isNumber_94 : decode cX6_isNumber 94 = .ok (.invokevirtual 101, 3) := by decide +kernel
theorem dX6_isNumber_97 : decode cX6_isNumber 97 = .ok (.istore 6, 2) := by decide +kernel
theorem dX6_isNumber_99 : decode cX6_isNumber 99 = .ok (.aload_n 0, 1) := by decide +kernel
theorem dX6_isNumber_100 : decode cX6_isNumber 100 = .ok (.bipush 80, 2) := by decide +kernel
theorem dX6_isNumber_102 : decode cX6_isNumber 102 = .ok (.iload_n 2, 1) := by decide +kernel
theorem dX6_isNumber_103 : decode cX6_isNumber 103 = .ok (.iload_n 1, 1) := by decide +kernel
theorem dX6_isNumber_104 : decode cX6_isNumber 104 = .ok (.invokevirtual 101, 3) := by decide +kernel
theorem dX6_isNumber_107 : decode cX6_isNumber 107 = .ok (.istore 7, 2) := by decide +kernel
theorem dX6_isNumber_109 : decode cX6_isNumber 109 = .ok (.aload_n 0, 1) := by decide +kernel
theorem dX6_isNumber_110 : decode cX6_isNumber 110 = .ok (.bipush 57, 2) := by decide +kernel
theorem dX6_isNumber_112 : decode cX6_isNumber 112 = .ok (.iload_n 2, 1) := by decide +kernel
theorem dX6_isNumber_113 : decode cX6_isNumber 113 = .ok (.iload_n 1, 1) := by decide +kernel
theorem dX6_isNumber_114 : decode cX6_isNumber 114 = .ok (.invokevirtual 101, 3) := by decide +kernel
theorem dX6_isNumber_117 : decode cX6_isNumber 117 = .ok (.istore 8, 2) := by decide +kernel
theorem dX6_isNumber_119 : decode cX6_isNumber 119 = .ok (.iload 4, 2) := by decide +kernel
theorem dX6_isNumber_121 : decode cX6_isNumber 121 = .ok (.ifCond .le 14, 3) := by decide +kernel
theorem dX6_isNumber_124 : decode cX6_isNumber 124 = .ok (.iload 7, 2) := by decide +kernel
theorem dX6_isNumber_126 : decode cX6_isNumber 126 = .ok (.iload 8, 2) := by decide +kernel
theorem dX6_isNumber_128 : decode cX6_isNumber 128 = .ok (.if_icmp .ge 7, 3) := by decide +kernel
theorem dX6_isNumber_131 : decode cX6_isNumber 131 = .ok (.iconst 1, 1) := by decide +kernel
theorem dX6_isNumber_132 : decode cX6_isNumber 132 = .ok (.goto 4, 3) := by decide +kernel
theorem dX6_isNumber_135 : decode cX6_isNumber 135 = .ok (.iconst 0, 1) := by decide +kernel
theorem dX6_isNumber_136 : decode cX6_isNumber 136 = .ok (.istore 9, 2) := by decide +kernel
theorem dX6_isNumber_138 : decode cX6_isNumber 138 = .ok (.iload 4, 2) := by decide +kernel
theorem dX6_isNumber_140 : decode cX6_isNumber 140 = .ok (.ifCond .le 142, 3) := by decide +kernel
theorem dX6_isNumber_143 : decode cX6_isNumber 143 = .ok (.iload 9, 2) := by decide +kernel
theorem dX6_isNumber_145 : decode cX6_isNumber 145 = .ok (.ifCond .eq 8, 3) := by decide +kernel
theorem dX6_isNumber_148 : decode cX6_isNumber 148 = .ok (.iload 4, 2) := by decide +kernel
theorem dX6_isNumber_150 : decode cX6_isNumber 150 = .ok (.goto 4, 3) := by decide +kernel
theorem dX6_isNumber_153 : decode cX6_isNumber 153 = .ok (.iload_n 3, 1) := by decide +kernel
theorem dX6_isNumber_154 : decode cX6_isNumber 154 = .ok (.istore 10, 2) := by decide +kernel
theorem dX6_isNumber_156 : decode cX6_isNumber 156 = .ok (.iconst 0, 1) := by decide +kernel
theorem dX6_isNumber_157 : decode cX6_isNumber 157 = .ok (.istore 11, 2) := by decide +kernel
theorem dX6_isNumber_159 : decode cX6_isNumber 159 = .ok (.iload_n 2, 1) := by decide +kernel
theorem dX6_isNumber_160 : decode cX6_isNumber 160 = .ok (.istore 12, 2) := by decide +kernel
theorem dX6_isNumber_162 : decode cX6_isNumber 162 = .ok (.iload 12, 2) := by decide +kernel
theorem dX6_isNumber_164 : decode cX6_isNumber 164 = .ok (.iload_n 1, 1) := by decide +kernel
theorem dX6_isNumber_165 : decode cX6_isNumber 165 = .ok (.if_icmp .ge 71, 3) := by decide +kernel
theorem dX6_isNumber_168 : decode cX6_isNumber 168 = .ok (.iload 12, 2) := by decide +kernel
theorem dX6_isNumber_170 : decode cX6_isNumber 170 = .ok (.iload 6, 2) := by decide +kernel
theorem dX6_isNumber_172 : decode cX6_isNumber 172 = .ok (.if_icmp .ne 6, 3) := by decide +kernel
theorem dX6_isNumber_175 : decode cX6_isNumber 175 = .ok (.goto 55, 3) := by decide +kernel
theorem dX6_isNumber_178 : decode cX6_isNumber 178 = .ok (.aload_n 0, 1) := by decide +kernel
theorem dX6_isNumber_179 : decode cX6_isNumber 179 = .ok (.bipush 8, 2) := by decide +kernel
theorem dX6_isNumber_181 : decode cX6_isNumber 181 = .ok (.iload 12, 2) := by decide +kernel
theorem dX6_isNumber_183 : decode cX6_isNumber 183 = .ok (.invokevirtual 93, 3) := by decide +kernel
theorem dX6_isNumber_186 : decode cX6_isNumber 186 = .ok (.bipush 80, 2) := by decide +kernel
theorem dX6_isNumber_188 : decode cX6_isNumber 188 = .ok (.if_icmp .ne 7, 3) := by decide +kernel
theorem dX6_isNumber_191 : decode cX6_isNumber 191 = .ok (.iconst 1, 1) := by decide +kernel
theorem dX6_isNumber_192 : decode cX6_isNumber 192 = .ok (.goto 4, 3) := by decide +kernel
theorem dX6_isNumber_195 : decode cX6_isNumber 195 = .ok (.iconst 0, 1) := by decide +kernel
theorem dX6_isNumber_196 : decode cX6_isNumber 196 = .ok (.istore 13, 2) := by decide +kernel
theorem dX6_isNumber_198 : decode cX6_isNumber 198 = .ok (.iload 13, 2) := by decide +kernel
theorem dX6_isNumber_200 : decode cX6_isNumber 200 = .ok (.iload 11, 2) := by decide +kernel
theorem dX6_isNumber_202 : decode cX6_isNumber 202 = .ok (.iload 10, 2) := by decide +kernel
theorem dX6_isNumber_204 : decode cX6_isNumber 204 = .ok (.if_icmp .ge 7, 3) := by decide +kernel
theorem dX6_isNumber_207 : decode cX6_isNumber 207 = .ok (.iconst 1, 1) := by decide +kernel
theorem dX6_isNumber_208 : decode cX6_isNumber 208 = .ok (.goto 4, 3) := by decide +kernel
theorem dX6_isNumber_211 : decode cX6_isNumber 211 = .ok (.iconst 0, 1) := by decide +kernel
theorem dX6_isNumber_212 : decode cX6_isNumber 212 = .ok (.iload 9, 2) := by decide +kernel
theorem dX6_isNumber_214 : decode cX6_isNumber 214 = .ok (.if_icmp .ne 7, 3) := by decide +kernel
theorem dX6_isNumber_217 : decode cX6_isNumber 217 = .ok (.iconst 1, 1) := by decide +kernel
theorem dX6_isNumber_218 : decode cX6_isNumber 218 = .ok (.goto 4, 3) := by decide +kernel
theorem dX6_isNumber_221 : decode cX6_isNumber 221 = .ok (.iconst 0, 1) := by decide +kernel
theorem dX6_isNumber_222 : decode cX6_isNumber 222 = .ok (.if_icmp .eq 5, 3) := by decide +kernel
theorem dX6_isNumber_225 : decode cX6_isNumber 225 = .ok (.iconst 0, 1) := by decide +kernel
theorem dX6_isNumber_226 : decode cX6_isNumber 226 = .ok (.ireturn, 1) := by decide +kernel
theorem dX6_isNumber_227 : decode cX6_isNumber 227 = .ok (.iinc 11 1, 3) := by decide +kernel
theorem dX6_isNumber_230 : decode cX6_isNumber 230 = .ok (.iinc 12 1, 3) := by decide +kernel
theorem dX6_isNumber_233 : decode cX6_isNumber 233 = .ok (.goto (-71), 3) := by decide +kernel
theorem dX6_isNumber_236 : decode cX6_isNumber 236 = .ok (.iload 6, 2) := by decide +kernel
theorem dX6_isNumber_238 : decode cX6_isNumber 238 = .ok (.ifCond .lt 44, 3) := by decide +kernel
theorem dX6_isNumber_241 : decode cX6_isNumber 241 = .ok (.iload 9, 2) := by decide +kernel
theorem dX6_isNumber_243 : decode cX6_isNumber 243 = .ok (.ifCond .eq 21, 3) := by decide +kernel
theorem dX6_isNumber_246 : decode cX6_isNumber 246 = .ok (.iload 6, 2) := by decide +kernel
theorem dX6_isNumber_248 : decode cX6_isNumber 248 = .ok (.iload_n 2, 1) := by decide +kernel
theorem dX6_isNumber_249 : decode cX6_isNumber 249 = .ok (.if_icmp .eq 33, 3) := by decide +kernel
theorem dX6_isNumber_252 : decode cX6_isNumber 252 = .ok (.iload 6, 2) := by decide +kernel
theorem dX6_isNumber_254 : decode cX6_isNumber 254 = .ok (.iload_n 2, 1) := by decide +kernel
theorem dX6_isNumber_255 : decode cX6_isNumber 255 = .ok (.iload 4, 2) := by decide +kernel
theorem dX6_isNumber_257 : decode cX6_isNumber 257 = .ok (.iadd, 1) := by decide +kernel
theorem dX6_isNumber_258 : decode cX6_isNumber 258 = .ok (.if_icmp .eq 24, 3) := by decide +kernel
theorem dX6_isNumber_261 : decode cX6_isNumber 261 = .ok (.goto 19, 3) := by decide +kernel
theorem dX6_isNumber_264 : decode cX6_isNumber 264 = .ok (.iload 6, 2) := by decide +kernel
theorem dX6_isNumber_266 : decode cX6_isNumber 266 = .ok (.iload_n 2, 1) := by decide +kernel
theorem dX6_isNumber_267 : decode cX6_isNumber 267 = .ok (.iload_n 3, 1) := by decide +kernel
theorem dX6_isNumber_268 : decode cX6_isNumber 268 = .ok (.iadd, 1) := by decide +kernel
theorem dX6_isNumber_269 : decode cX6_isNumber 269 = .ok (.if_icmp .eq 13, 3) := by decide +kernel
theorem dX6_isNumber_272 : decode cX6_isNumber 272 = .ok (.iload 6, 2) := by decide +kernel
theorem dX6_isNumber_274 : decode cX6_isNumber 274 = .ok (.iload_n 1, 1) := by decide +kernel
theorem dX6_isNumber_275 : decode cX6_isNumber 275 = .ok (.iconst 1, 1) := by decide +kernel
theorem dX6_isNumber_276 : decode cX6_isNumber 276 = .ok (.isub, 1) := by decide +kernel
theorem dX6_isNumber_277 : decode cX6_isNumber 277 = .ok (.if_icmp .eq 5, 3) := by decide +kernel
theorem dX6_isNumber_280 : decode cX6_isNumber 280 = .ok (.iconst 0, 1) := by decide +kernel
theorem dX6_isNumber_281 : decode cX6_isNumber 281 = .ok (.ireturn, 1) := by decide +kernel
theorem dX6_isNumber_282 : decode cX6_isNumber 282 = .ok (.aload_n 0, 1) := by decide +kernel
theorem dX6_isNumber_283 : decode cX6_isNumber 283 = .ok (.getfield 22, 3) := by decide +kernel
theorem dX6_isNumber_286 : decode cX6_isNumber 286 = .ok (.bipush 8, 2) := by decide +kernel
theorem dX6_isNumber_288 : decode cX6_isNumber 288 = .ok (.iconst 0, 1) := by decide +kernel
theorem dX6_isNumber_289 : decode cX6_isNumber 289 = .ok (.iastore, 1) := by decide +kernel
theorem dX6_isNumber_290 : decode cX6_isNumber 290 = .ok (.aload_n 0, 1) := by decide +kernel
theorem dX6_isNumber_291 : decode cX6_isNumber 291 = .ok (.getfield 34, 3) := by decide +kernel
theorem dX6_isNumber_294 : decode cX6_isNumber 294 = .ok (.bipush 8, 2) := by decide +kernel
theorem dX6_isNumber_296 : decode cX6_isNumber 296 = .ok (.iload_n 2, 1) := by decide +kernel
theorem dX6_isNumber_297 : decode cX6_isNumber 297 = .ok (.iconst 1, 1) := by decide +kernel
theorem dX6_isNumber_298 : decode cX6_isNumber 298 = .ok (.if_icmp .ne 7, 3) := by decide +kernel
theorem dX6_isNumber_301 : decode cX6_isNumber 301 = .ok (.iconst 1, 1) := by decide +kernel
theorem dX6_isNumber_302 : decode cX6_isNumber 302 = .ok (.goto 4, 3) := by decide +kernel
theorem dX6_isNumber_305 : decode cX6_isNumber 305 = .ok (.iconst 0, 1) := by decide +kernel
theorem dX6_isNumber_306 : decode cX6_isNumber 306 = .ok (.bastore, 1) := by decide +kernel
theorem dX6_isNumber_307 : decode cX6_isNumber 307 = .ok (.aload_n 0, 1) := by decide +kernel
theorem dX6_isNumber_308 : decode cX6_isNumber 308 = .ok (.getfield 38, 3) := by decide +kernel
theorem dX6_isNumber_311 : decode cX6_isNumber 311 = .ok (.bipush 8, 2) := by decide +kernel
theorem dX6_isNumber_313 : decode cX6_isNumber 313 = .ok (.iload 4, 2) := by decide +kernel
theorem dX6_isNumber_315 : decode cX6_isNumber 315 = .ok (.ifCond .le 13, 3) := by decide +kernel
theorem dX6_isNumber_318 : decode cX6_isNumber 318 = .ok (.iload 9, 2) := by decide +kernel
theorem dX6_isNumber_320 : decode cX6_isNumber 320 = .ok (.ifCond .ne 8, 3) := by decide +kernel
theorem dX6_isNumber_323 : decode cX6_isNumber 323 = .ok (.iload 4, 2) := by decide +kernel
theorem dX6_isNumber_325 : decode cX6_isNumber 325 = .ok (.goto 4, 3) := by decide +kernel
theorem dX6_isNumber_328 : decode cX6_isNumber 328 = .ok (.iconst 0, 1) := by decide +kernel
theorem dX6_isNumber_329 : decode cX6_isNumber 329 = .ok (.iastore, 1) := by decide +kernel
theorem dX6_isNumber_330 : decode cX6_isNumber 330 = .ok (.aload_n 0, 1) := by decide +kernel
theorem dX6_isNumber_331 : decode cX6_isNumber 331 = .ok (.getfield 28, 3) := by decide +kernel
theorem dX6_isNumber_334 : decode cX6_isNumber 334 = .ok (.bipush 8, 2) := by decide +kernel
theorem dX6_isNumber_336 : decode cX6_isNumber 336 = .ok (.iload 4, 2) := by decide +kernel
theorem dX6_isNumber_338 : decode cX6_isNumber 338 = .ok (.ifCond .ne 19, 3) := by decide +kernel
theorem dX6_isNumber_341 : decode cX6_isNumber 341 = .ok (.iload 6, 2) := by decide +kernel
theorem dX6_isNumber_343 : decode cX6_isNumber 343 = .ok (.ifCond .ge 7, 3) := by decide +kernel
theorem dX6_isNumber_346 : decode cX6_isNumber 346 = .ok (.iload_n 3, 1) := by decide +kernel
theorem dX6_isNumber_347 : decode cX6_isNumber 347 = .ok (.goto 23, 3) := by decide +kernel
theorem dX6_isNumber_350 : decode cX6_isNumber 350 = .ok (.iload 6, 2) := by decide +kernel
theorem dX6_isNumber_352 : decode cX6_isNumber 352 = .ok (.iload_n 2, 1) := by decide +kernel
theorem dX6_isNumber_353 : decode cX6_isNumber 353 = .ok (.isub, 1) := by decide +kernel
theorem dX6_isNumber_354 : decode cX6_isNumber 354 = .ok (.goto 16, 3) := by decide +kernel
theorem dX6_isNumber_357 : decode cX6_isNumber 357 = .ok (.iload 9, 2) := by decide +kernel
theorem dX6_isNumber_359 : decode cX6_isNumber 359 = .ok (.ifCond .eq 7, 3) := by decide +kernel
theorem dX6_isNumber_362 : decode cX6_isNumber 362 = .ok (.iconst 0, 1) := by decide +kernel
theorem dX6_isNumber_363 : decode cX6_isNumber 363 = .ok (.goto 7, 3) := by decide +kernel
theorem dX6_isNumber_366 : decode cX6_isNumber 366 = .ok (.iload_n 3, 1) := by decide +kernel
theorem dX6_isNumber_367 : decode cX6_isNumber 367 = .ok (.iload 4, 2) := by decide +kernel
theorem dX6_isNumber_369 : decode cX6_isNumber 369 = .ok (.iadd, 1) := by decide +kernel
theorem dX6_isNumber_370 : decode cX6_isNumber 370 = .ok (.iastore, 1) := by decide +kernel
theorem dX6_isNumber_371 : decode cX6_isNumber 371 = .ok (.aload_n 0, 1) := by decide +kernel
theorem dX6_isNumber_372 : decode cX6_isNumber 372 = .ok (.getfield 31, 3) := by decide +kernel
theorem dX6_isNumber_375 : decode cX6_isNumber 375 = .ok (.bipush 8, 2) := by decide +kernel
theorem dX6_isNumber_377 : decode cX6_isNumber 377 = .ok (.iload 4, 2) := by decide +kernel
theorem dX6_isNumber_379 : decode cX6_isNumber 379 = .ok (.ifCond .ne 15, 3) := by decide +kernel
theorem dX6_isNumber_382 : decode cX6_isNumber 382 = .ok (.iload_n 3, 1) := by decide +kernel
theorem dX6_isNumber_383 : decode cX6_isNumber 383 = .ok (.aload_n 0, 1) := by decide +kernel
theorem dX6_isNumber_384 : decode cX6_isNumber 384 = .ok (.getfield 28, 3) := by decide +kernel
theorem dX6_isNumber_387 : decode cX6_isNumber 387 = .ok (.bipush 8, 2) := by decide +kernel
theorem dX6_isNumber_389 : decode cX6_isNumber 389 = .ok (.iaload, 1) := by decide +kernel
theorem dX6_isNumber_390 : decode cX6_isNumber 390 = .ok (.isub, 1) := by decide +kernel
theorem dX6_isNumber_391 : decode cX6_isNumber 391 = .ok (.goto 16, 3) := by decide +kernel
theorem dX6_isNumber_394 : decode cX6_isNumber 394 = .ok (.iload 9, 2) := by decide +kernel
theorem dX6_isNumber_396 : decode cX6_isNumber 396 = .ok (.ifCond .eq 10, 3) := by decide +kernel
theorem dX6_isNumber_399 : decode cX6_isNumber 399 = .ok (.iload_n 3, 1) := by decide +kernel
theorem dX6_isNumber_400 : decode cX6_isNumber 400 = .ok (.iload 4, 2) := by decide +kernel
theorem dX6_isNumber_402 : decode cX6_isNumber 402 = .ok (.iadd, 1) := by decide +kernel
theorem dX6_isNumber_403 : decode cX6_isNumber 403 = .ok (.goto 4, 3) := by decide +kernel
theorem dX6_isNumber_406 : decode cX6_isNumber 406 = .ok (.iconst 0, 1) := by decide +kernel
theorem dX6_isNumber_407 : decode cX6_isNumber 407 = .ok (.iastore, 1) := by decide +kernel
theorem dX6_isNumber_408 : decode cX6_isNumber 408 = .ok (.aload_n 0, 1) := by decide +kernel
theorem dX6_isNumber_409 : decode cX6_isNumber 409 = .ok (.getfield 53, 3) := by decide +kernel
theorem dX6_isNumber_412 : decode cX6_isNumber 412 = .ok (.bipush 8, 2) := by decide +kernel
theorem dX6_isNumber_414 : decode cX6_isNumber 414 = .ok (.iload_n 3, 1) := by decide +kernel
theorem dX6_isNumber_415 : decode cX6_isNumber 415 = .ok (.iastore, 1) := by decide +kernel
theorem dX6_isNumber_416 : decode cX6_isNumber 416 = .ok (.iload_n 3, 1) := by decide +kernel
theorem dX6_isNumber_417 : decode cX6_isNumber 417 = .ok (.aload_n 0, 1) := by decide +kernel
theorem dX6_isNumber_418 : decode cX6_isNumber 418 = .ok (.getfield 38, 3) := by decide +kernel
theorem dX6_isNumber_421 : decode cX6_isNumber 421 = .ok (.bipush 8, 2) := by decide +kernel
theorem dX6_isNumber_423 : decode cX6_isNumber 423 = .ok (.iaload, 1) := by decide +kernel
theorem dX6_isNumber_424 : decode cX6_isNumber 424 = .ok (.iadd, 1) := by decide +kernel
theorem dX6_isNumber_425 : decode cX6_isNumber 425 = .ok (.istore 10, 2) := by decide +kernel
theorem dX6_isNumber_427 : decode cX6_isNumber 427 = .ok (.iconst 0, 1) := by decide +kernel
theorem dX6_isNumber_428 : decode cX6_isNumber 428 = .ok (.istore 11, 2) := by decide +kernel
theorem dX6_isNumber_430 : decode cX6_isNumber 430 = .ok (.iload 11, 2) := by decide +kernel
theorem dX6_isNumber_432 : decode cX6_isNumber 432 = .ok (.iload_n 1, 1) := by decide +kernel
theorem dX6_isNumber_433 : decode cX6_isNumber 433 = .ok (.if_icmp .ge 66, 3) := by decide +kernel
theorem dX6_isNumber_436 : decode cX6_isNumber 436 = .ok (.aload_n 0, 1) := by decide +kernel
theorem dX6_isNumber_437 : decode cX6_isNumber 437 = .ok (.bipush 8, 2) := by decide +kernel
theorem dX6_isNumber_439 : decode cX6_isNumber 439 = .ok (.iload 11, 2) := by decide +kernel
theorem dX6_isNumber_441 : decode cX6_isNumber 441 = .ok (.invokevirtual 93, 3) := by decide +kernel
theorem dX6_isNumber_444 : decode cX6_isNumber 444 = .ok (.bipush 57, 2) := by decide +kernel
theorem dX6_isNumber_446 : decode cX6_isNumber 446 = .ok (.if_icmp .ne 7, 3) := by decide +kernel
theorem dX6_isNumber_449 : decode cX6_isNumber 449 = .ok (.iconst 1, 1) := by decide +kernel
theorem dX6_isNumber_450 : decode cX6_isNumber 450 = .ok (.goto 4, 3) := by decide +kernel
theorem dX6_isNumber_453 : decode cX6_isNumber 453 = .ok (.iconst 0, 1) := by decide +kernel
theorem dX6_isNumber_454 : decode cX6_isNumber 454 = .ok (.istore 12, 2) := by decide +kernel
theorem dX6_isNumber_456 : decode cX6_isNumber 456 = .ok (.aload_n 0, 1) := by decide +kernel
theorem dX6_isNumber_457 : decode cX6_isNumber 457 = .ok (.getfield 19, 3) := by decide +kernel
theorem dX6_isNumber_460 : decode cX6_isNumber 460 = .ok (.sipush 192, 3) := by decide +kernel
theorem dX6_isNumber_463 : decode cX6_isNumber 463 = .ok (.iload 11, 2) := by decide +kernel
theorem dX6_isNumber_465 : decode cX6_isNumber 465 = .ok (.iadd, 1) := by decide +kernel
theorem dX6_isNumber_466 : decode cX6_isNumber 466 = .ok (.iload 12, 2) := by decide +kernel
theorem dX6_isNumber_468 : decode cX6_isNumber 468 = .ok (.ifCond .eq 8, 3) := by decide +kernel
theorem dX6_isNumber_471 : decode cX6_isNumber 471 = .ok (.iload 10, 2) := by decide +kernel
theorem dX6_isNumber_473 : decode cX6_isNumber 473 = .ok (.goto 4, 3) := by decide +kernel
theorem dX6_isNumber_476 : decode cX6_isNumber 476 = .ok (.iconst 0, 1) := by decide +kernel
theorem dX6_isNumber_477 : decode cX6_isNumber 477 = .ok (.iastore, 1) := by decide +kernel
theorem dX6_isNumber_478 : decode cX6_isNumber 478 = .ok (.iload 10, 2) := by decide +kernel
theorem dX6_isNumber_480 : decode cX6_isNumber 480 = .ok (.iload 12, 2) := by decide +kernel
theorem dX6_isNumber_482 : decode cX6_isNumber 482 = .ok (.ifCond .eq 7, 3) := by decide +kernel
theorem dX6_isNumber_485 : decode cX6_isNumber 485 = .ok (.iconst 1, 1) := by decide +kernel
theorem dX6_isNumber_486 : decode cX6_isNumber 486 = .ok (.goto 4, 3) := by decide +kernel
theorem dX6_isNumber_489 : decode cX6_isNumber 489 = .ok (.iconst 0, 1) := by decide +kernel
theorem dX6_isNumber_490 : decode cX6_isNumber 490 = .ok (.isub, 1) := by decide +kernel
theorem dX6_isNumber_491 : decode cX6_isNumber 491 = .ok (.istore 10, 2) := by decide +kernel
theorem dX6_isNumber_493 : decode cX6_isNumber 493 = .ok (.iinc 11 1, 3) := by decide +kernel
theorem dX6_isNumber_496 : decode cX6_isNumber 496 = .ok (.goto (-66), 3) := by decide +kernel
theorem dX6_isNumber_499 : decode cX6_isNumber 499 = .ok (.iconst 1, 1) := by decide +kernel
theorem dX6_isNumber_500 : decode cX6_isNumber 500 = .ok (.ireturn, 1) := by decide +kernel
def m_M_isNumber_490 (v : Nat → Int32) (rec : Int32 → Int32 → Int32 → (Nat → Nat → Int32) → Option ((Int32) × (Nat → Nat → Int32))) (x1 : Int32) (x11 : Int32) (t0 : Int32) (t1 : Int32) (u : Nat → Nat → Int32) : Option ((Int32) × (Nat → Nat → Int32)) := rec x1 (t1 - t0) (x11 + 1) u
def m_M_isNumber_477 (v : Nat → Int32) (rec : Int32 → Int32 → Int32 → (Nat → Nat → Int32) → Option ((Int32) × (Nat → Nat → Int32))) (x1 : Int32) (x10 : Int32) (x11 : Int32) (x12 : Int32) (t0 : Int32) (t1 : Int32) (u : Nat → Nat → Int32) : Option ((Int32) × (Nat → Nat → Int32)) := zix t1 216 ((if x12 = 0 then m_M_isNumber_490 v rec x1 x11 0 x10 (zau u 4 t1 t0) else m_M_isNumber_490 v rec x1 x11 1 x10 (zau u 4 t1 t0)))
def m_M_isNumber_454 (v : Nat → Int32) (rec : Int32 → Int32 → Int32 → (Nat → Nat → Int32) → Option ((Int32) × (Nat → Nat → Int32))) (x1 : Int32) (x10 : Int32) (x11 : Int32) (t0 : Int32) (u : Nat → Nat → Int32) : Option ((Int32) × (Nat → Nat → Int32)) := (if t0 = 0 then m_M_isNumber_477 v rec x1 x10 x11 t0 0 (192 + x11) u else m_M_isNumber_477 v rec x1 x10 x11 t0 x10 (192 + x11) u)
def m_M_isNumber_430b (v : Nat → Int32) (rec : Int32 → Int32 → Int32 → (Nat → Nat → Int32) → Option ((Int32) × (Nat → Nat → Int32))) (x1 : Int32) (x10 : Int32) (x11 : Int32) (u : Nat → Nat → Int32) : Option ((Int32) × (Nat → Nat → Int32)) := (if x1 ≤ x11 then (zbo 1 (some (1, u))) else (m_M_sym 8 x11 v u).bind (fun q34 => (if q34 = 57 then m_M_isNumber_454 v rec x1 x10 x11 1 u else m_M_isNumber_454 v rec x1 x10 x11 0 u)))
def m_M_isNumber_430 (v : Nat → Int32) : Nat → Int32 → Int32 → Int32 → (Nat → Nat → Int32) → Option ((Int32) × (Nat → Nat → Int32))
  | 0 => fun _ _ _ _ => none
  | n + 1 => fun x1 x10 x11 u => m_M_isNumber_430b v (m_M_isNumber_430 v n) x1 x10 x11 u
def m_M_isNumber_407 (v : Nat → Int32) (x1 : Int32) (x3 : Int32) (t0 : Int32) (t1 : Int32) (u : Nat → Nat → Int32) : Option ((Int32) × (Nat → Nat → Int32)) := zix t1 9 (zix 8 9 (zix 8 9 (m_M_isNumber_430 v 64 x1 (x3 + (((zau (zau u 8 t1 t0) 15 8 x3) 10) (8 : Int32).toNatClampNeg)) 0 (zau (zau u 8 t1 t0) 15 8 x3))))
def m_M_isNumber_370 (v : Nat → Int32) (x1 : Int32) (x3 : Int32) (x4 : Int32) (x9 : Int32) (t0 : Int32) (t1 : Int32) (u : Nat → Nat → Int32) : Option ((Int32) × (Nat → Nat → Int32)) := zix t1 9 ((if x4 = 0 then zix 8 9 (m_M_isNumber_407 v x1 x3 (x3 - (((zau u 7 t1 t0) 7) (8 : Int32).toNatClampNeg)) 8 (zau u 7 t1 t0)) else (if x9 = 0 then m_M_isNumber_407 v x1 x3 0 8 (zau u 7 t1 t0) else m_M_isNumber_407 v x1 x3 (x3 + x4) 8 (zau u 7 t1 t0))))
def m_M_isNumber_329 (v : Nat → Int32) (x1 : Int32) (x2 : Int32) (x3 : Int32) (x4 : Int32) (x6 : Int32) (x9 : Int32) (t0 : Int32) (t1 : Int32) (u : Nat → Nat → Int32) : Option ((Int32) × (Nat → Nat → Int32)) := zix t1 9 ((if x4 = 0 then (if 0 ≤ x6 then m_M_isNumber_370 v x1 x3 x4 x9 (x6 - x2) 8 (zau u 10 t1 t0) else m_M_isNumber_370 v x1 x3 x4 x9 x3 8 (zau u 10 t1 t0)) else (if x9 = 0 then m_M_isNumber_370 v x1 x3 x4 x9 (x3 + x4) 8 (zau u 10 t1 t0) else m_M_isNumber_370 v x1 x3 x4 x9 0 8 (zau u 10 t1 t0))))
def m_M_isNumber_328 (v : Nat → Int32) (x1 : Int32) (x2 : Int32) (x3 : Int32) (x4 : Int32) (x6 : Int32) (x9 : Int32) (t0 : Int32) (u : Nat → Nat → Int32) : Option ((Int32) × (Nat → Nat → Int32)) := m_M_isNumber_329 v x1 x2 x3 x4 x6 x9 0 t0 u
def m_M_isNumber_306 (v : Nat → Int32) (x1 : Int32) (x2 : Int32) (x3 : Int32) (x4 : Int32) (x6 : Int32) (x9 : Int32) (t0 : Int32) (t1 : Int32) (u : Nat → Nat → Int32) : Option ((Int32) × (Nat → Nat → Int32)) := zix t1 9 ((if x4 ≤ 0 then m_M_isNumber_328 v x1 x2 x3 x4 x6 x9 8 (zau u 9 t1 (vp_nar .boolean t0)) else (if x9 = 0 then m_M_isNumber_329 v x1 x2 x3 x4 x6 x9 x4 8 (zau u 9 t1 (vp_nar .boolean t0)) else m_M_isNumber_328 v x1 x2 x3 x4 x6 x9 8 (zau u 9 t1 (vp_nar .boolean t0)))))
def m_M_isNumber_282 (v : Nat → Int32) (x1 : Int32) (x2 : Int32) (x3 : Int32) (x4 : Int32) (x6 : Int32) (x9 : Int32) (u : Nat → Nat → Int32) : Option ((Int32) × (Nat → Nat → Int32)) := zix 8 9 ((if x2 = 1 then m_M_isNumber_306 v x1 x2 x3 x4 x6 x9 1 8 (zau u 5 8 0) else m_M_isNumber_306 v x1 x2 x3 x4 x6 x9 0 8 (zau u 5 8 0)))
def m_M_isNumber_230 (v : Nat → Int32) (rec : Int32 → Int32 → Int32 → Int32 → Int32 → Int32 → Int32 → Int32 → Int32 → (Nat → Nat → Int32) → Option ((Int32) × (Nat → Nat → Int32))) (x1 : Int32) (x2 : Int32) (x3 : Int32) (x4 : Int32) (x6 : Int32) (x9 : Int32) (x10 : Int32) (x11 : Int32) (x12 : Int32) (u : Nat → Nat → Int32) : Option ((Int32) × (Nat → Nat → Int32)) := rec x1 x2 x3 x4 x6 x9 x10 x11 (x12 + 1) u
def m_M_isNumber_222 (v : Nat → Int32) (rec : Int32 → Int32 → Int32 → Int32 → Int32 → Int32 → Int32 → Int32 → Int32 → (Nat → Nat → Int32) → Option ((Int32) × (Nat → Nat → Int32))) (x1 : Int32) (x2 : Int32) (x3 : Int32) (x4 : Int32) (x6 : Int32) (x9 : Int32) (x10 : Int32) (x11 : Int32) (x12 : Int32) (t0 : Int32) (t1 : Int32) (u : Nat → Nat → Int32) : Option ((Int32) × (Nat → Nat → Int32)) := (if t1 = t0 then m_M_isNumber_230 v rec x1 x2 x3 x4 x6 x9 x10 (x11 + 1) x12 u else (zbo 0 (some (0, u))))
def m_M_isNumber_212 (v : Nat → Int32) (rec : Int32 → Int32 → Int32 → Int32 → Int32 → Int32 → Int32 → Int32 → Int32 → (Nat → Nat → Int32) → Option ((Int32) × (Nat → Nat → Int32))) (x1 : Int32) (x2 : Int32) (x3 : Int32) (x4 : Int32) (x6 : Int32) (x9 : Int32) (x10 : Int32) (x11 : Int32) (x12 : Int32) (t0 : Int32) (t1 : Int32) (u : Nat → Nat → Int32) : Option ((Int32) × (Nat → Nat → Int32)) := (if t0 = x9 then m_M_isNumber_222 v rec x1 x2 x3 x4 x6 x9 x10 x11 x12 1 t1 u else m_M_isNumber_222 v rec x1 x2 x3 x4 x6 x9 x10 x11 x12 0 t1 u)
def m_M_isNumber_196 (v : Nat → Int32) (rec : Int32 → Int32 → Int32 → Int32 → Int32 → Int32 → Int32 → Int32 → Int32 → (Nat → Nat → Int32) → Option ((Int32) × (Nat → Nat → Int32))) (x1 : Int32) (x2 : Int32) (x3 : Int32) (x4 : Int32) (x6 : Int32) (x9 : Int32) (x10 : Int32) (x11 : Int32) (x12 : Int32) (t0 : Int32) (u : Nat → Nat → Int32) : Option ((Int32) × (Nat → Nat → Int32)) := (if x10 ≤ x11 then m_M_isNumber_212 v rec x1 x2 x3 x4 x6 x9 x10 x11 x12 0 t0 u else m_M_isNumber_212 v rec x1 x2 x3 x4 x6 x9 x10 x11 x12 1 t0 u)
def m_M_isNumber_162b (v : Nat → Int32) (rec : Int32 → Int32 → Int32 → Int32 → Int32 → Int32 → Int32 → Int32 → Int32 → (Nat → Nat → Int32) → Option ((Int32) × (Nat → Nat → Int32))) (x1 : Int32) (x2 : Int32) (x3 : Int32) (x4 : Int32) (x6 : Int32) (x9 : Int32) (x10 : Int32) (x11 : Int32) (x12 : Int32) (u : Nat → Nat → Int32) : Option ((Int32) × (Nat → Nat → Int32)) := (if x1 ≤ x12 then (if x6 < 0 then m_M_isNumber_282 v x1 x2 x3 x4 x6 x9 u else (if x9 = 0 then (if x6 = (x2 + x3) then m_M_isNumber_282 v x1 x2 x3 x4 x6 x9 u else (if x6 = (x1 - 1) then m_M_isNumber_282 v x1 x2 x3 x4 x6 x9 u else (zbo 0 (some (0, u))))) else (if x6 = x2 then m_M_isNumber_282 v x1 x2 x3 x4 x6 x9 u else (if x6 = (x2 + x4) then m_M_isNumber_282 v x1 x2 x3 x4 x6 x9 u else (zbo 0 (some (0, u))))))) else (if x12 = x6 then m_M_isNumber_230 v rec x1 x2 x3 x4 x6 x9 x10 x11 x12 u else (m_M_sym 8 x12 v u).bind (fun q53 => (if q53 = 80 then m_M_isNumber_196 v rec x1 x2 x3 x4 x6 x9 x10 x11 x12 1 u else m_M_isNumber_196 v rec x1 x2 x3 x4 x6 x9 x10 x11 x12 0 u))))
def m_M_isNumber_162 (v : Nat → Int32) : Nat → Int32 → Int32 → Int32 → Int32 → Int32 → Int32 → Int32 → Int32 → Int32 → (Nat → Nat → Int32) → Option ((Int32) × (Nat → Nat → Int32))
  | 0 => fun _ _ _ _ _ _ _ _ _ _ => none
  | n + 1 => fun x1 x2 x3 x4 x6 x9 x10 x11 x12 u => m_M_isNumber_162b v (m_M_isNumber_162 v n) x1 x2 x3 x4 x6 x9 x10 x11 x12 u
def m_M_isNumber_154 (v : Nat → Int32) (x1 : Int32) (x2 : Int32) (x3 : Int32) (x4 : Int32) (x6 : Int32) (x9 : Int32) (t0 : Int32) (u : Nat → Nat → Int32) : Option ((Int32) × (Nat → Nat → Int32)) := m_M_isNumber_162 v 64 x1 x2 x3 x4 x6 x9 t0 0 x2 u
def m_M_isNumber_136 (v : Nat → Int32) (x1 : Int32) (x2 : Int32) (x3 : Int32) (x4 : Int32) (x6 : Int32) (t0 : Int32) (u : Nat → Nat → Int32) : Option ((Int32) × (Nat → Nat → Int32)) := (if x4 ≤ 0 then m_M_isNumber_282 v x1 x2 x3 x4 x6 t0 u else (if t0 = 0 then m_M_isNumber_154 v x1 x2 x3 x4 x6 t0 x3 u else m_M_isNumber_154 v x1 x2 x3 x4 x6 t0 x4 u))
def m_M_isNumber_135 (v : Nat → Int32) (x1 : Int32) (x2 : Int32) (x3 : Int32) (x4 : Int32) (x6 : Int32) (u : Nat → Nat → Int32) : Option ((Int32) × (Nat → Nat → Int32)) := m_M_isNumber_136 v x1 x2 x3 x4 x6 0 u
def m_M_isNumber_25 (v : Nat → Int32) (x1 : Int32) (t0 : Int32) (u : Nat → Nat → Int32) : Option ((Int32) × (Nat → Nat → Int32)) := (m_M_countOf 57 t0 x1 v u).bind (fun q4 => (m_M_countOf 80 t0 x1 v u).bind (fun q5 => (m_M_countOf 86 t0 x1 v u).bind (fun q6 => (if ((q4 + q5) + q6) = (x1 - t0) then (if q4 = 0 then (zbo 0 (some (0, u))) else (if 1 < q6 then (zbo 0 (some (0, u))) else (if (q4 + q5) ≤ 12 then (m_M_firstOf 86 t0 x1 v u).bind (fun q14 => (m_M_firstOf 80 t0 x1 v u).bind (fun q15 => (m_M_firstOf 57 t0 x1 v u).bind (fun q16 => (if q5 ≤ 0 then m_M_isNumber_135 v x1 t0 q4 q5 q14 u else (if q16 ≤ q15 then m_M_isNumber_135 v x1 t0 q4 q5 q14 u else m_M_isNumber_136 v x1 t0 q4 q5 q14 1 u))))) else (zbo 0 (some (0, u)))))) else (zbo 0 (some (0, u)))))))
def m_M_isNumber  (v : Nat → Int32) (u : Nat → Nat → Int32)  : Option ((Int32) × (Nat → Nat → Int32)) := zix 8 9 ((m_M_sym 8 0 v u).bind (fun q2 => (if q2 = 83 then m_M_isNumber_25 v ((u 2) (8 : Int32).toNatClampNeg) 1 u else m_M_isNumber_25 v ((u 2) (8 : Int32).toNatClampNeg) 0 u)))
section
variable {p : Program} {l : Launch} {e : Env} {s : State} {m : MethodId} {args : Array Value} {below : List Frame} {meth : Method} {c : Code} {D : va_G} {w0 : va_W} {ad : Nat → Nat} {ca : Nat → ClassId} {v : Nat → Int32}
set_option maxRecDepth 100000 in
set_option maxHeartbeats 4000000 in
theorem b_M_isNumber_490 (G : zG p s m args meth c cX6_isNumber RX6 14 (some .boolean)) (hK : va_K D vwCl (wM_t ca) s) (hX : zN (va_A w0 s.heap.size) s) {res : (Int32) × (Nat → Nat → Int32)} (rec : Int32 → Int32 → Int32 → (Nat → Nat → Int32) → Option ((Int32) × (Nat → Nat → Int32))) (hrec : ∀ (x1 : Int32) (x10 : Int32) (x11 : Int32) (u : Nat → Nat → Int32), rec x1 x10 x11 u = some res → zB p l e (zR 2 47) s m args below meth c D vwCl (va_A w0 s.heap.size) (MQ below (zQi D vwCl w0 (wM ad ca v res.2) s.heap.size res.1) args s 0 0 (va_A w0 s.heap.size)) 14 (wM ad ca v u) [(0, .ref (ad 0)), (1, .int x1), (10, .int x10), (11, .int x11)] 430 []) : ∀ (x1 : Int32) (x11 : Int32) (t0 : Int32) (t1 : Int32) (u : Nat → Nat → Int32), m_M_isNumber_490 v rec x1 x11 t0 t1 u = some res → zB p l e (zR 2 47) s m args below meth c D vwCl (va_A w0 s.heap.size) (MQ below (zQi D vwCl w0 (wM ad ca v res.2) s.heap.size res.1) args s 0 0 (va_A w0 s.heap.size)) 14 (wM ad ca v u) [(0, .ref (ad 0)), (1, .int x1), (11, .int x11)] 490 [.int t0, .int t1] := by
  intro x1 x11 t0 t1 u hm H locs ls hP hD hS hl
  unfold m_M_isNumber_490 at hm
  have G0 := G
  obtain ⟨hx, hb, hr, hml, hown, hw, hlk⟩ := G
  have hA : ∀ q, s.heap.size ≤ q → va_A w0 s.heap.size q := fun q h => Or.inr h
  refine lv_isub hx hb dX6_isNumber_490 ?_
  refine lv_istore (lv' := [(10, .int (t1 - t0)), (0, .ref (ad 0)), (1, .int x1), (11, .int x11)]) hx hb dX6_isNumber_491 hl (by decide) rfl (fun ls hl => ?_)
  refine lv_iinc (k := 3) (v := (x11 + 1)) (lv' := [(11, .int (x11 + 1)), (10, .int (t1 - t0)), (0, .ref (ad 0)), (1, .int x1)]) hx hb dX6_isNumber_493 hl rfl rfl (by decide) rfl (fun ls hl => ?_)
  refine lv_goto (tgt := 430) hx hb dX6_isNumber_496 rfl ?_
  exact hrec _ _ _ _ hm H _ _ hP hD hS (lv_sub hl [2, 3, 1, 0] rfl)
set_option maxRecDepth 100000 in
set_option maxHeartbeats 4000000 in
theorem b_M_isNumber_477 (G : zG p s m args meth c cX6_isNumber RX6 14 (some .boolean)) (hK : va_K D vwCl (wM_t ca) s) (hX : zN (va_A w0 s.heap.size) s) {res : (Int32) × (Nat → Nat → Int32)} (rec : Int32 → Int32 → Int32 → (Nat → Nat → Int32) → Option ((Int32) × (Nat → Nat → Int32))) (hrec : ∀ (x1 : Int32) (x10 : Int32) (x11 : Int32) (u : Nat → Nat → Int32), rec x1 x10 x11 u = some res → zB p l e (zR 2 47) s m args below meth c D vwCl (va_A w0 s.heap.size) (MQ below (zQi D vwCl w0 (wM ad ca v res.2) s.heap.size res.1) args s 0 0 (va_A w0 s.heap.size)) 14 (wM ad ca v u) [(0, .ref (ad 0)), (1, .int x1), (10, .int x10), (11, .int x11)] 430 []) : ∀ (x1 : Int32) (x10 : Int32) (x11 : Int32) (x12 : Int32) (t0 : Int32) (t1 : Int32) (u : Nat → Nat → Int32), m_M_isNumber_477 v rec x1 x10 x11 x12 t0 t1 u = some res → zB p l e (zR 2 47) s m args below meth c D vwCl (va_A w0 s.heap.size) (MQ below (zQi D vwCl w0 (wM ad ca v res.2) s.heap.size res.1) args s 0 0 (va_A w0 s.heap.size)) 14 (wM ad ca v u) [(0, .ref (ad 0)), (1, .int x1), (10, .int x10), (11, .int x11), (12, .int x12)] 477 [.int t0, .int t1, .ref (ad 4)] := by
  intro x1 x10 x11 x12 t0 t1 u hm H locs ls hP hD hS hl
  unfold m_M_isNumber_477 at hm
  have G0 := G
  obtain ⟨hx, hb, hr, hml, hown, hw, hlk⟩ := G
  have hA : ∀ q, s.heap.size ≤ q → va_A w0 s.heap.size q := fun q h => Or.inr h
  obtain ⟨hi37, hm⟩ := zix_s hm
  refine va_iast (i := t1) (x := t0) (f := (u 4)) (n := 216) hx hb hK hP hD hS 4 3 rfl rfl hi37 dX6_isNumber_477 (fun H locs hP hD hS => ?_)
  have hP : va_P D vwCl (wM ad ca v (zau u 4 t1 t0)) H := hP
  have hD : va_D _ (wM ad ca v (zau u 4 t1 t0)) := hD
  refine lv_iload hx hb dX6_isNumber_478 (lv_at hl 2 rfl) ?_
  refine lv_iload hx hb dX6_isNumber_480 (lv_at hl 4 rfl) ?_
  refine lv_if_eq (tgt := 489) hx hb dX6_isNumber_482 rfl (fun cd38 => ?_) (fun cd38 => ?_)
  · replace hm := zt cd38 hm
    refine lv_iconst (v := 0) hx hb dX6_isNumber_489 (by decide) ?_
    exact b_M_isNumber_490 G0 hK hX rec hrec _ _ _ _ _ hm H _ _ hP hD hS (lv_sub hl [0, 1, 3] rfl)
  · replace hm := zf cd38 hm
    refine lv_iconst (v := 1) hx hb dX6_isNumber_485 (by decide) ?_
    refine lv_goto (tgt := 490) hx hb dX6_isNumber_486 rfl ?_
    exact b_M_isNumber_490 G0 hK hX rec hrec _ _ _ _ _ hm H _ _ hP hD hS (lv_sub hl [0, 1, 3] rfl)
set_option maxRecDepth 100000 in
set_option maxHeartbeats 4000000 in
theorem b_M_isNumber_454 (G : zG p s m args meth c cX6_isNumber RX6 14 (some .boolean)) (hK : va_K D vwCl (wM_t ca) s) (hX : zN (va_A w0 s.heap.size) s) {res : (Int32) × (Nat → Nat → Int32)} (rec : Int32 → Int32 → Int32 → (Nat → Nat → Int32) → Option ((Int32) × (Nat → Nat → Int32))) (hrec : ∀ (x1 : Int32) (x10 : Int32) (x11 : Int32) (u : Nat → Nat → Int32), rec x1 x10 x11 u = some res → zB p l e (zR 2 47) s m args below meth c D vwCl (va_A w0 s.heap.size) (MQ below (zQi D vwCl w0 (wM ad ca v res.2) s.heap.size res.1) args s 0 0 (va_A w0 s.heap.size)) 14 (wM ad ca v u) [(0, .ref (ad 0)), (1, .int x1), (10, .int x10), (11, .int x11)] 430 []) : ∀ (x1 : Int32) (x10 : Int32) (x11 : Int32) (t0 : Int32) (u : Nat → Nat → Int32), m_M_isNumber_454 v rec x1 x10 x11 t0 u = some res → zB p l e (zR 2 47) s m args below meth c D vwCl (va_A w0 s.heap.size) (MQ below (zQi D vwCl w0 (wM ad ca v res.2) s.heap.size res.1) args s 0 0 (va_A w0 s.heap.size)) 14 (wM ad ca v u) [(0, .ref (ad 0)), (1, .int x1), (10, .int x10), (11, .int x11)] 454 [.int t0] := by
  intro x1 x10 x11 t0 u hm H locs ls hP hD hS hl
  unfold m_M_isNumber_454 at hm
  have G0 := G
  obtain ⟨hx, hb, hr, hml, hown, hw, hlk⟩ := G
  have hA : ∀ q, s.heap.size ≤ q → va_A w0 s.heap.size q := fun q h => Or.inr h
  refine lv_istore (lv' := [(12, .int t0), (0, .ref (ad 0)), (1, .int x1), (10, .int x10), (11, .int x11)]) hx hb dX6_isNumber_454 hl (by decide) rfl (fun ls hl => ?_)
  refine lv_aload_n hx hb dX6_isNumber_456 rfl (lv_at hl 1 rfl) ?_
  refine va_get (D := D) (ci := 5) (v := .ref (ad 4)) (C := RX6) (T := TX6) (N := 24) hx hb hw zinX6 hown hK hP 0 rfl rfl 6 (by decide) (hw _ zw21) (fun _ h9 => h9) rfl dX6_isNumber_457 ?_
  refine lv_sipush (v := 192) hx hb dX6_isNumber_460 (by decide) ?_
  refine lv_iload hx hb dX6_isNumber_463 (lv_at hl 4 rfl) ?_
  refine lv_iadd hx hb dX6_isNumber_465 ?_
  refine lv_iload hx hb dX6_isNumber_466 (lv_at hl 0 rfl) ?_
  refine lv_if_eq (tgt := 476) hx hb dX6_isNumber_468 rfl (fun cd36 => ?_) (fun cd36 => ?_)
  · replace hm := zt cd36 hm
    refine lv_iconst (v := 0) hx hb dX6_isNumber_476 (by decide) ?_
    exact b_M_isNumber_477 G0 hK hX rec hrec _ _ _ _ _ _ _ hm H _ _ hP hD hS (lv_sub hl [1, 2, 3, 4, 0] rfl)
  · replace hm := zf cd36 hm
    refine lv_iload hx hb dX6_isNumber_471 (lv_at hl 3 rfl) ?_
    refine lv_goto (tgt := 477) hx hb dX6_isNumber_473 rfl ?_
    exact b_M_isNumber_477 G0 hK hX rec hrec _ _ _ _ _ _ _ hm H _ _ hP hD hS (lv_sub hl [1, 2, 3, 4, 0] rfl)
set_option maxRecDepth 100000 in
set_option maxHeartbeats 4000000 in
theorem b_M_isNumber_430 (G : zG p s m args meth c cX6_isNumber RX6 14 (some .boolean)) (hK : va_K D vwCl (wM_t ca) s) (hX : zN (va_A w0 s.heap.size) s) {res : (Int32) × (Nat → Nat → Int32)} : ∀ n : Nat, ∀ (x1 : Int32) (x10 : Int32) (x11 : Int32) (u : Nat → Nat → Int32), m_M_isNumber_430 v n x1 x10 x11 u = some res → zB p l e (zR 2 47) s m args below meth c D vwCl (va_A w0 s.heap.size) (MQ below (zQi D vwCl w0 (wM ad ca v res.2) s.heap.size res.1) args s 0 0 (va_A w0 s.heap.size)) 14 (wM ad ca v u) [(0, .ref (ad 0)), (1, .int x1), (10, .int x10), (11, .int x11)] 430 [] := by
  intro n
  induction n with
  | zero => intro x1 x10 x11 u hm; cases hm
  | succ n ih =>
  have hrec := ih
  intro x1 x10 x11 u hm H locs ls hP hD hS hl
  replace hm : m_M_isNumber_430b v (m_M_isNumber_430 v n) x1 x10 x11 u = some res := hm
  generalize m_M_isNumber_430 v n = rec at hm hrec
  unfold m_M_isNumber_430b at hm
  clear ih
  have G0 := G
  obtain ⟨hx, hb, hr, hml, hown, hw, hlk⟩ := G
  have hA : ∀ q, s.heap.size ≤ q → va_A w0 s.heap.size q := fun q h => Or.inr h
  refine lv_iload hx hb dX6_isNumber_430 (lv_at hl 3 rfl) ?_
  refine lv_iload_n hx hb dX6_isNumber_432 rfl (lv_at hl 1 rfl) ?_
  refine lv_icmp_ge (tgt := 499) hx hb dX6_isNumber_433 rfl (fun cd32 => ?_) (fun cd32 => ?_)
  · replace hm := zt cd32 hm
    refine lv_iconst (v := 1) hx hb dX6_isNumber_499 (by decide) ?_
    obtain ⟨hz33, -, hm⟩ := zbo_s hm
    cases hm
    exact zretz hx hb hr hlk hz33 hP hD hS dX6_isNumber_500
  · replace hm := zf cd32 hm
    refine lv_aload_n hx hb dX6_isNumber_436 rfl (lv_at hl 0 rfl) ?_
    refine lv_bipush (v := 8) hx hb dX6_isNumber_437 (by decide) ?_
    refine lv_iload hx hb dX6_isNumber_439 (lv_at hl 3 rfl) ?_
    obtain ⟨q34, hq34, hm⟩ := zbind hm
    refine zbWi (va_runV (As := [.int 8, .int x11]) (rest := []) ⟨hx, hb, hml, hown, hw⟩ (k_M_sym l D ad ca _ 8 x11 v u  q34 hq34) (zcV (C := RX6) 2 hw (zgood zw14) rfl rfl rfl zw7 zw16 zw15 zw17 hdX6_sym ⟨Nat.le_of_ble_eq_true rfl, Nat.le_of_ble_eq_true rfl⟩) (zpreV (zpre zN_ok trivial hS (zfree hD hS hA) hP hK hD) (va_recv hK hP rfl (q0 := 0) rfl)) rfl rfl hl.1 rfl (lv_room (Nat.le_of_ble_eq_true rfl)) dX6_isNumber_441 ⟨Nat.zero_le _, Nat.zero_le _⟩) hS (zfree hD hS hA) (fun H locs hP hD hS => ?_)
    refine lv_bipush (v := 57) hx hb dX6_isNumber_444 (by decide) ?_
    refine lv_icmp_ne (tgt := 453) hx hb dX6_isNumber_446 rfl (fun cd35 => ?_) (fun cd35 => ?_)
    · replace hm := zf cd35 hm
      refine lv_iconst (v := 0) hx hb dX6_isNumber_453 (by decide) ?_
      exact b_M_isNumber_454 G0 hK hX rec hrec _ _ _ _ _ hm H _ _ hP hD hS hl
    · replace hm := zt cd35 hm
      refine lv_iconst (v := 1) hx hb dX6_isNumber_449 (by decide) ?_
      refine lv_goto (tgt := 454) hx hb dX6_isNumber_450 rfl ?_
      exact b_M_isNumber_454 G0 hK hX rec hrec _ _ _ _ _ hm H _ _ hP hD hS hl
set_option maxRecDepth 100000 in
set_option maxHeartbeats 4000000 in
theorem b_M_isNumber_407 (G : zG p s m args meth c cX6_isNumber RX6 14 (some .boolean)) (hK : va_K D vwCl (wM_t ca) s) (hX : zN (va_A w0 s.heap.size) s) {res : (Int32) × (Nat → Nat → Int32)} : ∀ (x1 : Int32) (x3 : Int32) (t0 : Int32) (t1 : Int32) (u : Nat → Nat → Int32), m_M_isNumber_407 v x1 x3 t0 t1 u = some res → zB p l e (zR 2 47) s m args below meth c D vwCl (va_A w0 s.heap.size) (MQ below (zQi D vwCl w0 (wM ad ca v res.2) s.heap.size res.1) args s 0 0 (va_A w0 s.heap.size)) 14 (wM ad ca v u) [(0, .ref (ad 0)), (1, .int x1), (3, .int x3)] 407 [.int t0, .int t1, .ref (ad 8)] := by
  intro x1 x3 t0 t1 u hm H locs ls hP hD hS hl
  unfold m_M_isNumber_407 at hm
  have G0 := G
  obtain ⟨hx, hb, hr, hml, hown, hw, hlk⟩ := G
  have hA : ∀ q, s.heap.size ≤ q → va_A w0 s.heap.size q := fun q h => Or.inr h
  obtain ⟨hi29, hm⟩ := zix_s hm
  refine va_iast (i := t1) (x := t0) (f := (u 8)) (n := 9) hx hb hK hP hD hS 8 7 rfl rfl hi29 dX6_isNumber_407 (fun H locs hP hD hS => ?_)
  have hP : va_P D vwCl (wM ad ca v (zau u 8 t1 t0)) H := hP
  have hD : va_D _ (wM ad ca v (zau u 8 t1 t0)) := hD
  refine lv_aload_n hx hb dX6_isNumber_408 rfl (lv_at hl 0 rfl) ?_
  refine va_get (D := D) (ci := 5) (v := .ref (ad 15)) (C := RX6) (T := TX6) (N := 24) hx hb hw zinX6 hown hK hP 0 rfl rfl 17 (by decide) (hw _ zw50) (fun _ h9 => h9) rfl dX6_isNumber_409 ?_
  refine lv_bipush (v := 8) hx hb dX6_isNumber_412 (by decide) ?_
  refine lv_iload_n hx hb dX6_isNumber_414 rfl (lv_at hl 2 rfl) ?_
  obtain ⟨hi30, hm⟩ := zix_s hm
  refine va_iast (i := 8) (x := x3) (f := ((zau u 8 t1 t0) 15)) (n := 9) hx hb hK hP hD hS 15 14 rfl rfl hi30 dX6_isNumber_415 (fun H locs hP hD hS => ?_)
  have hP : va_P D vwCl (wM ad ca v (zau (zau u 8 t1 t0) 15 8 x3)) H := hP
  have hD : va_D _ (wM ad ca v (zau (zau u 8 t1 t0) 15 8 x3)) := hD
  refine lv_iload_n hx hb dX6_isNumber_416 rfl (lv_at hl 2 rfl) ?_
  refine lv_aload_n hx hb dX6_isNumber_417 rfl (lv_at hl 0 rfl) ?_
  refine va_get (D := D) (ci := 5) (v := .ref (ad 10)) (C := RX6) (T := TX6) (N := 24) hx hb hw zinX6 hown hK hP 0 rfl rfl 12 (by decide) (hw _ zw48) (fun _ h9 => h9) rfl dX6_isNumber_418 ?_
  refine lv_bipush (v := 8) hx hb dX6_isNumber_421 (by decide) ?_
  obtain ⟨hi31, hm⟩ := zix_s hm
  refine va_iald (i := 8) (f := ((zau (zau u 8 t1 t0) 15 8 x3) 10)) (n := 9) hx hb hK hP 10 9 rfl rfl hi31 dX6_isNumber_423 ?_
  refine lv_iadd hx hb dX6_isNumber_424 ?_
  refine lv_istore (lv' := [(10, .int (x3 + (((zau (zau u 8 t1 t0) 15 8 x3) 10) (8 : Int32).toNatClampNeg))), (0, .ref (ad 0)), (1, .int x1), (3, .int x3)]) hx hb dX6_isNumber_425 hl (by decide) rfl (fun ls hl => ?_)
  refine lv_iconst (v := 0) hx hb dX6_isNumber_427 (by decide) ?_
  refine lv_istore (lv' := [(11, .int 0), (10, .int (x3 + (((zau (zau u 8 t1 t0) 15 8 x3) 10) (8 : Int32).toNatClampNeg))), (0, .ref (ad 0)), (1, .int x1), (3, .int x3)]) hx hb dX6_isNumber_428 hl (by decide) rfl (fun ls hl => ?_)
  exact b_M_isNumber_430 G0 hK hX 64 _ _ _ _ hm H _ _ hP hD hS (lv_sub hl [2, 3, 1, 0] rfl)
set_option maxRecDepth 100000 in
set_option maxHeartbeats 4000000 in
theorem b_M_isNumber_370 (G : zG p s m args meth c cX6_isNumber RX6 14 (some .boolean)) (hK : va_K D vwCl (wM_t ca) s) (hX : zN (va_A w0 s.heap.size) s) {res : (Int32) × (Nat → Nat → Int32)} : ∀ (x1 : Int32) (x3 : Int32) (x4 : Int32) (x9 : Int32) (t0 : Int32) (t1 : Int32) (u : Nat → Nat → Int32), m_M_isNumber_370 v x1 x3 x4 x9 t0 t1 u = some res → zB p l e (zR 2 47) s m args below meth c D vwCl (va_A w0 s.heap.size) (MQ below (zQi D vwCl w0 (wM ad ca v res.2) s.heap.size res.1) args s 0 0 (va_A w0 s.heap.size)) 14 (wM ad ca v u) [(0, .ref (ad 0)), (1, .int x1), (3, .int x3), (4, .int x4), (9, .int x9)] 370 [.int t0, .int t1, .ref (ad 7)] := by
  intro x1 x3 x4 x9 t0 t1 u hm H locs ls hP hD hS hl
  unfold m_M_isNumber_370 at hm
  have G0 := G
  obtain ⟨hx, hb, hr, hml, hown, hw, hlk⟩ := G
  have hA : ∀ q, s.heap.size ≤ q → va_A w0 s.heap.size q := fun q h => Or.inr h
  obtain ⟨hi26, hm⟩ := zix_s hm
  refine va_iast (i := t1) (x := t0) (f := (u 7)) (n := 9) hx hb hK hP hD hS 7 6 rfl rfl hi26 dX6_isNumber_370 (fun H locs hP hD hS => ?_)
  have hP : va_P D vwCl (wM ad ca v (zau u 7 t1 t0)) H := hP
  have hD : va_D _ (wM ad ca v (zau u 7 t1 t0)) := hD
  refine lv_aload_n hx hb dX6_isNumber_371 rfl (lv_at hl 0 rfl) ?_
  refine va_get (D := D) (ci := 5) (v := .ref (ad 8)) (C := RX6) (T := TX6) (N := 24) hx hb hw zinX6 hown hK hP 0 rfl rfl 10 (by decide) (hw _ zw22) (fun _ h9 => h9) rfl dX6_isNumber_372 ?_
  refine lv_bipush (v := 8) hx hb dX6_isNumber_375 (by decide) ?_
  refine lv_iload hx hb dX6_isNumber_377 (lv_at hl 3 rfl) ?_
  refine lv_if_ne (tgt := 394) hx hb dX6_isNumber_379 rfl (fun cd27 => ?_) (fun cd27 => ?_)
  · replace hm := zf cd27 hm
    refine lv_iload hx hb dX6_isNumber_394 (lv_at hl 4 rfl) ?_
    refine lv_if_eq (tgt := 406) hx hb dX6_isNumber_396 rfl (fun cd28 => ?_) (fun cd28 => ?_)
    · replace hm := zt cd28 hm
      refine lv_iconst (v := 0) hx hb dX6_isNumber_406 (by decide) ?_
      exact b_M_isNumber_407 G0 hK hX _ _ _ _ _ hm H _ _ hP hD hS (lv_sub hl [0, 1, 2] rfl)
    · replace hm := zf cd28 hm
      refine lv_iload_n hx hb dX6_isNumber_399 rfl (lv_at hl 2 rfl) ?_
      refine lv_iload hx hb dX6_isNumber_400 (lv_at hl 3 rfl) ?_
      refine lv_iadd hx hb dX6_isNumber_402 ?_
      refine lv_goto (tgt := 407) hx hb dX6_isNumber_403 rfl ?_
      exact b_M_isNumber_407 G0 hK hX _ _ _ _ _ hm H _ _ hP hD hS (lv_sub hl [0, 1, 2] rfl)
  · replace hm := zt cd27 hm
    refine lv_iload_n hx hb dX6_isNumber_382 rfl (lv_at hl 2 rfl) ?_
    refine lv_aload_n hx hb dX6_isNumber_383 rfl (lv_at hl 0 rfl) ?_
    refine va_get (D := D) (ci := 5) (v := .ref (ad 7)) (C := RX6) (T := TX6) (N := 24) hx hb hw zinX6 hown hK hP 0 rfl rfl 9 (by decide) (hw _ zw49) (fun _ h9 => h9) rfl dX6_isNumber_384 ?_
    refine lv_bipush (v := 8) hx hb dX6_isNumber_387 (by decide) ?_
    obtain ⟨hi39, hm⟩ := zix_s hm
    refine va_iald (i := 8) (f := ((zau u 7 t1 t0) 7)) (n := 9) hx hb hK hP 7 6 rfl rfl hi39 dX6_isNumber_389 ?_
    refine lv_isub hx hb dX6_isNumber_390 ?_
    refine lv_goto (tgt := 407) hx hb dX6_isNumber_391 rfl ?_
    exact b_M_isNumber_407 G0 hK hX _ _ _ _ _ hm H _ _ hP hD hS (lv_sub hl [0, 1, 2] rfl)
set_option maxRecDepth 100000 in
set_option maxHeartbeats 4000000 in
theorem b_M_isNumber_329 (G : zG p s m args meth c cX6_isNumber RX6 14 (some .boolean)) (hK : va_K D vwCl (wM_t ca) s) (hX : zN (va_A w0 s.heap.size) s) {res : (Int32) × (Nat → Nat → Int32)} : ∀ (x1 : Int32) (x2 : Int32) (x3 : Int32) (x4 : Int32) (x6 : Int32) (x9 : Int32) (t0 : Int32) (t1 : Int32) (u : Nat → Nat → Int32), m_M_isNumber_329 v x1 x2 x3 x4 x6 x9 t0 t1 u = some res → zB p l e (zR 2 47) s m args below meth c D vwCl (va_A w0 s.heap.size) (MQ below (zQi D vwCl w0 (wM ad ca v res.2) s.heap.size res.1) args s 0 0 (va_A w0 s.heap.size)) 14 (wM ad ca v u) [(0, .ref (ad 0)), (1, .int x1), (2, .int x2), (3, .int x3), (4, .int x4), (6, .int x6), (9, .int x9)] 329 [.int t0, .int t1, .ref (ad 10)] := by
  intro x1 x2 x3 x4 x6 x9 t0 t1 u hm H locs ls hP hD hS hl
  unfold m_M_isNumber_329 at hm
  have G0 := G
  obtain ⟨hx, hb, hr, hml, hown, hw, hlk⟩ := G
  have hA : ∀ q, s.heap.size ≤ q → va_A w0 s.heap.size q := fun q h => Or.inr h
  obtain ⟨hi23, hm⟩ := zix_s hm
  refine va_iast (i := t1) (x := t0) (f := (u 10)) (n := 9) hx hb hK hP hD hS 10 9 rfl rfl hi23 dX6_isNumber_329 (fun H locs hP hD hS => ?_)
  have hP : va_P D vwCl (wM ad ca v (zau u 10 t1 t0)) H := hP
  have hD : va_D _ (wM ad ca v (zau u 10 t1 t0)) := hD
  refine lv_aload_n hx hb dX6_isNumber_330 rfl (lv_at hl 0 rfl) ?_
  refine va_get (D := D) (ci := 5) (v := .ref (ad 7)) (C := RX6) (T := TX6) (N := 24) hx hb hw zinX6 hown hK hP 0 rfl rfl 9 (by decide) (hw _ zw49) (fun _ h9 => h9) rfl dX6_isNumber_331 ?_
  refine lv_bipush (v := 8) hx hb dX6_isNumber_334 (by decide) ?_
  refine lv_iload hx hb dX6_isNumber_336 (lv_at hl 4 rfl) ?_
  refine lv_if_ne (tgt := 357) hx hb dX6_isNumber_338 rfl (fun cd24 => ?_) (fun cd24 => ?_)
  · replace hm := zf cd24 hm
    refine lv_iload hx hb dX6_isNumber_357 (lv_at hl 6 rfl) ?_
    refine lv_if_eq (tgt := 366) hx hb dX6_isNumber_359 rfl (fun cd25 => ?_) (fun cd25 => ?_)
    · replace hm := zt cd25 hm
      refine lv_iload_n hx hb dX6_isNumber_366 rfl (lv_at hl 3 rfl) ?_
      refine lv_iload hx hb dX6_isNumber_367 (lv_at hl 4 rfl) ?_
      refine lv_iadd hx hb dX6_isNumber_369 ?_
      exact b_M_isNumber_370 G0 hK hX _ _ _ _ _ _ _ hm H _ _ hP hD hS (lv_sub hl [0, 1, 3, 4, 6] rfl)
    · replace hm := zf cd25 hm
      refine lv_iconst (v := 0) hx hb dX6_isNumber_362 (by decide) ?_
      refine lv_goto (tgt := 370) hx hb dX6_isNumber_363 rfl ?_
      exact b_M_isNumber_370 G0 hK hX _ _ _ _ _ _ _ hm H _ _ hP hD hS (lv_sub hl [0, 1, 3, 4, 6] rfl)
  · replace hm := zt cd24 hm
    refine lv_iload hx hb dX6_isNumber_341 (lv_at hl 5 rfl) ?_
    refine lv_if_ge (tgt := 350) hx hb dX6_isNumber_343 rfl (fun cd40 => ?_) (fun cd40 => ?_)
    · replace hm := zt cd40 hm
      refine lv_iload hx hb dX6_isNumber_350 (lv_at hl 5 rfl) ?_
      refine lv_iload_n hx hb dX6_isNumber_352 rfl (lv_at hl 2 rfl) ?_
      refine lv_isub hx hb dX6_isNumber_353 ?_
      refine lv_goto (tgt := 370) hx hb dX6_isNumber_354 rfl ?_
      exact b_M_isNumber_370 G0 hK hX _ _ _ _ _ _ _ hm H _ _ hP hD hS (lv_sub hl [0, 1, 3, 4, 6] rfl)
    · replace hm := zf cd40 hm
      refine lv_iload_n hx hb dX6_isNumber_346 rfl (lv_at hl 3 rfl) ?_
      refine lv_goto (tgt := 370) hx hb dX6_isNumber_347 rfl ?_
      exact b_M_isNumber_370 G0 hK hX _ _ _ _ _ _ _ hm H _ _ hP hD hS (lv_sub hl [0, 1, 3, 4, 6] rfl)
set_option maxRecDepth 100000 in
set_option maxHeartbeats 4000000 in
theorem b_M_isNumber_328 (G : zG p s m args meth c cX6_isNumber RX6 14 (some .boolean)) (hK : va_K D vwCl (wM_t ca) s) (hX : zN (va_A w0 s.heap.size) s) {res : (Int32) × (Nat → Nat → Int32)} : ∀ (x1 : Int32) (x2 : Int32) (x3 : Int32) (x4 : Int32) (x6 : Int32) (x9 : Int32) (t0 : Int32) (u : Nat → Nat → Int32), m_M_isNumber_328 v x1 x2 x3 x4 x6 x9 t0 u = some res → zB p l e (zR 2 47) s m args below meth c D vwCl (va_A w0 s.heap.size) (MQ below (zQi D vwCl w0 (wM ad ca v res.2) s.heap.size res.1) args s 0 0 (va_A w0 s.heap.size)) 14 (wM ad ca v u) [(0, .ref (ad 0)), (1, .int x1), (2, .int x2), (3, .int x3), (4, .int x4), (6, .int x6), (9, .int x9)] 328 [.int t0, .ref (ad 10)] := by
  intro x1 x2 x3 x4 x6 x9 t0 u hm H locs ls hP hD hS hl
  unfold m_M_isNumber_328 at hm
  have G0 := G
  obtain ⟨hx, hb, hr, hml, hown, hw, hlk⟩ := G
  have hA : ∀ q, s.heap.size ≤ q → va_A w0 s.heap.size q := fun q h => Or.inr h
  refine lv_iconst (v := 0) hx hb dX6_isNumber_328 (by decide) ?_
  exact b_M_isNumber_329 G0 hK hX _ _ _ _ _ _ _ _ _ hm H _ _ hP hD hS hl
set_option maxRecDepth 100000 in
set_option maxHeartbeats 4000000 in
theorem b_M_isNumber_306 (G : zG p s m args meth c cX6_isNumber RX6 14 (some .boolean)) (hK : va_K D vwCl (wM_t ca) s) (hX : zN (va_A w0 s.heap.size) s) {res : (Int32) × (Nat → Nat → Int32)} : ∀ (x1 : Int32) (x2 : Int32) (x3 : Int32) (x4 : Int32) (x6 : Int32) (x9 : Int32) (t0 : Int32) (t1 : Int32) (u : Nat → Nat → Int32), m_M_isNumber_306 v x1 x2 x3 x4 x6 x9 t0 t1 u = some res → zB p l e (zR 2 47) s m args below meth c D vwCl (va_A w0 s.heap.size) (MQ below (zQi D vwCl w0 (wM ad ca v res.2) s.heap.size res.1) args s 0 0 (va_A w0 s.heap.size)) 14 (wM ad ca v u) [(0, .ref (ad 0)), (1, .int x1), (2, .int x2), (3, .int x3), (4, .int x4), (6, .int x6), (9, .int x9)] 306 [.int t0, .int t1, .ref (ad 9)] := by
  intro x1 x2 x3 x4 x6 x9 t0 t1 u hm H locs ls hP hD hS hl
  unfold m_M_isNumber_306 at hm
  have G0 := G
  obtain ⟨hx, hb, hr, hml, hown, hw, hlk⟩ := G
  have hA : ∀ q, s.heap.size ≤ q → va_A w0 s.heap.size q := fun q h => Or.inr h
  obtain ⟨hi21, hm⟩ := zix_s hm
  refine va_zast (i := t1) (x := t0) (f := (u 9)) (n := 9) hx hb hK hP hD hS 9 8 rfl rfl hi21 dX6_isNumber_306 (fun H locs hP hD hS => ?_)
  have hP : va_P D vwCl (wM ad ca v (zau u 9 t1 (vp_nar .boolean t0))) H := hP
  have hD : va_D _ (wM ad ca v (zau u 9 t1 (vp_nar .boolean t0))) := hD
  refine lv_aload_n hx hb dX6_isNumber_307 rfl (lv_at hl 0 rfl) ?_
  refine va_get (D := D) (ci := 5) (v := .ref (ad 10)) (C := RX6) (T := TX6) (N := 24) hx hb hw zinX6 hown hK hP 0 rfl rfl 12 (by decide) (hw _ zw48) (fun _ h9 => h9) rfl dX6_isNumber_308 ?_
  refine lv_bipush (v := 8) hx hb dX6_isNumber_311 (by decide) ?_
  refine lv_iload hx hb dX6_isNumber_313 (lv_at hl 4 rfl) ?_
  refine lv_if_le (tgt := 328) hx hb dX6_isNumber_315 rfl (fun cd22 => ?_) (fun cd22 => ?_)
  · replace hm := zt cd22 hm
    exact b_M_isNumber_328 G0 hK hX _ _ _ _ _ _ _ _ hm H _ _ hP hD hS hl
  · replace hm := zf cd22 hm
    refine lv_iload hx hb dX6_isNumber_318 (lv_at hl 6 rfl) ?_
    refine lv_if_ne (tgt := 328) hx hb dX6_isNumber_320 rfl (fun cd41 => ?_) (fun cd41 => ?_)
    · replace hm := zf cd41 hm
      exact b_M_isNumber_328 G0 hK hX _ _ _ _ _ _ _ _ hm H _ _ hP hD hS hl
    · replace hm := zt cd41 hm
      refine lv_iload hx hb dX6_isNumber_323 (lv_at hl 4 rfl) ?_
      refine lv_goto (tgt := 329) hx hb dX6_isNumber_325 rfl ?_
      exact b_M_isNumber_329 G0 hK hX _ _ _ _ _ _ _ _ _ hm H _ _ hP hD hS hl
set_option maxRecDepth 100000 in
set_option maxHeartbeats 4000000 in
theorem b_M_isNumber_282 (G : zG p s m args meth c cX6_isNumber RX6 14 (some .boolean)) (hK : va_K D vwCl (wM_t ca) s) (hX : zN (va_A w0 s.heap.size) s) {res : (Int32) × (Nat → Nat → Int32)} : ∀ (x1 : Int32) (x2 : Int32) (x3 : Int32) (x4 : Int32) (x6 : Int32) (x9 : Int32) (u : Nat → Nat → Int32), m_M_isNumber_282 v x1 x2 x3 x4 x6 x9 u = some res → zB p l e (zR 2 47) s m args below meth c D vwCl (va_A w0 s.heap.size) (MQ below (zQi D vwCl w0 (wM ad ca v res.2) s.heap.size res.1) args s 0 0 (va_A w0 s.heap.size)) 14 (wM ad ca v u) [(0, .ref (ad 0)), (1, .int x1), (2, .int x2), (3, .int x3), (4, .int x4), (6, .int x6), (9, .int x9)] 282 [] := by
  intro x1 x2 x3 x4 x6 x9 u hm H locs ls hP hD hS hl
  unfold m_M_isNumber_282 at hm
  have G0 := G
  obtain ⟨hx, hb, hr, hml, hown, hw, hlk⟩ := G
  have hA : ∀ q, s.heap.size ≤ q → va_A w0 s.heap.size q := fun q h => Or.inr h
  refine lv_aload_n hx hb dX6_isNumber_282 rfl (lv_at hl 0 rfl) ?_
  refine va_get (D := D) (ci := 5) (v := .ref (ad 5)) (C := RX6) (T := TX6) (N := 24) hx hb hw zinX6 hown hK hP 0 rfl rfl 7 (by decide) (hw _ zw46) (fun _ h9 => h9) rfl dX6_isNumber_283 ?_
  refine lv_bipush (v := 8) hx hb dX6_isNumber_286 (by decide) ?_
  refine lv_iconst (v := 0) hx hb dX6_isNumber_288 (by decide) ?_
  obtain ⟨hi19, hm⟩ := zix_s hm
  refine va_iast (i := 8) (x := 0) (f := (u 5)) (n := 9) hx hb hK hP hD hS 5 4 rfl rfl hi19 dX6_isNumber_289 (fun H locs hP hD hS => ?_)
  have hP : va_P D vwCl (wM ad ca v (zau u 5 8 0)) H := hP
  have hD : va_D _ (wM ad ca v (zau u 5 8 0)) := hD
  refine lv_aload_n hx hb dX6_isNumber_290 rfl (lv_at hl 0 rfl) ?_
  refine va_get (D := D) (ci := 5) (v := .ref (ad 9)) (C := RX6) (T := TX6) (N := 24) hx hb hw zinX6 hown hK hP 0 rfl rfl 11 (by decide) (hw _ zw47) (fun _ h9 => h9) rfl dX6_isNumber_291 ?_
  refine lv_bipush (v := 8) hx hb dX6_isNumber_294 (by decide) ?_
  refine lv_iload_n hx hb dX6_isNumber_296 rfl (lv_at hl 2 rfl) ?_
  refine lv_iconst (v := 1) hx hb dX6_isNumber_297 (by decide) ?_
  refine lv_icmp_ne (tgt := 305) hx hb dX6_isNumber_298 rfl (fun cd20 => ?_) (fun cd20 => ?_)
  · replace hm := zf cd20 hm
    refine lv_iconst (v := 0) hx hb dX6_isNumber_305 (by decide) ?_
    exact b_M_isNumber_306 G0 hK hX _ _ _ _ _ _ _ _ _ hm H _ _ hP hD hS hl
  · replace hm := zt cd20 hm
    refine lv_iconst (v := 1) hx hb dX6_isNumber_301 (by decide) ?_
    refine lv_goto (tgt := 306) hx hb dX6_isNumber_302 rfl ?_
    exact b_M_isNumber_306 G0 hK hX _ _ _ _ _ _ _ _ _ hm H _ _ hP hD hS hl
set_option maxRecDepth 100000 in
set_option maxHeartbeats 4000000 in
theorem b_M_isNumber_230 (G : zG p s m args meth c cX6_isNumber RX6 14 (some .boolean)) (hK : va_K D vwCl (wM_t ca) s) (hX : zN (va_A w0 s.heap.size) s) {res : (Int32) × (Nat → Nat → Int32)} (rec : Int32 → Int32 → Int32 → Int32 → Int32 → Int32 → Int32 → Int32 → Int32 → (Nat → Nat → Int32) → Option ((Int32) × (Nat → Nat → Int32))) (hrec : ∀ (x1 : Int32) (x2 : Int32) (x3 : Int32) (x4 : Int32) (x6 : Int32) (x9 : Int32) (x10 : Int32) (x11 : Int32) (x12 : Int32) (u : Nat → Nat → Int32), rec x1 x2 x3 x4 x6 x9 x10 x11 x12 u = some res → zB p l e (zR 2 47) s m args below meth c D vwCl (va_A w0 s.heap.size) (MQ below (zQi D vwCl w0 (wM ad ca v res.2) s.heap.size res.1) args s 0 0 (va_A w0 s.heap.size)) 14 (wM ad ca v u) [(0, .ref (ad 0)), (1, .int x1), (2, .int x2), (3, .int x3), (4, .int x4), (6, .int x6), (9, .int x9), (10, .int x10), (11, .int x11), (12, .int x12)] 162 []) : ∀ (x1 : Int32) (x2 : Int32) (x3 : Int32) (x4 : Int32) (x6 : Int32) (x9 : Int32) (x10 : Int32) (x11 : Int32) (x12 : Int32) (u : Nat → Nat → Int32), m_M_isNumber_230 v rec x1 x2 x3 x4 x6 x9 x10 x11 x12 u = some res → zB p l e (zR 2 47) s m args below meth c D vwCl (va_A w0 s.heap.size) (MQ below (zQi D vwCl w0 (wM ad ca v res.2) s.heap.size res.1) args s 0 0 (va_A w0 s.heap.size)) 14 (wM ad ca v u) [(0, .ref (ad 0)), (1, .int x1), (2, .int x2), (3, .int x3), (4, .int x4), (6, .int x6), (9, .int x9), (10, .int x10), (11, .int x11), (12, .int x12)] 230 [] := by
  intro x1 x2 x3 x4 x6 x9 x10 x11 x12 u hm H locs ls hP hD hS hl
  unfold m_M_isNumber_230 at hm
  have G0 := G
  obtain ⟨hx, hb, hr, hml, hown, hw, hlk⟩ := G
  have hA : ∀ q, s.heap.size ≤ q → va_A w0 s.heap.size q := fun q h => Or.inr h
  refine lv_iinc (k := 9) (v := (x12 + 1)) (lv' := [(12, .int (x12 + 1)), (0, .ref (ad 0)), (1, .int x1), (2, .int x2), (3, .int x3), (4, .int x4), (6, .int x6), (9, .int x9), (10, .int x10), (11, .int x11)]) hx hb dX6_isNumber_230 hl rfl rfl (by decide) rfl (fun ls hl => ?_)
  refine lv_goto (tgt := 162) hx hb dX6_isNumber_233 rfl ?_
  exact hrec _ _ _ _ _ _ _ _ _ _ hm H _ _ hP hD hS (lv_sub hl [1, 2, 3, 4, 5, 6, 7, 8, 9, 0] rfl)
set_option maxRecDepth 100000 in
set_option maxHeartbeats 4000000 in
theorem b_M_isNumber_222 (G : zG p s m args meth c cX6_isNumber RX6 14 (some .boolean)) (hK : va_K D vwCl (wM_t ca) s) (hX : zN (va_A w0 s.heap.size) s) {res : (Int32) × (Nat → Nat → Int32)} (rec : Int32 → Int32 → Int32 → Int32 → Int32 → Int32 → Int32 → Int32 → Int32 → (Nat → Nat → Int32) → Option ((Int32) × (Nat → Nat → Int32))) (hrec : ∀ (x1 : Int32) (x2 : Int32) (x3 : Int32) (x4 : Int32) (x6 : Int32) (x9 : Int32) (x10 : Int32) (x11 : Int32) (x12 : Int32) (u : Nat → Nat → Int32), rec x1 x2 x3 x4 x6 x9 x10 x11 x12 u = some res → zB p l e (zR 2 47) s m args below meth c D vwCl (va_A w0 s.heap.size) (MQ below (zQi D vwCl w0 (wM ad ca v res.2) s.heap.size res.1) args s 0 0 (va_A w0 s.heap.size)) 14 (wM ad ca v u) [(0, .ref (ad 0)), (1, .int x1), (2, .int x2), (3, .int x3), (4, .int x4), (6, .int x6), (9, .int x9), (10, .int x10), (11, .int x11), (12, .int x12)] 162 []) : ∀ (x1 : Int32) (x2 : Int32) (x3 : Int32) (x4 : Int32) (x6 : Int32) (x9 : Int32) (x10 : Int32) (x11 : Int32) (x12 : Int32) (t0 : Int32) (t1 : Int32) (u : Nat → Nat → Int32), m_M_isNumber_222 v rec x1 x2 x3 x4 x6 x9 x10 x11 x12 t0 t1 u = some res → zB p l e (zR 2 47) s m args below meth c D vwCl (va_A w0 s.heap.size) (MQ below (zQi D vwCl w0 (wM ad ca v res.2) s.heap.size res.1) args s 0 0 (va_A w0 s.heap.size)) 14 (wM ad ca v u) [(0, .ref (ad 0)), (1, .int x1), (2, .int x2), (3, .int x3), (4, .int x4), (6, .int x6), (9, .int x9), (10, .int x10), (11, .int x11), (12, .int x12)] 222 [.int t0, .int t1] := by
  intro x1 x2 x3 x4 x6 x9 x10 x11 x12 t0 t1 u hm H locs ls hP hD hS hl
  unfold m_M_isNumber_222 at hm
  have G0 := G
  obtain ⟨hx, hb, hr, hml, hown, hw, hlk⟩ := G
  have hA : ∀ q, s.heap.size ≤ q → va_A w0 s.heap.size q := fun q h => Or.inr h
  refine lv_icmp_eq (tgt := 227) hx hb dX6_isNumber_222 rfl (fun cd57 => ?_) (fun cd57 => ?_)
  · replace hm := zt cd57 hm
    refine lv_iinc (k := 8) (v := (x11 + 1)) (lv' := [(11, .int (x11 + 1)), (0, .ref (ad 0)), (1, .int x1), (2, .int x2), (3, .int x3), (4, .int x4), (6, .int x6), (9, .int x9), (10, .int x10), (12, .int x12)]) hx hb dX6_isNumber_227 hl rfl rfl (by decide) rfl (fun ls hl => ?_)
    exact b_M_isNumber_230 G0 hK hX rec hrec _ _ _ _ _ _ _ _ _ _ hm H _ _ hP hD hS (lv_sub hl [1, 2, 3, 4, 5, 6, 7, 8, 0, 9] rfl)
  · replace hm := zf cd57 hm
    refine lv_iconst (v := 0) hx hb dX6_isNumber_225 (by decide) ?_
    obtain ⟨hz58, -, hm⟩ := zbo_s hm
    cases hm
    exact zretz hx hb hr hlk hz58 hP hD hS dX6_isNumber_226
set_option maxRecDepth 100000 in
set_option maxHeartbeats 4000000 in
theorem b_M_isNumber_212 (G : zG p s m args meth c cX6_isNumber RX6 14 (some .boolean)) (hK : va_K D vwCl (wM_t ca) s) (hX : zN (va_A w0 s.heap.size) s) {res : (Int32) × (Nat → Nat → Int32)} (rec : Int32 → Int32 → Int32 → Int32 → Int32 → Int32 → Int32 → Int32 → Int32 → (Nat → Nat → Int32) → Option ((Int32) × (Nat → Nat → Int32))) (hrec : ∀ (x1 : Int32) (x2 : Int32) (x3 : Int32) (x4 : Int32) (x6 : Int32) (x9 : Int32) (x10 : Int32) (x11 : Int32) (x12 : Int32) (u : Nat → Nat → Int32), rec x1 x2 x3 x4 x6 x9 x10 x11 x12 u = some res → zB p l e (zR 2 47) s m args below meth c D vwCl (va_A w0 s.heap.size) (MQ below (zQi D vwCl w0 (wM ad ca v res.2) s.heap.size res.1) args s 0 0 (va_A w0 s.heap.size)) 14 (wM ad ca v u) [(0, .ref (ad 0)), (1, .int x1), (2, .int x2), (3, .int x3), (4, .int x4), (6, .int x6), (9, .int x9), (10, .int x10), (11, .int x11), (12, .int x12)] 162 []) : ∀ (x1 : Int32) (x2 : Int32) (x3 : Int32) (x4 : Int32) (x6 : Int32) (x9 : Int32) (x10 : Int32) (x11 : Int32) (x12 : Int32) (t0 : Int32) (t1 : Int32) (u : Nat → Nat → Int32), m_M_isNumber_212 v rec x1 x2 x3 x4 x6 x9 x10 x11 x12 t0 t1 u = some res → zB p l e (zR 2 47) s m args below meth c D vwCl (va_A w0 s.heap.size) (MQ below (zQi D vwCl w0 (wM ad ca v res.2) s.heap.size res.1) args s 0 0 (va_A w0 s.heap.size)) 14 (wM ad ca v u) [(0, .ref (ad 0)), (1, .int x1), (2, .int x2), (3, .int x3), (4, .int x4), (6, .int x6), (9, .int x9), (10, .int x10), (11, .int x11), (12, .int x12)] 212 [.int t0, .int t1] := by
  intro x1 x2 x3 x4 x6 x9 x10 x11 x12 t0 t1 u hm H locs ls hP hD hS hl
  unfold m_M_isNumber_212 at hm
  have G0 := G
  obtain ⟨hx, hb, hr, hml, hown, hw, hlk⟩ := G
  have hA : ∀ q, s.heap.size ≤ q → va_A w0 s.heap.size q := fun q h => Or.inr h
  refine lv_iload hx hb dX6_isNumber_212 (lv_at hl 6 rfl) ?_
  refine lv_icmp_ne (tgt := 221) hx hb dX6_isNumber_214 rfl (fun cd56 => ?_) (fun cd56 => ?_)
  · replace hm := zf cd56 hm
    refine lv_iconst (v := 0) hx hb dX6_isNumber_221 (by decide) ?_
    exact b_M_isNumber_222 G0 hK hX rec hrec _ _ _ _ _ _ _ _ _ _ _ _ hm H _ _ hP hD hS hl
  · replace hm := zt cd56 hm
    refine lv_iconst (v := 1) hx hb dX6_isNumber_217 (by decide) ?_
    refine lv_goto (tgt := 222) hx hb dX6_isNumber_218 rfl ?_
    exact b_M_isNumber_222 G0 hK hX rec hrec _ _ _ _ _ _ _ _ _ _ _ _ hm H _ _ hP hD hS hl
set_option maxRecDepth 100000 in
set_option maxHeartbeats 4000000 in
theorem b_M_isNumber_196 (G : zG p s m args meth c cX6_isNumber RX6 14 (some .boolean)) (hK : va_K D vwCl (wM_t ca) s) (hX : zN (va_A w0 s.heap.size) s) {res : (Int32) × (Nat → Nat → Int32)} (rec : Int32 → Int32 → Int32 → Int32 → Int32 → Int32 → Int32 → Int32 → Int32 → (Nat → Nat → Int32) → Option ((Int32) × (Nat → Nat → Int32))) (hrec : ∀ (x1 : Int32) (x2 : Int32) (x3 : Int32) (x4 : Int32) (x6 : Int32) (x9 : Int32) (x10 : Int32) (x11 : Int32) (x12 : Int32) (u : Nat → Nat → Int32), rec x1 x2 x3 x4 x6 x9 x10 x11 x12 u = some res → zB p l e (zR 2 47) s m args below meth c D vwCl (va_A w0 s.heap.size) (MQ below (zQi D vwCl w0 (wM ad ca v res.2) s.heap.size res.1) args s 0 0 (va_A w0 s.heap.size)) 14 (wM ad ca v u) [(0, .ref (ad 0)), (1, .int x1), (2, .int x2), (3, .int x3), (4, .int x4), (6, .int x6), (9, .int x9), (10, .int x10), (11, .int x11), (12, .int x12)] 162 []) : ∀ (x1 : Int32) (x2 : Int32) (x3 : Int32) (x4 : Int32) (x6 : Int32) (x9 : Int32) (x10 : Int32) (x11 : Int32) (x12 : Int32) (t0 : Int32) (u : Nat → Nat → Int32), m_M_isNumber_196 v rec x1 x2 x3 x4 x6 x9 x10 x11 x12 t0 u = some res → zB p l e (zR 2 47) s m args below meth c D vwCl (va_A w0 s.heap.size) (MQ below (zQi D vwCl w0 (wM ad ca v res.2) s.heap.size res.1) args s 0 0 (va_A w0 s.heap.size)) 14 (wM ad ca v u) [(0, .ref (ad 0)), (1, .int x1), (2, .int x2), (3, .int x3), (4, .int x4), (6, .int x6), (9, .int x9), (10, .int x10), (11, .int x11), (12, .int x12)] 196 [.int t0] := by
  intro x1 x2 x3 x4 x6 x9 x10 x11 x12 t0 u hm H locs ls hP hD hS hl
  unfold m_M_isNumber_196 at hm
  have G0 := G
  obtain ⟨hx, hb, hr, hml, hown, hw, hlk⟩ := G
  have hA : ∀ q, s.heap.size ≤ q → va_A w0 s.heap.size q := fun q h => Or.inr h
  refine lv_istore (lv' := [(13, .int t0), (0, .ref (ad 0)), (1, .int x1), (2, .int x2), (3, .int x3), (4, .int x4), (6, .int x6), (9, .int x9), (10, .int x10), (11, .int x11), (12, .int x12)]) hx hb dX6_isNumber_196 hl (by decide) rfl (fun ls hl => ?_)
  refine lv_iload hx hb dX6_isNumber_198 (lv_at hl 0 rfl) ?_
  refine lv_iload hx hb dX6_isNumber_200 (lv_at hl 9 rfl) ?_
  refine lv_iload hx hb dX6_isNumber_202 (lv_at hl 8 rfl) ?_
  refine lv_icmp_ge (tgt := 211) hx hb dX6_isNumber_204 rfl (fun cd55 => ?_) (fun cd55 => ?_)
  · replace hm := zt cd55 hm
    refine lv_iconst (v := 0) hx hb dX6_isNumber_211 (by decide) ?_
    exact b_M_isNumber_212 G0 hK hX rec hrec _ _ _ _ _ _ _ _ _ _ _ _ hm H _ _ hP hD hS (lv_sub hl [1, 2, 3, 4, 5, 6, 7, 8, 9, 10] rfl)
  · replace hm := zf cd55 hm
    refine lv_iconst (v := 1) hx hb dX6_isNumber_207 (by decide) ?_
    refine lv_goto (tgt := 212) hx hb dX6_isNumber_208 rfl ?_
    exact b_M_isNumber_212 G0 hK hX rec hrec _ _ _ _ _ _ _ _ _ _ _ _ hm H _ _ hP hD hS (lv_sub hl [1, 2, 3, 4, 5, 6, 7, 8, 9, 10] rfl)
set_option maxRecDepth 100000 in
set_option maxHeartbeats 4000000 in
theorem b_M_isNumber_162 (G : zG p s m args meth c cX6_isNumber RX6 14 (some .boolean)) (hK : va_K D vwCl (wM_t ca) s) (hX : zN (va_A w0 s.heap.size) s) {res : (Int32) × (Nat → Nat → Int32)} : ∀ n : Nat, ∀ (x1 : Int32) (x2 : Int32) (x3 : Int32) (x4 : Int32) (x6 : Int32) (x9 : Int32) (x10 : Int32) (x11 : Int32) (x12 : Int32) (u : Nat → Nat → Int32), m_M_isNumber_162 v n x1 x2 x3 x4 x6 x9 x10 x11 x12 u = some res → zB p l e (zR 2 47) s m args below meth c D vwCl (va_A w0 s.heap.size) (MQ below (zQi D vwCl w0 (wM ad ca v res.2) s.heap.size res.1) args s 0 0 (va_A w0 s.heap.size)) 14 (wM ad ca v u) [(0, .ref (ad 0)), (1, .int x1), (2, .int x2), (3, .int x3), (4, .int x4), (6, .int x6), (9, .int x9), (10, .int x10), (11, .int x11), (12, .int x12)] 162 [] := by
  intro n
  induction n with
  | zero => intro x1 x2 x3 x4 x6 x9 x10 x11 x12 u hm; cases hm
  | succ n ih =>
  have hrec := ih
  intro x1 x2 x3 x4 x6 x9 x10 x11 x12 u hm H locs ls hP hD hS hl
  replace hm : m_M_isNumber_162b v (m_M_isNumber_162 v n) x1 x2 x3 x4 x6 x9 x10 x11 x12 u = some res := hm
  generalize m_M_isNumber_162 v n = rec at hm hrec
  unfold m_M_isNumber_162b at hm
  clear ih
  have G0 := G
  obtain ⟨hx, hb, hr, hml, hown, hw, hlk⟩ := G
  have hA : ∀ q, s.heap.size ≤ q → va_A w0 s.heap.size q := fun q h => Or.inr h
  refine lv_iload hx hb dX6_isNumber_162 (lv_at hl 9 rfl) ?_
  refine lv_iload_n hx hb dX6_isNumber_164 rfl (lv_at hl 1 rfl) ?_
  refine lv_icmp_ge (tgt := 236) hx hb dX6_isNumber_165 rfl (fun cd43 => ?_) (fun cd43 => ?_)
  · replace hm := zt cd43 hm
    refine lv_iload hx hb dX6_isNumber_236 (lv_at hl 5 rfl) ?_
    refine lv_if_lt (tgt := 282) hx hb dX6_isNumber_238 rfl (fun cd44 => ?_) (fun cd44 => ?_)
    · replace hm := zt cd44 hm
      exact b_M_isNumber_282 G0 hK hX _ _ _ _ _ _ _ hm H _ _ hP hD hS (lv_sub hl [0, 1, 2, 3, 4, 5, 6] rfl)
    · replace hm := zf cd44 hm
      refine lv_iload hx hb dX6_isNumber_241 (lv_at hl 6 rfl) ?_
      refine lv_if_eq (tgt := 264) hx hb dX6_isNumber_243 rfl (fun cd45 => ?_) (fun cd45 => ?_)
      · replace hm := zt cd45 hm
        refine lv_iload hx hb dX6_isNumber_264 (lv_at hl 5 rfl) ?_
        refine lv_iload_n hx hb dX6_isNumber_266 rfl (lv_at hl 2 rfl) ?_
        refine lv_iload_n hx hb dX6_isNumber_267 rfl (lv_at hl 3 rfl) ?_
        refine lv_iadd hx hb dX6_isNumber_268 ?_
        refine lv_icmp_eq (tgt := 282) hx hb dX6_isNumber_269 rfl (fun cd46 => ?_) (fun cd46 => ?_)
        · replace hm := zt cd46 hm
          exact b_M_isNumber_282 G0 hK hX _ _ _ _ _ _ _ hm H _ _ hP hD hS (lv_sub hl [0, 1, 2, 3, 4, 5, 6] rfl)
        · replace hm := zf cd46 hm
          refine lv_iload hx hb dX6_isNumber_272 (lv_at hl 5 rfl) ?_
          refine lv_iload_n hx hb dX6_isNumber_274 rfl (lv_at hl 1 rfl) ?_
          refine lv_iconst (v := 1) hx hb dX6_isNumber_275 (by decide) ?_
          refine lv_isub hx hb dX6_isNumber_276 ?_
          refine lv_icmp_eq (tgt := 282) hx hb dX6_isNumber_277 rfl (fun cd47 => ?_) (fun cd47 => ?_)
          · replace hm := zt cd47 hm
            exact b_M_isNumber_282 G0 hK hX _ _ _ _ _ _ _ hm H _ _ hP hD hS (lv_sub hl [0, 1, 2, 3, 4, 5, 6] rfl)
          · replace hm := zf cd47 hm
            refine lv_iconst (v := 0) hx hb dX6_isNumber_280 (by decide) ?_
            obtain ⟨hz48, -, hm⟩ := zbo_s hm
            cases hm
            exact zretz hx hb hr hlk hz48 hP hD hS dX6_isNumber_281
      · replace hm := zf cd45 hm
        refine lv_iload hx hb dX6_isNumber_246 (lv_at hl 5 rfl) ?_
        refine lv_iload_n hx hb dX6_isNumber_248 rfl (lv_at hl 2 rfl) ?_
        refine lv_icmp_eq (tgt := 282) hx hb dX6_isNumber_249 rfl (fun cd49 => ?_) (fun cd49 => ?_)
        · replace hm := zt cd49 hm
          exact b_M_isNumber_282 G0 hK hX _ _ _ _ _ _ _ hm H _ _ hP hD hS (lv_sub hl [0, 1, 2, 3, 4, 5, 6] rfl)
        · replace hm := zf cd49 hm
          refine lv_iload hx hb dX6_isNumber_252 (lv_at hl 5 rfl) ?_
          refine lv_iload_n hx hb dX6_isNumber_254 rfl (lv_at hl 2 rfl) ?_
          refine lv_iload hx hb dX6_isNumber_255 (lv_at hl 4 rfl) ?_
          refine lv_iadd hx hb dX6_isNumber_257 ?_
          refine lv_icmp_eq (tgt := 282) hx hb dX6_isNumber_258 rfl (fun cd50 => ?_) (fun cd50 => ?_)
          · replace hm := zt cd50 hm
            exact b_M_isNumber_282 G0 hK hX _ _ _ _ _ _ _ hm H _ _ hP hD hS (lv_sub hl [0, 1, 2, 3, 4, 5, 6] rfl)
          · replace hm := zf cd50 hm
            refine lv_goto (tgt := 280) hx hb dX6_isNumber_261 rfl ?_
            refine lv_iconst (v := 0) hx hb dX6_isNumber_280 (by decide) ?_
            obtain ⟨hz51, -, hm⟩ := zbo_s hm
            cases hm
            exact zretz hx hb hr hlk hz51 hP hD hS dX6_isNumber_281
  · replace hm := zf cd43 hm
    refine lv_iload hx hb dX6_isNumber_168 (lv_at hl 9 rfl) ?_
    refine lv_iload hx hb dX6_isNumber_170 (lv_at hl 5 rfl) ?_
    refine lv_icmp_ne (tgt := 178) hx hb dX6_isNumber_172 rfl (fun cd52 => ?_) (fun cd52 => ?_)
    · replace hm := zf cd52 hm
      refine lv_aload_n hx hb dX6_isNumber_178 rfl (lv_at hl 0 rfl) ?_
      refine lv_bipush (v := 8) hx hb dX6_isNumber_179 (by decide) ?_
      refine lv_iload hx hb dX6_isNumber_181 (lv_at hl 9 rfl) ?_
      obtain ⟨q53, hq53, hm⟩ := zbind hm
      refine zbWi (va_runV (As := [.int 8, .int x12]) (rest := []) ⟨hx, hb, hml, hown, hw⟩ (k_M_sym l D ad ca _ 8 x12 v u  q53 hq53) (zcV (C := RX6) 2 hw (zgood zw14) rfl rfl rfl zw7 zw16 zw15 zw17 hdX6_sym ⟨Nat.le_of_ble_eq_true rfl, Nat.le_of_ble_eq_true rfl⟩) (zpreV (zpre zN_ok trivial hS (zfree hD hS hA) hP hK hD) (va_recv hK hP rfl (q0 := 0) rfl)) rfl rfl hl.1 rfl (lv_room (Nat.le_of_ble_eq_true rfl)) dX6_isNumber_183 ⟨Nat.zero_le _, Nat.zero_le _⟩) hS (zfree hD hS hA) (fun H locs hP hD hS => ?_)
      refine lv_bipush (v := 80) hx hb dX6_isNumber_186 (by decide) ?_
      refine lv_icmp_ne (tgt := 195) hx hb dX6_isNumber_188 rfl (fun cd54 => ?_) (fun cd54 => ?_)
      · replace hm := zf cd54 hm
        refine lv_iconst (v := 0) hx hb dX6_isNumber_195 (by decide) ?_
        exact b_M_isNumber_196 G0 hK hX rec hrec _ _ _ _ _ _ _ _ _ _ _ hm H _ _ hP hD hS hl
      · replace hm := zt cd54 hm
        refine lv_iconst (v := 1) hx hb dX6_isNumber_191 (by decide) ?_
        refine lv_goto (tgt := 196) hx hb dX6_isNumber_192 rfl ?_
        exact b_M_isNumber_196 G0 hK hX rec hrec _ _ _ _ _ _ _ _ _ _ _ hm H _ _ hP hD hS hl
    · replace hm := zt cd52 hm
      refine lv_goto (tgt := 230) hx hb dX6_isNumber_175 rfl ?_
      exact b_M_isNumber_230 G0 hK hX rec hrec _ _ _ _ _ _ _ _ _ _ hm H _ _ hP hD hS hl
set_option maxRecDepth 100000 in
set_option maxHeartbeats 4000000 in
theorem b_M_isNumber_154 (G : zG p s m args meth c cX6_isNumber RX6 14 (some .boolean)) (hK : va_K D vwCl (wM_t ca) s) (hX : zN (va_A w0 s.heap.size) s) {res : (Int32) × (Nat → Nat → Int32)} : ∀ (x1 : Int32) (x2 : Int32) (x3 : Int32) (x4 : Int32) (x6 : Int32) (x9 : Int32) (t0 : Int32) (u : Nat → Nat → Int32), m_M_isNumber_154 v x1 x2 x3 x4 x6 x9 t0 u = some res → zB p l e (zR 2 47) s m args below meth c D vwCl (va_A w0 s.heap.size) (MQ below (zQi D vwCl w0 (wM ad ca v res.2) s.heap.size res.1) args s 0 0 (va_A w0 s.heap.size)) 14 (wM ad ca v u) [(0, .ref (ad 0)), (1, .int x1), (2, .int x2), (3, .int x3), (4, .int x4), (6, .int x6), (9, .int x9)] 154 [.int t0] := by
  intro x1 x2 x3 x4 x6 x9 t0 u hm H locs ls hP hD hS hl
  unfold m_M_isNumber_154 at hm
  have G0 := G
  obtain ⟨hx, hb, hr, hml, hown, hw, hlk⟩ := G
  have hA : ∀ q, s.heap.size ≤ q → va_A w0 s.heap.size q := fun q h => Or.inr h
  refine lv_istore (lv' := [(10, .int t0), (0, .ref (ad 0)), (1, .int x1), (2, .int x2), (3, .int x3), (4, .int x4), (6, .int x6), (9, .int x9)]) hx hb dX6_isNumber_154 hl (by decide) rfl (fun ls hl => ?_)
  refine lv_iconst (v := 0) hx hb dX6_isNumber_156 (by decide) ?_
  refine lv_istore (lv' := [(11, .int 0), (10, .int t0), (0, .ref (ad 0)), (1, .int x1), (2, .int x2), (3, .int x3), (4, .int x4), (6, .int x6), (9, .int x9)]) hx hb dX6_isNumber_157 hl (by decide) rfl (fun ls hl => ?_)
  refine lv_iload_n hx hb dX6_isNumber_159 rfl (lv_at hl 4 rfl) ?_
  refine lv_istore (lv' := [(12, .int x2), (11, .int 0), (10, .int t0), (0, .ref (ad 0)), (1, .int x1), (2, .int x2), (3, .int x3), (4, .int x4), (6, .int x6), (9, .int x9)]) hx hb dX6_isNumber_160 hl (by decide) rfl (fun ls hl => ?_)
  exact b_M_isNumber_162 G0 hK hX 64 _ _ _ _ _ _ _ _ _ _ hm H _ _ hP hD hS (lv_sub hl [3, 4, 5, 6, 7, 8, 9, 2, 1, 0] rfl)
set_option maxRecDepth 100000 in
set_option maxHeartbeats 4000000 in
theorem b_M_isNumber_136 (G : zG p s m args meth c cX6_isNumber RX6 14 (some .boolean)) (hK : va_K D vwCl (wM_t ca) s) (hX : zN (va_A w0 s.heap.size) s) {res : (Int32) × (Nat → Nat → Int32)} : ∀ (x1 : Int32) (x2 : Int32) (x3 : Int32) (x4 : Int32) (x6 : Int32) (t0 : Int32) (u : Nat → Nat → Int32), m_M_isNumber_136 v x1 x2 x3 x4 x6 t0 u = some res → zB p l e (zR 2 47) s m args below meth c D vwCl (va_A w0 s.heap.size) (MQ below (zQi D vwCl w0 (wM ad ca v res.2) s.heap.size res.1) args s 0 0 (va_A w0 s.heap.size)) 14 (wM ad ca v u) [(0, .ref (ad 0)), (1, .int x1), (2, .int x2), (3, .int x3), (4, .int x4), (6, .int x6)] 136 [.int t0] := by
  intro x1 x2 x3 x4 x6 t0 u hm H locs ls hP hD hS hl
  unfold m_M_isNumber_136 at hm
  have G0 := G
  obtain ⟨hx, hb, hr, hml, hown, hw, hlk⟩ := G
  have hA : ∀ q, s.heap.size ≤ q → va_A w0 s.heap.size q := fun q h => Or.inr h
  refine lv_istore (lv' := [(9, .int t0), (0, .ref (ad 0)), (1, .int x1), (2, .int x2), (3, .int x3), (4, .int x4), (6, .int x6)]) hx hb dX6_isNumber_136 hl (by decide) rfl (fun ls hl => ?_)
  refine lv_iload hx hb dX6_isNumber_138 (lv_at hl 5 rfl) ?_
  refine lv_if_le (tgt := 282) hx hb dX6_isNumber_140 rfl (fun cd18 => ?_) (fun cd18 => ?_)
  · replace hm := zt cd18 hm
    exact b_M_isNumber_282 G0 hK hX _ _ _ _ _ _ _ hm H _ _ hP hD hS (lv_sub hl [1, 2, 3, 4, 5, 6, 0] rfl)
  · replace hm := zf cd18 hm
    refine lv_iload hx hb dX6_isNumber_143 (lv_at hl 0 rfl) ?_
    refine lv_if_eq (tgt := 153) hx hb dX6_isNumber_145 rfl (fun cd42 => ?_) (fun cd42 => ?_)
    · replace hm := zt cd42 hm
      refine lv_iload_n hx hb dX6_isNumber_153 rfl (lv_at hl 4 rfl) ?_
      exact b_M_isNumber_154 G0 hK hX _ _ _ _ _ _ _ _ hm H _ _ hP hD hS (lv_sub hl [1, 2, 3, 4, 5, 6, 0] rfl)
    · replace hm := zf cd42 hm
      refine lv_iload hx hb dX6_isNumber_148 (lv_at hl 5 rfl) ?_
      refine lv_goto (tgt := 154) hx hb dX6_isNumber_150 rfl ?_
      exact b_M_isNumber_154 G0 hK hX _ _ _ _ _ _ _ _ hm H _ _ hP hD hS (lv_sub hl [1, 2, 3, 4, 5, 6, 0] rfl)
set_option maxRecDepth 100000 in
set_option maxHeartbeats 4000000 in
theorem b_M_isNumber_135 (G : zG p s m args meth c cX6_isNumber RX6 14 (some .boolean)) (hK : va_K D vwCl (wM_t ca) s) (hX : zN (va_A w0 s.heap.size) s) {res : (Int32) × (Nat → Nat → Int32)} : ∀ (x1 : Int32) (x2 : Int32) (x3 : Int32) (x4 : Int32) (x6 : Int32) (u : Nat → Nat → Int32), m_M_isNumber_135 v x1 x2 x3 x4 x6 u = some res → zB p l e (zR 2 47) s m args below meth c D vwCl (va_A w0 s.heap.size) (MQ below (zQi D vwCl w0 (wM ad ca v res.2) s.heap.size res.1) args s 0 0 (va_A w0 s.heap.size)) 14 (wM ad ca v u) [(0, .ref (ad 0)), (1, .int x1), (2, .int x2), (3, .int x3), (4, .int x4), (6, .int x6)] 135 [] := by
  intro x1 x2 x3 x4 x6 u hm H locs ls hP hD hS hl
  unfold m_M_isNumber_135 at hm
  have G0 := G
  obtain ⟨hx, hb, hr, hml, hown, hw, hlk⟩ := G
  have hA : ∀ q, s.heap.size ≤ q → va_A w0 s.heap.size q := fun q h => Or.inr h
  refine lv_iconst (v := 0) hx hb dX6_isNumber_135 (by decide) ?_
  exact b_M_isNumber_136 G0 hK hX _ _ _ _ _ _ _ hm H _ _ hP hD hS hl
set_option maxRecDepth 100000 in
set_option maxHeartbeats 4000000 in
theorem b_M_isNumber_25 (G : zG p s m args meth c cX6_isNumber RX6 14 (some .boolean)) (hK : va_K D vwCl (wM_t ca) s) (hX : zN (va_A w0 s.heap.size) s) {res : (Int32) × (Nat → Nat → Int32)} : ∀ (x1 : Int32) (t0 : Int32) (u : Nat → Nat → Int32), m_M_isNumber_25 v x1 t0 u = some res → zB p l e (zR 2 47) s m args below meth c D vwCl (va_A w0 s.heap.size) (MQ below (zQi D vwCl w0 (wM ad ca v res.2) s.heap.size res.1) args s 0 0 (va_A w0 s.heap.size)) 14 (wM ad ca v u) [(0, .ref (ad 0)), (1, .int x1)] 25 [.int t0] := by
  intro x1 t0 u hm H locs ls hP hD hS hl
  unfold m_M_isNumber_25 at hm
  have G0 := G
  obtain ⟨hx, hb, hr, hml, hown, hw, hlk⟩ := G
  have hA : ∀ q, s.heap.size ≤ q → va_A w0 s.heap.size q := fun q h => Or.inr h
  refine lv_istore_n (lv' := [(2, .int t0), (0, .ref (ad 0)), (1, .int x1)]) hx hb dX6_isNumber_25 rfl hl (by decide) rfl (fun ls hl => ?_)
  refine lv_aload_n hx hb dX6_isNumber_26 rfl (lv_at hl 1 rfl) ?_
  refine lv_bipush (v := 57) hx hb dX6_isNumber_27 (by decide) ?_
  refine lv_iload_n hx hb dX6_isNumber_29 rfl (lv_at hl 0 rfl) ?_
  refine lv_iload_n hx hb dX6_isNumber_30 rfl (lv_at hl 2 rfl) ?_
  obtain ⟨q4, hq4, hm⟩ := zbind hm
  refine zbWi (va_runV (As := [.int 57, .int t0, .int x1]) (rest := []) ⟨hx, hb, hml, hown, hw⟩ (k_M_countOf l D ad ca _ 57 t0 x1 v u  q4 hq4) (zcV (C := RX6) 3 hw (zgood zw38) rfl rfl rfl zw7 zw40 zw39 zw41 hdX6_countOf ⟨Nat.le_of_ble_eq_true rfl, Nat.le_of_ble_eq_true rfl⟩) (zpreV (zpre zN_ok trivial hS (zfree hD hS hA) hP hK hD) (va_recv hK hP rfl (q0 := 0) rfl)) rfl rfl hl.1 rfl (lv_room (Nat.le_of_ble_eq_true rfl)) dX6_isNumber_31 ⟨Nat.zero_le _, Nat.zero_le _⟩) hS (zfree hD hS hA) (fun H locs hP hD hS => ?_)
  refine lv_istore_n (lv' := [(3, .int q4), (2, .int t0), (0, .ref (ad 0)), (1, .int x1)]) hx hb dX6_isNumber_34 rfl hl (by decide) rfl (fun ls hl => ?_)
  refine lv_aload_n hx hb dX6_isNumber_35 rfl (lv_at hl 2 rfl) ?_
  refine lv_bipush (v := 80) hx hb dX6_isNumber_36 (by decide) ?_
  refine lv_iload_n hx hb dX6_isNumber_38 rfl (lv_at hl 1 rfl) ?_
  refine lv_iload_n hx hb dX6_isNumber_39 rfl (lv_at hl 3 rfl) ?_
  obtain ⟨q5, hq5, hm⟩ := zbind hm
  refine zbWi (va_runV (As := [.int 80, .int t0, .int x1]) (rest := []) ⟨hx, hb, hml, hown, hw⟩ (k_M_countOf l D ad ca _ 80 t0 x1 v u  q5 hq5) (zcV (C := RX6) 3 hw (zgood zw38) rfl rfl rfl zw7 zw40 zw39 zw41 hdX6_countOf ⟨Nat.le_of_ble_eq_true rfl, Nat.le_of_ble_eq_true rfl⟩) (zpreV (zpre zN_ok trivial hS (zfree hD hS hA) hP hK hD) (va_recv hK hP rfl (q0 := 0) rfl)) rfl rfl hl.1 rfl (lv_room (Nat.le_of_ble_eq_true rfl)) dX6_isNumber_40 ⟨Nat.zero_le _, Nat.zero_le _⟩) hS (zfree hD hS hA) (fun H locs hP hD hS => ?_)
  refine lv_istore (lv' := [(4, .int q5), (3, .int q4), (2, .int t0), (0, .ref (ad 0)), (1, .int x1)]) hx hb dX6_isNumber_43 hl (by decide) rfl (fun ls hl => ?_)
  refine lv_aload_n hx hb dX6_isNumber_45 rfl (lv_at hl 3 rfl) ?_
  refine lv_bipush (v := 86) hx hb dX6_isNumber_46 (by decide) ?_
  refine lv_iload_n hx hb dX6_isNumber_48 rfl (lv_at hl 2 rfl) ?_
  refine lv_iload_n hx hb dX6_isNumber_49 rfl (lv_at hl 4 rfl) ?_
  obtain ⟨q6, hq6, hm⟩ := zbind hm
  refine zbWi (va_runV (As := [.int 86, .int t0, .int x1]) (rest := []) ⟨hx, hb, hml, hown, hw⟩ (k_M_countOf l D ad ca _ 86 t0 x1 v u  q6 hq6) (zcV (C := RX6) 3 hw (zgood zw38) rfl rfl rfl zw7 zw40 zw39 zw41 hdX6_countOf ⟨Nat.le_of_ble_eq_true rfl, Nat.le_of_ble_eq_true rfl⟩) (zpreV (zpre zN_ok trivial hS (zfree hD hS hA) hP hK hD) (va_recv hK hP rfl (q0 := 0) rfl)) rfl rfl hl.1 rfl (lv_room (Nat.le_of_ble_eq_true rfl)) dX6_isNumber_50 ⟨Nat.zero_le _, Nat.zero_le _⟩) hS (zfree hD hS hA) (fun H locs hP hD hS => ?_)
  refine lv_istore (lv' := [(5, .int q6), (4, .int q5), (3, .int q4), (2, .int t0), (0, .ref (ad 0)), (1, .int x1)]) hx hb dX6_isNumber_53 hl (by decide) rfl (fun ls hl => ?_)
  refine lv_iload_n hx hb dX6_isNumber_55 rfl (lv_at hl 2 rfl) ?_
  refine lv_iload hx hb dX6_isNumber_56 (lv_at hl 1 rfl) ?_
  refine lv_iadd hx hb dX6_isNumber_58 ?_
  refine lv_iload hx hb dX6_isNumber_59 (lv_at hl 0 rfl) ?_
  refine lv_iadd hx hb dX6_isNumber_61 ?_
  refine lv_iload_n hx hb dX6_isNumber_62 rfl (lv_at hl 5 rfl) ?_
  refine lv_iload_n hx hb dX6_isNumber_63 rfl (lv_at hl 3 rfl) ?_
  refine lv_isub hx hb dX6_isNumber_64 ?_
  refine lv_icmp_ne (tgt := 87) hx hb dX6_isNumber_65 rfl (fun cd7 => ?_) (fun cd7 => ?_)
  · replace hm := zf cd7 hm
    refine lv_iconst (v := 0) hx hb dX6_isNumber_87 (by decide) ?_
    obtain ⟨hz8, -, hm⟩ := zbo_s hm
    cases hm
    exact zretz hx hb hr hlk hz8 hP hD hS dX6_isNumber_88
  · replace hm := zt cd7 hm
    refine lv_iload_n hx hb dX6_isNumber_68 rfl (lv_at hl 2 rfl) ?_
    refine lv_if_eq (tgt := 87) hx hb dX6_isNumber_69 rfl (fun cd9 => ?_) (fun cd9 => ?_)
    · replace hm := zt cd9 hm
      refine lv_iconst (v := 0) hx hb dX6_isNumber_87 (by decide) ?_
      obtain ⟨hz10, -, hm⟩ := zbo_s hm
      cases hm
      exact zretz hx hb hr hlk hz10 hP hD hS dX6_isNumber_88
    · replace hm := zf cd9 hm
      refine lv_iload hx hb dX6_isNumber_72 (lv_at hl 0 rfl) ?_
      refine lv_iconst (v := 1) hx hb dX6_isNumber_74 (by decide) ?_
      refine lv_icmp_gt (tgt := 87) hx hb dX6_isNumber_75 rfl (fun cd11 => ?_) (fun cd11 => ?_)
      · replace hm := zt cd11 hm
        refine lv_iconst (v := 0) hx hb dX6_isNumber_87 (by decide) ?_
        obtain ⟨hz12, -, hm⟩ := zbo_s hm
        cases hm
        exact zretz hx hb hr hlk hz12 hP hD hS dX6_isNumber_88
      · replace hm := zf cd11 hm
        refine lv_iload_n hx hb dX6_isNumber_78 rfl (lv_at hl 2 rfl) ?_
        refine lv_iload hx hb dX6_isNumber_79 (lv_at hl 1 rfl) ?_
        refine lv_iadd hx hb dX6_isNumber_81 ?_
        refine lv_bipush (v := 12) hx hb dX6_isNumber_82 (by decide) ?_
        refine lv_icmp_le (tgt := 89) hx hb dX6_isNumber_84 rfl (fun cd13 => ?_) (fun cd13 => ?_)
        · replace hm := zt cd13 hm
          refine lv_aload_n hx hb dX6_isNumber_89 rfl (lv_at hl 4 rfl) ?_
          refine lv_bipush (v := 86) hx hb dX6_isNumber_90 (by decide) ?_
          refine lv_iload_n hx hb dX6_isNumber_92 rfl (lv_at hl 3 rfl) ?_
          refine lv_iload_n hx hb dX6_isNumber_93 rfl (lv_at hl 5 rfl) ?_
          obtain ⟨q14, hq14, hm⟩ := zbind hm
          refine zbWi (va_runV (As := [.int 86, .int t0, .int x1]) (rest := []) ⟨hx, hb, hml, hown, hw⟩ (k_M_firstOf l D ad ca _ 86 t0 x1 v u  q14 hq14) (zcV (C := RX6) 3 hw (zgood zw42) rfl rfl rfl zw7 zw44 zw43 zw45 hdX6_firstOf ⟨Nat.le_of_ble_eq_true rfl, Nat.le_of_ble_eq_true rfl⟩) (zpreV (zpre zN_ok trivial hS (zfree hD hS hA) hP hK hD) (va_recv hK hP rfl (q0 := 0) rfl)) rfl rfl hl.1 rfl (lv_room (Nat.le_of_ble_eq_true rfl)) dX6_isNumber_94 ⟨Nat.zero_le _, Nat.zero_le _⟩) hS (zfree hD hS hA) (fun H locs hP hD hS => ?_)
          refine lv_istore (lv' := [(6, .int q14), (5, .int q6), (4, .int q5), (3, .int q4), (2, .int t0), (0, .ref (ad 0)), (1, .int x1)]) hx hb dX6_isNumber_97 hl (by decide) rfl (fun ls hl => ?_)
          refine lv_aload_n hx hb dX6_isNumber_99 rfl (lv_at hl 5 rfl) ?_
          refine lv_bipush (v := 80) hx hb dX6_isNumber_100 (by decide) ?_
          refine lv_iload_n hx hb dX6_isNumber_102 rfl (lv_at hl 4 rfl) ?_
          refine lv_iload_n hx hb dX6_isNumber_103 rfl (lv_at hl 6 rfl) ?_
          obtain ⟨q15, hq15, hm⟩ := zbind hm
          refine zbWi (va_runV (As := [.int 80, .int t0, .int x1]) (rest := []) ⟨hx, hb, hml, hown, hw⟩ (k_M_firstOf l D ad ca _ 80 t0 x1 v u  q15 hq15) (zcV (C := RX6) 3 hw (zgood zw42) rfl rfl rfl zw7 zw44 zw43 zw45 hdX6_firstOf ⟨Nat.le_of_ble_eq_true rfl, Nat.le_of_ble_eq_true rfl⟩) (zpreV (zpre zN_ok trivial hS (zfree hD hS hA) hP hK hD) (va_recv hK hP rfl (q0 := 0) rfl)) rfl rfl hl.1 rfl (lv_room (Nat.le_of_ble_eq_true rfl)) dX6_isNumber_104 ⟨Nat.zero_le _, Nat.zero_le _⟩) hS (zfree hD hS hA) (fun H locs hP hD hS => ?_)
          refine lv_istore (lv' := [(7, .int q15), (6, .int q14), (5, .int q6), (4, .int q5), (3, .int q4), (2, .int t0), (0, .ref (ad 0)), (1, .int x1)]) hx hb dX6_isNumber_107 hl (by decide) rfl (fun ls hl => ?_)
          refine lv_aload_n hx hb dX6_isNumber_109 rfl (lv_at hl 6 rfl) ?_
          refine lv_bipush (v := 57) hx hb dX6_isNumber_110 (by decide) ?_
          refine lv_iload_n hx hb dX6_isNumber_112 rfl (lv_at hl 5 rfl) ?_
          refine lv_iload_n hx hb dX6_isNumber_113 rfl (lv_at hl 7 rfl) ?_
          obtain ⟨q16, hq16, hm⟩ := zbind hm
          refine zbWi (va_runV (As := [.int 57, .int t0, .int x1]) (rest := []) ⟨hx, hb, hml, hown, hw⟩ (k_M_firstOf l D ad ca _ 57 t0 x1 v u  q16 hq16) (zcV (C := RX6) 3 hw (zgood zw42) rfl rfl rfl zw7 zw44 zw43 zw45 hdX6_firstOf ⟨Nat.le_of_ble_eq_true rfl, Nat.le_of_ble_eq_true rfl⟩) (zpreV (zpre zN_ok trivial hS (zfree hD hS hA) hP hK hD) (va_recv hK hP rfl (q0 := 0) rfl)) rfl rfl hl.1 rfl (lv_room (Nat.le_of_ble_eq_true rfl)) dX6_isNumber_114 ⟨Nat.zero_le _, Nat.zero_le _⟩) hS (zfree hD hS hA) (fun H locs hP hD hS => ?_)
          refine lv_istore (lv' := [(8, .int q16), (7, .int q15), (6, .int q14), (5, .int q6), (4, .int q5), (3, .int q4), (2, .int t0), (0, .ref (ad 0)), (1, .int x1)]) hx hb dX6_isNumber_117 hl (by decide) rfl (fun ls hl => ?_)
          refine lv_iload hx hb dX6_isNumber_119 (lv_at hl 4 rfl) ?_
          refine lv_if_le (tgt := 135) hx hb dX6_isNumber_121 rfl (fun cd17 => ?_) (fun cd17 => ?_)
          · replace hm := zt cd17 hm
            exact b_M_isNumber_135 G0 hK hX _ _ _ _ _ _ hm H _ _ hP hD hS (lv_sub hl [7, 8, 6, 5, 4, 2] rfl)
          · replace hm := zf cd17 hm
            refine lv_iload hx hb dX6_isNumber_124 (lv_at hl 1 rfl) ?_
            refine lv_iload hx hb dX6_isNumber_126 (lv_at hl 0 rfl) ?_
            refine lv_icmp_ge (tgt := 135) hx hb dX6_isNumber_128 rfl (fun cd59 => ?_) (fun cd59 => ?_)
            · replace hm := zt cd59 hm
              exact b_M_isNumber_135 G0 hK hX _ _ _ _ _ _ hm H _ _ hP hD hS (lv_sub hl [7, 8, 6, 5, 4, 2] rfl)
            · replace hm := zf cd59 hm
              refine lv_iconst (v := 1) hx hb dX6_isNumber_131 (by decide) ?_
              refine lv_goto (tgt := 136) hx hb dX6_isNumber_132 rfl ?_
              exact b_M_isNumber_136 G0 hK hX _ _ _ _ _ _ _ hm H _ _ hP hD hS (lv_sub hl [7, 8, 6, 5, 4, 2] rfl)
        · replace hm := zf cd13 hm
          refine lv_iconst (v := 0) hx hb dX6_isNumber_87 (by decide) ?_
          obtain ⟨hz60, -, hm⟩ := zbo_s hm
          cases hm
          exact zretz hx hb hr hlk hz60 hP hD hS dX6_isNumber_88
end
set_option maxRecDepth 100000 in
set_option maxHeartbeats 4000000 in
theorem k_M_isNumber (l : Launch) (D : va_G) (ad : Nat → Nat) (ca : Nat → ClassId) (sz : Nat)  (v : Nat → Int32) (u : Nat → Nat → Int32) (res : (Int32) × (Nat → Nat → Int32)) (hm : m_M_isNumber  v u  = some res) : Met l yX6_isNumber (Cond.code yX6_isNumber cX6_isNumber 14 (some .boolean) :: zBIG) (zR 2 47) (va_Pc [.ref (ad 0)] (zP zN D vwCl (wM_t ca) (wM ad ca v u) sz)) (zQi D vwCl (wM ad ca v u) (wM ad ca v res.2) sz res.1) 0 0 (va_A (wM ad ca v u) sz) := by
  refine zEnter RX6 [.ref (ad 0)] (by decide) rfl (Nat.le_of_ble_eq_true rfl) (fun p e s m below meth c ls G hK hX hP hD hsz hl => ?_)
  subst hsz
  unfold m_M_isNumber at hm
  have hl : lv_has ls 14 [(0, .ref (ad 0))] := hl
  have hS : va_S (va_A (wM ad ca v u) s.heap.size) s.heap s.heap [] := va_S.rf
  have hA : ∀ q, s.heap.size ≤ q → va_A (wM ad ca v u) s.heap.size q := fun q h => Or.inr h
  have G0 := G
  obtain ⟨hx, hb, hr, hml, hown, hw, hlk⟩ := G
  refine lv_aload_n hx hb dX6_isNumber_0 rfl (lv_at hl 0 rfl) ?_
  refine va_get (D := D) (ci := 5) (v := .ref (ad 2)) (C := RX6) (T := TX6) (N := 24) hx hb hw zinX6 hown hK hP 0 rfl rfl 4 (by decide) (hw _ zw5) (fun _ h9 => h9) rfl dX6_isNumber_1 ?_
  refine lv_bipush (v := 8) hx hb dX6_isNumber_4 (by decide) ?_
  obtain ⟨hi1, hm⟩ := zix_s hm
  refine va_iald (i := 8) (f := (u 2)) (n := 9) hx hb hK hP 2 1 rfl rfl hi1 dX6_isNumber_6 ?_
  refine lv_istore_n (lv' := [(1, .int ((u 2) (8 : Int32).toNatClampNeg)), (0, .ref (ad 0))]) hx hb dX6_isNumber_7 rfl hl (by decide) rfl (fun ls hl => ?_)
  refine lv_aload_n hx hb dX6_isNumber_8 rfl (lv_at hl 1 rfl) ?_
  refine lv_bipush (v := 8) hx hb dX6_isNumber_9 (by decide) ?_
  refine lv_iconst (v := 0) hx hb dX6_isNumber_11 (by decide) ?_
  obtain ⟨q2, hq2, hm⟩ := zbind hm
  refine zbWi (va_runV (As := [.int 8, .int 0]) (rest := []) ⟨hx, hb, hml, hown, hw⟩ (k_M_sym l D ad ca _ 8 0 v u  q2 hq2) (zcV (C := RX6) 2 hw (zgood zw14) rfl rfl rfl zw7 zw16 zw15 zw17 hdX6_sym ⟨Nat.le_of_ble_eq_true rfl, Nat.le_of_ble_eq_true rfl⟩) (zpreV (zpre zN_ok trivial hS (zfree hD hS hA) hP hK hD) (va_recv hK hP rfl (q0 := 0) rfl)) rfl rfl hl.1 rfl (lv_room (Nat.le_of_ble_eq_true rfl)) dX6_isNumber_12 ⟨Nat.zero_le _, Nat.zero_le _⟩) hS (zfree hD hS hA) (fun H locs hP hD hS => ?_)
  refine lv_bipush (v := 83) hx hb dX6_isNumber_15 (by decide) ?_
  refine lv_icmp_ne (tgt := 24) hx hb dX6_isNumber_17 rfl (fun cd3 => ?_) (fun cd3 => ?_)
  · replace hm := zf cd3 hm
    refine lv_iconst (v := 0) hx hb dX6_isNumber_24 (by decide) ?_
    exact b_M_isNumber_25 G0 hK hX _ _ _ hm _ _ _ hP hD hS (lv_sub hl [1, 0] rfl)
  · replace hm := zt cd3 hm
    refine lv_iconst (v := 1) hx hb dX6_isNumber_20 (by decide) ?_
    refine lv_goto (tgt := 25) hx hb dX6_isNumber_21 rfl ?_
    exact b_M_isNumber_25 G0 hK hX _ _ _ hm _ _ _ hP hD hS (lv_sub hl [1, 0] rfl)

