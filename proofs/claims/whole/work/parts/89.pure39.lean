/-- a number is taken: what has changed in the reference -/
def TK (V : Int64) (s : Nat) (v : Nat → Int32) (u : Nat → Nat → Int32) (v' : Nat → Int32) (u' : Nat → Nat → Int32) : Prop := NR V s v' u' ∧ (∀ r, r ≠ 20 → r ≠ 21 → v' r = v r) ∧ (∀ r, r ≠ 17 → u' r = u r) ∧ V.toInt.natAbs < 10 ^ 18
theorem NR_of {V : Int64} {s m : Nat} {sg : Int32} {v : Nat → Int32} {u : Nat → Nat → Int32} (hs : s ≤ 12) (h20 : v 20 = nI s) (h21 : v 21 = sg) (h01 : sg = 0 ∨ sg = 1) (hV : V.toInt = (if sg = 0 then (m : Int) else - (m : Int))) (hd : ∀ j : Nat, j < 48 → u 17 j = nI (m / 10 ^ j % 10)) : NR V s v u ∧ V.toInt.natAbs = m := by
  have hm : V.toInt.natAbs = m := by
    rw [hV]
    split <;> omega
  refine ⟨⟨hs, h20, by rw [h21]; exact h01, fun j hj => by rw [hm, dgz_n]; exact hd j hj, fun h => ?_⟩, hm⟩
  rw [h21]
  rcases h01 with rfl | rfl
  · rw [if_pos rfl] at hV
    constructor
    · intro q; exact absurd q (by decide)
    · intro q; omega
  · rw [if_neg (by decide)] at hV
    constructor
    · intro _; omega
    · intro _; rfl
theorem take_N {u : Nat → Nat → Int32} {x : Nat} (hx : x < 8) {pk : Bool} {f : Nat → Int32} {N a before behind n low : Nat} (hU : rU u x pk f N a before behind n low) (hd : nfd f N a before behind n low) (v : Nat → Int32) {vn b : Nat → Int32} (hC : cU vn pk a before behind n low) (hb : ∀ j, j < fsz pk n → b j = u 16 (32 * x + j)) :
    ∃ V v' u', m_N_number vn b = some V ∧ m_M_takeNumber (nI x) v u = some (v', u') ∧ TK V behind v u v' u' ∧ V.toInt.natAbs = hz (nb b pk n) n * 10 ^ low := by
  have hd' := hd
  obtain ⟨hN, ha, h0, hc, hl, hbh, hbf, hlb, hsp⟩ := hd'
  obtain ⟨V, eV, hV⟩ := C_number (b := b) hC h0 hl ha hlb hbh
  obtain ⟨g0, e0, hg0⟩ := P_nothing v u
  have hU' : rU (zset u 17 g0) x pk f N a before behind n low := by
    obtain ⟨⟨r2, r3, r4, r5, r7, r8, r9, r10⟩, r6, r15⟩ := hU
    have z : ∀ r, r ≠ 17 → zset u 17 g0 r = u r := fun r hr => zset_n u g0 hr
    refine ⟨⟨?_, ?_, ?_, ?_, ?_, ?_, ?_, ?_⟩, ?_, ?_⟩ <;> rw [z _ (by decide)] <;> assumption
  obtain ⟨g, e, hg⟩ := P_takeDigits hx hU' hd (upd (upd v 20 0) 21 0)
  rw [zset_zset] at e
  have r5 : u 5 x = 0 := hU.1.2.2.2.1
  have hfs := fsz_le pk h0
  have hnb : ∀ k, k < n → nb (fun i => zset u 17 g0 16 (32 * x + i)) pk n k = nb b pk n k := by
    intro k hk
    unfold nb
    have := bo_lt (pk := pk) hk
    rw [zset_n u g0 (by decide), hb _ this]
  have hlast : zset u 17 g0 16 (32 * x + (fsz pk n - 1)) = b (fsz pk n - 1) := by
    rw [zset_n u g0 (by decide), hb _ (by omega)]
  rw [hlast] at e
  have hlt : hz (nb b pk n) n * 10 ^ low < 10 ^ 12 := by
    have q1 := hz_lt (nb_le b pk n) n
    have q2 : 10 ^ n * 10 ^ low = 10 ^ (n + low) := (Nat.pow_add ..).symm
    have q3 : 10 ^ (n + low) ≤ 10 ^ 12 := Nat.pow_le_pow_right (by omega) hl
    have q4 : 0 < 10 ^ low := Nat.pow_pos (by omega)
    have q5 := Nat.mul_lt_mul_of_pos_right q1 q4
    omega
  have hNR : NR V behind (upd (upd (upd (upd v 20 0) 21 0) 20 (nI behind)) 21 (nsg pk a (b (fsz pk n - 1)))) (zset u 17 g) ∧ V.toInt.natAbs = hz (nb b pk n) n * 10 ^ low := by
    refine NR_of hbh ?_ ?_ (nsg_01 _ _ _) hV ?_
    · rw [pk_un (by decide), pk_us]
    · rw [pk_us]
    · intro j hj
      rw [zset_s, hg j, zset_s, hz_low (nb_le b pk n)]
      by_cases c : low ≤ j ∧ j < low + n
      · rw [if_pos c, if_pos c, hnb _ (by omega)]
      · rw [if_neg c, if_neg c, hg0 j hj]; rfl
  refine ⟨V, _, _, eV, ?_, ⟨hNR.1, ?_, ?_, by rw [hNR.2]; omega⟩, hNR.2⟩
  · unfold m_M_takeNumber
    rw [e0, Option.bind_some]
    simp only [zix_ok (show x < 9 by omega) (show 9 < 2 ^ 31 by decide), nI_clamp (show x < 2 ^ 31 by omega), zset_n u g0 (show (5 : Nat) ≠ 17 by decide), r5]
    rw [if_neg (by decide), if_neg (by decide), e]; rfl
  · intro r h1 h2
    rw [pk_un h2, pk_un h1, pk_un h2, pk_un h1]
  · intro r hr
    exact zset_n u g hr
/-- the digit that a character shows -/
def chd (c : Int32) : Nat := if dg c = 0 then 0 else dv c
theorem chd_le (c : Int32) : chd c ≤ 9 := by
  unfold chd
  by_cases h : dg c = 0
  · rw [if_pos h]; omega
  · rw [if_neg h]
    obtain ⟨d, hd, rfl⟩ := dg_1 h
    rw [dv_d hd]; omega
theorem chd_is {c : Int32} (h : ¬ dg c = 0) : c - 48 = nI (chd c) := by
  unfold chd
  rw [if_neg h]
  obtain ⟨d, hd, rfl⟩ := dg_1 h
  rw [dv_d hd, show (48 : Int32) = nI 48 from rfl, pk_sub (by omega)]
  congr 1; omega
theorem C_Tnumber_l {v b : Nat → Int32} {N s0 : Nat} (hv : v 1 = nI N) (hN : N ≤ 24) (hs : N ≤ s0 + 12) (hs0 : s0 ≤ N) : ∀ (m k fuel : Nat) (X : Int64), s0 + k + m = N → m < fuel → X.toInt = hz (fun i => chd (b (s0 + i))) k → ∃ Y : Int64, m_T_number_14 v b fuel X (nI (s0 + k)) = some Y ∧ Y.toInt = hz (fun i => chd (b (s0 + i))) (N - s0) := by
  have hle : ∀ k, (fun i => chd (b (s0 + i))) k ≤ 9 := fun k => chd_le _
  intro m
  induction m with
  | zero =>
    intro k fuel X hk hf hX
    obtain ⟨fuel, rfl⟩ : ∃ z, fuel = z + 1 := ⟨fuel - 1, by omega⟩
    refine ⟨X, ?_, by rw [hX]; congr 2; omega⟩
    show m_T_number_14b v b _ X (nI (s0 + k)) = _
    unfold m_T_number_14b
    rw [hv, if_pos (nI_le (by omega) (by omega))]
  | succ m ih =>
    intro k fuel X hk hf hX
    obtain ⟨fuel, rfl⟩ : ∃ z, fuel = z + 1 := ⟨fuel - 1, by omega⟩
    obtain ⟨Y, e, hY⟩ := ih (k + 1) fuel (X * 10 + (nI (chd (b (s0 + k)))).toInt64) (by omega) (by omega) (hz_step (d := fun i => chd (b (s0 + i))) hle (n := k) (by omega) hX)
    refine ⟨Y, ?_, hY⟩
    show m_T_number_14b v b (m_T_number_14 v b fuel) X (nI (s0 + k)) = _
    unfold m_T_number_14b
    rw [hv, if_neg (nI_ge (by omega) (by omega)), zix_ok (by omega) (by decide), nI_clamp (by omega), C_isDigit, Option.bind_some]
    unfold m_T_number_52
    by_cases c : dg (b (s0 + k)) = 0
    · have h0 : chd (b (s0 + k)) = 0 := by unfold chd; rw [if_pos c]
      rw [if_pos c, nI_1, ← e, h0]; rfl
    · rw [if_neg c, zix_ok (by omega) (by decide), chd_is c, nI_1]; exact e
theorem C_Tnumber {v b : Nat → Int32} {N : Nat} (hv : v 1 = nI N) (hN : N ≤ 24) : ∃ Y : Int64, m_T_number v b = some Y ∧ Y.toInt = hz (fun i => chd (b ((N - 12) + i))) (N - (N - 12)) := by
  unfold m_T_number
  have e : (if 0 < v 1 - 12 then v 1 - 12 else 0) = nI (N - 12 + 0) := by
    rw [hv]
    by_cases c : 12 < N
    · rw [show nI N - 12 = nI (N - 12) from pk_sub (b := 12) (by omega), if_pos (show 0 < nI (N - 12) from nI_lt (a := 0) (by omega) (by omega))]; rfl
    · rw [if_neg (by
        rw [Int32.lt_iff_toInt_lt, i32s (by rw [nI_toInt (by omega), show (12 : Int32).toInt = 12 by decide]; omega) (by rw [nI_toInt (by omega), show (12 : Int32).toInt = 12 by decide]; omega), nI_toInt (by omega), show (12 : Int32).toInt = 12 by decide, Int32.toInt_zero]; omega), show N - 12 + 0 = 0 by omega]; rfl
  rw [e]
  exact C_Tnumber_l hv hN (by omega) (by omega) (N - (N - 12)) 0 64 0 (by omega) (by omega) rfl
theorem P_Ttake_l {u0 : Nat → Nat → Int32} {x N : Nat} (hx : x < 8) (h15 : u0 15 x = nI N) (hN : N ≤ 24) (v : Nat → Int32) : ∀ (m k fuel : Nat) (u : Nat → Nat → Int32), k + m = min N 12 → m < fuel → (∀ r, r ≠ 17 → u r = u0 r) → ∃ g : Nat → Int32, m_M_takeNumber_16 fuel (nI x) (nI k) v u = some (v, zset u 17 g) ∧ ∀ j, g j = if k ≤ j ∧ j < min N 12 then nI (chd (u0 16 (32 * x + (N - 1 - j)))) else u 17 j := by
  intro m
  induction m with
  | zero =>
    intro k fuel u hk hf hu
    obtain ⟨fuel, rfl⟩ : ∃ z, fuel = z + 1 := ⟨fuel - 1, by omega⟩
    refine ⟨u 17, ?_, fun j => by rw [if_neg (by omega)]⟩
    show m_M_takeNumber_16b _ (nI x) (nI k) v u = _
    unfold m_M_takeNumber_16b m_M_takeNumber_80
    rw [zix_ok (show x < 9 by omega) (by decide), nI_clamp (show x < 2 ^ 31 by omega), hu 15 (by decide), h15, zset_self]
    by_cases c : N ≤ k
    · rw [if_pos (nI_le c (by omega))]
    · rw [if_neg (nI_ge (by omega) (by omega)), if_pos (show 12 ≤ nI k from nI_le (a := 12) (by omega) (by omega))]
  | succ m ih =>
    intro k fuel u hk hf hu
    obtain ⟨fuel, rfl⟩ : ∃ z, fuel = z + 1 := ⟨fuel - 1, by omega⟩
    obtain ⟨g, e, hg⟩ := ih (k + 1) fuel (zset u 17 (upd (u 17) k (nI (chd (u0 16 (32 * x + (N - 1 - k))))))) (by omega) (by omega) (fun r hr => by rw [zset_n _ _ hr]; exact hu r hr)
    refine ⟨g, ?_, ?_⟩
    · rw [zset_zset] at e
      have hidx : 32 * nI x + nI N - 1 - nI k = nI (32 * x + (N - 1 - k)) := by
        rw [n32, sub1 (by omega), pk_sub (by omega)]; congr 1; omega
      show m_M_takeNumber_16b (m_M_takeNumber_16 fuel) (nI x) (nI k) v u = _
      unfold m_M_takeNumber_16b
      rw [zix_ok (show x < 9 by omega) (by decide), nI_clamp (show x < 2 ^ 31 by omega), hu 15 (by decide), h15, if_neg (nI_ge (by omega) (by omega)), if_neg (show ¬ 12 ≤ nI k from nI_ge (b := 12) (by omega) (by decide)), zix_ok (show x < 9 by omega) (by decide), hidx, zix_ok (by omega) (by decide), nI_clamp (by omega), hu 16 (by decide), P_isDigit, Option.bind_some]
      unfold m_M_takeNumber_73
      by_cases c : dg (u0 16 (32 * x + (N - 1 - k))) = 0
      · have h0 : chd (u0 16 (32 * x + (N - 1 - k))) = 0 := by unfold chd; rw [if_pos c]
        rw [if_pos c, zix_ok (by omega) (by decide), zau_nI _ _ _ _ (by omega), nI_1, ← e, h0]; rfl
      · rw [if_neg c, zix_ok (by omega) (by decide), zau_nI _ _ _ _ (by omega), nI_1, chd_is c, e]
    · intro j
      rw [hg j, zset_s]
      by_cases c : k + 1 ≤ j ∧ j < min N 12
      · rw [if_pos c, if_pos (by omega)]
      · rw [if_neg c]
        by_cases d : j = k
        · rw [d, pk_us, if_pos (by omega)]
        · rw [pk_un d, if_neg (by omega)]
theorem take_T {u : Nat → Nat → Int32} {x : Nat} (hx : x < 8) {N : Nat} (hN : N ≤ 24) (h5 : u 5 x = 1) (h15 : u 15 x = nI N) (v : Nat → Int32) {vt b : Nat → Int32} (hC : vt 1 = nI N) (hb : ∀ j, j < N → b j = u 16 (32 * x + j)) :
    ∃ V v' u', m_T_number vt b = some V ∧ m_M_takeNumber (nI x) v u = some (v', u') ∧ TK V 0 v u v' u' := by
  obtain ⟨V, eV, hV⟩ := C_Tnumber (b := b) hC hN
  obtain ⟨g0, e0, hg0⟩ := P_nothing v u
  obtain ⟨g, e, hg⟩ := P_Ttake_l (u0 := zset u 17 g0) hx (by rw [zset_n _ _ (by decide)]; exact h15) hN (upd (upd v 20 0) 21 0) (min N 12) 0 64 (zset u 17 g0) (by omega) (by omega) (fun _ _ => rfl)
  rw [zset_zset] at e
  have hle : ∀ k, (fun i => chd (b ((N - 12) + i))) k ≤ 9 := fun k => chd_le _
  have hlt := hz_lt hle (N - (N - 12))
  have h12 : 10 ^ (N - (N - 12)) ≤ 10 ^ 12 := Nat.pow_le_pow_right (by omega) (by omega)
  have hNR : NR V 0 (upd (upd v 20 0) 21 0) (zset u 17 g) ∧ V.toInt.natAbs = hz (fun i => chd (b ((N - 12) + i))) (N - (N - 12)) := by
    refine NR_of (sg := 0) (by omega) ?_ ?_ (Or.inl rfl) hV ?_
    · rw [pk_un (by decide), pk_us]; rfl
    · rw [pk_us]
    · intro j hj
      rw [zset_s, hg j, zset_s, hz_dig hle]
      by_cases c : j < min N 12
      · rw [if_pos ⟨by omega, c⟩, if_pos (by omega), zset_n _ _ (by decide), ← hb _ (by omega)]
        show nI (chd (b (N - 1 - j))) = nI (chd (b (N - 12 + (N - (N - 12) - 1 - j))))
        rw [show N - 12 + (N - (N - 12) - 1 - j) = N - 1 - j by omega]
      · rw [if_neg (by omega), if_neg (by omega), hg0 j hj]; rfl
  refine ⟨V, _, _, eV, ?_, ⟨hNR.1, ?_, ?_, by rw [hNR.2]; omega⟩⟩
  · unfold m_M_takeNumber
    rw [e0, Option.bind_some]
    simp only [zix_ok (show x < 9 by omega) (show 9 < 2 ^ 31 by decide), nI_clamp (show x < 2 ^ 31 by omega), zset_n u g0 (show (5 : Nat) ≠ 17 by decide), h5]
    rw [if_pos trivial]; exact e
  · intro r h1 h2
    rw [pk_un h2, pk_un h1]
  · intro r hr
    exact zset_n u g hr
