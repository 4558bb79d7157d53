/-- the number that the class holds as V and a scale, the reference in its row -/
def NR (V : Int64) (s : Nat) (v : Nat → Int32) (u : Nat → Nat → Int32) : Prop :=
  s ≤ 12 ∧ v 20 = nI s ∧ (v 21 = 0 ∨ v 21 = 1) ∧ (∀ j : Nat, j < 48 → u 17 j = nI (dgz V.toInt.natAbs j)) ∧ (V.toInt ≠ 0 → (v 21 = 1 ↔ V.toInt < 0))
/-- its digit at a power -/
def nD (V : Int64) (s : Nat) (z : Int) : Nat := dgz V.toInt.natAbs (z + s)
theorem nD_le (V : Int64) (s : Nat) (z : Int) : nD V s z ≤ 9 := dgz_le _ _
theorem NR_ext {V : Int64} {s : Nat} {v v' : Nat → Int32} {u u' : Nat → Nat → Int32} (h : NR V s v u) (h1 : v' 20 = v 20) (h2 : v' 21 = v 21) (h3 : u' 17 = u 17) : NR V s v' u' := by
  obtain ⟨a, b, c, d, e⟩ := h
  exact ⟨a, by rw [h1]; exact b, by rw [h2]; exact c, by rw [h3]; exact d, by rw [h2]; exact e⟩
theorem NR_C {V : Int64} {s : Nat} {v : Nat → Int32} {u : Nat → Nat → Int32} (h : NR V s v u) {p : Int32} (h1 : -1000 ≤ p.toInt) (h2 : p.toInt ≤ 1000) : m_P_digitAt V (nI s) p = some (nI (nD V s p.toInt)) := C_digitAt (by have := h.1; omega) h1 h2
theorem NR_R {V : Int64} {s : Nat} {v : Nat → Int32} {u : Nat → Nat → Int32} (h : NR V s v u) {p : Int32} (h1 : -1000 ≤ p.toInt) (h2 : p.toInt ≤ 1000) : m_M_digitAt p v u = some (nI (nD V s p.toInt)) := by
  obtain ⟨hs, hv, -, hd, -⟩ := h
  have hz : (p + nI s).toInt = p.toInt + s := by rw [i32a (by rw [nI_toInt (by omega)]; omega) (by rw [nI_toInt (by omega)]; omega), nI_toInt (by omega)]
  unfold m_M_digitAt nD
  rw [hv]
  by_cases c : p.toInt + (s : Int) < 0
  · rw [if_pos (by rw [Int32.lt_iff_toInt_lt, hz]; exact c), dgz_neg _ c]; rfl
  · rw [if_neg (by rw [Int32.lt_iff_toInt_lt, hz]; exact c)]
    obtain ⟨k, hk⟩ : ∃ k : Nat, p.toInt + (s : Int) = k := ⟨(p.toInt + s).toNat, by omega⟩
    rw [hk] at hz ⊢
    have e : p + nI s = nI k := nI_toI (by omega) hz
    rw [e]
    by_cases d : k < 48
    · rw [if_neg (show ¬ 48 ≤ nI k from nI_ge (b := 48) d (by decide)), zix_ok d (by decide), nI_clamp (by omega), hd k d]
    · rw [if_pos (show 48 ≤ nI k from nI_le (a := 48) (by omega) (by omega)), dgz_big (nabs_lt V) (by omega)]; rfl
/-- where a digit is left, both know alike whether it is below zero -/
theorem NR_neg {V : Int64} {s : Nat} {v : Nat → Int32} {u : Nat → Nat → Int32} (h : NR V s v u) {z : Int} (hz : nD V s z ≠ 0) : (0 ≤ lg_cmp V 0 ↔ v 21 = 0) := by
  obtain ⟨-, -, h21, -, hn⟩ := h
  have hV : V.toInt ≠ 0 := by
    intro e
    apply hz
    unfold nD dgz
    rw [e]
    split
    · rfl
    · simp
  have h1 := hn hV
  have h0 : (0 : Int64).toInt = 0 := by decide
  have hl : 0 ≤ lg_cmp V 0 ↔ 0 ≤ V.toInt := by
    unfold lg_cmp
    simp only [gt_iff_lt, Int64.lt_iff_toInt_lt, ← Int64.toInt_inj, h0]
    by_cases a : 0 < V.toInt
    · rw [if_pos a]; constructor <;> intro _ <;> first | omega | decide
    · rw [if_neg a, if_neg hV]
      constructor
      · intro q; exact absurd q (by decide)
      · intro q; omega
  rw [hl]
  constructor
  · intro q
    rcases h21 with r | r
    · exact r
    · have := h1.mp r; omega
  · intro q
    by_cases r : V.toInt < 0
    · have := h1.mpr r; rw [q] at this; exact absurd this (by decide)
    · omega
theorem tdiv10 (x : Int) (k : Nat) : (x.tdiv (10 ^ k)).tdiv 10 = x.tdiv (10 ^ (k + 1)) := by
  have key : ∀ n : Nat, ((n : Int).tdiv (10 ^ k)).tdiv 10 = (n : Int).tdiv (10 ^ (k + 1)) := by
    intro n
    have h1 : (10 : Int) ^ k = ((10 ^ k : Nat) : Int) := by simp
    have h2 : (10 : Int) ^ (k + 1) = ((10 ^ (k + 1) : Nat) : Int) := by simp
    rw [h1, h2, show (10 : Int) = ((10 : Nat) : Int) from rfl, ← Int.ofNat_tdiv, ← Int.ofNat_tdiv, ← Int.ofNat_tdiv, Nat.div_div_eq_div_mul, Nat.pow_succ]
  rcases Int.natAbs_eq x with h | h
  · rw [h]; exact key _
  · rw [h, Int.neg_tdiv, Int.neg_tdiv, Int.neg_tdiv, key]
theorem P_nothing_l (v : Nat → Int32) : ∀ (n k fuel : Nat) (u : Nat → Nat → Int32), k + n = 48 → n < fuel → ∃ g : Nat → Int32, m_M_nothing_2 fuel (nI k) v u = some (upd (upd v 20 0) 21 0, zset u 17 g) ∧ (∀ j, k ≤ j → j < 48 → g j = 0) ∧ ∀ j, j < k → g j = u 17 j := by
  intro n
  induction n with
  | zero =>
    intro k fuel u hk hf
    obtain ⟨fuel, rfl⟩ : ∃ z, fuel = z + 1 := ⟨fuel - 1, by omega⟩
    refine ⟨u 17, ?_, fun j h1 h2 => by omega, fun _ _ => rfl⟩
    show m_M_nothing_2b _ (nI k) v u = _
    unfold m_M_nothing_2b
    rw [if_pos (show 48 ≤ nI k from nI_le (a := 48) (by omega) (by omega)), zbo_0, zset_self]
  | succ n ih =>
    intro k fuel u hk hf
    obtain ⟨fuel, rfl⟩ : ∃ z, fuel = z + 1 := ⟨fuel - 1, by omega⟩
    obtain ⟨g, e, a, b⟩ := ih (k + 1) fuel (zset u 17 (upd (u 17) k 0)) (by omega) (by omega)
    refine ⟨g, ?_, ?_, ?_⟩
    · show m_M_nothing_2b (m_M_nothing_2 fuel) (nI k) v u = _
      unfold m_M_nothing_2b
      rw [if_neg (show ¬ 48 ≤ nI k from nI_ge (b := 48) (by omega) (by decide)), zix_ok (by omega) (by decide), zau_nI _ _ _ _ (by omega), nI_1, e, zset_zset]
    · intro j h1 h2
      by_cases c : j = k
      · rw [b j (by omega), zset_s, c, pk_us]
      · exact a j (by omega) h2
    · intro j h1
      rw [b j (by omega), zset_s, pk_un (by omega)]
theorem P_nothing (v : Nat → Int32) (u : Nat → Nat → Int32) : ∃ g : Nat → Int32, m_M_nothing v u = some (upd (upd v 20 0) 21 0, zset u 17 g) ∧ ∀ j, j < 48 → g j = 0 := by
  obtain ⟨g, e, a, -⟩ := P_nothing_l v 48 0 64 u (by omega) (by omega)
  exact ⟨g, e, fun j h => a j (by omega) h⟩
/-- the digits of a number that is put -/
theorem P_put_l (x1 : Int32) (V : Int64) (s : Int32) (v : Nat → Int32) : ∀ (n k fuel : Nat) (L : Int64) (u : Nat → Nat → Int32), k + n = 20 → n < fuel → L.toInt = V.toInt.tdiv (10 ^ k) → (∀ j, j < 48 → u 17 j = if j < k then nI (dgz V.toInt.natAbs j) else 0) →
    ∃ g : Nat → Int32, m_M_put_72 fuel x1 V s L (nI k) v u = m_M_put_140 x1 (if V.toInt < 0 then 1 else 0) (upd v 20 s) (zset u 17 g) ∧ ∀ j : Nat, j < 48 → g j = nI (dgz V.toInt.natAbs j) := by
  have h0 : (0 : Int64).toInt = 0 := by decide
  have hcmp : ∀ X : Int64, lg_cmp X 0 = 0 ↔ X.toInt = 0 := by
    intro X
    unfold lg_cmp
    simp only [gt_iff_lt, Int64.lt_iff_toInt_lt, ← Int64.toInt_inj, h0]
    by_cases a : 0 < X.toInt
    · rw [if_pos a]; constructor
      · intro q; exact absurd q (by decide)
      · intro q; omega
    · rw [if_neg a]
      by_cases b : X.toInt = 0
      · rw [if_pos b]; simp [b]
      · rw [if_neg b]; constructor
        · intro q; exact absurd q (by decide)
        · intro q; omega
  have hge : ∀ X : Int64, 0 ≤ lg_cmp X 0 ↔ 0 ≤ X.toInt := by
    intro X
    unfold lg_cmp
    simp only [gt_iff_lt, Int64.lt_iff_toInt_lt, ← Int64.toInt_inj, h0]
    by_cases a : 0 < X.toInt
    · rw [if_pos a]; constructor <;> intro _ <;> first | omega | decide
    · rw [if_neg a]
      by_cases b : X.toInt = 0
      · rw [if_pos b]; constructor <;> intro _ <;> first | omega | decide
      · rw [if_neg b]; constructor
        · intro q; exact absurd q (by decide)
        · intro q; omega
  have habs : ∀ k : Nat, (V.toInt.tdiv (10 ^ k)).natAbs = V.toInt.natAbs / 10 ^ k := by
    intro k
    rw [Int.natAbs_tdiv, Int.natAbs_pow]; rfl
  intro n
  induction n with
  | zero =>
    intro k fuel L u hk hf hL hu
    obtain ⟨fuel, rfl⟩ : ∃ z, fuel = z + 1 := ⟨fuel - 1, by omega⟩
    have hL0 : L.toInt = 0 := by
      have := habs k
      rw [← hL] at this
      have h1 := nabs_lt V
      have h2 : 10 ^ 19 ≤ 10 ^ k := Nat.pow_le_pow_right (by omega) (by omega)
      rw [Nat.div_eq_of_lt (by omega)] at this
      omega
    refine ⟨u 17, ?_, ?_⟩
    · show m_M_put_72b _ x1 V s L (nI k) v u = _
      unfold m_M_put_72b
      rw [if_pos ((hcmp L).mpr hL0), zset_self]
      by_cases c : V.toInt < 0
      · rw [if_neg (by rw [hge]; omega), if_pos c]
      · rw [if_pos (by rw [hge]; omega), if_neg c]
    · intro j hj
      rw [hu j hj]
      by_cases c : j < k
      · rw [if_pos c]
      · rw [if_neg c, dgz_big (nabs_lt V) (by omega)]; rfl
  | succ n ih =>
    intro k fuel L u hk hf hL hu
    obtain ⟨fuel, rfl⟩ : ∃ z, fuel = z + 1 := ⟨fuel - 1, by omega⟩
    by_cases c : L.toInt = 0
    · refine ⟨u 17, ?_, ?_⟩
      · show m_M_put_72b _ x1 V s L (nI k) v u = _
        unfold m_M_put_72b
        rw [if_pos ((hcmp L).mpr c), zset_self]
        by_cases c : V.toInt < 0
        · rw [if_neg (by rw [hge]; omega), if_pos c]
        · rw [if_pos (by rw [hge]; omega), if_neg c]
      · intro j hj
        rw [hu j hj]
        by_cases d : j < k
        · rw [if_pos d]
        · rw [if_neg d, dgz_n]
          have := habs k
          rw [← hL, c] at this
          have h2 : V.toInt.natAbs < 10 ^ k := by
            have h3 : 0 < 10 ^ k := Nat.pow_pos (by omega)
            rcases Nat.lt_or_ge V.toInt.natAbs (10 ^ k) with h | h
            · exact h
            · have := Nat.div_pos h h3
              rw [show (0 : Int).natAbs = 0 from rfl] at *
              omega
          have h4 : 10 ^ k ≤ 10 ^ j := Nat.pow_le_pow_right (by omega) (by omega)
          rw [Nat.div_eq_of_lt (by omega)]; rfl
    · have h10 : (10 : Int64).toInt = 10 := by decide
      have hL' : (L / 10).toInt = V.toInt.tdiv (10 ^ (k + 1)) := by
        rw [i64d (by rw [h10]; omega), h10, hL, tdiv10]
      obtain ⟨g, e, hg⟩ := ih (k + 1) fuel (L / 10) (zset u 17 (upd (u 17) k (nI (L.toInt.natAbs % 10)))) (by omega) (by omega) hL' (by
        intro j hj
        rw [zset_s]
        by_cases d : j = k
        · rw [d, pk_us, if_pos (by omega), dgz_n, hL, habs]
        · rw [pk_un d, hu j hj]
          by_cases f : j < k
          · rw [if_pos f, if_pos (by omega)]
          · rw [if_neg f, if_neg (by omega)])
      refine ⟨g, ?_, hg⟩
      rw [zset_zset] at e
      show m_M_put_72b (m_M_put_72 fuel) x1 V s L (nI k) v u = _
      unfold m_M_put_72b
      rw [if_neg (by rw [hcmp]; exact c)]
      have hr := r10_abs L
      by_cases d : 0 ≤ (L - L / 10 * 10).toInt32
      · rw [if_pos d] at hr ⊢
        unfold m_M_put_107
        rw [hr, zix_ok (by omega) (by decide), zau_nI _ _ _ _ (by omega), nI_1, e]
      · rw [if_neg d] at hr ⊢
        unfold m_M_put_107
        rw [hr, zix_ok (by omega) (by decide), zau_nI _ _ _ _ (by omega), nI_1, e]
/-- what put has made before it stores -/
theorem P_put_d (x1 : Int32) (V : Int64) {s : Nat} (hs : s ≤ 12) (v : Nat → Int32) {u : Nat → Nat → Int32} (hu : ∀ j, j < 48 → u 17 j = 0) : ∃ (g : Nat → Int32) (t : Int32), m_M_put_72 64 x1 V (nI s) V 0 v u = (m_M_storeNumber x1 (upd (upd v 20 (nI s)) 21 t) (zset u 17 g)).bind (fun q => some (upd (upd v 20 (nI s)) 21 t, q)) ∧ NR V s (upd (upd v 20 (nI s)) 21 t) (zset u 17 g) := by
  obtain ⟨g, e, hg⟩ := P_put_l x1 V (nI s) v 20 0 64 V u (by omega) (by omega) (by rw [Int.pow_zero, Int.tdiv_one]) (fun j hj => by rw [if_neg (by omega)]; exact hu j hj)
  refine ⟨g, if V.toInt < 0 then 1 else 0, ?_, hs, ?_, ?_, ?_, ?_⟩
  · rw [show (0 : Int32) = nI 0 from rfl, e]
    unfold m_M_put_140
    by_cases c : V.toInt < 0
    · rw [if_pos c, zbo_1, if_pos c]
    · rw [if_neg c, zbo_0, if_neg c]; rfl
  · rw [pk_un (by decide), pk_us]
  · rw [pk_us]
    split
    · exact Or.inr rfl
    · exact Or.inl rfl
  · intro j hj
    rw [zset_s]; exact hg j hj
  · intro _
    rw [pk_us]
    constructor
    · intro q
      by_cases c : V.toInt < 0
      · exact c
      · rw [if_neg c] at q; exact absurd q (by decide)
    · intro q; rw [if_pos q]
