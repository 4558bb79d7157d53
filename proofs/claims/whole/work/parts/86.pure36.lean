/-- a number out of digits, the first one highest -/
def hz (d : Nat → Nat) : Nat → Nat
  | 0 => 0
  | n + 1 => hz d n * 10 + d n
theorem hz_s (d : Nat → Nat) (n : Nat) : hz d (n + 1) = hz d n * 10 + d n := rfl
theorem hz_lt {d : Nat → Nat} (h : ∀ k, d k ≤ 9) : ∀ n, hz d n < 10 ^ n
  | 0 => by show 0 < 1; omega
  | n + 1 => by
    have := hz_lt h n
    have h2 := h n
    rw [hz_s, Nat.pow_succ]; omega
theorem hz_div {d : Nat → Nat} (h : ∀ k, d k ≤ 9) : ∀ n j, hz d (n + j) / 10 ^ j = hz d n
  | n, 0 => by rw [Nat.pow_zero, Nat.div_one]; rfl
  | n, j + 1 => by
    have h2 := h (n + j)
    rw [show n + (j + 1) = (n + j) + 1 by omega, hz_s, Nat.pow_succ, Nat.mul_comm (10 ^ j) 10, ← Nat.div_div_eq_div_mul, show (hz d (n + j) * 10 + d (n + j)) / 10 = hz d (n + j) by omega, hz_div h n j]
theorem hz_dig {d : Nat → Nat} (h : ∀ k, d k ≤ 9) (n j : Nat) : hz d n / 10 ^ j % 10 = if j < n then d (n - 1 - j) else 0 := by
  by_cases c : j < n
  · rw [if_pos c]
    obtain ⟨m, rfl⟩ : ∃ m, n = m + 1 + j := ⟨n - 1 - j, by omega⟩
    rw [hz_div h, hz_s, show m + 1 + j - 1 - j = m by omega]
    have := h m
    omega
  · rw [if_neg c]
    have h1 := hz_lt h n
    have h2 : 10 ^ n ≤ 10 ^ j := Nat.pow_le_pow_right (by omega) (by omega)
    rw [Nat.div_eq_of_lt (by omega)]
theorem hz_low {d : Nat → Nat} (h : ∀ k, d k ≤ 9) (n low j : Nat) : (hz d n * 10 ^ low) / 10 ^ j % 10 = if low ≤ j ∧ j < low + n then d (n - 1 - (j - low)) else 0 := by
  by_cases c : low ≤ j
  · obtain ⟨i, rfl⟩ : ∃ i, j = low + i := ⟨j - low, by omega⟩
    rw [Nat.pow_add, ← Nat.div_div_eq_div_mul, Nat.mul_div_cancel _ (Nat.pow_pos (by omega)), hz_dig h, show low + i - low = i by omega]
    by_cases e : i < n
    · rw [if_pos e, if_pos (by omega)]
    · rw [if_neg e, if_neg (by omega)]
  · rw [if_neg (by omega)]
    obtain ⟨i, rfl⟩ : ∃ i, low = j + (i + 1) := ⟨low - j - 1, by omega⟩
    rw [Nat.pow_add, ← Nat.mul_assoc, Nat.mul_comm (hz d n) (10 ^ j), Nat.mul_assoc, Nat.mul_div_cancel_left _ (Nat.pow_pos (by omega)), Nat.pow_succ, ← Nat.mul_assoc, Nat.mul_mod_left]
theorem hz_ext {d e : Nat → Nat} : ∀ n, (∀ k, k < n → d k = e k) → hz d n = hz e n
  | 0, _ => rfl
  | n + 1, h => by rw [hz_s, hz_s, hz_ext n (fun k hk => h k (by omega)), h n (by omega)]
theorem nI_div {a b : Nat} (ha : a < 2 ^ 31) (hb : b < 2 ^ 31) (h0 : 0 < b) : nI a / nI b = nI (a / b) := by
  have h := Nat.div_le_self a b
  refine nI_toI (by omega) ?_
  rw [Int32.toInt_div, nI_toInt ha, nI_toInt hb, ← Int.ofNat_tdiv]
  generalize a / b = q at h ⊢
  exact Int.bmod_eq_of_le (by omega) (by omega)
theorem nI_div2 {a : Nat} (ha : a < 2 ^ 31) : nI a / 2 = nI (a / 2) := nI_div (b := 2) ha (by decide) (by decide)
theorem nI_mod2 {a : Nat} (ha : a < 2 ^ 31) : nI a - nI a / 2 * 2 = nI (a % 2) := by
  rw [nI_div2 ha, show (2 : Int32) = nI 2 from rfl, pk_mul, pk_sub (by omega)]
  congr 1; omega
theorem nI_and15 (x : Int32) : ∃ n : Nat, n < 16 ∧ x &&& 15 = nI n := by
  refine ⟨(x &&& 15).toBitVec.toNat, ?_, ?_⟩
  · rw [Int32.toBitVec_and, BitVec.toNat_and]
    have h : (15 : Int32).toBitVec.toNat = 15 := by decide
    rw [h]
    exact Nat.lt_succ_of_le Nat.and_le_right
  · have h : (x &&& 15).toBitVec.toNat < 16 := by
      rw [Int32.toBitVec_and, BitVec.toNat_and]
      have h : (15 : Int32).toBitVec.toNat = 15 := by decide
      rw [h]
      exact Nat.lt_succ_of_le Nat.and_le_right
    refine nI_toI (by omega) ?_
    show (x &&& 15).toBitVec.toInt = _
    rw [BitVec.toInt_eq_toNat_of_lt (by omega)]
/-- a half byte as a digit -/
def hb (x : Int32) : Nat := (x &&& 15).toNatClampNeg % 10
theorem hb_le (x : Int32) : hb x ≤ 9 := by unfold hb; omega
theorem hb_is (x : Int32) : (x &&& 15) - (x &&& 15) / 10 * 10 = nI (hb x) := by
  obtain ⟨n, hn, e⟩ := nI_and15 x
  unfold hb
  rw [e, nI_clamp (by omega)]
  exact (by decide : ∀ n, n < 16 → nI n - nI n / 10 * 10 = nI (n % 10)) n hn
theorem nI_64 {n : Nat} (h : n < 2 ^ 31) : ((nI n).toInt64).toInt = n := by
  rw [Int32.toInt_toInt64, nI_toInt h]
/-- one step of a number out of digits -/
theorem hz_step {d : Nat → Nat} (h : ∀ k, d k ≤ 9) {n : Nat} (hn : n < 18) {X : Int64} (hX : X.toInt = hz d n) : (X * 10 + (nI (d n)).toInt64).toInt = hz d (n + 1) := by
  have h10 : (10 : Int64).toInt = 10 := by decide
  have h1 := hz_lt h n
  have h2 := h n
  have h3 : 10 ^ n ≤ 10 ^ 17 := Nat.pow_le_pow_right (by omega) (by omega)
  have hm : (X * 10).toInt = (hz d n : Int) * 10 := by rw [i64m (by rw [hX, h10]; omega) (by rw [hX, h10]; omega), hX, h10]
  rw [i64a (by rw [hm, nI_64 (by omega)]; omega) (by rw [hm, nI_64 (by omega)]; omega), hm, nI_64 (by omega), hz_s]
  omega
theorem i64neg {X : Int64} {m : Nat} (hm : m < 10 ^ 18) (h : X.toInt = m) : (0 - X).toInt = - (m : Int) := by
  have h0 : (0 : Int64).toInt = 0 := by decide
  rw [i64s (by rw [h, h0]; omega) (by rw [h, h0]; omega), h, h0]; omega
