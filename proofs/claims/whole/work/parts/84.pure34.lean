/-! Numbers: digits of an int64 as the class takes them, of the row as the reference does. -/
/-- the digit of a number at a power of ten; none below the ones -/
def dgz (m : Nat) (z : Int) : Nat := if z < 0 then 0 else m / 10 ^ z.toNat % 10
theorem dgz_le (m : Nat) (z : Int) : dgz m z ≤ 9 := by
  unfold dgz
  split
  · omega
  · have := Nat.mod_lt (m / 10 ^ z.toNat) (show 0 < 10 by omega); omega
theorem dgz_n (m k : Nat) : dgz m (k : Int) = m / 10 ^ k % 10 := by
  unfold dgz
  rw [if_neg (by omega)]; rfl
theorem dgz_neg (m : Nat) {z : Int} (h : z < 0) : dgz m z = 0 := if_pos h
theorem dgz_big {m : Nat} {z : Int} (hm : m < 10 ^ 19) (h : 19 ≤ z) : dgz m z = 0 := by
  unfold dgz
  rw [if_neg (by omega)]
  have : 10 ^ 19 ≤ 10 ^ z.toNat := Nat.pow_le_pow_right (by omega) (by omega)
  rw [Nat.div_eq_of_lt (by omega)]
theorem i32a {a b : Int32} (h : -(2 ^ 31) ≤ a.toInt + b.toInt) (h2 : a.toInt + b.toInt < 2 ^ 31) : (a + b).toInt = a.toInt + b.toInt := by
  rw [Int32.toInt_add]
  exact Int.bmod_eq_of_le (by omega) (by omega)
theorem i32s {a b : Int32} (h : -(2 ^ 31) ≤ a.toInt - b.toInt) (h2 : a.toInt - b.toInt < 2 ^ 31) : (a - b).toInt = a.toInt - b.toInt := by
  rw [Int32.toInt_sub]
  exact Int.bmod_eq_of_le (by omega) (by omega)
theorem i64s {a b : Int64} (h : -(2 ^ 63) ≤ a.toInt - b.toInt) (h2 : a.toInt - b.toInt < 2 ^ 63) : (a - b).toInt = a.toInt - b.toInt := by
  rw [Int64.toInt_sub]
  exact Int.bmod_eq_of_le (by omega) (by omega)
theorem i64a {a b : Int64} (h : -(2 ^ 63) ≤ a.toInt + b.toInt) (h2 : a.toInt + b.toInt < 2 ^ 63) : (a + b).toInt = a.toInt + b.toInt := by
  rw [Int64.toInt_add]
  exact Int.bmod_eq_of_le (by omega) (by omega)
theorem i64m {a b : Int64} (h : -(2 ^ 63) ≤ a.toInt * b.toInt) (h2 : a.toInt * b.toInt < 2 ^ 63) : (a * b).toInt = a.toInt * b.toInt := by
  rw [Int64.toInt_mul]
  exact Int.bmod_eq_of_le (by omega) (by omega)
theorem i64d {a b : Int64} (hb : 0 < b.toInt) : (a / b).toInt = a.toInt.tdiv b.toInt := by
  rw [Int64.toInt_div]
  have h1 := Int64.le_toInt a
  have h2 := Int64.toInt_lt a
  have h3 : (a.toInt.tdiv b.toInt).natAbs ≤ a.toInt.natAbs := by
    rw [Int.natAbs_tdiv]; exact Nat.div_le_self _ _
  by_cases hs : a.toInt < 2 ^ 63 - 1 + 1 ∧ a.toInt.tdiv b.toInt < 2 ^ 63
  · exact Int.bmod_eq_of_le (by omega) (by omega)
  · exfalso
    have h4 : ¬ a.toInt.tdiv b.toInt < 2 ^ 63 := fun h => hs ⟨by omega, h⟩
    by_cases hn : 0 ≤ a.toInt
    · omega
    · have : a.toInt.tdiv b.toInt ≤ 0 := by
        have h5 : (-a.toInt).tdiv b.toInt = - a.toInt.tdiv b.toInt := Int.neg_tdiv ..
        have h6 : 0 ≤ (-a.toInt).tdiv b.toInt := Int.tdiv_nonneg (by omega) (by omega)
        omega
      omega
theorem zpl_int : ∀ j, j < 19 → (zpl j).toInt = (10 : Int) ^ j := by decide
theorem nabs_lt (V : Int64) : V.toInt.natAbs < 10 ^ 19 := by
  have h1 := Int64.le_toInt V
  have h2 := Int64.toInt_lt V
  omega
/-- the rest by ten, made short: its size is the last digit -/
theorem r10 (q : Int64) : ((q - q / 10 * 10).toInt32).toInt = q.toInt.tmod 10 := by
  have h10 : (10 : Int64).toInt = 10 := by decide
  have h1 := Int64.le_toInt q
  have h2 := Int64.toInt_lt q
  have hd : (q / 10).toInt = q.toInt.tdiv 10 := by rw [i64d (by rw [h10]; omega), h10]
  have ht : q.toInt.tdiv 10 * 10 + q.toInt.tmod 10 = q.toInt := by have := Int.tdiv_mul_add_tmod q.toInt 10; omega
  have hb : (q.toInt.tmod 10).natAbs ≤ 9 := by rw [Int.natAbs_tmod, show (10 : Int).natAbs = 10 from rfl]; have := Nat.mod_lt q.toInt.natAbs (show 0 < 10 by decide); omega
  have hb2 : (q.toInt.tdiv 10).natAbs ≤ q.toInt.natAbs / 10 := by rw [Int.natAbs_tdiv]; exact Nat.le_refl _
  have hm : (q / 10 * 10).toInt = q.toInt.tdiv 10 * 10 := by rw [i64m (by rw [hd, h10]; omega) (by rw [hd, h10]; omega), hd, h10]
  have hs : (q - q / 10 * 10).toInt = q.toInt.tmod 10 := by rw [i64s (by rw [hm]; omega) (by rw [hm]; omega), hm]; omega
  rw [Int64.toInt_toInt32, hs]
  exact Int.bmod_eq_of_le (by omega) (by omega)
theorem nI_toI {x : Int32} {n : Nat} (hn : n < 2 ^ 31) (h : x.toInt = n) : x = nI n := Int32.toInt_inj.mp (by rw [nI_toInt hn]; exact h)
/-- .. as both make it positive -/
theorem r10_abs (q : Int64) : (if 0 ≤ (q - q / 10 * 10).toInt32 then (q - q / 10 * 10).toInt32 else 0 - (q - q / 10 * 10).toInt32) = nI (q.toInt.natAbs % 10) := by
  have h := r10 q
  have hm : (q.toInt.tmod 10).natAbs = q.toInt.natAbs % 10 := by rw [Int.natAbs_tmod]; rfl
  have hl := Nat.mod_lt q.toInt.natAbs (show 0 < 10 by omega)
  by_cases c : 0 ≤ (q - q / 10 * 10).toInt32
  · rw [if_pos c]
    rw [Int32.le_iff_toInt_le, Int32.toInt_zero, h] at c
    exact nI_toI (by omega) (by rw [h]; omega)
  · rw [if_neg c]
    rw [Int32.le_iff_toInt_le, Int32.toInt_zero, h] at c
    refine nI_toI (by omega) ?_
    rw [i32s (by rw [h, Int32.toInt_zero]; omega) (by rw [h, Int32.toInt_zero]; omega), h, Int32.toInt_zero]; omega
/-- the class's digit -/
theorem C_digitAt {V : Int64} {s : Nat} {p : Int32} (hs : s ≤ 100) (h1 : -1000 ≤ p.toInt) (h2 : p.toInt ≤ 1000) : m_P_digitAt V (nI s) p = some (nI (dgz V.toInt.natAbs (p.toInt + s))) := by
  have hz : (p + nI s).toInt = p.toInt + s := by rw [i32a (by rw [nI_toInt (by omega)]; omega) (by rw [nI_toInt (by omega)]; omega), nI_toInt (by omega)]
  unfold m_P_digitAt
  by_cases c : p.toInt + (s : Int) < 0
  · rw [if_pos (by rw [Int32.lt_iff_toInt_lt, hz]; exact c), dgz_neg _ c]; rfl
  · rw [if_neg (by rw [Int32.lt_iff_toInt_lt, hz]; exact c)]
    obtain ⟨k, hk⟩ : ∃ k : Nat, p.toInt + (s : Int) = k := ⟨(p.toInt + s).toNat, by omega⟩
    rw [hk] at hz ⊢
    have e : p + nI s = nI k := nI_toI (by omega) hz
    rw [e]
    by_cases d : k < 19
    · rw [if_pos (show nI k < 19 from nI_lt (b := 19) d (by decide)), zix_ok d (by decide), nI_clamp (by omega), r10_abs, dgz_n]
      congr 3
      have hz := zpl_int k d
      have hp : (0 : Int) < 10 ^ k := Int.pow_pos (by omega)
      rw [i64d (by rw [hz]; exact hp), hz, Int.natAbs_tdiv, Int.natAbs_pow]
      rfl
    · rw [if_neg (show ¬ nI k < 19 from nI_nlt (b := 19) (by omega) (by omega)), dgz_big (nabs_lt V) (by omega)]; rfl
