theorem addm1 (x : Int32) : x + (-1) = x - 1 := (Int32.sub_eq_add_neg x 1).symm
/-- the answer of value, out of the reference's row -/
theorem P_value_l {V : Int64} {s : Nat} {v : Nat → Int32} {u : Nat → Nat → Int32} (h : NR V s v u) (hV : V.toInt.natAbs < 10 ^ 18) : ∀ (k fuel : Nat) (X : Int64), k ≤ 18 → k < fuel → X.toInt = ((V.toInt.natAbs / 10 ^ k : Nat) : Int) → m_M_value_35 fuel X (nI k - 1) v u = some (V, v, u) := by
  obtain ⟨-, -, h21, hd, hn⟩ := h
  intro k
  induction k with
  | zero =>
    intro fuel X hk hf hX
    obtain ⟨fuel, rfl⟩ : ∃ z, fuel = z + 1 := ⟨fuel - 1, by omega⟩
    show m_M_value_35b _ X (nI 0 - 1) v u = _
    unfold m_M_value_35b
    rw [if_pos (by decide)]
    rw [Nat.pow_zero, Nat.div_one] at hX
    by_cases z : V.toInt = 0
    · have hX0 : X = 0 := Int64.toInt_inj.mp (by rw [hX, z]; rfl)
      have hV0 : V = 0 := Int64.toInt_inj.mp (by rw [z]; rfl)
      rw [hX0, hV0]
      split <;> rfl
    · have hs := hn z
      rcases h21 with c | c
      · rw [if_pos c]
        have : X = V := Int64.toInt_inj.mp (by
          rw [hX]
          have : ¬ V.toInt < 0 := fun q => by have := hs.mpr q; rw [c] at this; exact absurd this (by decide)
          omega)
        rw [this]
      · rw [if_neg (by rw [c]; decide)]
        have : 0 - X = V := Int64.toInt_inj.mp (by
          rw [i64neg hV hX]
          have := hs.mp c
          omega)
        rw [this]
  | succ k ih =>
    intro fuel X hk hf hX
    obtain ⟨fuel, rfl⟩ : ∃ z, fuel = z + 1 := ⟨fuel - 1, by omega⟩
    show m_M_value_35b (m_M_value_35 fuel) X (nI (k + 1) - 1) v u = _
    unfold m_M_value_35b
    rw [nI_pred, if_neg (nI_pos (by omega)), zix_ok (by omega) (by decide), nI_clamp (by omega), addm1, hd k (by omega)]
    apply ih fuel _ (by omega) (by omega)
    have h10 : (10 : Int64).toInt = 10 := by decide
    have hdl := dgz_le V.toInt.natAbs (k : Int)
    have hp : V.toInt.natAbs / 10 ^ (k + 1) = V.toInt.natAbs / 10 ^ k / 10 := by rw [Nat.pow_succ, Nat.div_div_eq_div_mul]
    have hle : V.toInt.natAbs / 10 ^ k ≤ V.toInt.natAbs := Nat.div_le_self _ _
    rw [hp] at hX
    rw [dgz_n] at hdl ⊢
    generalize V.toInt.natAbs / 10 ^ k = q at hX hle hdl ⊢
    have hm : (X * 10).toInt = ((q / 10 : Nat) : Int) * 10 := by rw [i64m (by rw [hX, h10]; omega) (by rw [hX, h10]; omega), hX, h10]
    rw [i64a (by rw [hm, nI_64 (by omega)]; omega) (by rw [hm, nI_64 (by omega)]; omega), hm, nI_64 (by omega)]
    omega
theorem P_value {V : Int64} {s : Nat} {v : Nat → Int32} {u : Nat → Nat → Int32} (h : NR V s v u) (hV : V.toInt.natAbs < 10 ^ 18) : m_M_value_35 64 0 17 v u = some (V, v, u) :=
  P_value_l h hV 18 64 0 (by omega) (by omega) (by rw [Nat.div_eq_of_lt hV]; rfl)
/-- the digit that stands at a symbol, in the reference -/
theorem P_digitFor {u : Nat → Nat → Int32} {x k : Nat} (hx : x < 8) (hk : k < 24) {V : Int64} {s : Nat} {v : Nat → Int32} (h : NR V s v u) {behind rank : Nat} (h8 : u 8 x = nI behind) (hb : behind ≤ 24) (h4 : u 4 (24 * x + k) = nI rank) (hr : rank ≤ 24) : m_M_digitFor (nI x) (nI k) v u = some (nI (if rank = 0 then 0 else nD V s ((rank : Int) - 1 - behind))) := by
  unfold m_M_digitFor
  rw [n24, zix_ok (by omega) (by decide), nI_clamp (by omega), h4]
  by_cases c : rank = 0
  · subst c
    rw [if_pos (show nI 0 = 0 from rfl), if_pos rfl]; rfl
  · rw [if_neg (nI_ne0 (by omega) (by omega)), if_neg c, zix_ok (by omega) (by decide), nI_clamp (by omega), h8, sub1 (by omega)]
    have hz : (nI (rank - 1) - nI behind).toInt = (rank : Int) - 1 - behind := by
      rw [i32s (by rw [nI_toInt (by omega), nI_toInt (by omega)]; omega) (by rw [nI_toInt (by omega), nI_toInt (by omega)]; omega), nI_toInt (by omega), nI_toInt (by omega)]; omega
    rw [NR_R h (by rw [hz]; omega) (by rw [hz]; omega), hz]; rfl
/-- is a digit left among n places -/
def anz (D : Nat → Nat) : Nat → Nat → Bool
  | _, 0 => false
  | a, n + 1 => (D a != 0) || anz D (a + 1) n
theorem anz_s (D : Nat → Nat) (a n : Nat) : anz D a (n + 1) = ((D a != 0) || anz D (a + 1) n) := rfl
theorem anz_iff {D : Nat → Nat} : ∀ (n a : Nat), anz D a n = true ↔ ∃ j, a ≤ j ∧ j < a + n ∧ D j ≠ 0 := by
  intro n
  induction n with
  | zero => intro a; constructor
            · intro h; exact absurd h (by simp [anz])
            · intro ⟨j, h1, h2, _⟩; omega
  | succ n ih =>
    intro a
    rw [anz_s, Bool.or_eq_true, ih]
    constructor
    · rintro (h | ⟨j, h1, h2, h3⟩)
      · exact ⟨a, by omega, by omega, by simpa using h⟩
      · exact ⟨j, by omega, by omega, h3⟩
    · intro ⟨j, h1, h2, h3⟩
      by_cases c : j = a
      · left; subst c; simpa using h3
      · exact Or.inr ⟨j, by omega, by omega, h3⟩
/-- is it below zero, when it stands in that field -/
theorem P_isBelow_l {u : Nat → Nat → Int32} {x N : Nat} (hx : x < 8) (hN : N ≤ 24) (h2 : u 2 x = nI N) {v : Nat → Int32} {D : Nat → Nat} (hD : ∀ k, k < N → m_M_digitFor (nI x) (nI k) v u = some (nI (D k))) (hD9 : ∀ k, D k ≤ 9) : ∀ (m k fuel : Nat) (t : Bool), k + m = N → m < fuel → m_M_isBelow_4 v u fuel (nI x) (if t = true then 1 else 0) (nI k) = some (if v 21 = 0 then 0 else if (t || anz D k m) = false then 0 else if u 9 x = 0 then 0 else 1) := by
  intro m
  induction m with
  | zero =>
    intro k fuel t hk hf
    obtain ⟨fuel, rfl⟩ : ∃ z, fuel = z + 1 := ⟨fuel - 1, by omega⟩
    show m_M_isBelow_4b v u _ (nI x) _ (nI k) = _
    unfold m_M_isBelow_4b
    rw [zix_ok (show x < 9 by omega) (by decide), nI_clamp (by omega), h2, if_pos (nI_le (by omega) (by omega)), zix_ok (show x < 9 by omega) (by decide)]
    simp only [zbo_0, zbo_1]
    by_cases c : v 21 = 0
    · rw [if_pos c, if_pos c]
    · rw [if_neg c, if_neg c]
      cases t
      · rfl
      · simp only [if_true, show ¬ (1 : Int32) = 0 by decide, if_false, Bool.true_or, Bool.true_eq_false]
        split <;> rfl
  | succ m ih =>
    intro k fuel t hk hf
    obtain ⟨fuel, rfl⟩ : ∃ z, fuel = z + 1 := ⟨fuel - 1, by omega⟩
    show m_M_isBelow_4b v u (m_M_isBelow_4 v u fuel) (nI x) _ (nI k) = _
    unfold m_M_isBelow_4b
    rw [zix_ok (show x < 9 by omega) (by decide), nI_clamp (by omega), h2, if_neg (nI_ge (by omega) (by omega)), anz_s]
    unfold m_M_isBelow_27 m_M_isBelow_32
    have i0 := ih (k + 1) fuel false (by omega) (by omega)
    have i1 := ih (k + 1) fuel true (by omega) (by omega)
    simp only [Bool.false_eq_true, if_false, if_true] at i0 i1
    cases t
    · simp only [Bool.false_eq_true, if_false, if_true]
      rw [hD k (by omega), Option.bind_some, nI_1]
      have h9 := hD9 k
      by_cases c : D k = 0
      · rw [c, if_pos (by decide), i0]
        rfl
      · rw [if_neg (nI_nle (by omega) (by omega)), i1]
        have : (D k != 0) = true := by simpa using c
        rw [this]; rfl
    · simp only [if_true, show ¬ (1 : Int32) = 0 by decide, if_false]
      rw [nI_1, i1]
      rfl
theorem P_isBelow {u : Nat → Nat → Int32} {x N : Nat} (hx : x < 8) (hN : N ≤ 24) (h2 : u 2 x = nI N) {v : Nat → Int32} {D : Nat → Nat} (hD : ∀ k, k < N → m_M_digitFor (nI x) (nI k) v u = some (nI (D k))) (hD9 : ∀ k, D k ≤ 9) : m_M_isBelow (nI x) v u = some (if v 21 = 0 then 0 else if anz D 0 N = false then 0 else if u 9 x = 0 then 0 else 1) :=
  P_isBelow_l hx hN h2 hD hD9 N 0 64 false (by omega) (by omega)
