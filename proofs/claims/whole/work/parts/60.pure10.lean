/-- the first of n places from a on where x stands, -1 if none -/
def fstI (f : Nat → Int32) (x : Int32) (a : Nat) : Nat → Int32
  | 0 => -1
  | n + 1 => if f a = x then nI a else fstI f x (a + 1) n
theorem nI_dec {a : Nat} (h : a < 2 ^ 31) : nI a - 1 < nI a := by
  cases a with
  | zero => decide
  | succ a => rw [nI_pred]; exact nI_lt (by omega) h
theorem add_neg1 (x : Int32) : x + (-1) = x - 1 := by rw [Int32.sub_eq_add_neg]
theorem P_firstOf_l {a m : Nat} (hb : a + m ≤ 24) (x : Int32) (v : Nat → Int32) (u : Nat → Nat → Int32) : ∀ (n fuel : Nat), n ≤ m → n < fuel → m_M_firstOf_8 v u fuel x (nI a) (fstI (fun j => u 3 (192 + j)) x (a + n) (m - n)) (nI (a + n) - 1) = some (fstI (fun j => u 3 (192 + j)) x a m) := by
  intro n
  induction n with
  | zero =>
    intro fuel hm hf
    obtain ⟨fuel, rfl⟩ : ∃ z, fuel = z + 1 := ⟨fuel - 1, by omega⟩
    show m_M_firstOf_8b v u _ x (nI a) _ (nI a - 1) = _
    unfold m_M_firstOf_8b
    rw [if_pos (nI_dec (by omega))]
    rfl
  | succ n ih =>
    intro fuel hm hf
    obtain ⟨fuel, rfl⟩ : ∃ z, fuel = z + 1 := ⟨fuel - 1, by omega⟩
    have e : nI (a + (n + 1)) - 1 = nI (a + n) := by rw [show a + (n + 1) = (a + n) + 1 by omega, nI_pred]
    rw [e]
    show m_M_firstOf_8b v u (m_M_firstOf_8 v u fuel) x (nI a) _ (nI (a + n)) = _
    unfold m_M_firstOf_8b m_M_firstOf_33
    rw [if_neg (nI_nlt (by omega) (by omega)), show (8 : Int32) = nI 8 from rfl, P_sym (by omega) (by omega), add_neg1]
    simp only [Option.bind_some]
    have es : ∀ z, fstI (fun j => u 3 (192 + j)) x (a + n) (z + 1) = if u 3 (192 + (a + n)) = x then nI (a + n) else fstI (fun j => u 3 (192 + j)) x (a + n + 1) z := fun z => rfl
    have em : m - n = (m - (n + 1)) + 1 := by omega
    have hi := ih fuel (by omega) (by omega)
    rw [em, es] at hi
    by_cases h : u 3 (24 * 8 + (a + n)) = x
    · rw [if_pos h]
      rw [if_pos (show u 3 (192 + (a + n)) = x from h)] at hi
      exact hi
    · rw [if_neg h]
      rw [if_neg (show ¬ u 3 (192 + (a + n)) = x from h)] at hi
      exact hi
theorem P_firstOf {a b : Nat} (hab : a ≤ b) (hb : b ≤ 24) (x : Int32) (v : Nat → Int32) (u : Nat → Nat → Int32) : m_M_firstOf x (nI a) (nI b) v u = some (fstI (fun j => u 3 (192 + j)) x a (b - a)) := by
  unfold m_M_firstOf
  have := P_firstOf_l (a := a) (m := b - a) (by omega) x v u (b - a) 64 (Nat.le_refl _) (by omega)
  rw [show b - a - (b - a) = 0 by omega, show a + (b - a) = b by omega] at this
  exact this
theorem fst_some {f : Nat → Int32} {x : Int32} : ∀ (n a : Nat), (fstI f x a n = -1 ∧ ∀ j, a ≤ j → j < a + n → ¬ f j = x) ∨ ∃ k, a ≤ k ∧ k < a + n ∧ fstI f x a n = nI k ∧ f k = x ∧ ∀ j, a ≤ j → j < k → ¬ f j = x := by
  intro n
  induction n with
  | zero => intro a; exact Or.inl ⟨rfl, fun j h1 h2 => by omega⟩
  | succ n ih =>
    intro a
    by_cases h : f a = x
    · exact Or.inr ⟨a, Nat.le_refl _, by omega, if_pos h, h, fun j h1 h2 => by omega⟩
    · have e : fstI f x a (n + 1) = fstI f x (a + 1) n := if_neg h
      rw [e]
      rcases ih (a + 1) with ⟨h1, h2⟩ | ⟨k, k1, k2, k3, k4, k5⟩
      · refine Or.inl ⟨h1, fun j g1 g2 => ?_⟩
        by_cases hj : j = a
        · subst hj; exact h
        · exact h2 j (by omega) (by omega)
      · refine Or.inr ⟨k, by omega, by omega, k3, k4, fun j g1 g2 => ?_⟩
        by_cases hj : j = a
        · subst hj; exact h
        · exact k5 j (by omega) g2
theorem cnt_end (f : Nat → Int32) (x : Int32) : ∀ (n a : Nat), cnt f x a (n + 1) = cnt f x a n + (if f (a + n) = x then 1 else 0) := by
  intro n
  induction n with
  | zero => intro a; simp [cnt]
  | succ n ih =>
    intro a
    show (if f a = x then 1 else 0) + cnt f x (a + 1) (n + 1) = (if f a = x then 1 else 0) + cnt f x (a + 1) n + _
    rw [ih (a + 1), show a + 1 + n = a + (n + 1) by omega]
    omega
theorem cnt_le (f : Nat → Int32) (x : Int32) : ∀ (n a : Nat), cnt f x a n ≤ n := by
  intro n
  induction n with
  | zero => intro a; exact Nat.le_refl _
  | succ n ih => intro a; have := ih (a + 1); simp only [cnt]; split <;> omega
/-- the ranks of the nines -/
def dput (g f : Nat → Int32) (R k n : Nat) : Nat → Int32 := fun i => if 192 + k ≤ i ∧ i < 192 + k + n then (if f (i - 192) = 57 then nI (R - cnt f 57 0 (i - 192)) else 0) else g i
theorem dput_0 (g f : Nat → Int32) (R k : Nat) : dput g f R k 0 = g := by
  funext i; unfold dput; rw [if_neg (by omega)]
theorem dput_s (g f : Nat → Int32) (R k n : Nat) : dput (upd g (192 + k) (if f k = 57 then nI (R - cnt f 57 0 k) else 0)) f R (k + 1) n = dput g f R k (n + 1) := by
  funext i; unfold dput upd
  by_cases h : i = 192 + k
  · subst h
    rw [if_neg (show ¬ (192 + (k + 1) ≤ 192 + k ∧ 192 + k < 192 + (k + 1) + n) by omega), if_pos rfl, if_pos (show 192 + k ≤ 192 + k ∧ 192 + k < 192 + k + (n + 1) by omega), show 192 + k - 192 = k by omega]
  · by_cases h2 : 192 + (k + 1) ≤ i ∧ i < 192 + (k + 1) + n
    · rw [if_pos h2, if_pos (show 192 + k ≤ i ∧ i < 192 + k + (n + 1) by omega)]
    · rw [if_neg h2, if_neg h, if_neg (show ¬ (192 + k ≤ i ∧ i < 192 + k + (n + 1)) by omega)]
theorem P_dig_l {N R : Nat} (hN : N ≤ 24) (hR : R < 100) (v : Nat → Int32) (f : Nat → Int32) : ∀ (n k fuel : Nat) (u : Nat → Nat → Int32), k + n = N → n < fuel → (∀ j, u 3 (192 + j) = f j) → cnt f 57 0 N ≤ R → m_M_isNumber_430 v fuel (nI N) (nI (R - cnt f 57 0 k)) (nI k) u = some (1, zset u 4 (dput (u 4) f R k n)) := by
  intro n
  induction n with
  | zero =>
    intro k fuel u hk hf hu hc
    obtain ⟨fuel, rfl⟩ : ∃ z, fuel = z + 1 := ⟨fuel - 1, by omega⟩
    show m_M_isNumber_430b v _ (nI N) _ (nI k) u = _
    unfold m_M_isNumber_430b
    rw [if_pos (nI_le (by omega) (by omega)), zbo_1, dput_0, zset_self]
  | succ n ih =>
    intro k fuel u hk hf hu hc
    obtain ⟨fuel, rfl⟩ : ∃ z, fuel = z + 1 := ⟨fuel - 1, by omega⟩
    show m_M_isNumber_430b v (m_M_isNumber_430 v fuel) (nI N) _ (nI k) u = _
    unfold m_M_isNumber_430b
    have e : (192 : Int32) + nI k = nI (192 + k) := by rw [show (192 : Int32) = nI 192 from rfl, nI_add]
    have hmono : cnt f 57 0 (k + 1) ≤ cnt f 57 0 N := by
      have : ∀ z, cnt f 57 0 (k + 1) ≤ cnt f 57 0 (k + 1 + z) := by
        intro z
        induction z with
        | zero => exact Nat.le_refl _
        | succ z iz =>
          have := cnt_end f 57 (k + 1 + z) 0
          rw [← Nat.add_assoc]
          omega
      have := this n
      rw [show k + 1 + n = N by omega] at this
      exact this
    have hce := cnt_end f 57 k 0
    rw [Nat.zero_add] at hce
    rw [if_neg (nI_ge (by omega) (by omega)), show (8 : Int32) = nI 8 from rfl, P_sym (by omega) (by omega)]
    simp only [Option.bind_some, m_M_isNumber_454, m_M_isNumber_477, m_M_isNumber_490]
    rw [show 24 * 8 + k = 192 + k by omega, hu k, e]
    by_cases h : f k = 57
    · rw [if_pos h]
      rw [if_pos h] at hce
      rw [if_neg (by decide), zix_ok (by omega) (by decide), if_neg (by decide), zau_nI _ _ _ _ (by omega), nI_1]
      rw [show nI (R - cnt f 57 0 k) - 1 = nI (R - cnt f 57 0 (k + 1)) by rw [show R - cnt f 57 0 k = (R - cnt f 57 0 (k + 1)) + 1 by omega, nI_pred]]
      rw [ih (k + 1) fuel _ (by omega) (by omega) (by intro j; rw [zset_n _ _ (by decide)]; exact hu j) hc]
      rw [zset_zset, zset_s, ← dput_s, if_pos h]
    · rw [if_neg h]
      rw [if_neg h] at hce
      rw [if_pos trivial, zix_ok (by omega) (by decide), if_pos trivial, zau_nI _ _ _ _ (by omega), nI_1]
      rw [show nI (R - cnt f 57 0 k) - 0 = nI (R - cnt f 57 0 (k + 1)) by rw [hce]; simp]
      rw [ih (k + 1) fuel _ (by omega) (by omega) (by intro j; rw [zset_n _ _ (by decide)]; exact hu j) hc]
      rw [zset_zset, zset_s, ← dput_s, if_neg h]
