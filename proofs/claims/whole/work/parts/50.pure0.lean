theorem zix_ok {α : Type} {k n : Nat} {K : Option α} (h : k < n) (hn : n < 2 ^ 31) : zix (nI k) n K = K := by
  unfold zix
  rw [if_pos (nI_in h hn)]
theorem zix_no {α : Type} {x : Int32} {n : Nat} {K : Option α} (h : ¬ vp_in x n) : zix x n K = none := by
  unfold zix
  exact if_neg h
theorem P_sym {f k : Nat} (hf : f ≤ 8) (hk : k < 24) (v : Nat → Int32) (u : Nat → Nat → Int32) : m_M_sym (nI f) (nI k) v u = some (u 3 (24 * f + k)) := by
  have h : (24 : Int32) * nI f + nI k = nI (24 * f + k) := by
    rw [show (24 : Int32) = nI 24 from rfl, pk_mul, nI_add]
  unfold m_M_sym
  rw [h, zix_ok (by omega) (by decide), nI_clamp (by omega)]
def cnt (f : Nat → Int32) (x : Int32) (a : Nat) : Nat → Nat
  | 0 => 0
  | n + 1 => (if f a = x then 1 else 0) + cnt f x (a + 1) n
theorem P_countOf_l {b : Nat} (hb : b ≤ 24) (x : Int32) (v : Nat → Int32) (u : Nat → Nat → Int32) : ∀ (n k c fuel : Nat), k + n = b → n < fuel → m_M_countOf_6 v u fuel x (nI b) (nI c) (nI k) = some (nI (c + cnt (fun j => u 3 (192 + j)) x k n)) := by
  intro n
  induction n with
  | zero =>
    intro k c fuel hk hf
    obtain ⟨fuel, rfl⟩ : ∃ z, fuel = z + 1 := ⟨fuel - 1, by omega⟩
    show m_M_countOf_6b v u _ x (nI b) (nI c) (nI k) = _
    unfold m_M_countOf_6b
    rw [if_pos (nI_le (by omega) (by omega))]
    rfl
  | succ n ih =>
    intro k c fuel hk hf
    obtain ⟨fuel, rfl⟩ : ∃ z, fuel = z + 1 := ⟨fuel - 1, by omega⟩
    show m_M_countOf_6b v u (m_M_countOf_6 v u fuel) x (nI b) (nI c) (nI k) = _
    unfold m_M_countOf_6b
    rw [if_neg (nI_ge (by omega) (by omega)), show (8 : Int32) = nI 8 from rfl, P_sym (by omega) (by omega)]
    simp only [Option.bind_some, m_M_countOf_31, cnt]
    have e1 : nI k + 1 = nI (k + 1) := nI_1 k
    by_cases h : u 3 (24 * 8 + k) = x
    · rw [if_pos h, e1, nI_1, ih (k + 1) (c + 1) fuel (by omega) (by omega), if_pos (by simpa using h)]
      congr 2; omega
    · rw [if_neg h, e1, show nI c + 0 = nI c from by simp, ih (k + 1) c fuel (by omega) (by omega), if_neg (by simpa using h)]
      congr 2; omega
theorem P_countOf {a b : Nat} (hab : a ≤ b) (hb : b ≤ 24) (x : Int32) (v : Nat → Int32) (u : Nat → Nat → Int32) : m_M_countOf x (nI a) (nI b) v u = some (nI (cnt (fun j => u 3 (192 + j)) x a (b - a))) := by
  unfold m_M_countOf
  rw [show (0 : Int32) = nI 0 from rfl, P_countOf_l hb x v u (b - a) a 0 64 (by omega) (by omega)]
  simp
