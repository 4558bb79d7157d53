/-- one of many rows is another -/
def zset (u : Nat → Nat → Int32) (j : Nat) (f : Nat → Int32) : Nat → Nat → Int32 := fun k => if k = j then f else u k
theorem zset_s (u : Nat → Nat → Int32) (j : Nat) (f : Nat → Int32) : zset u j f j = f := if_pos rfl
theorem zset_n (u : Nat → Nat → Int32) {j k : Nat} (f : Nat → Int32) (h : k ≠ j) : zset u j f k = u k := if_neg h
theorem zset_zset (u : Nat → Nat → Int32) (j : Nat) (f g : Nat → Int32) : zset (zset u j f) j g = zset u j g := by
  funext k; unfold zset; by_cases h : k = j <;> simp [h]
theorem zset_self (u : Nat → Nat → Int32) (j : Nat) : zset u j (u j) = u := by
  funext k; unfold zset; by_cases h : k = j <;> simp [h]
theorem zset_comm (u : Nat → Nat → Int32) {i j : Nat} (f g : Nat → Int32) (h : i ≠ j) : zset (zset u i f) j g = zset (zset u j g) i f := by
  funext k; unfold zset
  by_cases h1 : k = j
  · subst h1; simp [h.symm]
  · by_cases h2 : k = i <;> simp [h1, h2, h]
theorem zau_nI (u : Nat → Nat → Int32) (j k : Nat) (x : Int32) (hk : k < 2 ^ 31) : zau u j (nI k) x = zset u j (upd (u j) k x) := by
  unfold zau zset
  rw [nI_clamp hk]
theorem c8 : ((8 : Int32)).toNatClampNeg = 8 := by decide
theorem P_put2_l (s : Int32) (m c : Nat) (v : Nat → Int32) : ∀ (n k fuel : Nat) (u : Nat → Nat → Int32), k + n = m → c + m ≤ 24 → n < fuel → u 2 8 = nI c → m_M_put2_18 v fuel s (nI m) (nI k) u = some (1, zset (zset u 3 (rput (u 3) (192 + c + k) n s)) 2 (upd (u 2) 8 (nI (c + m)))) := by
  intro n
  induction n with
  | zero =>
    intro k fuel u hk hm hf hc
    obtain ⟨fuel, rfl⟩ : ∃ z, fuel = z + 1 := ⟨fuel - 1, by omega⟩
    show m_M_put2_18b v _ s (nI m) (nI k) u = _
    unfold m_M_put2_18b
    rw [if_pos (nI_le (by omega) (by omega)), show (8 : Int32) = nI 8 from rfl, zix_ok (by omega) (by decide), zix_ok (by omega) (by decide), zbo_1, zau_nI _ _ _ _ (by decide), nI_clamp (by decide), hc, nI_add, rput_0, zset_self]
  | succ n ih =>
    intro k fuel u hk hm hf hc
    obtain ⟨fuel, rfl⟩ : ∃ z, fuel = z + 1 := ⟨fuel - 1, by omega⟩
    show m_M_put2_18b v (m_M_put2_18 v fuel) s (nI m) (nI k) u = _
    unfold m_M_put2_18b
    have e : (192 : Int32) + nI c + nI k = nI (192 + c + k) := by rw [show (192 : Int32) = nI 192 from rfl, nI_add, nI_add]
    rw [if_neg (nI_ge (by omega) (by omega)), c8, hc, e, show (8 : Int32) = nI 8 from rfl, zix_ok (by omega) (by decide), zix_ok (by omega) (by decide), zau_nI _ _ _ _ (by omega), nI_1]
    rw [ih (k + 1) fuel _ (by omega) hm (by omega) (by rw [zset_n _ _ (by decide)]; exact hc)]
    rw [zset_zset, zset_s, zset_n _ _ (show (2 : Nat) ≠ 3 by decide), show 192 + c + (k + 1) = 192 + c + k + 1 by omega, rput_s]
theorem P_put2 {s : Int32} {k c : Nat} {v : Nat → Int32} {u : Nat → Nat → Int32} (hk : k < 1000) (hc24 : c ≤ 24) (hc : u 2 8 = nI c) : m_M_put2 s (nI k) v u = some (if c + k ≤ 24 then (1, zset (zset u 3 (rput (u 3) (192 + c) k s)) 2 (upd (u 2) 8 (nI (c + k)))) else (0, u)) := by
  unfold m_M_put2
  rw [c8, hc, nI_add, show (24 : Int32) = nI 24 from rfl]
  rw [show (8 : Int32) = nI 8 from rfl, zix_ok (by omega) (by decide)]
  by_cases h : c + k ≤ 24
  · rw [if_pos (nI_le h (by decide)), show (0 : Int32) = nI 0 from rfl, P_put2_l s k c v k 0 64 u (by omega) h (by omega) hc, if_pos h]
    rfl
  · rw [if_neg (nI_ge (by omega) (by omega)), zbo_0, if_neg h]
theorem C_close {y : Nat → Int32} {t p : Nat} (ht : t ≤ 24) (hp : p < 100) : m_S_closingPlace (nI t) (nI p) y = some (if atv y t (p + 1) = 41 then nI (p + 1) else if atv y t (p + 2) = 41 then nI (p + 2) else -1) := by
  have e1 : nI p + 1 = nI (p + 1) := nI_1 p
  have e2 : nI p + 2 = nI (p + 2) := by rw [show (2 : Int32) = nI 2 from rfl, nI_add]
  have h2 : m_S_closingPlace_21 y (nI t) (nI p) = some (if atv y t (p + 2) = 41 then nI (p + 2) else -1) := by
    unfold m_S_closingPlace_21 atv
    rw [e2]
    by_cases h : p + 2 < t
    · rw [if_neg (nI_ge h (by omega)), if_pos h, zix_ok (by omega) (by decide), nI_clamp (by omega)]
      split <;> rfl
    · rw [if_pos (nI_le (by omega) (by omega)), if_neg h]
      rfl
  unfold m_S_closingPlace
  rw [e1, h2]
  by_cases h : p + 1 < t
  · rw [if_neg (nI_ge h (by omega)), zix_ok (by omega) (by decide), nI_clamp (by omega)]
    have : atv y t (p + 1) = y (p + 1) := if_pos h
    rw [this]
    split <;> rfl
  · rw [if_pos (nI_le (by omega) (by omega))]
    have : atv y t (p + 1) = -1 := if_neg h
    rw [this]
    rfl
theorem C_num1 {y : Nat → Int32} {p : Nat} (hp : p + 1 < 24) : m_S_writtenNumber (nI p) (nI (p + 1)) y = some (if dg (y p) = 0 then 0 else y p - 48) := by
  unfold m_S_writtenNumber
  show m_S_writtenNumber_5b y (m_S_writtenNumber_5 y 63) (nI (p + 1)) 0 (nI p) = _
  unfold m_S_writtenNumber_5b
  rw [if_neg (nI_ge (by omega) (by omega)), zix_ok (by omega) (by decide), nI_clamp (by omega), C_isDigit]
  simp only [Option.bind_some]
  by_cases h : dg (y p) = 0
  · rw [if_pos h, if_pos h]
  · rw [if_neg h, if_neg h, zix_ok (by omega) (by decide), nI_1]
    show m_S_writtenNumber_5b y (m_S_writtenNumber_5 y 62) (nI (p + 1)) _ (nI (p + 1)) = _
    unfold m_S_writtenNumber_5b
    rw [if_pos (nI_le (by omega) (by omega))]
    simp
theorem C_num2 {y : Nat → Int32} {p : Nat} (hp : p + 2 < 24) : m_S_writtenNumber (nI p) (nI (p + 2)) y = some (if dg (y p) = 0 then 0 else if dg (y (p + 1)) = 0 then 0 else (y p - 48) * 10 + y (p + 1) - 48) := by
  unfold m_S_writtenNumber
  show m_S_writtenNumber_5b y (m_S_writtenNumber_5 y 63) (nI (p + 2)) 0 (nI p) = _
  unfold m_S_writtenNumber_5b
  rw [if_neg (nI_ge (by omega) (by omega)), zix_ok (by omega) (by decide), nI_clamp (by omega), C_isDigit]
  simp only [Option.bind_some]
  by_cases h : dg (y p) = 0
  · rw [if_pos h, if_pos h]
  · rw [if_neg h, if_neg h, zix_ok (by omega) (by decide), nI_1]
    show m_S_writtenNumber_5b y (m_S_writtenNumber_5 y 62) (nI (p + 2)) _ (nI (p + 1)) = _
    unfold m_S_writtenNumber_5b
    rw [if_neg (nI_ge (by omega) (by omega)), zix_ok (by omega) (by decide), nI_clamp (by omega), C_isDigit]
    simp only [Option.bind_some]
    by_cases h2 : dg (y (p + 1)) = 0
    · rw [if_pos h2, if_pos h2]
    · rw [if_neg h2, if_neg h2, zix_ok (by omega) (by decide), nI_1]
      show m_S_writtenNumber_5b y (m_S_writtenNumber_5 y 61) (nI (p + 2)) _ (nI (p + 2)) = _
      unfold m_S_writtenNumber_5b
      rw [if_pos (nI_le (by omega) (by omega))]
      simp
