theorem zbo_0 {α : Type} {K : Option α} : zbo 0 K = K := if_pos (Or.inl rfl)
theorem zbo_1 {α : Type} {K : Option α} : zbo 1 K = K := if_pos (Or.inr rfl)
/-- is it a digit: 1 or 0 -/
def dg (x : Int32) : Int32 := if x < 48 then 0 else if 57 < x then 0 else 1
theorem P_isDigit (x : Int32) : m_M_isDigit x = some (dg x) := by
  unfold m_M_isDigit dg
  repeat' split
  all_goals first | exact zbo_0 | exact zbo_1
theorem C_isDigit (x : Int32) : m_P_isDigit x = some (dg x) := by
  unfold m_P_isDigit dg
  repeat' split
  all_goals first | exact zbo_0 | exact zbo_1
theorem dg_01 (x : Int32) : dg x = 0 ∨ dg x = 1 := by
  unfold dg
  repeat' split
  all_goals simp
theorem dg_1 {x : Int32} (h : dg x ≠ 0) : ∃ d : Nat, d < 10 ∧ x = nI (48 + d) := by
  unfold dg at h
  by_cases h1 : x < 48
  · rw [if_pos h1] at h; exact absurd rfl h
  · rw [if_neg h1] at h
    by_cases h2 : 57 < x
    · rw [if_pos h2] at h; exact absurd rfl h
    · obtain ⟨j, hj, rfl⟩ := nI_of2 (x := x) (M := 57) (n := 57) (by decide) (by
        intro h3
        exact h1 (Int32.lt_trans h3 (by decide))) (by simpa [Int32.not_lt] using h2)
      have h4 : ¬ j < 48 := fun h5 => h1 (by rw [show (48 : Int32) = nI 48 from rfl]; exact nI_lt h5 (by decide))
      exact ⟨j - 48, by omega, by congr 1; omega⟩
def isy (x : Int32) : Int32 := if x = 36 then 1 else if x = 42 then 1 else if x = 43 then 1 else if x = 44 then 1 else if x = 45 then 1 else if x = 46 then 1 else if x = 47 then 1 else if x = 48 then 1 else if x = 57 then 1 else if x = 65 then 1 else if x = 66 then 1 else if x = 80 then 1 else if x = 83 then 1 else if x = 86 then 1 else if x = 88 then 1 else if x = 90 then 1 else 0
theorem P_isSymbol (x : Int32) : m_M_isSymbol x = some (isy x) := by
  unfold m_M_isSymbol isy
  simp only [zbo_0, zbo_1, apply_ite (some : Int32 → Option Int32)]
/-- the character at a place of a text of t characters, -1 behind it -/
def atv (y : Nat → Int32) (t q : Nat) : Int32 := if q < t then y q else -1
theorem P_at {v : Nat → Int32} {u : Nat → Nat → Int32} {t q : Nat} (ht : t ≤ 24) (hv : v 1 = nI t) (hq : q < 1000) : m_M_at (nI q) v u = some (atv (u 1) t q) := by
  unfold m_M_at atv
  rw [hv]
  by_cases h : q < t
  · rw [if_neg (nI_ge h (by omega)), if_pos h, zix_ok (by omega) (by decide), nI_clamp (by omega)]
  · rw [if_pos (nI_le (by omega) (by omega)), if_neg h]
/-- what the parentheses behind a symbol are: 0 none, -1 wrong, else their length -/
def parv (y : Nat → Int32) (t p : Nat) : Int32 :=
  if atv y t p = 40 then
    if dg (atv y t (p + 1)) = 0 then -1
    else if dg (atv y t (p + 2)) = 0 then
      if atv y t (p + 2) = 41 ∧ ¬ atv y t (p + 1) = 48 then 3 else -1
    else
      if atv y t (p + 3) = 41 ∧ ¬ (atv y t (p + 1) = 48 ∧ atv y t (p + 2) = 48) then 4 else -1
  else 0
theorem P_par {v : Nat → Int32} {u : Nat → Nat → Int32} {t p : Nat} (ht : t ≤ 24) (hv : v 1 = nI t) (hp : p < 100) : m_M_parentheses (nI p) v u = some (parv (u 1) t p) := by
  have a0 := P_at (u := u) ht hv (show p < 1000 by omega)
  have a1 := P_at (u := u) ht hv (show p + 1 < 1000 by omega)
  have a2 := P_at (u := u) ht hv (show p + 2 < 1000 by omega)
  have a3 := P_at (u := u) ht hv (show p + 3 < 1000 by omega)
  have e1 : nI p + 1 = nI (p + 1) := nI_1 p
  have e2 : nI p + 2 = nI (p + 2) := by rw [show (2 : Int32) = nI 2 from rfl, nI_add]
  have e3 : nI p + 3 - 1 = nI (p + 2) := by rw [show (3 : Int32) = nI 3 from rfl, nI_add, nI_pred]
  have e4 : nI p + 4 - 1 = nI (p + 3) := by rw [show (4 : Int32) = nI 4 from rfl, nI_add, nI_pred]
  unfold m_M_parentheses parv
  rw [a0]
  simp only [Option.bind_some]
  by_cases h0 : atv (u 1) t p = 40
  · rw [if_pos h0, if_pos h0, e1, a1]
    simp only [Option.bind_some, P_isDigit]
    by_cases h1 : dg (atv (u 1) t (p + 1)) = 0
    · rw [if_pos h1, if_pos h1]
    · rw [if_neg h1, if_neg h1, e2, a2]
      simp only [Option.bind_some, P_isDigit, m_M_parentheses_45, m_M_parentheses_75, m_M_parentheses_79, m_M_parentheses_80, e1, e2, e3, e4, a1, a2, a3]
      by_cases h2 : dg (atv (u 1) t (p + 2)) = 0
      · simp only [if_pos h2]
        by_cases h3 : atv (u 1) t (p + 1) = 48
        · simp [h3]
        · by_cases h4 : atv (u 1) t (p + 2) = 41 <;> simp [h3, h4]
      · simp only [if_neg h2]
        by_cases h3 : atv (u 1) t (p + 1) = 48
        · by_cases h5 : atv (u 1) t (p + 2) = 48
          · by_cases h4 : atv (u 1) t (p + 3) = 41 <;> simp [h3, h4, h5]
          · by_cases h4 : atv (u 1) t (p + 3) = 41 <;> simp [h3, h4, h5]
        · by_cases h4 : atv (u 1) t (p + 3) = 41 <;> simp [h3, h4]
  · rw [if_neg h0, if_neg h0]
/-- k places from a on are set -/
def rput (f : Nat → Int32) (a k : Nat) (s : Int32) : Nat → Int32 := fun j => if a ≤ j ∧ j < a + k then s else f j
theorem rput_0 (f : Nat → Int32) (a : Nat) (s : Int32) : rput f a 0 s = f := by
  funext j; unfold rput; rw [if_neg (by omega)]
theorem rput_s (f : Nat → Int32) (a k : Nat) (s : Int32) : rput (upd f a s) (a + 1) k s = rput f a (k + 1) s := by
  funext j; unfold rput upd
  by_cases h : j = a
  · subst h; simp
  · by_cases h2 : a + 1 ≤ j ∧ j < a + 1 + k
    · rw [if_pos h2, if_pos (by omega)]
    · rw [if_neg h2, if_neg h, if_neg (by omega)]
theorem C_append_l (s : Int32) (m : Nat) : ∀ (n k c fuel : Nat) (sv sr : Nat → Int32), k + n = m → m ≤ 24 → n < fuel → sv 1 = nI c → c + n ≤ 24 → m_S_append_20 fuel s (nI m) (nI k) sv sr = some (1, (if n = 0 then sv else upd sv 1 (nI (c + n))), rput sr c n s) := by
  intro n
  induction n with
  | zero =>
    intro k c fuel sv sr hk hm hf hc hcn
    obtain ⟨fuel, rfl⟩ : ∃ z, fuel = z + 1 := ⟨fuel - 1, by omega⟩
    show m_S_append_20b _ s (nI m) (nI k) sv sr = _
    unfold m_S_append_20b
    rw [if_pos (nI_le (by omega) (by omega)), zbo_1, rput_0, if_pos rfl]
  | succ n ih =>
    intro k c fuel sv sr hk hm hf hc hcn
    obtain ⟨fuel, rfl⟩ : ∃ z, fuel = z + 1 := ⟨fuel - 1, by omega⟩
    show m_S_append_20b (m_S_append_20 fuel) s (nI m) (nI k) sv sr = _
    unfold m_S_append_20b
    rw [if_neg (nI_ge (by omega) (by omega)), hc, zix_ok (by omega) (by decide), nI_clamp (by omega), nI_1, nI_1]
    rw [ih (k + 1) (c + 1) fuel (upd sv 1 (nI (c + 1))) (upd sr c s) (by omega) hm (by omega) pk_us (by omega)]
    congr 2
    by_cases h : n = 0
    · subst h; simp [rput_s]
    · simp only [if_neg h, rput_s]
      rw [if_neg (by omega), show c + 1 + n = c + (n + 1) by omega]
      congr 1
      funext j; unfold upd; by_cases h2 : j = 1 <;> simp [h2]
theorem C_append {s : Int32} {k c : Nat} {sv sr : Nat → Int32} (hk : k < 2 ^ 31) (hc : sv 1 = nI c) (hc24 : c ≤ 24) : m_S_append s (nI k) sv sr = some (if 1 ≤ k ∧ c + k ≤ 24 then (1, upd sv 1 (nI (c + k)), rput sr c k s) else (0, sv, sr)) := by
  unfold m_S_append
  by_cases h1 : 1 ≤ k
  · rw [if_neg (by rw [show (1 : Int32) = nI 1 from rfl]; exact nI_nlt h1 hk), hc, show (24 : Int32) = nI 24 from rfl, pk_sub hc24]
    by_cases h2 : c + k ≤ 24
    · rw [if_pos (nI_le (by omega) (by omega)), show (0 : Int32) = nI 0 from rfl, C_append_l s k k 0 c 64 sv sr (by omega) (by omega) (by omega) hc h2, if_neg (by omega), if_pos ⟨h1, h2⟩]
    · rw [if_neg (nI_ge (by omega) hk), zbo_0, if_neg (by omega)]
  · rw [if_pos (by rw [show (1 : Int32) = nI 1 from rfl]; exact nI_lt (by omega) (by omega)), zbo_0, if_neg (by omega)]
