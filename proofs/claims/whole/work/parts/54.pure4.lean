theorem tok_next {y : Nat → Int32} {t p : Nat} (hp : p < t) (h : 1 ≤ (tokT y t p).1) : p < (tokT y t p).2 ∧ (tokT y t p).2 ≤ t := by
  unfold tokT at h ⊢
  by_cases h6 : y p = 67 ∨ y p = 68
  · rw [if_pos h6] at h ⊢
    by_cases h1 : atv y t (p + 1) = (if y p = 67 then 82 else 66)
    · rw [if_pos h1]
      obtain ⟨l, -⟩ := atv_lt h1 (by split <;> decide)
      exact ⟨by show p < p + 2; omega, by show p + 2 ≤ t; omega⟩
    · rw [if_neg h1] at h; exact absurd h (by decide)
  · rw [if_neg h6] at h ⊢
    by_cases h4 : atv y t (p + 1) = 40
    · rw [if_pos h4] at h ⊢
      by_cases h3 : atv y t (p + 3) = 41
      · obtain ⟨l, -⟩ := atv_lt h3 (by decide)
        rw [if_pos h3] at h ⊢
        by_cases hd : dg (y (p + 2)) = 0
        · rw [if_pos hd] at h; exact absurd h (by decide)
        · rw [if_neg hd]; exact ⟨by show p < p + 4; omega, by show p + 4 ≤ t; omega⟩
      · rw [if_neg h3] at h ⊢
        by_cases h5 : atv y t (p + 4) = 41
        · obtain ⟨l, -⟩ := atv_lt h5 (by decide)
          rw [if_pos h5] at h ⊢
          by_cases hd : dg (y (p + 2)) = 0
          · rw [if_pos hd] at h; exact absurd h (by decide)
          · rw [if_neg hd] at h ⊢
            by_cases hd2 : dg (y (p + 3)) = 0
            · rw [if_pos hd2] at h; exact absurd h (by decide)
            · rw [if_neg hd2]; exact ⟨by show p < p + 5; omega, by show p + 5 ≤ t; omega⟩
        · rw [if_neg h5] at h; exact absurd h (by decide)
    · rw [if_neg h4]; exact ⟨by show p < p + 1; omega, by show p + 1 ≤ t; omega⟩
/-- the symbols of a text from a place on, behind c symbols in a row; whatever characters they are -/
def exS (y : Nat → Int32) (t : Nat) : Nat → Nat → Nat → (Nat → Int32) → Option (Nat × (Nat → Int32))
  | 0, _, c, row => some (c, row)
  | n + 1, p, c, row => if p < t then (if 1 ≤ (tokT y t p).1 ∧ c + (tokT y t p).1 ≤ 24 then exS y t n (tokT y t p).2 (c + (tokT y t p).1) (rput row c (tokT y t p).1 (y p)) else none) else some (c, row)
theorem C_expand_l {y : Nat → Int32} {t : Nat} (ht : t ≤ 24) : ∀ (n p c st fuel : Nat) (sv sr : Nat → Int32), t ≤ p + n → p ≤ t → st ≤ p → n < fuel → sv 1 = nI c → c ≤ 24 →
    (match exS y t n p c sr with
     | some q => ∃ sv', sv' 1 = nI q.1 ∧ q.1 ≤ 24 ∧ m_S_expand_10 y fuel (nI t) (nI p) (nI st) sv sr = some (if q.1 = 0 then 0 else 1, sv', q.2)
     | none => ∃ sv' sr', m_S_expand_10 y fuel (nI t) (nI p) (nI st) sv sr = some (0, sv', sr')) := by
  intro n
  induction n with
  | zero =>
    intro p c st fuel sv sr hn hp hst hf hc hc24
    obtain ⟨fuel, rfl⟩ : ∃ z, fuel = z + 1 := ⟨fuel - 1, by omega⟩
    refine ⟨sv, hc, hc24, ?_⟩
    show m_S_expand_10b y _ (nI t) (nI p) (nI st) sv sr = _
    unfold m_S_expand_10b
    rw [if_pos (show nI t ≤ nI p from nI_le (by omega) (by omega))]
    have h42 : m_S_expand_42 y sv sr = some (if c = 0 then 0 else 1, sv, sr) := by
      unfold m_S_expand_42
      rw [hc]
      by_cases h : c = 0
      · subst h; rw [if_pos (by decide), if_pos rfl, zbo_0]
      · rw [if_neg (nI_nle (by omega) (by omega)), if_neg h, zbo_1]
    split
    · exact h42
    · exact h42
  | succ n ih =>
    intro p c st fuel sv sr hn hp hst hf hc hc24
    obtain ⟨fuel, rfl⟩ : ∃ z, fuel = z + 1 := ⟨fuel - 1, by omega⟩
    have hrun : m_S_expand_10 y (fuel + 1) (nI t) (nI p) (nI st) sv sr = m_S_expand_10b y (m_S_expand_10 y fuel) (nI t) (nI p) (nI st) sv sr := rfl
    by_cases hpt : p < t
    · have e : exS y t (n + 1) p c sr = (if 1 ≤ (tokT y t p).1 ∧ c + (tokT y t p).1 ≤ 24 then exS y t n (tokT y t p).2 (c + (tokT y t p).1) (rput sr c (tokT y t p).1 (y p)) else none) := if_pos hpt
      rw [e, hrun]
      unfold m_S_expand_10b
      rw [if_neg (nI_ge (show st < t by omega) (by omega)), if_neg (nI_ge hpt (by omega)), C_expandOne ht hpt hc hc24]
      simp only [Option.bind_some]
      by_cases hk : 1 ≤ (tokT y t p).1 ∧ c + (tokT y t p).1 ≤ 24
      · obtain ⟨g1, g2⟩ := tok_next hpt hk.1
        rw [if_pos hk, if_pos hk]
        simp only [if_neg (nI_ne_neg (show (tokT y t p).2 < 2 ^ 31 by omega)), nI_1]
        exact ih (tokT y t p).2 (c + (tokT y t p).1) (st + 1) fuel _ _ (by omega) g2 (by omega) (by omega) pk_us hk.2
      · rw [if_neg hk, if_neg hk]
        exact ⟨sv, sr, by simp [zbo_0]⟩
    · have e : exS y t (n + 1) p c sr = some (c, sr) := if_neg hpt
      rw [e]
      have := ih p c st (fuel + 1) sv sr (by omega) hp hst (by omega) hc hc24
      have e2 : exS y t n p c sr = some (c, sr) := by
        cases n with
        | zero => rfl
        | succ n => exact if_neg hpt
      rw [e2] at this
      exact this
theorem C_expand {y : Nat → Int32} {t : Nat} (ht : t ≤ 24) (sv sr : Nat → Int32) :
    (match exS y t 24 0 0 sr with
     | some q => ∃ sv', sv' 1 = nI q.1 ∧ q.1 ≤ 24 ∧ m_S_expand (nI t) sv sr y = some (if q.1 = 0 then 0 else 1, sv', q.2)
     | none => ∃ sv' sr', m_S_expand (nI t) sv sr y = some (0, sv', sr')) := by
  unfold m_S_expand
  exact C_expand_l ht 24 0 0 0 64 (upd sv 1 0) sr (by omega) (by omega) (by omega) (by omega) pk_us (by omega)
