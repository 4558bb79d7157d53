/-- a digit's number -/
def dv (x : Int32) : Nat := (x - 48).toNatClampNeg
theorem dv_d {d : Nat} (h : d < 10) : dv (nI (48 + d)) = d := by
  unfold dv
  rw [show (48 : Int32) = nI 48 from rfl, pk_sub (by omega), nI_clamp (by omega)]
  omega
/-- how often, and where it goes on: 0 times is refused -/
def tokT (y : Nat → Int32) (t p : Nat) : Nat × Nat :=
  if y p = 67 ∨ y p = 68 then (if atv y t (p + 1) = (if y p = 67 then 82 else 66) then (1, p + 2) else (0, 0))
  else if atv y t (p + 1) = 40 then
    if atv y t (p + 3) = 41 then (if dg (y (p + 2)) = 0 then (0, 0) else (dv (y (p + 2)), p + 4))
    else if atv y t (p + 4) = 41 then (if dg (y (p + 2)) = 0 then (0, 0) else if dg (y (p + 3)) = 0 then (0, 0) else (10 * dv (y (p + 2)) + dv (y (p + 3)), p + 5))
    else (0, 0)
  else (1, p + 1)
theorem atv_lt {y : Nat → Int32} {t q : Nat} {x : Int32} (h : atv y t q = x) (hx : x ≠ -1) : q < t ∧ y q = x := by
  unfold atv at h
  by_cases h1 : q < t
  · rw [if_pos h1] at h; exact ⟨h1, h⟩
  · rw [if_neg h1] at h; exact absurd h.symm hx
theorem nI_ne_neg {n : Nat} (h : n < 2 ^ 31) : ¬ nI n = -1 := by
  intro e
  have := nI_toInt h
  rw [e] at this
  have h2 : (-1 : Int32).toInt = -1 := by decide
  omega
theorem C_expandOne {y : Nat → Int32} {t p c : Nat} {sv sr : Nat → Int32} (ht : t ≤ 24) (hp : p < t) (hc : sv 1 = nI c) (hc24 : c ≤ 24) :
    m_S_expandOne (nI t) (nI p) sv sr y = some (if 1 ≤ (tokT y t p).1 ∧ c + (tokT y t p).1 ≤ 24 then (nI (tokT y t p).2, upd sv 1 (nI (c + (tokT y t p).1)), rput sr c (tokT y t p).1 (y p)) else (-1, sv, sr)) := by
  have e1 : nI p + 1 = nI (p + 1) := nI_1 p
  have e2 : nI p + 2 = nI (p + 2) := by rw [show (2 : Int32) = nI 2 from rfl, nI_add]
  have h21 : m_S_expandOne (nI t) (nI p) sv sr y = m_S_expandOne_21 y (nI t) (nI p) (y p) (atv y t (p + 1)) sv sr := by
    unfold m_S_expandOne atv
    rw [zix_ok (by omega) (by decide), nI_clamp (by omega), e1]
    by_cases h : p + 1 < t
    · rw [if_neg (nI_ge h (by omega)), if_pos h, zix_ok (by omega) (by decide), nI_clamp (by omega)]
    · rw [if_pos (nI_le (by omega) (by omega)), if_neg h]
  rw [h21]
  have ap1 := C_append (s := y p) (k := 1) (sr := sr) (by decide) hc hc24
  rw [show nI 1 = (1 : Int32) from rfl] at ap1
  have hn1 : ∀ n, n < 1000 → ¬ (nI n = -1) := fun n h => nI_ne_neg (by omega)
  have h51 : ∀ x, m_S_expandOne_51 y (nI p) (y p) (atv y t (p + 1)) x sv sr = some (if atv y t (p + 1) = x ∧ c + 1 ≤ 24 then (nI (p + 2), upd sv 1 (nI (c + 1)), rput sr c 1 (y p)) else (-1, sv, sr)) := by
    intro x
    unfold m_S_expandOne_51
    rw [ap1]
    simp only [Option.bind_some, e2]
    by_cases h : atv y t (p + 1) = x
    · rw [if_pos h]
      by_cases h2 : c + 1 ≤ 24
      · simp [h, h2]
      · simp [h, h2]
    · rw [if_neg h]; simp [h]
  unfold m_S_expandOne_21 tokT
  by_cases h67 : y p = 67
  · have h82 := h51 82
    rw [if_pos h67]
    unfold m_S_expandOne_37
    rw [if_pos h67, h82]
    simp only [h67, true_or, if_true]
    by_cases h : atv y t (p + 1) = 82 <;> simp [h]
  · by_cases h68 : y p = 68
    · have h66 := h51 66
      rw [if_neg h67, if_pos h68]
      unfold m_S_expandOne_37
      rw [if_neg h67, h66]
      rw [h68] at h67
      simp only [h68, or_true, if_true, if_neg h67]
      by_cases h : atv y t (p + 1) = 66 <;> simp [h]
    · rw [if_neg h67, if_neg h68]
      simp only [h67, h68, or_self, if_false]
      by_cases h40 : atv y t (p + 1) = 40
      · rw [if_pos h40, e2, C_close ht (by omega)]
        simp only [Option.bind_some, if_pos h40]
        by_cases h41 : atv y t (p + 3) = 41
        · obtain ⟨l3, y3⟩ := atv_lt h41 (by decide)
          rw [if_pos (show atv y t (p + 2 + 1) = 41 from h41), if_pos h41, if_neg (hn1 _ (by omega))]
          rw [show p + 2 + 1 = (p + 2) + 1 by omega, C_num1 (by omega)]
          simp only [Option.bind_some]
          by_cases hd : dg (y (p + 2)) = 0
          · have ap0 := C_append (s := y p) (k := 0) (sr := sr) (by decide) hc hc24
            rw [show nI 0 = (0 : Int32) from rfl] at ap0
            rw [if_pos hd, if_pos hd, ap0]
            simp
          · obtain ⟨d, hd10, hyd⟩ := dg_1 hd
            rw [if_neg hd, if_neg hd]
            have e5 : y (p + 2) - 48 = nI d := by rw [hyd, show (48 : Int32) = nI 48 from rfl, pk_sub (by omega)]; congr 1; omega
            have e6 : dv (y (p + 2)) = d := by rw [hyd]; exact dv_d hd10
            have apd := C_append (s := y p) (k := d) (sr := sr) (by omega) hc hc24
            rw [e5, apd, e6]
            simp only [Option.bind_some, nI_1]
            by_cases h2 : 1 ≤ d ∧ c + d ≤ 24
            · simp [h2]
            · simp [h2]
        · rw [if_neg (show ¬ atv y t (p + 2 + 1) = 41 from h41), if_neg h41]
          by_cases h42 : atv y t (p + 4) = 41
          · obtain ⟨l4, y4⟩ := atv_lt h42 (by decide)
            rw [if_pos (show atv y t (p + 2 + 2) = 41 from h42), if_pos h42, if_neg (hn1 _ (by omega)), C_num2 (by omega)]
            simp only [Option.bind_some]
            have ap0 := C_append (s := y p) (k := 0) (sr := sr) (by decide) hc hc24
            rw [show nI 0 = (0 : Int32) from rfl] at ap0
            by_cases hd : dg (y (p + 2)) = 0
            · rw [if_pos hd, if_pos hd, ap0]
              simp
            · rw [if_neg hd, if_neg hd]
              by_cases hd3 : dg (y (p + 2 + 1)) = 0
              · have hd3' : dg (y (p + 3)) = 0 := hd3
                rw [if_pos hd3, if_pos hd3', ap0]
                simp
              · have hd3' : ¬ dg (y (p + 3)) = 0 := hd3
                rw [if_neg hd3, if_neg hd3']
                obtain ⟨d, hd10, hyd⟩ := dg_1 hd
                obtain ⟨f, hf10, hyf⟩ := dg_1 hd3'
                have e5 : (y (p + 2) - 48) * 10 + y (p + 2 + 1) - 48 = nI (10 * d + f) := by
                  rw [show p + 2 + 1 = p + 3 by omega, hyd, hyf, show (48 : Int32) = nI 48 from rfl, show (10 : Int32) = nI 10 from rfl, pk_sub (by omega), pk_mul, nI_add, pk_sub (by omega)]
                  congr 1; omega
                have e6 : 10 * dv (y (p + 2)) + dv (y (p + 3)) = 10 * d + f := by rw [hyd, hyf, dv_d hd10, dv_d hf10]
                have apd := C_append (s := y p) (k := 10 * d + f) (sr := sr) (by omega) hc hc24
                rw [e5, apd, e6]
                simp only [Option.bind_some, nI_1]
                by_cases h2 : 1 ≤ 10 * d + f ∧ c + (10 * d + f) ≤ 24
                · simp [h2]
                · simp [h2]
          · rw [if_neg (show ¬ atv y t (p + 2 + 2) = 41 from h42), if_neg h42]
            simp
      · rw [if_neg h40, if_neg h40, ap1]
        simp only [Option.bind_some, e1]
        by_cases h2 : c + 1 ≤ 24 <;> simp [h2]
