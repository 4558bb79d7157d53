def chk (f : Nat → Int32) (x6 : Int32) (pf : Bool) (first : Nat) : Nat → Nat → Nat → Bool
  | 0, _, _ => true
  | n + 1, k, r => if nI k = x6 then chk f x6 pf first n (k + 1) r else (decide (f k = 80) == (decide (r < first) == pf)) && chk f x6 pf first n (k + 1) (r + 1)
def vx (vo : Option Nat) : Int32 := match vo with
  | none => -1
  | some w => nI w
def vin (vo : Option Nat) (k j : Nat) : Nat := match vo with
  | none => 0
  | some w => if k ≤ w ∧ w < j then 1 else 0
theorem vx_eq {vo : Option Nat} {k : Nat} (hw : ∀ w, vo = some w → w < 1000) (hk : k < 1000) : nI k = vx vo ↔ vo = some k := by
  cases vo with
  | none =>
    constructor
    · intro h; exact absurd h (nI_ne_neg (by omega))
    · intro h; cases h
  | some w =>
    have := hw w rfl
    constructor
    · intro h
      have h : nI k = nI w := h
      rw [(nI_eq (by omega) (by omega)).mp h]
    · intro h; cases h; rfl
theorem chk_iff {f : Nat → Int32} {vo : Option Nat} {pf : Bool} {first : Nat} (hw : ∀ w, vo = some w → w < 1000) : ∀ (n k r : Nat), k + n ≤ 24 → (chk f (vx vo) pf first n k r = true ↔ ∀ j, k ≤ j → j < k + n → vo ≠ some j → (f j = 80 ↔ ((r + (j - k) - vin vo k j < first) ↔ pf = true))) := by
  intro n
  induction n with
  | zero => intro k r _; exact ⟨fun _ j h1 h2 => by omega, fun _ => rfl⟩
  | succ n ih =>
    intro k r hk
    have hkk := vx_eq (vo := vo) (k := k) hw (by omega)
    simp only [chk]
    by_cases hv : vo = some k
    · rw [if_pos (hkk.mpr hv), ih (k + 1) r (by omega)]
      subst hv
      constructor
      · intro h j g1 g2 g3
        have hjk : j ≠ k := fun e => g3 (by rw [e])
        have := h j (by omega) (by omega) g3
        have e1 : vin (some k) (k + 1) j = 0 := by unfold vin; simp only []; rw [if_neg (by omega)]
        have e2 : vin (some k) k j = 1 := by unfold vin; simp only []; rw [if_pos (by omega)]
        rw [e1] at this
        rw [e2, show r + (j - k) - 1 = r + (j - (k + 1)) - 0 by omega]
        exact this
      · intro h j g1 g2 g3
        have := h j (by omega) (by omega) g3
        have e1 : vin (some k) (k + 1) j = 0 := by unfold vin; simp only []; rw [if_neg (by omega)]
        have e2 : vin (some k) k j = 1 := by unfold vin; simp only []; rw [if_pos (by omega)]
        rw [e2] at this
        rw [e1, show r + (j - (k + 1)) - 0 = r + (j - k) - 1 by omega]
        exact this
    · rw [if_neg (mt hkk.mp hv), Bool.and_eq_true, ih (k + 1) (r + 1) (by omega)]
      have ev : ∀ j, k < j → vin vo (k + 1) j = vin vo k j := by
        intro j hj
        cases vo with
        | none => rfl
        | some w =>
          have : w ≠ k := fun e => hv (by rw [e])
          unfold vin; simp only []
          by_cases g : k + 1 ≤ w ∧ w < j
          · rw [if_pos g, if_pos (by omega)]
          · rw [if_neg g, if_neg (by omega)]
      have e0 : vin vo k k = 0 := by
        cases vo with
        | none => rfl
        | some w => unfold vin; simp only []; rw [if_neg (by omega)]
      have hd : (decide (f k = 80) == (decide (r < first) == pf)) = true ↔ (f k = 80 ↔ (r < first ↔ pf = true)) := by
        by_cases a1 : f k = 80 <;> by_cases a2 : r < first <;> cases pf <;> simp [a1, a2]
      rw [hd]
      constructor
      · rintro ⟨h1, h2⟩ j g1 g2 g3
        by_cases hj : j = k
        · subst hj; rw [e0, show r + (j - j) - 0 = r by omega]; exact h1
        · have := h2 j (by omega) (by omega) g3
          rw [ev j (by omega)] at this
          rw [show r + (j - k) - vin vo k j = r + 1 + (j - (k + 1)) - vin vo k j by omega]
          exact this
      · intro h
        refine ⟨?_, fun j g1 g2 g3 => ?_⟩
        · have := h k (Nat.le_refl _) (by omega) hv
          rw [e0, show r + (k - k) - 0 = r by omega] at this
          exact this
        · have := h j (by omega) (by omega) g3
          rw [ev j (by omega), show r + 1 + (j - (k + 1)) - vin vo k j = r + (j - k) - vin vo k j by omega]
          exact this
/-- behind the ranks: where the point may stand -/
def nEnd (v : Nat → Int32) (x1 x2 x3 x4 x6 x9 : Int32) (u : Nat → Nat → Int32) : Option (Int32 × (Nat → Nat → Int32)) :=
  if x6 < 0 then m_M_isNumber_282 v x1 x2 x3 x4 x6 x9 u else (if x9 = 0 then (if x6 = (x2 + x3) then m_M_isNumber_282 v x1 x2 x3 x4 x6 x9 u else (if x6 = (x1 - 1) then m_M_isNumber_282 v x1 x2 x3 x4 x6 x9 u else some (0, u))) else (if x6 = x2 then m_M_isNumber_282 v x1 x2 x3 x4 x6 x9 u else (if x6 = (x2 + x4) then m_M_isNumber_282 v x1 x2 x3 x4 x6 x9 u else some (0, u))))
theorem P_rank_l {v f : Nat → Int32} {u : Nat → Nat → Int32} {N first : Nat} {x2 x3 x4 x6 : Int32} (pf : Bool) (hN : N ≤ 24) (hfi : first ≤ 24) (hf : ∀ j, u 3 (192 + j) = f j) : ∀ (n k r fuel : Nat), k + n = N → r ≤ k → n < fuel → m_M_isNumber_162 v fuel (nI N) x2 x3 x4 x6 (if pf then 1 else 0) (nI first) (nI r) (nI k) u = if chk f x6 pf first n k r = true then nEnd v (nI N) x2 x3 x4 x6 (if pf then 1 else 0) u else some (0, u) := by
  intro n
  induction n with
  | zero =>
    intro k r fuel hk hr hfu
    obtain ⟨fuel, rfl⟩ : ∃ z, fuel = z + 1 := ⟨fuel - 1, by omega⟩
    show m_M_isNumber_162b v _ (nI N) x2 x3 x4 x6 _ (nI first) (nI r) (nI k) u = _
    unfold m_M_isNumber_162b nEnd
    rw [if_pos (nI_le (by omega) (by omega)), if_pos (show chk f x6 pf first 0 k r = true from rfl)]
    simp only [zbo_0]
  | succ n ih =>
    intro k r fuel hk hr hfu
    obtain ⟨fuel, rfl⟩ : ∃ z, fuel = z + 1 := ⟨fuel - 1, by omega⟩
    show m_M_isNumber_162b v (m_M_isNumber_162 v fuel) (nI N) x2 x3 x4 x6 _ (nI first) (nI r) (nI k) u = _
    unfold m_M_isNumber_162b
    rw [if_neg (nI_ge (by omega) (by omega))]
    by_cases h6 : nI k = x6
    · have e : chk f x6 pf first (n + 1) k r = chk f x6 pf first n (k + 1) r := if_pos h6
      rw [if_pos h6, e]
      unfold m_M_isNumber_230
      rw [nI_1]
      exact ih (k + 1) r fuel (by omega) (by omega) (by omega)
    · have e : chk f x6 pf first (n + 1) k r = ((decide (f k = 80) == (decide (r < first) == pf)) && chk f x6 pf first n (k + 1) (r + 1)) := if_neg h6
      rw [if_neg h6, e, show (8 : Int32) = nI 8 from rfl, P_sym (by omega) (by omega)]
      simp only [Option.bind_some, m_M_isNumber_196, m_M_isNumber_212, m_M_isNumber_222, m_M_isNumber_230, zbo_0, nI_1]
      rw [show 24 * 8 + k = 192 + k by omega, hf k]
      have hi := ih (k + 1) (r + 1) fuel (by omega) (by omega) (by omega)
      by_cases a1 : f k = 80
      · by_cases a2 : r < first
        · rw [if_pos a1, if_neg (nI_ge a2 (by omega))]
          cases pf
          · simp [a1, a2]
          · simp only [if_true] at hi ⊢
            simp [a1, a2, hi]
        · rw [if_pos a1, if_pos (nI_le (by omega) (by omega))]
          cases pf
          · simp only [Bool.false_eq_true, if_false] at hi ⊢
            simp [a1, a2, hi]
          · simp [a1, a2]
      · by_cases a2 : r < first
        · rw [if_neg a1, if_neg (nI_ge a2 (by omega))]
          cases pf
          · simp only [Bool.false_eq_true, if_false] at hi ⊢
            simp [a1, a2, hi]
          · simp [a1, a2]
        · rw [if_neg a1, if_pos (nI_le (by omega) (by omega))]
          cases pf
          · simp [a1, a2]
          · simp only [if_true] at hi ⊢
            simp [a1, a2, hi]
