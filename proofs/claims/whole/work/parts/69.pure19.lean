/-- a fill, an insertion -/
def iF (x : Int32) : Bool := decide (x = 90 ∨ x = 42 ∨ x = 43 ∨ x = 45 ∨ x = 36)
def iI (x : Int32) : Bool := decide (x = 66 ∨ x = 48 ∨ x = 47 ∨ x = 44)
theorem P_isFill (x : Int32) : m_M_isFill x = some (if iF x then 1 else 0) := by
  unfold m_M_isFill m_M_isFill_30 iF
  by_cases h1 : x = 90
  · simp [h1, zbo_1]
  · by_cases h2 : x = 42
    · simp [h2, zbo_1]
    · by_cases h3 : x = 43
      · simp [h3, zbo_1]
      · by_cases h4 : x = 45
        · simp [h4, zbo_1]
        · by_cases h5 : x = 36
          · simp [h5, zbo_1]
          · simp [h1, h2, h3, h4, h5, zbo_0]
theorem P_isInsertion (x : Int32) : m_M_isInsertion x = some (if iI x then 1 else 0) := by
  unfold m_M_isInsertion m_M_isInsertion_24 iI
  by_cases h1 : x = 66
  · simp [h1, zbo_1]
  · by_cases h2 : x = 48
    · simp [h2, zbo_1]
    · by_cases h3 : x = 47
      · simp [h3, zbo_1]
      · by_cases h4 : x = 44
        · simp [h4, zbo_1]
        · simp [h1, h2, h3, h4, zbo_0]
theorem iF_ne {x : Int32} (h : iF x = true) : ¬ x = 0 ∧ ¬ x = 57 ∧ ¬ x = -1 ∧ ¬ x = 46 ∧ ¬ x = 86 ∧ iI x = false := by
  have h := of_decide_eq_true h
  rcases h with rfl | rfl | rfl | rfl | rfl <;> decide
/-- the body's fill (0 none) and point, none if it is no body -/
def bdy (f : Nat → Int32) : Nat → Nat → Int32 → Option Nat → Option (Int32 × Option Nat)
  | 0, _, fl, pt => some (fl, pt)
  | n + 1, k, fl, pt =>
    if iF (f k) = true then (if fl = 0 ∨ fl = f k then bdy f n (k + 1) (f k) pt else none)
    else if f k = 46 ∨ f k = 86 then (if pt = none then bdy f n (k + 1) fl (some k) else none)
    else if f k = 57 ∨ iI (f k) = true then bdy f n (k + 1) fl pt
    else none
theorem bdy_fl {f : Nat → Int32} : ∀ (n k : Nat) (fl : Int32) (pt : Option Nat) (q : Int32 × Option Nat), bdy f n k fl pt = some q → (fl ≠ 0 → q.1 = fl) ∧ (fl = 0 → q.1 ≠ 0 → iF q.1 = true) := by
  intro n
  induction n with
  | zero => intro k fl pt q h; cases h; exact ⟨fun _ => rfl, fun h1 h2 => absurd h1 h2⟩
  | succ n ih =>
    intro k fl pt q h
    unfold bdy at h
    by_cases h1 : iF (f k) = true
    · rw [if_pos h1] at h
      by_cases h2 : fl = 0 ∨ fl = f k
      · rw [if_pos h2] at h
        obtain ⟨g1, -⟩ := ih _ _ _ _ h
        have g1 := g1 (iF_ne h1).1
        refine ⟨fun h3 => ?_, fun _ _ => by rw [g1]; exact h1⟩
        rcases h2 with h2 | h2
        · exact absurd h2 h3
        · rw [g1, h2]
      · rw [if_neg h2] at h; cases h
    · rw [if_neg h1] at h
      by_cases h2 : f k = 46 ∨ f k = 86
      · rw [if_pos h2] at h
        by_cases h3 : pt = none
        · rw [if_pos h3] at h; exact ih _ _ _ _ h
        · rw [if_neg h3] at h; cases h
      · rw [if_neg h2] at h
        by_cases h3 : f k = 57 ∨ iI (f k) = true
        · rw [if_pos h3] at h; exact ih _ _ _ _ h
        · rw [if_neg h3] at h; cases h
def bset (u : Nat → Nat → Int32) (a e : Nat) (q : Int32 × Option Nat) : Nat → Nat → Int32 :=
  zset (zset (zset (zset u 11 (upd (u 11) 8 q.1)) 14 (upd (u 14) 8 (vx q.2))) 12 (upd (u 12) 8 (nI a))) 13 (upd (u 13) 8 (nI e))
theorem P_body_l {v f : Nat → Int32} {u : Nat → Nat → Int32} {a e : Nat} (he : e ≤ 24) (hf : ∀ j, u 3 (192 + j) = f j) : ∀ (n k fuel : Nat) (fl : Int32) (pt : Option Nat), k + n = e → n < fuel → (∀ w, pt = some w → w < 1000) →
    m_M_body_8 v fuel (nI a) (nI e) fl (vx pt) (nI k) u = (match bdy f n k fl pt with | some q => some (1, bset u a e q) | none => some (0, u)) := by
  intro n
  induction n with
  | zero =>
    intro k fuel fl pt hk hfu hw
    obtain ⟨fuel, rfl⟩ : ∃ z, fuel = z + 1 := ⟨fuel - 1, by omega⟩
    show m_M_body_8b v _ (nI a) (nI e) fl (vx pt) (nI k) u = some (1, bset u a e (fl, pt))
    unfold m_M_body_8b
    rw [if_pos (nI_le (by omega) (by omega)), zix8, zix8, zix8, zix8, zbo_1, zau8, zau8, zau8, zau8]
    unfold bset
    rw [zset_n (j := 11) (k := 14) u _ (by decide), zset_n (j := 14) (k := 12) _ _ (by decide), zset_n (j := 11) (k := 12) _ _ (by decide), zset_n (j := 12) (k := 13) _ _ (by decide), zset_n (j := 14) (k := 13) _ _ (by decide), zset_n (j := 11) (k := 13) _ _ (by decide)]
  | succ n ih =>
    intro k fuel fl pt hk hfu hw
    obtain ⟨fuel, rfl⟩ : ∃ z, fuel = z + 1 := ⟨fuel - 1, by omega⟩
    show m_M_body_8b v (m_M_body_8 v fuel) (nI a) (nI e) fl (vx pt) (nI k) u = _
    unfold m_M_body_8b m_M_body_44 m_M_body_64 m_M_body_95
    rw [if_neg (nI_ge (by omega) (by omega)), show (8 : Int32) = nI 8 from rfl, P_sym (by omega) (by omega)]
    simp only [Option.bind_some]
    rw [show 24 * 8 + k = 192 + k by omega, hf k, P_isFill]
    simp only [Option.bind_some, nI_1, zbo_0]
    unfold bdy
    by_cases h1 : iF (f k) = true
    · rw [if_pos h1, if_neg (by decide), if_pos h1]
      by_cases h2 : fl = 0
      · rw [if_pos h2, if_pos (Or.inl h2)]
        exact ih (k + 1) fuel (f k) pt (by omega) (by omega) hw
      · rw [if_neg h2]
        by_cases h3 : fl = f k
        · rw [if_pos h3, if_pos (Or.inr h3)]
          exact ih (k + 1) fuel (f k) pt (by omega) (by omega) hw
        · rw [if_neg h3, if_neg (by simp [h2, h3])]
    · rw [if_neg h1, if_pos rfl, if_neg h1]
      have p64 : (if vx pt < 0 then m_M_body_8 v fuel (nI a) (nI e) fl (nI k) (nI (k + 1)) u else some (0, u)) = (match (if pt = none then bdy f n (k + 1) fl (some k) else none) with | some q => some (1, bset u a e q) | none => some (0, u)) := by
        cases pt with
        | none =>
          rw [if_pos (show vx none < 0 by decide), if_pos rfl]
          exact ih (k + 1) fuel fl (some k) (by omega) (by omega) (fun w e => by cases e; omega)
        | some w =>
          have := hw w rfl
          rw [if_neg (show ¬ vx (some w) < 0 from nI_pos (by omega)), if_neg (by simp)]
      by_cases h2 : f k = 46
      · rw [if_pos h2, if_pos (Or.inl h2)]; exact p64
      · rw [if_neg h2]
        by_cases h3 : f k = 86
        · rw [if_pos h3, if_pos (Or.inr h3)]; exact p64
        · rw [if_neg h3, if_neg (show ¬ (f k = 46 ∨ f k = 86) by simp [h2, h3])]
          by_cases h4 : f k = 57
          · rw [if_pos h4, if_pos (Or.inl h4)]
            exact ih (k + 1) fuel fl pt (by omega) (by omega) hw
          · rw [if_neg h4, P_isInsertion]
            simp only [Option.bind_some]
            by_cases h5 : iI (f k) = true
            · rw [if_pos h5, if_neg (by decide), if_pos (Or.inr h5)]
              exact ih (k + 1) fuel fl pt (by omega) (by omega) hw
            · rw [if_neg h5, if_pos rfl, if_neg (by simp [h4, h5])]
theorem P_body {v f : Nat → Int32} {u : Nat → Nat → Int32} {a e : Nat} (hae : a ≤ e) (he : e ≤ 24) (hf : ∀ j, u 3 (192 + j) = f j) :
    m_M_body (nI a) (nI e) v u = (match bdy f (e - a) a 0 none with | some q => some (1, bset u a e q) | none => some (0, u)) := by
  unfold m_M_body
  exact P_body_l he hf (e - a) a 64 0 none (by omega) (by omega) (fun w h => by cases h)
