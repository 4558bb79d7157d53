theorem C_isSign (x : Int32) : m_E_isSign x = some (if x = 43 ∨ x = 45 then 1 else 0) := by
  unfold m_E_isSign m_E_isSign_12
  by_cases h1 : x = 43
  · rw [if_pos h1, if_pos (Or.inl h1), zbo_1]
  · by_cases h2 : x = 45
    · rw [if_neg h1, if_pos h2, if_pos (Or.inr h2), zbo_1]
    · rw [if_neg h1, if_neg h2, if_neg (by simp [h1, h2]), zbo_0]
theorem P_isSign (x : Int32) : m_M_isSign x = some (if x = 43 ∨ x = 45 then 1 else 0) := by
  unfold m_M_isSign m_M_isSign_12
  by_cases h1 : x = 43
  · rw [if_pos h1, if_pos (Or.inl h1), zbo_1]
  · by_cases h2 : x = 45
    · rw [if_neg h1, if_pos h2, if_pos (Or.inr h2), zbo_1]
    · rw [if_neg h1, if_neg h2, if_neg (by simp [h1, h2]), zbo_0]
theorem C_once_l {v b rw pw : Nat → Int32} {e : Nat} (he : v 10 = nI e) (he24 : e ≤ 24) (x : Int32) : ∀ (n k c fuel : Nat), k + n = e → n < fuel → c ≤ k → m_E_standsOnce_7 v b rw pw fuel x (nI c) (nI k) = some (if c + cnt rw x k n = 1 then 1 else 0) := by
  intro n
  induction n with
  | zero =>
    intro k c fuel hk hf hc
    obtain ⟨fuel, rfl⟩ : ∃ z, fuel = z + 1 := ⟨fuel - 1, by omega⟩
    show m_E_standsOnce_7b v b rw pw _ x (nI c) (nI k) = _
    unfold m_E_standsOnce_7b
    rw [he, if_pos (nI_le (by omega) (by omega))]
    show _ = some (if c = 1 then 1 else 0)
    by_cases h : c = 1
    · rw [if_pos (show nI c = 1 by rw [h]; rfl), if_pos h, zbo_1]
    · rw [if_neg (show ¬ nI c = 1 from fun z => h ((nI_eq (b := 1) (by omega) (by decide)).mp z)), if_neg h, zbo_0]
  | succ n ih =>
    intro k c fuel hk hf hc
    obtain ⟨fuel, rfl⟩ : ∃ z, fuel = z + 1 := ⟨fuel - 1, by omega⟩
    show m_E_standsOnce_7b v b rw pw (m_E_standsOnce_7 v b rw pw fuel) x (nI c) (nI k) = _
    unfold m_E_standsOnce_7b m_E_standsOnce_31
    rw [he, if_neg (nI_ge (by omega) (by omega)), zix_ok (by omega) (by decide), nI_clamp (by omega), cnt_s]
    by_cases h : rw k = x
    · rw [if_pos h, if_pos h, nI_1, nI_1, ih (k + 1) (c + 1) fuel (by omega) (by omega) (by omega), Nat.add_assoc]
    · rw [if_neg h, if_neg h, show nI c + 0 = nI c from nI_add c 0, nI_1, ih (k + 1) c fuel (by omega) (by omega) (by omega), Nat.zero_add]
theorem C_once {v b rw pw : Nat → Int32} {a e : Nat} (ha : v 9 = nI a) (he : v 10 = nI e) (hae : a ≤ e) (he24 : e ≤ 24) (x : Int32) : m_E_standsOnce x v b rw pw = some (if cnt rw x a (e - a) = 1 then 1 else 0) := by
  unfold m_E_standsOnce
  rw [ha, show (0 : Int32) = nI 0 from rfl, C_once_l he he24 x (e - a) a 0 64 (by omega) (by omega) (by omega), Nat.zero_add]
  rfl
theorem C_first {v b rw pw : Nat → Int32} {a e : Nat} (ha : v 9 = nI a) (he : v 10 = nI e) (hae : a ≤ e) (he24 : e ≤ 24) : m_E_firstOfRest v b rw pw = some (if a < e then rw a else -1) := by
  unfold m_E_firstOfRest
  rw [ha, he]
  by_cases h : a < e
  · rw [if_neg (nI_ge h (by omega)), zix_ok (by omega) (by decide), nI_clamp (by omega), if_pos h]
  · rw [if_pos (nI_le (by omega) (by omega)), if_neg h]
/-- does a sign trail, lead; does a currency; where the body begins and ends -/
def tr (f : Nat → Int32) (N : Nat) : Bool := decide (f (N - 1) = 67 ∨ f (N - 1) = 68 ∨ ((f (N - 1) = 43 ∨ f (N - 1) = 45) ∧ cnt f (f (N - 1)) 0 N = 1))
def eB (f : Nat → Int32) (N : Nat) : Nat := if tr f N then N - 1 else N
def ld (f : Nat → Int32) (N : Nat) : Bool := decide (0 < eB f N ∧ (f 0 = 43 ∨ f 0 = 45) ∧ cnt f (f 0) 0 (eB f N) = 1)
def eL (f : Nat → Int32) (N : Nat) : Nat := if ld f N then 1 else 0
def cu (f : Nat → Int32) (N : Nat) : Bool := decide (eL f N < eB f N ∧ f (eL f N) = 36 ∧ cnt f 36 (eL f N) (eB f N - eL f N) = 1)
def eA (f : Nat → Int32) (N : Nat) : Nat := eL f N + (if cu f N then 1 else 0)
theorem eB_le (f : Nat → Int32) (N : Nat) : eB f N ≤ N := by unfold eB; split <;> omega
theorem eL_le (f : Nat → Int32) (N : Nat) : eL f N ≤ eB f N := by
  unfold eL
  by_cases h : ld f N = true
  · rw [if_pos h]
    unfold ld at h
    have := of_decide_eq_true h
    omega
  · rw [if_neg h]; omega
theorem eA_le (f : Nat → Int32) (N : Nat) : eL f N ≤ eA f N ∧ eA f N ≤ eB f N := by
  have := eL_le f N
  unfold eA
  by_cases h : cu f N = true
  · rw [if_pos h]
    unfold cu at h
    have := of_decide_eq_true h
    omega
  · rw [if_neg h]; omega
theorem T51 {b rw pw w : Nat → Int32} {x : Int32} {N : Nat} (t : Bool) (h10 : w 10 = nI N) : m_E_takeApart_51 b rw pw x (if t then 1 else 0) w = m_E_takeApart_79 b rw pw (if t then 1 else 0) (nI N) (upd w 8 (if t then x else -1)) := by
  unfold m_E_takeApart_51 m_E_takeApart_62
  cases t
  · simp only [Bool.false_eq_true, if_false, if_true]
    rw [pk_un (by decide), h10]
  · simp only [if_true, show ¬ (1 : Int32) = 0 by decide, if_false]
    rw [pk_un (by decide), h10]
theorem T111 {b rw pw w : Nat → Int32} {x : Int32} (t : Bool) : m_E_takeApart_111 b rw pw x (if t then 1 else 0) w = m_E_takeApart_143 b rw pw (if t then 1 else 0) (w 9) (upd w 7 (if t then x else -1)) := by
  unfold m_E_takeApart_111 m_E_takeApart_125
  cases t
  · simp only [Bool.false_eq_true, if_false, if_true]
    rw [pk_un (by decide)]
  · simp only [if_true, show ¬ (1 : Int32) = 0 by decide, if_false]
    rw [pk_un (by decide)]
theorem T79 {b rw pw w : Nat → Int32} {N : Nat} (h0 : 0 < N) (hN : N ≤ 24) (h9 : w 9 = nI 0) : m_E_takeApart_79 b rw pw (if tr rw N then 1 else 0) (nI N) w = m_E_takeApart_111 b rw pw (if 0 < eB rw N then rw 0 else -1) (if ld rw N then 1 else 0) (upd w 10 (nI (eB rw N))) := by
  have hB := eB_le rw N
  have e : nI N - (if tr rw N then 1 else 0) = nI (eB rw N) := by
    unfold eB
    by_cases h : tr rw N = true
    · rw [if_pos h, if_pos h]
      exact pk_sub (b := 1) h0
    · rw [if_neg h, if_neg h]
      exact pk_sub (b := 0) (Nat.zero_le N)
  unfold m_E_takeApart_79
  rw [e]
  have g9 : (upd w 10 (nI (eB rw N))) 9 = nI 0 := by rw [pk_un (by decide)]; exact h9
  have g10 : (upd w 10 (nI (eB rw N))) 10 = nI (eB rw N) := pk_us
  rw [C_first g9 g10 (Nat.zero_le _) (by omega)]
  simp only [Option.bind_some]
  rw [C_isSign]
  simp only [Option.bind_some]
  by_cases h1 : 0 < eB rw N
  · rw [if_pos h1]
    by_cases h2 : rw 0 = 43 ∨ rw 0 = 45
    · rw [if_pos h2, if_neg (by decide), C_once g9 g10 (Nat.zero_le _) (by omega)]
      simp only [Option.bind_some, Nat.sub_zero]
      by_cases h3 : cnt rw (rw 0) 0 (eB rw N) = 1
      · have hl : ld rw N = true := decide_eq_true ⟨h1, h2, h3⟩
        rw [if_pos h3, if_neg (by decide), if_pos hl]
      · have hl : ld rw N = false := decide_eq_false (fun z => h3 z.2.2)
        rw [if_neg h3, if_pos rfl, hl]
        rfl
    · have hl : ld rw N = false := decide_eq_false (fun z => h2 z.2.1)
      rw [if_neg h2, if_pos rfl, hl]
      rfl
  · have hl : ld rw N = false := decide_eq_false (fun z => h1 z.1)
    rw [if_neg h1, if_neg (show ¬ ((-1 : Int32) = 43 ∨ (-1 : Int32) = 45) by decide), if_pos rfl, hl]
    rfl
theorem T143 {b rw pw w : Nat → Int32} {N : Nat} (hN : N ≤ 24) (h10 : w 10 = nI (eB rw N)) : m_E_takeApart_143 b rw pw (if ld rw N then 1 else 0) (nI 0) w = some (upd (upd w 9 (nI (eL rw N))) 9 (nI (eA rw N))) := by
  have hB := eB_le rw N
  have hL := eL_le rw N
  have e : nI 0 + (if ld rw N then 1 else 0) = nI (eL rw N) := by
    unfold eL
    cases ld rw N
    · rfl
    · rfl
  unfold m_E_takeApart_143
  rw [e]
  have g9 : (upd w 9 (nI (eL rw N))) 9 = nI (eL rw N) := pk_us
  have g10 : (upd w 9 (nI (eL rw N))) 10 = nI (eB rw N) := by rw [pk_un (by decide)]; exact h10
  rw [C_first g9 g10 hL (by omega)]
  simp only [Option.bind_some, m_E_takeApart_174, m_E_takeApart_175]
  have no : cu rw N = false → some (upd (upd w 9 (nI (eL rw N))) 9 ((upd w 9 (nI (eL rw N))) 9 + 0)) = some (upd (upd w 9 (nI (eL rw N))) 9 (nI (eA rw N))) := by
    intro hc
    have e2 : eA rw N = eL rw N + 0 := by unfold eA; rw [hc]; rfl
    rw [g9, e2, ← nI_add]; rfl
  by_cases h1 : eL rw N < eB rw N
  · rw [if_pos h1]
    by_cases h2 : rw (eL rw N) = 36
    · rw [if_pos h2, C_once g9 g10 hL (by omega)]
      simp only [Option.bind_some]
      by_cases h3 : cnt rw 36 (eL rw N) (eB rw N - eL rw N) = 1
      · have hc : cu rw N = true := decide_eq_true ⟨h1, h2, h3⟩
        have e2 : eA rw N = eL rw N + 1 := by unfold eA; rw [hc]; rfl
        rw [if_pos h3, if_neg (by decide), g9, e2, nI_1]
      · rw [if_neg h3, if_pos rfl]
        exact no (decide_eq_false (fun z => h3 z.2.2))
    · rw [if_neg h2]
      exact no (decide_eq_false (fun z => h2 z.2.1))
  · rw [if_neg h1, if_neg (by decide)]
    exact no (decide_eq_false (fun z => h1 z.1))
theorem C_takeApart {v b rw pw : Nat → Int32} {N : Nat} (h0 : 0 < N) (hN : N ≤ 24) :
    ∃ v', m_E_takeApart (nI N) v b rw pw = some v' ∧ v' 7 = (if ld rw N then rw 0 else -1) ∧ v' 8 = (if tr rw N then rw (N - 1) else -1) ∧ v' 9 = nI (eA rw N) ∧ v' 10 = nI (eB rw N) ∧ ∀ j, j ≠ 7 → j ≠ 8 → j ≠ 9 → j ≠ 10 → v' j = v j := by
  have e1 : nI N - 1 = nI (N - 1) := pk_sub (b := 1) h0
  have g9 : (upd (upd v 9 0) 10 (nI N)) 9 = nI 0 := by rw [pk_un (by decide), pk_us]; rfl
  have g10 : (upd (upd v 9 0) 10 (nI N)) 10 = nI N := pk_us
  have hA : m_E_takeApart (nI N) v b rw pw = m_E_takeApart_51 b rw pw (rw (N - 1)) (if tr rw N then 1 else 0) (upd (upd v 9 0) 10 (nI N)) := by
    unfold m_E_takeApart m_E_takeApart_46 m_E_takeApart_50
    rw [e1, zix_ok (by omega) (by decide), nI_clamp (by omega)]
    by_cases h1 : rw (N - 1) = 67
    · have ht : tr rw N = true := decide_eq_true (Or.inl h1)
      rw [if_pos h1, if_pos ht]
    · rw [if_neg h1]
      by_cases h2 : rw (N - 1) = 68
      · have ht : tr rw N = true := decide_eq_true (Or.inr (Or.inl h2))
        rw [if_pos h2, if_pos ht]
      · rw [if_neg h2, C_isSign]
        simp only [Option.bind_some]
        by_cases h3 : rw (N - 1) = 43 ∨ rw (N - 1) = 45
        · rw [if_pos h3, if_neg (by decide), C_once g9 g10 (Nat.zero_le _) hN]
          simp only [Option.bind_some, Nat.sub_zero]
          by_cases h4 : cnt rw (rw (N - 1)) 0 N = 1
          · have ht : tr rw N = true := decide_eq_true (Or.inr (Or.inr ⟨h3, h4⟩))
            rw [if_pos h4, if_neg (by decide), if_pos ht]
          · have ht : tr rw N = false := decide_eq_false (fun z => by
              rcases z with z | z | z
              · exact h1 z
              · exact h2 z
              · exact h4 z.2)
            rw [if_neg h4, if_pos rfl, ht]
            rfl
        · have ht : tr rw N = false := decide_eq_false (fun z => by
            rcases z with z | z | z
            · exact h1 z
            · exact h2 z
            · exact h3 z.1)
          rw [if_neg h3, if_pos rfl, ht]
          rfl
  have h9' : (upd (upd (upd v 9 0) 10 (nI N)) 8 (if tr rw N then rw (N - 1) else -1)) 9 = nI 0 := by rw [pk_un (by decide)]; exact g9
  rw [hA, T51 _ g10, T79 h0 hN h9', T111]
  rw [show (upd (upd (upd (upd v 9 0) 10 (nI N)) 8 (if tr rw N then rw (N - 1) else -1)) 10 (nI (eB rw N))) 9 = nI 0 by rw [pk_un (by decide)]; exact h9']
  rw [T143 hN (by rw [pk_un (by decide)]; exact pk_us)]
  refine ⟨_, rfl, ?_, ?_, pk_us, ?_, ?_⟩
  · rw [pk_un (by decide), pk_un (by decide), pk_us]
    by_cases hl : ld rw N = true
    · rw [if_pos hl, if_pos hl]
      have hd := of_decide_eq_true hl
      rw [if_pos hd.1]
    · rw [if_neg hl, if_neg hl]
  · rw [pk_un (by decide), pk_un (by decide), pk_un (by decide), pk_un (by decide), pk_us]
  · rw [pk_un (by decide), pk_un (by decide), pk_un (by decide), pk_us]
  · intro j q7 q8 q9 q10
    rw [pk_un q9, pk_un q9, pk_un q7, pk_un q10, pk_un q8, pk_un q10, pk_un q9]
