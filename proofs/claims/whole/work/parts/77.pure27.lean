/-- how many bytes a symbol has -/
def wd (x : Int32) : Nat := if x = 86 then 0 else if x = 67 ∨ x = 68 then 2 else 1
theorem wd_le (x : Int32) : wd x ≤ 2 := by
  unfold wd
  split
  · omega
  · split <;> omega
theorem P_width (x : Int32) : m_M_width x = some (nI (wd x)) := by
  unfold m_M_width m_M_width_22 wd
  by_cases h1 : x = 86
  · rw [if_pos h1, if_pos h1]; rfl
  · rw [if_neg h1, if_neg h1]
    by_cases h2 : x = 67
    · rw [if_pos h2, if_pos (Or.inl h2)]; rfl
    · rw [if_neg h2]
      by_cases h3 : x = 68
      · rw [if_pos h3, if_pos (Or.inr h3)]; rfl
      · rw [if_neg h3, if_neg (by simp [h2, h3])]; rfl
def wsm (f : Nat → Int32) : Nat → Nat → Nat
  | 0, _ => 0
  | n + 1, k => wd (f k) + wsm f n (k + 1)
theorem wsm_s (f : Nat → Int32) (n k : Nat) : wsm f (n + 1) k = wd (f k) + wsm f n (k + 1) := rfl
theorem wsm_le (f : Nat → Int32) : ∀ (n k : Nat), wsm f n k ≤ 2 * n := by
  intro n
  induction n with
  | zero => intro k; exact Nat.le_refl _
  | succ n ih => intro k; have := ih (k + 1); have := wd_le (f k); rw [wsm_s]; omega
theorem P_E154 {v f : Nat → Int32} {u : Nat → Nat → Int32} {N : Nat} (h0 : 0 < N) (hN : N ≤ 24) (hf : ∀ j, u 3 (192 + j) = f j) (h2 : u 2 8 = nI N) :
    m_M_isEdited v u = m_M_isEdited_154 v (nI N) (nI (eB f N)) (nI (eA f N)) (if tr f N then 1 else 0) (if ld f N then 1 else 0) u := by
  have hfun : (fun j => u 3 (192 + j)) = f := funext hf
  have hsy : ∀ k, k < 24 → m_M_sym 8 (nI k) v u = some (f k) := by
    intro k hk
    have := P_sym (f := 8) (k := k) (by omega) hk v u
    rw [show 24 * 8 + k = 192 + k by omega, hf k] at this
    exact this
  have hct : ∀ (x : Int32) (a b : Nat), a ≤ b → b ≤ 24 → m_M_countOf x (nI a) (nI b) v u = some (nI (cnt f x a (b - a))) := by
    intro x a b hab hb
    have := P_countOf hab hb x v u
    rw [hfun] at this
    exact this
  have hA := eA_le f N
  have hB := eB_le f N
  have hL := eL_le f N
  have e1 : nI N - 1 = nI (N - 1) := pk_sub (b := 1) h0
  have one : ∀ n : Nat, n ≤ 24 → ((nI n = 1) ↔ n = 1) := fun n hn => nI_eq (b := 1) (by omega) (by decide)
  -- the trailing sign
  have s1 : m_M_isEdited v u = m_M_isEdited_62 v (nI N) (nI N) 0 (if tr f N then 1 else 0) u := by
    unfold m_M_isEdited m_M_isEdited_57 m_M_isEdited_61
    rw [zix8, c8, h2, e1, hsy (N - 1) (by omega)]
    simp only [Option.bind_some]
    by_cases g1 : f (N - 1) = 67
    · rw [if_pos g1, if_pos (show tr f N = true from decide_eq_true (Or.inl g1))]
    · rw [if_neg g1]
      by_cases g2 : f (N - 1) = 68
      · rw [if_pos g2, if_pos (show tr f N = true from decide_eq_true (Or.inr (Or.inl g2)))]
      · rw [if_neg g2, P_isSign]
        simp only [Option.bind_some]
        by_cases g3 : f (N - 1) = 43 ∨ f (N - 1) = 45
        · have hc := hct (f (N - 1)) 0 N (Nat.zero_le _) hN
          rw [Nat.sub_zero, show nI 0 = (0 : Int32) from rfl] at hc
          rw [if_pos g3, if_neg (by decide), hc]
          simp only [Option.bind_some]
          have hcl := cnt_le f (f (N - 1)) N 0
          by_cases g4 : cnt f (f (N - 1)) 0 N = 1
          · rw [if_pos ((one _ (by omega)).mpr g4), if_pos (show tr f N = true from decide_eq_true (Or.inr (Or.inr ⟨g3, g4⟩)))]
          · rw [if_neg (fun z => g4 ((one _ (by omega)).mp z)), if_neg (show ¬ tr f N = true from fun z => by
              rcases of_decide_eq_true z with z | z | z
              · exact g1 z
              · exact g2 z
              · exact g4 z.2)]
        · rw [if_neg g3, if_pos rfl, if_neg (show ¬ tr f N = true from fun z => by
            rcases of_decide_eq_true z with z | z | z
            · exact g1 z
            · exact g2 z
            · exact g3 z.1)]
  have s2 : m_M_isEdited_62 v (nI N) (nI N) 0 (if tr f N then 1 else 0) u = m_M_isEdited_72 v (nI N) (nI (eB f N)) (nI 0) (if tr f N then 1 else 0) u := by
    unfold m_M_isEdited_62 eB
    cases tr f N
    · simp only [Bool.false_eq_true, if_false, if_true]; rfl
    · simp only [if_true, show ¬ (1 : Int32) = 0 by decide, if_false]
      rw [show nI N + (-1) = nI (N - 1) by rw [add_neg1]; exact e1]; rfl
  have s3 : m_M_isEdited_72 v (nI N) (nI (eB f N)) (nI 0) (if tr f N then 1 else 0) u = m_M_isEdited_112 v (nI N) (nI (eB f N)) (nI 0) (if tr f N then 1 else 0) (if ld f N then 1 else 0) u := by
    unfold m_M_isEdited_72 m_M_isEdited_111
    by_cases g1 : 0 < eB f N
    · rw [if_neg (nI_ge g1 (by omega)), hsy 0 (by omega)]
      simp only [Option.bind_some]
      rw [P_isSign, hct (f 0) 0 (eB f N) (Nat.zero_le _) (by omega)]
      simp only [Option.bind_some, Nat.sub_zero]
      by_cases g3 : f 0 = 43 ∨ f 0 = 45
      · rw [if_pos g3, if_neg (by decide)]
        have hcl := cnt_le f (f 0) (eB f N) 0
        by_cases g4 : cnt f (f 0) 0 (eB f N) = 1
        · rw [if_pos ((one _ (by omega)).mpr g4), if_pos (show ld f N = true from decide_eq_true ⟨g1, g3, g4⟩)]
        · rw [if_neg (fun z => g4 ((one _ (by omega)).mp z)), if_neg (show ¬ ld f N = true from fun z => g4 (of_decide_eq_true z).2.2)]
      · rw [if_neg g3, if_pos rfl, if_neg (show ¬ ld f N = true from fun z => g3 (of_decide_eq_true z).2.1)]
    · rw [if_pos (nI_le (by omega) (by omega)), if_neg (show ¬ ld f N = true from fun z => g1 (of_decide_eq_true z).1)]
  have s4 : m_M_isEdited_112 v (nI N) (nI (eB f N)) (nI 0) (if tr f N then 1 else 0) (if ld f N then 1 else 0) u = m_M_isEdited_122 v (nI N) (nI (eB f N)) (nI (eL f N)) (if tr f N then 1 else 0) (if ld f N then 1 else 0) u := by
    unfold m_M_isEdited_112 eL
    cases ld f N
    · simp only [Bool.false_eq_true, if_false, if_true]
    · simp only [if_true, show ¬ (1 : Int32) = 0 by decide, if_false]
      rw [nI_1]
  rw [s1, s2, s3, s4]
  unfold m_M_isEdited_122
  by_cases g1 : eL f N < eB f N
  · rw [if_neg (nI_ge g1 (by omega)), hsy _ (by omega)]
    simp only [Option.bind_some]
    by_cases g2 : f (eL f N) = 36
    · rw [if_pos g2, hct 36 _ _ hL (by omega)]
      simp only [Option.bind_some]
      have hcl := cnt_le f 36 (eB f N - eL f N) (eL f N)
      by_cases g3 : cnt f 36 (eL f N) (eB f N - eL f N) = 1
      · have hc : cu f N = true := decide_eq_true ⟨g1, g2, g3⟩
        rw [if_pos ((one _ (by omega)).mpr g3), nI_1, show eA f N = eL f N + 1 by unfold eA; rw [if_pos hc]]
      · have hc : ¬ cu f N = true := fun z => g3 (of_decide_eq_true z).2.2
        rw [if_neg (fun z => g3 ((one _ (by omega)).mp z)), show eA f N = eL f N by unfold eA; rw [if_neg hc]; rfl]
    · have hc : ¬ cu f N = true := fun z => g2 (of_decide_eq_true z).2.1
      rw [if_neg g2, show eA f N = eL f N by unfold eA; rw [if_neg hc]; rfl]
  · have hc : ¬ cu f N = true := fun z => g1 (of_decide_eq_true z).1
    rw [if_pos (nI_le (by omega) (by omega)), show eA f N = eL f N by unfold eA; rw [if_neg hc]; rfl]
