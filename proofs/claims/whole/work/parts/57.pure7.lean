theorem exS_ext {y : Nat → Int32} {t : Nat} : ∀ (n p c : Nat) (r1 r2 : Nat → Int32), (∀ j, j < c → r1 j = r2 j) → (exS y t n p c r1 = none ∧ exS y t n p c r2 = none) ∨ ∃ q s1 s2, exS y t n p c r1 = some (q, s1) ∧ exS y t n p c r2 = some (q, s2) ∧ ∀ j, j < q → s1 j = s2 j := by
  intro n
  induction n with
  | zero => intro p c r1 r2 h; exact Or.inr ⟨c, r1, r2, rfl, rfl, h⟩
  | succ n ih =>
    intro p c r1 r2 h
    by_cases hp : p < t
    · simp only [exS, if_pos hp]
      by_cases hk : 1 ≤ (tokT y t p).1 ∧ c + (tokT y t p).1 ≤ 24
      · simp only [if_pos hk]
        exact ih _ _ _ _ (by
          intro j hj
          unfold rput
          by_cases hc : c ≤ j ∧ j < c + (tokT y t p).1
          · rw [if_pos hc, if_pos hc]
          · rw [if_neg hc, if_neg hc]; exact h j (by omega))
      · rw [if_neg hk]; exact Or.inl ⟨rfl, if_neg hk⟩
    · rw [exS_end hp, exS_end hp]
      exact Or.inr ⟨c, r1, r2, rfl, rfl, h⟩
theorem expand_both {v : Nat → Int32} {u : Nat → Nat → Int32} {t : Nat} (ht : t ≤ 24) (hv : v 1 = nI t) (sv sr : Nat → Int32) :
    ∃ b u', m_M_expands v u = some (b, u') ∧ DF u u' ∧
      ((b = 1 ∧ ∃ c sv' sr', 0 < c ∧ c ≤ 24 ∧ u' 2 8 = nI c ∧ (∀ j, j < c → lg (sr' j) ∧ u' 3 (192 + j) = sr' j) ∧ sv' 1 = nI c ∧ m_S_expand (nI t) sv sr (u 1) = some (1, sv', sr')) ∨
       (b = 0 ∧ ((∃ sv' sr', m_S_expand (nI t) sv sr (u 1) = some (0, sv', sr')) ∨ ∃ c sv' sr', 0 < c ∧ c ≤ 24 ∧ sv' 1 = nI c ∧ (∃ j, j < c ∧ ¬ lg (sr' j)) ∧ m_S_expand (nI t) sv sr (u 1) = some (1, sv', sr')))) := by
  have e0 : zau u 2 8 0 = zset u 2 (upd (u 2) 8 0) := by rw [show (8 : Int32) = nI 8 from rfl, zau_nI _ _ _ _ (by decide)]
  have hd0 : DF u (zset u 2 (upd (u 2) 8 0)) := DF.at8 u 2 0 (by decide) (by decide) (by decide)
  have hC := C_expand ht sv sr (y := u 1)
  by_cases h0 : t = 0
  · subst h0
    refine ⟨0, zset u 2 (upd (u 2) 8 0), ?_, hd0, Or.inr ⟨rfl, Or.inl ?_⟩⟩
    · unfold m_M_expands
      rw [e0, show (8 : Int32) = nI 8 from rfl, zix_ok (by decide) (by decide)]
      show m_M_expands_10b v _ 0 _ = _
      unfold m_M_expands_10b
      rw [hv, if_pos (by decide), if_pos (by decide), zbo_0]
    · rw [exS_end (by decide)] at hC
      obtain ⟨sv', -, -, h⟩ := hC
      exact ⟨sv', sr, h⟩
  · obtain ⟨b, u', k1, k2, k3⟩ := P_expands_l ht (by omega) hv 24 0 0 64 (zset u 2 (upd (u 2) 8 0)) (by omega) (by omega) (by omega) (by rw [zset_s]; exact pk_us) (by omega)
    have hrun : m_M_expands v u = some (b, u') := by
      unfold m_M_expands
      rw [e0, show (8 : Int32) = nI 8 from rfl, zix_ok (by decide) (by decide)]
      exact k1
    refine ⟨b, u', hrun, hd0.tr k2, ?_⟩
    rw [zset_n _ _ (show (1 : Nat) ≠ 2 by decide), zset_n _ _ (show (3 : Nat) ≠ 2 by decide)] at k3
    rcases k3 with ⟨rfl, c', l1, l2, l3⟩ | ⟨rfl, l3⟩
    · left
      obtain ⟨g1, g2, -, g4⟩ := exL_exS _ _ _ _ _ l3 (fun j h => absurd h (Nat.not_lt_zero j))
      have g4 : 0 < c' := g4 (by decide) (by omega)
      rcases exS_ext (y := u 1) (t := t) 24 0 0 sr (fun j => u 3 (192 + j)) (fun j h => absurd h (Nat.not_lt_zero j)) with ⟨-, e⟩ | ⟨q, s1, s2, e1, e2, e3⟩
      · rw [g1] at e; cases e
      · rw [g1] at e2
        cases e2
        rw [e1] at hC
        obtain ⟨sv', h1, h2, h3⟩ := hC
        refine ⟨rfl, c', sv', s1, g4, l1, l2, fun j hj => ⟨?_, (e3 j hj).symm⟩, h1, ?_⟩
        · rw [e3 j hj]; exact g2 j hj
        · rw [h3]; rw [if_neg (show ¬ c' = 0 by omega)]
    · right
      refine ⟨rfl, ?_⟩
      cases hE : exS (u 1) t 24 0 0 sr with
      | none =>
        rw [hE] at hC
        exact Or.inl hC
      | some q =>
        rw [hE] at hC
        obtain ⟨sv', h1, h2, h3⟩ := hC
        rcases exS_ext (y := u 1) (t := t) 24 0 0 sr (fun j => u 3 (192 + j)) (fun j h => absurd h (Nat.not_lt_zero j)) with ⟨e, -⟩ | ⟨q1, s1, s2, e1, e2, e3⟩
        · rw [hE] at e; cases e
        · rw [hE] at e1
          cases e1
          obtain ⟨j, j1, j2⟩ := exL_not _ _ _ _ l3 _ e2
          have j1 : j < q1 := j1
          have j2 : ¬ lg (s2 j) := j2
          refine Or.inr ⟨q1, sv', s1, by omega, h2, h1, ⟨j, j1, by rw [e3 j j1]; exact j2⟩, ?_⟩
          rw [h3]
          show some (if q1 = 0 then (0 : Int32) else 1, sv', s1) = _
          rw [if_neg (show ¬ q1 = 0 by omega)]
/-- the first place from k on, below c, where x does not stand -/
def runE (f : Nat → Int32) (x : Int32) (k : Nat) : Nat → Nat
  | 0 => k
  | n + 1 => if f k = x then runE f x (k + 1) n else k
theorem runE_le (f : Nat → Int32) (x : Int32) : ∀ (n k : Nat), k ≤ runE f x k n ∧ runE f x k n ≤ k + n ∧ (∀ j, k ≤ j → j < runE f x k n → f j = x) ∧ (runE f x k n < k + n → ¬ f (runE f x k n) = x) := by
  intro n
  induction n with
  | zero => intro k; exact ⟨Nat.le_refl _, Nat.le_refl _, fun j h1 h2 => absurd h2 (Nat.not_lt.mpr h1), fun h => absurd h (Nat.lt_irrefl k)⟩
  | succ n ih =>
    intro k
    by_cases h : f k = x
    · have e : runE f x k (n + 1) = runE f x (k + 1) n := if_pos h
      rw [e]
      obtain ⟨a1, a2, a3, a4⟩ := ih (k + 1)
      refine ⟨by omega, by omega, fun j h1 h2 => ?_, fun h1 => a4 (by omega)⟩
      by_cases hj : j = k
      · subst hj; exact h
      · exact a3 j (by omega) h2
    · have e : runE f x k (n + 1) = k := if_neg h
      rw [e]
      exact ⟨Nat.le_refl _, by omega, fun j h1 h2 => absurd h2 (Nat.not_lt.mpr h1), fun _ => h⟩
theorem C_runEnd_l {sv sr : Nat → Int32} {c : Nat} (hc : sv 1 = nI c) (hc24 : c ≤ 24) (x : Int32) : ∀ (n k fuel : Nat), k + n = c → n < fuel → m_S_runEnd_2 sv sr fuel x (nI k) = some (nI (runE sr x k n)) := by
  intro n
  induction n with
  | zero =>
    intro k fuel hk hf
    obtain ⟨fuel, rfl⟩ : ∃ z, fuel = z + 1 := ⟨fuel - 1, by omega⟩
    show m_S_runEnd_2b sv sr _ x (nI k) = _
    unfold m_S_runEnd_2b
    rw [hc, if_pos (nI_le (by omega) (by omega))]
    rfl
  | succ n ih =>
    intro k fuel hk hf
    obtain ⟨fuel, rfl⟩ : ∃ z, fuel = z + 1 := ⟨fuel - 1, by omega⟩
    show m_S_runEnd_2b sv sr (m_S_runEnd_2 sv sr fuel) x (nI k) = _
    unfold m_S_runEnd_2b
    rw [hc, if_neg (nI_ge (by omega) (by omega)), zix_ok (by omega) (by decide), nI_clamp (by omega), nI_1]
    by_cases h : sr k = x
    · rw [if_pos h, ih (k + 1) fuel (by omega) (by omega)]
      simp only [runE, if_pos h]
    · rw [if_neg h]
      simp only [runE, if_neg h]
theorem C_runEnd {sv sr : Nat → Int32} {c k : Nat} (hc : sv 1 = nI c) (hc24 : c ≤ 24) (hk : k ≤ c) (x : Int32) : m_S_runEnd x (nI k) sv sr = some (nI (runE sr x k (c - k))) := by
  unfold m_S_runEnd
  exact C_runEnd_l hc hc24 x (c - k) k 64 (by omega) (by omega)
theorem C_symAt {sv sr : Nat → Int32} {c k : Nat} (hc : sv 1 = nI c) (hc24 : c ≤ 24) (hk : k < 1000) : m_S_symbolAt (nI k) sv sr = some (if k < c then sr k else -1) := by
  unfold m_S_symbolAt
  rw [if_neg (nI_pos (by omega)), hc]
  by_cases h : k < c
  · rw [if_neg (nI_ge h (by omega)), zix_ok (by omega) (by decide), nI_clamp (by omega), if_pos h]
  · rw [if_pos (nI_le (by omega) (by omega)), if_neg h]
