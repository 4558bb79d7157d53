theorem dg_neg1 : dg (-1) = 0 := by decide
theorem dg_41 : dg 41 = 0 := by decide
theorem atv_dg {y : Nat → Int32} {t q : Nat} (h : ¬ dg (atv y t q) = 0) : q < t ∧ atv y t q = y q := by
  by_cases h1 : q < t
  · exact ⟨h1, if_pos h1⟩
  · exact absurd (by rw [show atv y t q = -1 from if_neg h1]; exact dg_neg1) h
theorem dv_0 {x : Int32} (hd : ¬ dg x = 0) : dv x = 0 ↔ x = 48 := by
  obtain ⟨d, hd10, rfl⟩ := dg_1 hd
  rw [dv_d hd10]
  constructor
  · rintro rfl; rfl
  · intro h
    rw [show (48 : Int32) = nI 48 from rfl] at h
    have := (nI_eq (by omega) (by decide)).mp h
    omega
theorem par_tok {y : Nat → Int32} {t p : Nat} (h67 : ¬ y p = 67) (h68 : ¬ y p = 68) :
    (parv y t (p + 1) = 0 ∧ tokT y t p = (1, p + 1)) ∨
    (parv y t (p + 1) = 3 ∧ tokT y t p = (dv (y (p + 2)), p + 4) ∧ 1 ≤ dv (y (p + 2)) ∧ ¬ dg (y (p + 2)) = 0 ∧ p + 3 < t) ∨
    (parv y t (p + 1) = 4 ∧ tokT y t p = (10 * dv (y (p + 2)) + dv (y (p + 3)), p + 5) ∧ 1 ≤ 10 * dv (y (p + 2)) + dv (y (p + 3)) ∧ ¬ dg (y (p + 2)) = 0 ∧ ¬ dg (y (p + 3)) = 0 ∧ p + 4 < t) ∨
    (parv y t (p + 1) = -1 ∧ (tokT y t p).1 = 0) := by
  unfold parv tokT
  rw [if_neg (show ¬ (y p = 67 ∨ y p = 68) by simp [h67, h68])]
  rw [show p + 1 + 1 = p + 2 by omega, show p + 1 + 2 = p + 3 by omega, show p + 1 + 3 = p + 4 by omega]
  by_cases h40 : atv y t (p + 1) = 40
  · rw [if_pos h40, if_pos h40]
    right
    by_cases hd : dg (atv y t (p + 2)) = 0
    · right; right
      refine ⟨if_pos hd, ?_⟩
      have key : ∀ q, p + 2 < q → atv y t q = 41 → dg (y (p + 2)) = 0 := by
        intro q hq h
        obtain ⟨l, -⟩ := atv_lt h (by decide)
        have : atv y t (p + 2) = y (p + 2) := if_pos (by omega)
        rw [← this]; exact hd
      by_cases h3 : atv y t (p + 3) = 41
      · rw [if_pos h3, if_pos (key (p + 3) (by omega) h3)]
      · rw [if_neg h3]
        by_cases h4 : atv y t (p + 4) = 41
        · rw [if_pos h4, if_pos (key (p + 4) (by omega) h4)]
        · rw [if_neg h4]
    · obtain ⟨l2, a2⟩ := atv_dg hd
      rw [if_neg hd]
      rw [a2] at hd ⊢
      by_cases hd3 : dg (atv y t (p + 3)) = 0
      · rw [if_pos hd3]
        by_cases h3 : atv y t (p + 3) = 41
        · obtain ⟨l3, -⟩ := atv_lt h3 (by decide)
          rw [if_pos h3, if_neg hd]
          by_cases h48 : y (p + 2) = 48
          · right; right
            exact ⟨by simp [h48], (dv_0 hd).mpr h48⟩
          · left
            refine ⟨by simp [h3, h48], rfl, ?_, hd, l3⟩
            have := mt (dv_0 hd).mp h48
            omega
        · right; right
          refine ⟨by simp [h3], ?_⟩
          rw [if_neg h3]
          by_cases h4 : atv y t (p + 4) = 41
          · obtain ⟨l4, -⟩ := atv_lt h4 (by decide)
            have : atv y t (p + 3) = y (p + 3) := if_pos (by omega)
            rw [this] at hd3
            rw [if_pos h4, if_neg hd, if_pos hd3]
          · rw [if_neg h4]
      · obtain ⟨l3, a3⟩ := atv_dg hd3
        rw [if_neg hd3]
        have h3 : ¬ atv y t (p + 3) = 41 := fun h => hd3 (by rw [h]; exact dg_41)
        rw [if_neg h3]
        rw [a3] at hd3 ⊢
        by_cases h4 : atv y t (p + 4) = 41
        · obtain ⟨l4, -⟩ := atv_lt h4 (by decide)
          rw [if_pos h4, if_neg hd, if_neg hd3]
          by_cases hz : y (p + 2) = 48 ∧ y (p + 3) = 48
          · right; right
            refine ⟨by simp [hz], ?_⟩
            show 10 * dv (y (p + 2)) + dv (y (p + 3)) = 0
            rw [(dv_0 hd).mpr hz.1, (dv_0 hd3).mpr hz.2]
          · right; left
            refine ⟨by rw [if_pos ⟨h4, hz⟩], rfl, ?_, hd, hd3, l4⟩
            by_cases hz1 : y (p + 2) = 48
            · have := mt (dv_0 hd3).mp (fun h => hz ⟨hz1, h⟩)
              omega
            · have := mt (dv_0 hd).mp hz1
              omega
        · right; right
          exact ⟨by simp [h4], by rw [if_neg h4]⟩
  · rw [if_neg h40, if_neg h40]
    exact Or.inl ⟨rfl, rfl⟩
def lg (x : Int32) : Prop := x = 67 ∨ x = 68 ∨ ¬ isy x = 0
/-- the row of the reference behind a token -/
def mrow (u : Nat → Nat → Int32) (c k : Nat) (s : Int32) : Nat → Nat → Int32 := zset (zset u 3 (rput (u 3) (192 + c) k s)) 2 (upd (u 2) 8 (nI (c + k)))
theorem P_step {v : Nat → Int32} {u : Nat → Nat → Int32} {t p c : Nat} (ht : t ≤ 24) (hv : v 1 = nI t) (hp : p < t) (hc : u 2 8 = nI c) (hc24 : c ≤ 24) (rec : Int32 → (Nat → Nat → Int32) → Option (Int32 × (Nat → Nat → Int32))) :
    ((lg (u 1 p) ∧ 1 ≤ (tokT (u 1) t p).1 ∧ c + (tokT (u 1) t p).1 ≤ 24) → m_M_expands_10b v rec (nI p) u = rec (nI (tokT (u 1) t p).2) (mrow u c (tokT (u 1) t p).1 (u 1 p))) ∧
    (¬ (lg (u 1 p) ∧ 1 ≤ (tokT (u 1) t p).1 ∧ c + (tokT (u 1) t p).1 ≤ 24) → m_M_expands_10b v rec (nI p) u = some (0, u)) := by
  have e1 : nI p + 1 = nI (p + 1) := nI_1 p
  have e2 : nI p + 2 = nI (p + 2) := by rw [show (2 : Int32) = nI 2 from rfl, nI_add]
  have e3 : nI p + 3 = nI (p + 3) := by rw [show (3 : Int32) = nI 3 from rfl, nI_add]
  have e4 : nI p + (1 + 3) = nI (p + 4) := by rw [show (1 : Int32) + 3 = nI 4 from rfl, nI_add]
  have e5 : nI p + (1 + 4) = nI (p + 5) := by rw [show (1 : Int32) + 4 = nI 5 from rfl, nI_add]
  have e6 : nI p + (1 + 0) = nI (p + 1) := by rw [show (1 : Int32) + 0 = nI 1 from rfl, nI_add]
  have a1 := P_at (u := u) ht hv (show p + 1 < 1000 by omega)
  have a2 := P_at (u := u) ht hv (show p + 2 < 1000 by omega)
  have a3 := P_at (u := u) ht hv (show p + 3 < 1000 by omega)
  have hpar := P_par (u := u) ht hv (show p + 1 < 100 by omega)
  have put1 := P_put2 (s := u 1 p) (k := 1) (v := v) (by decide) hc24 hc
  rw [show nI 1 = (1 : Int32) from rfl] at put1
  unfold m_M_expands_10b
  rw [hv, if_neg (nI_ge hp (by omega)), zix_ok (by omega) (by decide), nI_clamp (by omega)]
  have h57 : ∀ x, m_M_expands_57 v rec (nI p) (u 1 p) x (atv (u 1) t (p + 1)) u = (if atv (u 1) t (p + 1) = x ∧ c + 1 ≤ 24 then rec (nI (p + 2)) (mrow u c 1 (u 1 p)) else some (0, u)) := by
    intro x
    unfold m_M_expands_57 m_M_expands_168
    rw [put1]
    simp only [Option.bind_some, e2]
    by_cases h : atv (u 1) t (p + 1) = x
    · by_cases h2 : c + 1 ≤ 24 <;> simp [h, h2, zbo_0, mrow]
    · simp [h, zbo_0]
  by_cases h67 : u 1 p = 67
  · rw [if_pos h67]
    unfold m_M_expands_37
    rw [e1, a1]
    simp only [Option.bind_some, if_pos h67, h57]
    unfold tokT lg
    simp only [h67, true_or, if_true, true_and]
    constructor
    · intro h
      by_cases h8 : atv (u 1) t (p + 1) = 82
      · simp only [h8, if_true] at h ⊢; simp [h.2]
      · simp [h8] at h
    · intro h
      by_cases h8 : atv (u 1) t (p + 1) = 82
      · simp [h8] at h; simp [h8]; omega
      · simp [h8]
  · by_cases h68 : u 1 p = 68
    · rw [if_neg h67, if_pos h68]
      unfold m_M_expands_37
      rw [e1, a1]
      simp only [Option.bind_some, if_neg h67, h57]
      unfold tokT lg
      rw [h68] at h67
      simp only [h68, or_true, true_or, if_true, true_and, if_neg h67]
      constructor
      · intro h
        by_cases h8 : atv (u 1) t (p + 1) = 66
        · simp only [h8, if_true] at h ⊢; simp [h.2]
        · simp [h8] at h
      · intro h
        by_cases h8 : atv (u 1) t (p + 1) = 66
        · simp [h8] at h; simp [h8]; omega
        · simp [h8]
    · rw [if_neg h67, if_neg h68, e1, hpar]
      simp only [Option.bind_some, P_isSymbol]
      have hlg : lg (u 1 p) ↔ ¬ isy (u 1 p) = 0 := by unfold lg; simp [h67, h68]
      rw [hlg]
      by_cases hi : isy (u 1 p) = 0
      · rw [if_pos hi]
        exact ⟨fun h => absurd hi h.1, fun _ => zbo_0⟩
      · rw [if_neg hi]
        have h148 : ∀ (x : Int32) (k nx : Nat), k < 1000 → nI p + (1 + x) = nI nx → m_M_expands_148 v rec (nI p) (u 1 p) x (nI k) u = (if c + k ≤ 24 then rec (nI nx) (mrow u c k (u 1 p)) else some (0, u)) := by
          intro x k nx hk hx
          unfold m_M_expands_148 m_M_expands_168
          rw [P_put2 hk hc24 hc]
          simp only [Option.bind_some, hx]
          by_cases h2 : c + k ≤ 24 <;> simp [h2, zbo_0, mrow]
        rcases par_tok (t := t) h67 h68 with ⟨q1, q2⟩ | ⟨q1, q2, q3, q4, q5⟩ | ⟨q1, q2, q3, q4, q5, q6⟩ | ⟨q1, q2⟩
        · rw [q1, q2, if_pos (by decide), if_pos rfl, show (1 : Int32) = nI 1 from rfl, h148 0 1 (p + 1) (by decide) e6]
          constructor
          · intro h; rw [if_pos h.2.2]
          · intro h; rw [if_neg (fun h2 => h ⟨hi, Nat.le_refl 1, h2⟩)]
        · obtain ⟨d, hd10, hyd⟩ := dg_1 q4
          have ea : atv (u 1) t (p + 2) = u 1 (p + 2) := if_pos (by omega)
          have ed : u 1 (p + 2) - 48 = nI d := by rw [hyd, show (48 : Int32) = nI 48 from rfl, pk_sub (by omega)]; congr 1; omega
          have ev : dv (u 1 (p + 2)) = d := by rw [hyd]; exact dv_d hd10
          rw [q1, q2, if_pos (by decide), if_neg (by decide), if_pos rfl, e2, a2]
          simp only [Option.bind_some]
          rw [ea, ed, h148 3 d (p + 4) (by omega) e4, ev]
          rw [ev] at q3
          constructor
          · intro h; rw [if_pos h.2.2]
          · intro h; rw [if_neg (fun h2 => h ⟨hi, q3, h2⟩)]
        · obtain ⟨d, hd10, hyd⟩ := dg_1 q4
          obtain ⟨f, hf10, hyf⟩ := dg_1 q5
          have ea : atv (u 1) t (p + 2) = u 1 (p + 2) := if_pos (by omega)
          have eb : atv (u 1) t (p + 3) = u 1 (p + 3) := if_pos (by omega)
          have ed : 10 * (u 1 (p + 2) - 48) + u 1 (p + 3) - 48 = nI (10 * d + f) := by
            rw [hyd, hyf, show (48 : Int32) = nI 48 from rfl, show (10 : Int32) = nI 10 from rfl, pk_sub (by omega), pk_mul, nI_add, pk_sub (by omega)]
            congr 1; omega
          have ev : 10 * dv (u 1 (p + 2)) + dv (u 1 (p + 3)) = 10 * d + f := by rw [hyd, hyf, dv_d hd10, dv_d hf10]
          rw [q1, q2, if_pos (by decide), if_neg (by decide), if_neg (by decide), e2, a2, e3, a3]
          simp only [Option.bind_some]
          rw [ea, eb, ed, h148 4 (10 * d + f) (p + 5) (by omega) e5, ev]
          rw [ev] at q3
          constructor
          · intro h; rw [if_pos h.2.2]
          · intro h; rw [if_neg (fun h2 => h ⟨hi, q3, h2⟩)]
        · rw [q1, if_neg (by decide), zbo_0]
          exact ⟨fun h => by omega, fun _ => rfl⟩
