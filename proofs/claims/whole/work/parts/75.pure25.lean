theorem zcp_ok {α : Type} {n N : Nat} {K : Option α} (h : n ≤ N) (hN : N < 2 ^ 31) : zcp (nI n) N K = K := by
  unfold zcp
  rw [if_pos ⟨nI_pos (by omega), by rw [nI_clamp (by omega)]; exact h⟩]
theorem ld_ne {f : Nat → Int32} {N : Nat} : ((if ld f N then f 0 else -1) = -1) ↔ ld f N = false := by
  cases h : ld f N
  · simp
  · have := of_decide_eq_true h
    simp only [if_true]
    refine ⟨fun z => ?_, fun z => by cases z⟩
    rw [z] at this
    exact absurd this.2.1 (by decide)
theorem tr_ne {f : Nat → Int32} {N : Nat} : ((if tr f N then f (N - 1) else -1) = -1) ↔ tr f N = false := by
  cases h : tr f N
  · simp
  · have := of_decide_eq_true h
    simp only [if_true]
    refine ⟨fun z => ?_, fun z => by cases z⟩
    rw [z] at this
    rcases this with g | g | g
    · exact absurd g (by decide)
    · exact absurd g (by decide)
    · exact absurd g.1 (by decide)
theorem fl_sign {fl : Int32} : ((if fl = 0 then -1 else fl) = 43 ∨ (if fl = 0 then -1 else fl) = 45) ↔ (fl = 43 ∨ fl = 45) := by
  by_cases h : fl = 0
  · subst h; decide
  · rw [if_neg h]
theorem C_signs {v b rw pw f : Nat → Int32} {N : Nat} {fl : Int32} (h7 : v 7 = (if ld f N then f 0 else -1)) (h8 : v 8 = (if tr f N then f (N - 1) else -1)) (h11 : v 11 = (if fl = 0 then -1 else fl)) :
    ((¬ (tr f N = true ∧ ld f N = true) ∧ ¬ ((fl = 43 ∨ fl = 45) ∧ (tr f N = true ∨ ld f N = true))) ∧ m_E_signsAgree v b rw pw = some 1) ∨ (¬ (¬ (tr f N = true ∧ ld f N = true) ∧ ¬ ((fl = 43 ∨ fl = 45) ∧ (tr f N = true ∨ ld f N = true))) ∧ m_E_signsAgree v b rw pw = some 0) := by
  unfold m_E_signsAgree m_E_signsAgree_48
  rw [C_isSign, h11]
  simp only [Option.bind_some, zbo_0, zbo_1]
  have q7 : (v 7 = -1) ↔ ld f N = false := by rw [h7]; exact ld_ne
  have q8 : (v 8 = -1) ↔ tr f N = false := by rw [h8]; exact tr_ne
  by_cases g : fl = 43 ∨ fl = 45
  · rw [if_pos (fl_sign.mpr g), if_neg (by decide)]
    cases hl : ld f N
    · rw [if_pos (q7.mpr hl)]
      cases ht : tr f N
      · rw [if_pos (q8.mpr ht)]; left; simp
      · rw [if_neg (fun z => by have := q8.mp z; rw [ht] at this; cases this)]; right; simp [g]
    · rw [if_neg (fun z => by have := q7.mp z; rw [hl] at this; cases this)]; right; simp [g]
  · rw [if_neg (fun z => g (fl_sign.mp z)), if_pos rfl]
    cases hl : ld f N
    · rw [if_pos (q7.mpr hl)]; left; simp [g]
    · rw [if_neg (fun z => by have := q7.mp z; rw [hl] at this; cases this)]
      cases ht : tr f N
      · rw [if_pos (q8.mpr ht)]; left; simp [g]
      · rw [if_neg (fun z => by have := q8.mp z; rw [ht] at this; cases this)]; right; simp
theorem C_letter {v b rw pw f : Nat → Int32} {N : Nat} (h8 : v 8 = (if tr f N then f (N - 1) else -1)) : m_E_isLetterSign v b rw pw = some (if lts f N = true then 1 else 0) := by
  unfold m_E_isLetterSign m_E_isLetterSign_18
  rw [h8]
  by_cases g1 : f (N - 1) = 67
  · have ht : tr f N = true := decide_eq_true (Or.inl g1)
    rw [if_pos ht, if_pos g1, zbo_1, if_pos (show lts f N = true from decide_eq_true (Or.inl g1))]
  · by_cases g2 : f (N - 1) = 68
    · have ht : tr f N = true := decide_eq_true (Or.inr (Or.inl g2))
      rw [if_pos ht, if_neg g1, if_pos g2, zbo_1, if_pos (show lts f N = true from decide_eq_true (Or.inr g2))]
    · have hl : ¬ lts f N = true := fun z => by
        rcases of_decide_eq_true z with z | z
        · exact g1 z
        · exact g2 z
      rw [if_neg hl]
      cases tr f N
      · simp only [Bool.false_eq_true, if_false, show ¬ (-1 : Int32) = 67 by decide, show ¬ (-1 : Int32) = 68 by decide, zbo_0]
      · simp only [if_true, if_neg g1, if_neg g2, zbo_0]
theorem C_hidden {v b rw pw : Nat → Int32} {e m : Nat} (he : e ≤ 24) (hm : m ≤ e) (h10 : v 10 = nI e) (h15 : v 15 = nI m) : m_E_hasHiddenPoint v b rw pw = some (if decide (m < e ∧ rw m = 86) = true then 1 else 0) := by
  unfold m_E_hasHiddenPoint
  rw [h10, h15]
  by_cases g : m < e
  · rw [if_neg (nI_ge g (by omega)), zix_ok (by omega) (by decide), nI_clamp (by omega)]
    by_cases g2 : rw m = 86
    · rw [if_pos g2, zbo_1, if_pos (decide_eq_true ⟨g, g2⟩)]
    · rw [if_neg g2, zbo_0, if_neg (by simp [g2])]
  · rw [if_pos (nI_le (by omega) (by omega)), zbo_0, if_neg (by simp [g])]
/-- facts about a body that is one -/
theorem EB_facts {f : Nat → Int32} {N : Nat} {fl : Int32} {pt : Option Nat} (h : bdy f (eB f N - eA f N) (eA f N) 0 none = some (fl, pt)) :
    (∀ j, eA f N ≤ j → j < eB f N → ¬ f j = -1) ∧ (∀ w, pt = some w → eA f N ≤ w ∧ w < eB f N ∧ (f w = 46 ∨ f w = 86)) ∧ (fl ≠ 0 → iF fl = true ∧ 0 < cnt f fl (eA f N) (eB f N - eA f N)) ∧ pt.getD (eB f N) ≤ eB f N ∧ eA f N ≤ pt.getD (eB f N) ∧
    (pt.getD (eB f N) < eB f N → ¬ f (pt.getD (eB f N)) = fl ∧ ¬ f (pt.getD (eB f N)) = 57) := by
  have hA := eA_le f N
  have hAe : eA f N + (eB f N - eA f N) = eB f N := by omega
  obtain ⟨s1, -, s3, s4⟩ := bdy_sym _ _ _ _ _ h
  obtain ⟨-, t2⟩ := bdy_fl _ _ _ _ _ h
  have hpt : ∀ w, pt = some w → eA f N ≤ w ∧ w < eB f N ∧ (f w = 46 ∨ f w = 86) := by
    intro w hw
    rcases s3 w hw with g | g
    · cases g
    · exact ⟨g.1, by omega, g.2.2⟩
  have hfl : fl ≠ 0 → iF fl = true ∧ 0 < cnt f fl (eA f N) (eB f N - eA f N) := by
    intro z
    obtain ⟨j, j1, j2, j3⟩ := s4 rfl z
    exact ⟨t2 rfl z, cnt_pos j1 j2 j3⟩
  refine ⟨fun j j1 j2 => ?_, hpt, hfl, ?_, ?_, ?_⟩
  · rcases s1 j j1 (by omega) with g | g | g | g
    · exact (iF_ne g.1).2.2.1
    · intro z; rw [z] at g; exact absurd g.1 (by decide)
    · intro z; rw [z] at g; exact absurd g (by decide)
    · intro z; rw [z] at g; exact absurd g (by decide)
  · cases pt with
    | none => exact Nat.le_refl _
    | some w => have := hpt w rfl; show w ≤ _; omega
  · cases pt with
    | none => exact hA.2
    | some w => have := hpt w rfl; show _ ≤ w; omega
  · intro z
    cases pt with
    | none => exact absurd z (Nat.lt_irrefl _)
    | some w =>
      obtain ⟨w1, w2, w3⟩ := hpt w rfl
      show ¬ f w = fl ∧ ¬ f w = 57
      refine ⟨fun y => ?_, fun y => ?_⟩
      · have hn : fl ≠ 0 := by rintro rfl; rw [y] at w3; exact absurd w3 (by decide)
        have := iF_ne (hfl hn).1
        rw [y] at w3
        rcases w3 with w3 | w3
        · exact this.2.2.2.1 w3
        · exact this.2.2.2.2.1 w3
      · rw [y] at w3; exact absurd w3 (by decide)
theorem edg_m {f : Nat → Int32} {N : Nat} {fl : Int32} {pt : Option Nat} (h : bdy f (eB f N - eA f N) (eA f N) 0 none = some (fl, pt)) : ∀ j, eA f N ≤ j → j < eB f N → edg f N fl j = true → j ≠ pt.getD (eB f N) := by
  intro j j1 j2 j3 z
  obtain ⟨-, -, -, -, -, h6⟩ := EB_facts h
  obtain ⟨g1, g2⟩ := h6 (by omega)
  have := (of_decide_eq_true j3).2
  rw [z] at this
  rcases this with y | y
  · exact g2 y
  · exact g1 y.2
theorem eF_is {f : Nat → Int32} {N : Nat} {fl : Int32} (hN : N ≤ 24) (h : 0 < cnt f fl (eA f N) (eB f N - eA f N)) : fstI f fl (eA f N) (eB f N - eA f N) = nI (eF f N fl) ∧ eA f N ≤ eF f N fl ∧ eF f N fl < eB f N ∧ f (eF f N fl) = fl ∧ ∀ j, eA f N ≤ j → j < eF f N fl → ¬ f j = fl := by
  have hA := eA_le f N
  have hB := eB_le f N
  rcases fst_some (f := f) (x := fl) (eB f N - eA f N) (eA f N) with ⟨g1, g2⟩ | ⟨k, g1, g2, g3, g4, g5⟩
  · have := cnt_no _ _ g2; omega
  · have e : eF f N fl = k := by unfold eF; rw [g3, nI_clamp (by omega)]
    rw [e]
    exact ⟨g3, g1, by omega, g4, g5⟩
