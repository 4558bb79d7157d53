theorem bdy_sym {f : Nat → Int32} : ∀ (n k : Nat) (fl : Int32) (pt : Option Nat) (q : Int32 × Option Nat), bdy f n k fl pt = some q → (∀ j, k ≤ j → j < k + n → (iF (f j) = true ∧ f j = q.1) ∨ ((f j = 46 ∨ f j = 86) ∧ q.2 = some j) ∨ f j = 57 ∨ iI (f j) = true) ∧ (pt ≠ none → q.2 = pt) ∧ (∀ w, q.2 = some w → pt = some w ∨ (k ≤ w ∧ w < k + n ∧ (f w = 46 ∨ f w = 86))) ∧ (fl = 0 → q.1 ≠ 0 → ∃ j, k ≤ j ∧ j < k + n ∧ f j = q.1) := by
  intro n
  induction n with
  | zero => intro k fl pt q h; cases h; exact ⟨fun j h1 h2 => by omega, fun _ => rfl, fun w h => Or.inl h, fun h1 h2 => absurd h1 h2⟩
  | succ n ih =>
    intro k fl pt q h
    unfold bdy at h
    by_cases h1 : iF (f k) = true
    · rw [if_pos h1] at h
      by_cases h2 : fl = 0 ∨ fl = f k
      · rw [if_pos h2] at h
        obtain ⟨i1, i2, i3, i4⟩ := ih _ _ _ _ h
        have q1 := (bdy_fl _ _ _ _ _ h).1 (iF_ne h1).1
        refine ⟨fun j j1 j2 => ?_, i2, fun w hw => ?_, fun _ _ => ⟨k, Nat.le_refl _, by omega, q1.symm⟩⟩
        · by_cases hj : j = k
          · subst hj; exact Or.inl ⟨h1, q1.symm⟩
          · exact i1 j (by omega) (by omega)
        · rcases i3 w hw with g | g
          · exact Or.inl g
          · exact Or.inr ⟨by omega, by omega, g.2.2⟩
      · rw [if_neg h2] at h; cases h
    · rw [if_neg h1] at h
      by_cases h2 : f k = 46 ∨ f k = 86
      · rw [if_pos h2] at h
        by_cases h3 : pt = none
        · rw [if_pos h3] at h
          obtain ⟨i1, i2, i3, i4⟩ := ih _ _ _ _ h
          have i2 := i2 (by simp)
          refine ⟨fun j j1 j2 => ?_, fun z => absurd h3 z, fun w hw => ?_, fun z1 z2 => ?_⟩
          · by_cases hj : j = k
            · subst hj; exact Or.inr (Or.inl ⟨h2, i2⟩)
            · exact i1 j (by omega) (by omega)
          · rw [i2] at hw; cases hw; exact Or.inr ⟨Nat.le_refl _, by omega, h2⟩
          · obtain ⟨j, j1, j2, j3⟩ := i4 z1 z2
            exact ⟨j, by omega, by omega, j3⟩
        · rw [if_neg h3] at h; cases h
      · rw [if_neg h2] at h
        by_cases h3 : f k = 57 ∨ iI (f k) = true
        · rw [if_pos h3] at h
          obtain ⟨i1, i2, i3, i4⟩ := ih _ _ _ _ h
          refine ⟨fun j j1 j2 => ?_, i2, fun w hw => ?_, fun z1 z2 => ?_⟩
          · by_cases hj : j = k
            · subst hj; exact Or.inr (Or.inr h3)
            · exact i1 j (by omega) (by omega)
          · rcases i3 w hw with g | g
            · exact Or.inl g
            · exact Or.inr ⟨by omega, by omega, g.2.2⟩
          · obtain ⟨j, j1, j2, j3⟩ := i4 z1 z2
            exact ⟨j, by omega, by omega, j3⟩
        · rw [if_neg h3] at h; cases h
theorem dcn_split {D : Nat → Bool} {m : Nat} : ∀ (n k : Nat), (∀ j, k ≤ j → j < k + n → D j = true → j ≠ m) → dcn D n k = dcn (fun j => D j && decide (j < m)) n k + dcn (fun j => D j && decide (m < j)) n k := by
  intro n
  induction n with
  | zero => intro k _; rfl
  | succ n ih =>
    intro k h
    rw [dcn_s, dcn_s, dcn_s, ih (k + 1) (fun j j1 j2 => h j (by omega) (by omega))]
    by_cases g : D k = true
    · have := h k (Nat.le_refl _) (by omega) g
      rcases Nat.lt_or_ge k m with g2 | g2
      · rw [g, decide_eq_true g2, decide_eq_false (show ¬ m < k by omega)]; simp; omega
      · rw [g, decide_eq_false (show ¬ k < m by omega), decide_eq_true (show m < k by omega)]; simp; omega
    · have g' : D k = false := by cases hz : D k; rfl; exact absurd hz g
      rw [g']; simp
/-- the first fill's place -/
def eF (f : Nat → Int32) (N : Nat) (fl : Int32) : Nat := (fstI f fl (eA f N) (eB f N - eA f N)).toNatClampNeg
/-- the digits of an edited picture -/
def edg (f : Nat → Int32) (N : Nat) (fl : Int32) : Nat → Bool := eD f fl (eF f N fl)
def EOK (f : Nat → Int32) (N : Nat) (fl : Int32) (pt : Option Nat) : Prop :=
  bdy f (eB f N - eA f N) (eA f N) 0 none = some (fl, pt) ∧ ¬ (tr f N = true ∧ ld f N = true) ∧ ¬ ((fl = 43 ∨ fl = 45) ∧ (tr f N = true ∨ ld f N = true)) ∧
  (fl ≠ 0 → OR f (eA f N) (eB f N) (pt.getD (eB f N)) fl ∧ ¬ (flo fl = true ∧ cnt f fl (eA f N) (eB f N - eA f N) < 2)) ∧
  1 ≤ dcn (edg f N fl) (eB f N - eA f N) (eA f N) ∧ dcn (edg f N fl) (eB f N - eA f N) (eA f N) ≤ 12
def lts (f : Nat → Int32) (N : Nat) : Bool := decide (f (N - 1) = 67 ∨ f (N - 1) = 68)
def hid (f : Nat → Int32) (N : Nat) (pt : Option Nat) : Bool := decide (pt.getD (eB f N) < eB f N ∧ f (pt.getD (eB f N)) = 86)
/-- what the class keeps of an edited picture -/
def efl (f : Nat → Int32) (N : Nat) (fl : Int32) (pt : Option Nat) (v' : Nat → Int32) : Prop :=
  v' 1 = nI (N - (if hid f N pt then 1 else 0) + (if lts f N then 1 else 0)) ∧
  v' 2 = nI (dcn (fun j => edg f N fl j && decide (j < pt.getD (eB f N))) (eB f N - eA f N) (eA f N)) ∧
  v' 3 = nI (dcn (fun j => edg f N fl j && decide (pt.getD (eB f N) < j)) (eB f N - eA f N) (eA f N)) ∧
  v' 4 = (if tr f N = true ∨ ld f N = true ∨ fl = 43 ∨ fl = 45 then 1 else 0) ∧
  v' 7 = (if ld f N then f 0 else -1) ∧ v' 8 = (if tr f N then f (N - 1) else -1) ∧ v' 9 = nI (eA f N) ∧ v' 10 = nI (eB f N) ∧ v' 11 = (if fl = 0 then -1 else fl) ∧
  v' 13 = (if fl ≠ 0 then fstI f fl (eA f N) (eB f N - eA f N) else nI (eB f N)) ∧ v' 14 = nI (cnt f 57 (eA f N) (eB f N - eA f N)) ∧ v' 15 = nI (pt.getD (eB f N))
