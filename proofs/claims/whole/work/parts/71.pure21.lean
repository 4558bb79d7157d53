/-- a floating fill -/
def flo (x : Int32) : Bool := decide (x = 43 ∨ x = 45 ∨ x = 36)
theorem C_isFloating (v b rw pw : Nat → Int32) : m_E_isFloating v b rw pw = some (if flo (v 11) = true then 1 else 0) := by
  unfold m_E_isFloating m_E_isFloating_19
  rw [C_isSign]
  simp only [Option.bind_some]
  by_cases h1 : v 11 = 43 ∨ v 11 = 45
  · rw [if_pos h1, if_neg (by decide), zbo_1, if_pos]
    exact decide_eq_true (by rcases h1 with h | h; exact Or.inl h; exact Or.inr (Or.inl h))
  · rw [if_neg h1, if_pos rfl]
    by_cases h2 : v 11 = 36
    · rw [if_pos h2, zbo_1, if_pos (show flo (v 11) = true from decide_eq_true (Or.inr (Or.inr h2)))]
    · rw [if_neg h2, zbo_0, if_neg]
      intro z
      have z := of_decide_eq_true z
      rcases z with z | z | z
      · exact h1 (Or.inl z)
      · exact h1 (Or.inr z)
      · exact h2 z
/-- the order of fills, nines and point -/
def OR (f : Nat → Int32) (a e m : Nat) (fl : Int32) : Prop :=
  (∃ j, a ≤ j ∧ j < m ∧ f j = fl) ∧ (∀ i j, a ≤ i → i < j → j < m → f i = 57 → ¬ f j = fl) ∧ ((∀ j, m ≤ j → j < e → ¬ f j = fl) ∨ (∀ j, a ≤ j → j < e → ¬ f j = 57))
def fsr (f : Nat → Int32) (fl : Int32) (m c9 : Nat) : Nat → Nat → Bool → Bool
  | 0, _, _ => true
  | n + 1, k, ns => if f k = fl ∧ (ns = true ∨ (m < k ∧ 0 < c9)) then false else fsr f fl m c9 n (k + 1) (ns || decide (f k = 57))
theorem fsr_iff {f : Nat → Int32} {fl : Int32} {m c9 : Nat} : ∀ (n k : Nat) (ns : Bool), fsr f fl m c9 n k ns = true ↔ ∀ j, k ≤ j → j < k + n → f j = fl → ns = false ∧ (∀ i, k ≤ i → i < j → ¬ f i = 57) ∧ ¬ (m < j ∧ 0 < c9) := by
  intro n
  induction n with
  | zero => intro k ns; exact ⟨fun _ j h1 h2 => by omega, fun _ => rfl⟩
  | succ n ih =>
    intro k ns
    have hs : fsr f fl m c9 (n + 1) k ns = if f k = fl ∧ (ns = true ∨ (m < k ∧ 0 < c9)) then false else fsr f fl m c9 n (k + 1) (ns || decide (f k = 57)) := rfl
    rw [hs]
    by_cases h : f k = fl ∧ (ns = true ∨ (m < k ∧ 0 < c9))
    · rw [if_pos h]
      refine ⟨fun z => absurd z (by decide), fun z => ?_⟩
      obtain ⟨z1, z2, z3⟩ := z k (Nat.le_refl _) (by omega) h.1
      rcases h.2 with g | g
      · rw [z1] at g; cases g
      · exact absurd g z3
    · rw [if_neg h, ih (k + 1)]
      constructor
      · intro g j h1 h2 h3
        by_cases hj : j = k
        · subst hj
          refine ⟨?_, fun i i1 i2 => by omega, fun z => h ⟨h3, Or.inr z⟩⟩
          cases hns : ns
          · rfl
          · exact absurd ⟨h3, Or.inl hns⟩ h
        · obtain ⟨z1, z2, z3⟩ := g j (by omega) (by omega) h3
          rw [Bool.or_eq_false_iff] at z1
          refine ⟨z1.1, fun i i1 i2 => ?_, z3⟩
          by_cases hi : i = k
          · subst hi; exact of_decide_eq_false z1.2
          · exact z2 i (by omega) i2
      · intro g j h1 h2 h3
        obtain ⟨z1, z2, z3⟩ := g j (by omega) (by omega) h3
        refine ⟨?_, fun i i1 i2 => z2 i (by omega) i2, z3⟩
        rw [Bool.or_eq_false_iff]
        exact ⟨z1, decide_eq_false (z2 k (Nat.le_refl _) (by omega))⟩
theorem C_fsr_l {v b rw pw : Nat → Int32} {e m c9 : Nat} (he : e ≤ 24) (hm : m ≤ e) (h10 : v 10 = nI e) (h14 : v 14 = nI c9) (hc9 : c9 ≤ 24) (h15 : v 15 = nI m) : ∀ (n k fuel : Nat) (ns : Bool), k + n = e → n < fuel →
    m_E_fillsStandRight_44 v b rw pw fuel (if ns then 1 else 0) (nI k) = some (if fsr rw (v 11) m c9 n k ns = true then 1 else 0) := by
  intro n
  induction n with
  | zero =>
    intro k fuel ns hk hf
    obtain ⟨fuel, rfl⟩ : ∃ z, fuel = z + 1 := ⟨fuel - 1, by omega⟩
    show m_E_fillsStandRight_44b v b rw pw _ _ (nI k) = _
    unfold m_E_fillsStandRight_44b
    rw [h10, if_pos (nI_le (by omega) (by omega)), zbo_1]
    rfl
  | succ n ih =>
    intro k fuel ns hk hf
    obtain ⟨fuel, rfl⟩ : ∃ z, fuel = z + 1 := ⟨fuel - 1, by omega⟩
    have h96 : m_E_fillsStandRight_96 v b rw pw (m_E_fillsStandRight_44 v b rw pw fuel) (if ns then 1 else 0) (nI k) = m_E_fillsStandRight_44 v b rw pw fuel (if (ns || decide (rw k = 57)) then 1 else 0) (nI (k + 1)) := by
      unfold m_E_fillsStandRight_96 m_E_fillsStandRight_111 m_E_fillsStandRight_116
      rw [nI_1]
      cases ns
      · simp only [Bool.false_eq_true, if_false, if_true, Bool.false_or]
        rw [zix_ok (by omega) (by decide), nI_clamp (by omega)]
        by_cases h : rw k = 57
        · rw [if_pos h, decide_eq_true h, if_pos rfl]
        · rw [if_neg h, decide_eq_false h]; rfl
      · simp only [if_true, show ¬ (1 : Int32) = 0 by decide, if_false, Bool.true_or]
    have h76 : ∀ late : Bool, m_E_fillsStandRight_76 v b rw pw (m_E_fillsStandRight_44 v b rw pw fuel) (if ns then 1 else 0) (nI k) (if late then 1 else 0) = if rw k = v 11 ∧ late = true then some 0 else m_E_fillsStandRight_44 v b rw pw fuel (if (ns || decide (rw k = 57)) then 1 else 0) (nI (k + 1)) := by
      intro late
      unfold m_E_fillsStandRight_76
      rw [zix_ok (by omega) (by decide), nI_clamp (by omega), h96]
      by_cases h : rw k = v 11
      · cases late
        · simp [h]
        · simp [h, zbo_0]
      · simp [h]
    have hA : m_E_fillsStandRight_44 v b rw pw (fuel + 1) (if ns then 1 else 0) (nI k) = m_E_fillsStandRight_76 v b rw pw (m_E_fillsStandRight_44 v b rw pw fuel) (if ns then 1 else 0) (nI k) (if (ns || decide (m < k ∧ 0 < c9)) then 1 else 0) := by
      show m_E_fillsStandRight_44b v b rw pw (m_E_fillsStandRight_44 v b rw pw fuel) _ (nI k) = _
      unfold m_E_fillsStandRight_44b m_E_fillsStandRight_75 m_E_fillsStandRight_71
      rw [h10, if_neg (nI_ge (by omega) (by omega)), h14, h15]
      cases ns
      · simp only [Bool.false_eq_true, if_false, if_true, Bool.false_or]
        by_cases h1 : k ≤ m
        · rw [if_pos (nI_le h1 (by omega)), decide_eq_false (fun z => by omega)]; rfl
        · rw [if_neg (nI_ge (by omega) (by omega))]
          by_cases h2 : c9 = 0
          · rw [if_pos (show nI c9 ≤ 0 by rw [h2]; decide), decide_eq_false (fun z => by omega)]; rfl
          · rw [if_neg (nI_nle (by omega) (by omega)), decide_eq_true (show m < k ∧ 0 < c9 by omega)]; rfl
      · simp only [if_true, show ¬ (1 : Int32) = 0 by decide, if_false, Bool.true_or]
    rw [hA, h76, ih (k + 1) fuel _ (by omega) (by omega)]
    have hs : fsr rw (v 11) m c9 (n + 1) k ns = if rw k = v 11 ∧ (ns = true ∨ (m < k ∧ 0 < c9)) then false else fsr rw (v 11) m c9 n (k + 1) (ns || decide (rw k = 57)) := rfl
    rw [hs]
    by_cases h : rw k = v 11 ∧ (ns = true ∨ (m < k ∧ 0 < c9))
    · rw [if_pos h, if_pos]
      · rfl
      · refine ⟨h.1, ?_⟩
        rw [Bool.or_eq_true]
        rcases h.2 with g | g
        · exact Or.inl g
        · exact Or.inr (decide_eq_true g)
    · rw [if_neg h, if_neg]
      intro z
      apply h
      refine ⟨z.1, ?_⟩
      have := z.2
      rw [Bool.or_eq_true] at this
      rcases this with g | g
      · exact Or.inl g
      · exact Or.inr (of_decide_eq_true g)
theorem C_fsr0 {v b rw pw : Nat → Int32} (h12 : v 12 = 0) : m_E_fillsStandRight v b rw pw = some 1 := by
  unfold m_E_fillsStandRight
  rw [if_pos h12, zbo_1]
theorem C_fsr {v b rw pw : Nat → Int32} {a e m : Nat} {fl : Int32} (hae : a ≤ e) (he : e ≤ 24) (hm : m ≤ e) (h9 : v 9 = nI a) (h10 : v 10 = nI e) (h11 : v 11 = fl) (h12 : v 12 = nI (cnt rw fl a (e - a))) (hc : 0 < cnt rw fl a (e - a)) (h13 : v 13 = fstI rw fl a (e - a)) (h14 : v 14 = nI (cnt rw 57 a (e - a))) (h15 : v 15 = nI m)
    (hme : m < e → ¬ rw m = fl) :
    ((OR rw a e m fl ∧ ¬ (flo fl = true ∧ cnt rw fl a (e - a) < 2)) ∧ m_E_fillsStandRight v b rw pw = some 1) ∨ (¬ (OR rw a e m fl ∧ ¬ (flo fl = true ∧ cnt rw fl a (e - a) < 2)) ∧ m_E_fillsStandRight v b rw pw = some 0) := by
  have hcl := cnt_le rw fl (e - a) a
  have hcl9 := cnt_le rw 57 (e - a) a
  obtain ⟨k, k1, k2, k3, k4, k5⟩ : ∃ k, a ≤ k ∧ k < e ∧ fstI rw fl a (e - a) = nI k ∧ rw k = fl ∧ ∀ j, a ≤ j → j < k → ¬ rw j = fl := by
    rcases fst_some (f := rw) (x := fl) (e - a) a with ⟨g1, g2⟩ | ⟨k, g1, g2, g3, g4, g5⟩
    · have := cnt_no (e - a) a g2; omega
    · exact ⟨k, g1, by omega, g3, g4, g5⟩
  unfold m_E_fillsStandRight m_E_fillsStandRight_37
  rw [if_neg (by rw [h12]; exact nI_ne0 hc (by omega)), h13, k3, h15, C_isFloating]
  simp only [Option.bind_some, zbo_0]
  by_cases g1 : m < k
  · rw [if_pos (nI_lt g1 (by omega))]
    exact Or.inr ⟨fun z => by obtain ⟨⟨⟨j, j1, j2, j3⟩, -⟩, -⟩ := z; exact k5 j j1 (by omega) j3, rfl⟩
  · rw [if_neg (nI_nlt (by omega) (by omega)), h11]
    have hkm : k < m := by
      rcases Nat.lt_or_ge k m with h | h
      · exact h
      · have : k = m := by omega
        exact absurd (this ▸ k4) (hme (by omega))
    have hloop := C_fsr_l (b := b) (rw := rw) (pw := pw) he hm h10 h14 (by omega) h15 (e - a) a 64 false (by omega) (by omega)
    simp only [Bool.false_eq_true, if_false] at hloop
    rw [h9, hloop, h11]
    have hor : fsr rw fl m (cnt rw 57 a (e - a)) (e - a) a false = true ↔ OR rw a e m fl := by
      rw [fsr_iff]
      constructor
      · intro h
        refine ⟨⟨k, k1, hkm, k4⟩, fun i j i1 i2 i3 i4 i5 => (h j (by omega) (by omega) i5).2.1 i i1 i2 i4, ?_⟩
        by_cases hz : cnt rw 57 a (e - a) = 0
        · exact Or.inr (fun j j1 j2 => cnt_z hz j j1 (by omega))
        · refine Or.inl (fun j j1 j2 j3 => ?_)
          have hjm : j ≠ m := fun z => hme (by omega) (z ▸ j3)
          exact (h j (by omega) (by omega) j3).2.2 ⟨by omega, by omega⟩
      · rintro ⟨-, h2, h3⟩ j j1 j2 j3
        refine ⟨rfl, fun i i1 i2 i4 => ?_, fun z => ?_⟩
        · rcases h3 with h3 | h3
          · rcases Nat.lt_or_ge j m with h | h
            · exact h2 i j i1 i2 h i4 j3
            · exact h3 j h (by omega) j3
          · exact h3 i i1 (by omega) i4
        · rcases h3 with h3 | h3
          · exact h3 j (by omega) (by omega) j3
          · have := cnt_no (f := rw) (x := 57) (e - a) a (fun j j1 j2 => h3 j j1 (by omega))
            omega
    have fin : ((if fsr rw fl m (cnt rw 57 a (e - a)) (e - a) a false = true then (1 : Int32) else 0) = 1 ∧ OR rw a e m fl) ∨ ((if fsr rw fl m (cnt rw 57 a (e - a)) (e - a) a false = true then (1 : Int32) else 0) = 0 ∧ ¬ OR rw a e m fl) := by
      by_cases h : fsr rw fl m (cnt rw 57 a (e - a)) (e - a) a false = true
      · exact Or.inl ⟨if_pos h, hor.mp h⟩
      · exact Or.inr ⟨if_neg h, fun z => h (hor.mpr z)⟩
    by_cases g2 : flo fl = true
    · rw [if_pos g2, if_neg (by decide), h12]
      by_cases g3 : 2 ≤ cnt rw fl a (e - a)
      · rw [if_pos (show (2 : Int32) ≤ nI (cnt rw fl a (e - a)) from nI_le (a := 2) g3 (by omega))]
        rcases fin with ⟨f1, f2⟩ | ⟨f1, f2⟩
        · rw [f1]; exact Or.inl ⟨⟨f2, fun z => by omega⟩, rfl⟩
        · rw [f1]; exact Or.inr ⟨fun z => f2 z.1, rfl⟩
      · rw [if_neg (show ¬ (2 : Int32) ≤ nI (cnt rw fl a (e - a)) from nI_ge (b := 2) (by omega) (by decide))]
        exact Or.inr ⟨fun z => z.2 ⟨g2, by omega⟩, rfl⟩
    · rw [if_neg g2, if_pos rfl]
      rcases fin with ⟨f1, f2⟩ | ⟨f1, f2⟩
      · rw [f1]; exact Or.inl ⟨⟨f2, fun z => g2 z.1⟩, rfl⟩
      · rw [f1]; exact Or.inr ⟨fun z => f2 z.1, rfl⟩
