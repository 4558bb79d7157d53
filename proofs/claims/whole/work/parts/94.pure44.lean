/-! An edited picture: what of it is used when numbers are stored and taken. -/
def EG (g : Nat → Int32) (N A B M F : Nat) (fl : Int32) (T : Bool) : Prop :=
  (0 < N ∧ N ≤ 24 ∧ A ≤ M ∧ M ≤ B ∧ B ≤ N ∧ B = (if T = true then N - 1 else N)) ∧
  (∀ j, j < A → g j = 43 ∨ g j = 45 ∨ g j = 36) ∧
  (∀ j, A ≤ j → j < B → (g j = fl ∧ iF fl = true) ∨ (j = M ∧ (g j = 46 ∨ g j = 86)) ∨ g j = 57 ∨ iI (g j) = true) ∧
  (M < B → g M = 46 ∨ g M = 86) ∧
  (T = true → g (N - 1) = 67 ∨ g (N - 1) = 68 ∨ g (N - 1) = 43 ∨ g (N - 1) = 45) ∧
  (fl ≠ 0 → iF fl = true ∧ A ≤ F ∧ F < M ∧ g F = fl ∧ ∀ j, A ≤ j → j < F → ¬ g j = fl ∧ ¬ g j = 57) ∧
  (fl = 0 → F = B) ∧ (fl = 0 → ∃ j, A ≤ j ∧ j < B ∧ g j = 57)
theorem EOK_EG {g : Nat → Int32} {N : Nat} {fl : Int32} {pt : Option Nat} (h : EOK g N fl pt) (h0 : 0 < N) (hN : N ≤ 24) : EG g N (eA g N) (eB g N) (pt.getD (eB g N)) (if fl = 0 then eB g N else eF g N fl) fl (tr g N) := by
  obtain ⟨hb, -, -, hO, h1, h12⟩ := h
  have hA := eA_le g N
  have hB := eB_le g N
  have hAe : eA g N + (eB g N - eA g N) = eB g N := by omega
  obtain ⟨f1, f2, f3, f4, f5, f6⟩ := EB_facts hb
  have hs := bdy_sym _ _ _ _ _ hb
  rw [hAe] at hs
  refine ⟨⟨h0, hN, f5, f4, hB, rfl⟩, ?_, ?_, ?_, ?_, ?_, ?_, ?_⟩
  · intro j hj
    rcases EA_pre hj with ⟨_, _, _, q | q⟩ | ⟨_, q⟩
    · exact Or.inl q
    · exact Or.inr (Or.inl q)
    · exact Or.inr (Or.inr q)
  · intro j j1 j2
    rcases hs.1 j j1 j2 with ⟨q1, q2⟩ | ⟨q1, q2⟩ | q | q
    · have q2 : g j = fl := q2
      exact Or.inl ⟨q2, by rw [← q2]; exact q1⟩
    · have q2 : pt = some j := q2
      exact Or.inr (Or.inl ⟨by rw [q2]; rfl, q1⟩)
    · exact Or.inr (Or.inr (Or.inl q))
    · exact Or.inr (Or.inr (Or.inr q))
  · intro hM
    cases hp : pt with
    | none => rw [hp] at hM; exact absurd hM (Nat.lt_irrefl _)
    | some w => exact (f2 w hp).2.2
  · intro ht
    have hB2 : eB g N = N - 1 := by unfold eB; rw [if_pos ht]
    exact (EB_post (f := g) (N := N) (j := N - 1) (by omega) (by omega)).2.2
  · intro hfl
    obtain ⟨c1, c2⟩ := f3 hfl
    obtain ⟨e1, e2, e3, e4, e5⟩ := eF_is hN c2
    obtain ⟨⟨⟨j, j1, j2, j3⟩, o2, -⟩, -⟩ := hO hfl
    have hFM : eF g N fl < pt.getD (eB g N) := by
      rcases Nat.lt_or_ge j (eF g N fl) with q | q
      · exact absurd j3 (e5 j j1 q)
      · omega
    rw [if_neg hfl]
    exact ⟨c1, e2, hFM, e4, fun i i1 i2 => ⟨e5 i i1 i2, fun q => o2 i (eF g N fl) i1 i2 hFM q e4⟩⟩
  · intro hfl
    rw [if_pos hfl]
  · intro hfl
    by_cases c : ∃ j, eA g N ≤ j ∧ j < eB g N ∧ g j = 57
    · exact c
    · exfalso
      have : dcn (edg g N fl) (eB g N - eA g N) (eA g N) = 0 := dcn_0 _ _ (fun j j1 j2 => by
        unfold edg eD
        rw [hfl]
        apply decide_eq_false
        rintro ⟨-, q | q⟩
        · exact c ⟨j, j1, by omega, q⟩
        · exact q.1 rfl)
      omega
theorem wsm_snoc (g : Nat → Int32) : ∀ (n k : Nat), wsm g (n + 1) k = wsm g n k + wd (g (k + n)) := by
  intro n
  induction n with
  | zero => intro k; rw [wsm_s]; show wd (g k) + 0 = 0 + wd (g (k + 0)); rw [Nat.add_zero k]; omega
  | succ n ih => intro k; rw [wsm_s, ih (k + 1), wsm_s, show k + 1 + n = k + (n + 1) by omega]; omega
theorem wd_1 {x : Int32} (h1 : x ≠ 86) (h2 : x ≠ 67) (h3 : x ≠ 68) : wd x = 1 := by
  unfold wd
  rw [if_neg h1, if_neg (by rintro (q | q); exact h2 q; exact h3 q)]
theorem iF_wd {x : Int32} (h : iF x = true) : x ≠ 86 ∧ x ≠ 67 ∧ x ≠ 68 ∧ x ≠ 57 ∧ x ≠ 46 ∧ x ≠ 66 ∧ x ≠ -1 ∧ iI x = false := by
  have h' := of_decide_eq_true h
  rcases h' with rfl | rfl | rfl | rfl | rfl <;> decide
theorem iI_wd {x : Int32} (h : iI x = true) : x ≠ 86 ∧ x ≠ 67 ∧ x ≠ 68 ∧ x ≠ 57 ∧ x ≠ 46 ∧ x ≠ 43 ∧ x ≠ 45 ∧ x ≠ 36 ∧ x ≠ 90 ∧ x ≠ 42 ∧ x ≠ -1 := by
  have h' := of_decide_eq_true h
  rcases h' with rfl | rfl | rfl | rfl <;> decide
/-- how far the bytes are behind the symbols -/
def hdn (g : Nat → Int32) (B M : Nat) : Bool := decide (M < B ∧ g M = 86)
theorem EG_wd {g : Nat → Int32} {N A B M F : Nat} {fl : Int32} {T : Bool} (h : EG g N A B M F fl T) {j : Nat} (hj : j < B) : wd (g j) = if hdn g B M = true ∧ j = M then 0 else 1 := by
  obtain ⟨⟨h0, hN, hAM, hMB, hBN, hB⟩, e2, e3, e4, e5, e6, e7, e8⟩ := h
  by_cases c : hdn g B M = true ∧ j = M
  · rw [if_pos c, c.2]
    have := of_decide_eq_true c.1
    unfold wd
    rw [if_pos this.2]
  · rw [if_neg c]
    by_cases a : j < A
    · rcases e2 j a with q | q | q <;> rw [q] <;> decide
    · rcases e3 j (by omega) hj with ⟨q, q2⟩ | ⟨q1, q2⟩ | q | q
      · rw [q]
        have := iF_wd q2
        exact wd_1 this.1 this.2.1 this.2.2.1
      · rcases q2 with q | q
        · rw [q]; decide
        · exact absurd ⟨decide_eq_true ⟨by omega, by rw [← q1]; exact q⟩, q1⟩ c
      · rw [q]; decide
      · have := iI_wd q
        exact wd_1 this.1 this.2.1 this.2.2.1
theorem EG_wsm {g : Nat → Int32} {N A B M F : Nat} {fl : Int32} {T : Bool} (h : EG g N A B M F fl T) : ∀ k, k ≤ B → wsm g k 0 = k - (if hdn g B M = true ∧ M < k then 1 else 0) := by
  intro k
  induction k with
  | zero => intro _; show 0 = _; omega
  | succ k ih =>
    intro hk
    rw [wsm_snoc, ih (by omega), Nat.zero_add, EG_wd h (by omega)]
    by_cases c : hdn g B M = true
    · rcases Nat.lt_trichotomy M k with q | q | q
      · rw [if_pos ⟨c, q⟩, if_neg (by omega), if_pos ⟨c, by omega⟩]; omega
      · rw [if_neg (by omega), if_pos ⟨c, q.symm⟩, if_pos ⟨c, by omega⟩]; omega
      · rw [if_neg (by omega), if_neg (by omega), if_neg (by omega)]; omega
    · rw [if_neg (fun z => c z.1), if_neg (fun z => c z.1), if_neg (fun z => c z.1)]; omega
/-- the bytes in all -/
theorem EG_size {g : Nat → Int32} {N A B M F : Nat} {fl : Int32} {T : Bool} (h : EG g N A B M F fl T) : wsm g N 0 = N - (if hdn g B M = true then 1 else 0) + (if T = true ∧ (g (N - 1) = 67 ∨ g (N - 1) = 68) then 1 else 0) ∧ (T = true → wsm g N 0 = wsm g (N - 1) 0 + wd (g (N - 1))) ∧ wsm g N 0 ≤ 25 ∧ 0 < N - (if hdn g B M = true then 1 else 0) := by
  have hW := EG_wsm h
  have h' := h
  obtain ⟨⟨h0, hN, hAM, hMB, hBN, hB⟩, e2, e3, e4, e5, e6, e7, e8⟩ := h'
  have hMlt : hdn g B M = true → M < B := fun q => (of_decide_eq_true q).1
  have hpos : 0 < N - (if hdn g B M = true then 1 else 0) := by
    by_cases c : hdn g B M = true
    · rw [if_pos c]
      have hq := of_decide_eq_true c
      rcases Nat.lt_or_ge 1 N with q | q
      · omega
      · exfalso
        by_cases z : fl = 0
        · obtain ⟨j, j1, j2, j3⟩ := e8 z
          have : j = M := by omega
          rw [this, hq.2] at j3
          exact absurd j3 (by decide)
        · have := e6 z; omega
    · rw [if_neg c]; omega
  cases T
  · rw [if_neg (by decide)] at hB
    rw [hB] at hW
    rw [hW N (Nat.le_refl _)]
    refine ⟨?_, fun q => absurd q (by decide), by omega, hpos⟩
    rw [if_neg (show ¬ (false = true ∧ _) from fun q => absurd q.1 (by decide)), hB]
    by_cases c : hdn g N M = true
    · rw [if_pos c, if_pos ⟨c, by rw [hB] at hMlt; exact hMlt c⟩]; omega
    · rw [if_neg c, if_neg (fun q => c q.1)]; omega
  · rw [if_pos rfl] at hB
    have hs : wsm g N 0 = wsm g (N - 1) 0 + wd (g (N - 1)) := by
      have := wsm_snoc g (N - 1) 0
      rw [show N - 1 + 1 = N by omega, Nat.zero_add] at this
      exact this
    have hW1 := hW (N - 1) (by omega)
    have hw : wd (g (N - 1)) = 1 + (if true = true ∧ (g (N - 1) = 67 ∨ g (N - 1) = 68) then 1 else 0) := by
      rcases e5 rfl with q | q | q | q <;> rw [q] <;> decide
    have hx : (if hdn g B M = true ∧ M < N - 1 then 1 else 0) = (if hdn g B M = true then 1 else 0) := by
      by_cases c : hdn g B M = true
      · rw [if_pos c, if_pos ⟨c, by have := hMlt c; omega⟩]
      · rw [if_neg c, if_neg (fun q => c q.1)]
    rw [hx] at hW1
    refine ⟨?_, fun _ => hs, ?_, hpos⟩
    · rw [hs, hW1, hw]
      generalize (if hdn g B M = true then 1 else 0) = z at *
      generalize (if true = true ∧ (g (N - 1) = 67 ∨ g (N - 1) = 68) then 1 else 0) = y at *
      have hz : z ≤ N - 1 := by omega
      omega
    · have := wd_le (g (N - 1))
      omega
/-- every byte belongs to a symbol -/
theorem wsm_cover (g : Nat → Int32) : ∀ (n i : Nat), i < wsm g n 0 → ∃ j, j < n ∧ ((i = wsm g j 0 ∧ 0 < wd (g j)) ∨ (i = wsm g j 0 + 1 ∧ wd (g j) = 2)) := by
  intro n
  induction n with
  | zero => intro i h; exact absurd h (Nat.not_lt_zero _)
  | succ n ih =>
    intro i h
    rw [wsm_snoc, Nat.zero_add] at h
    rcases Nat.lt_or_ge i (wsm g n 0) with q | q
    · obtain ⟨j, j1, j2⟩ := ih i q
      exact ⟨j, by omega, j2⟩
    · have := wd_le (g n)
      refine ⟨n, by omega, ?_⟩
      rcases Nat.eq_or_lt_of_le q with z | z
      · left; exact ⟨z.symm, by omega⟩
      · right; exact ⟨by omega, by omega⟩
