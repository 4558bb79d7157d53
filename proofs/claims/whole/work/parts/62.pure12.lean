theorem runE_is {f : Nat → Int32} {x : Int32} {k n e : Nat} (h1 : k ≤ e) (h2 : e ≤ k + n) (h3 : ∀ j, k ≤ j → j < e → f j = x) (h4 : e < k + n → ¬ f e = x) : runE f x k n = e := by
  obtain ⟨a1, a2, a3, a4⟩ := runE_le f x n k
  rcases Nat.lt_trichotomy (runE f x k n) e with h | h | h
  · exact absurd (h3 _ a1 h) (a4 (by omega))
  · exact h
  · exact absurd (a3 e h1 h) (h4 (by omega))
/-- places from a up to b hold x -/
def allS (f : Nat → Int32) (x : Int32) (a b : Nat) : Prop := ∀ j, a ≤ j → j < b → f j = x
/-- the eight forms of a number's picture behind its S -/
def NF (f : Nat → Int32) (N a before behind nines low : Nat) : Prop :=
  (a < N ∧ allS f 57 a N ∧ before = N - a ∧ behind = 0 ∧ nines = N - a ∧ low = 0) ∨
  (∃ p, a ≤ p ∧ p < N ∧ allS f 57 a p ∧ f p = 86 ∧ allS f 57 (p + 1) N ∧ 0 < N - a - 1 ∧ before = p - a ∧ behind = N - p - 1 ∧ nines = N - a - 1 ∧ low = 0) ∨
  (∃ d, a < d ∧ d < N ∧ allS f 80 a d ∧ allS f 57 d N ∧ before = 0 ∧ behind = N - a ∧ nines = N - d ∧ low = 0) ∨
  (∃ d, a + 1 < d ∧ d < N ∧ f a = 86 ∧ allS f 80 (a + 1) d ∧ allS f 57 d N ∧ before = 0 ∧ behind = N - a - 1 ∧ nines = N - d ∧ low = 0) ∨
  (∃ d, a < d ∧ d + 1 < N ∧ allS f 80 a d ∧ f d = 86 ∧ allS f 57 (d + 1) N ∧ before = 0 ∧ behind = N - a - 1 ∧ nines = N - d - 1 ∧ low = 0) ∨
  (∃ k, a < k ∧ k < N ∧ allS f 57 a k ∧ allS f 80 k N ∧ before = N - a ∧ behind = 0 ∧ nines = k - a ∧ low = N - k) ∨
  (∃ k, a < k ∧ k + 1 < N ∧ allS f 57 a k ∧ f k = 86 ∧ allS f 80 (k + 1) N ∧ before = N - a - 1 ∧ behind = 0 ∧ nines = k - a ∧ low = N - k - 1) ∨
  (∃ k, a < k ∧ k + 1 < N ∧ allS f 57 a k ∧ allS f 80 k (N - 1) ∧ f (N - 1) = 86 ∧ before = N - a - 1 ∧ behind = 0 ∧ nines = k - a ∧ low = N - 1 - k)
theorem run_all {f : Nat → Int32} {x : Int32} {k n : Nat} : allS f x k (runE f x k n) := (runE_le f x n k).2.2.1
theorem run_stop {f : Nat → Int32} {x : Int32} {k n : Nat} (h : runE f x k n < k + n) : ¬ f (runE f x k n) = x := (runE_le f x n k).2.2.2 h
theorem nPic_NF {f : Nat → Int32} {N a before behind nines : Nat} {l : Int32} (ha : a ≤ N) (h : nPic f N a = some (before, behind, nines, l)) : ∃ low : Nat, NF f N a before behind nines low ∧ l = (if low = 0 then 0 - nI behind else nI low) := by
  have q1 := uP_le (f := f) ha
  have q2 := uF_le (f := f) ha
  have q3 := uE_le (f := f) ha
  have q4 := bS_le (f := f) ha
  have q5 := bD_le (f := f) ha
  have q6 := bK_le (f := f) ha
  have q7 := bE_le (f := f) ha
  have q8 := hS_le (f := f) ha
  have q9 := hD_le (f := f) ha
  unfold nPic at h
  by_cases g1 : 0 < (uP f N a - a) + (uE f N a - uF f N a) ∧ uE f N a = N
  · rw [if_pos g1] at h
    cases h
    refine ⟨0, ?_, by rw [if_pos rfl]⟩
    have r1 : allS f 57 a (uP f N a) := run_all
    have r2 : allS f 57 (uF f N a) (uE f N a) := run_all
    rw [g1.2] at r2
    by_cases hv : uP f N a < N ∧ f (uP f N a) = 86
    · have eF : uF f N a = uP f N a + 1 := by unfold uF; rw [if_pos hv]
      rw [eF] at r2
      exact Or.inr (Or.inl ⟨uP f N a, q1.1, hv.1, r1, hv.2, r2, by omega, rfl, by omega, by omega, rfl⟩)
    · have eF : uF f N a = uP f N a := by unfold uF; rw [if_neg hv]
      by_cases hlt : uP f N a < N
      · exfalso
        have hs : ¬ f (uP f N a) = 57 := run_stop (show runE f 57 a (N - a) < a + (N - a) by have : runE f 57 a (N - a) = uP f N a := rfl; omega)
        exact hs (r2 (uP f N a) (by omega) hlt)
      · have e : uP f N a = N := by omega
        rw [e] at r1
        exact Or.inl ⟨by omega, r1, by omega, by omega, by omega, rfl⟩
  · rw [if_neg g1] at h
    by_cases g2 : bS f N a < bD f N a ∧ bK f N a < bE f N a ∧ bE f N a = N
    · rw [if_pos g2] at h
      cases h
      refine ⟨0, ?_, by rw [if_pos rfl]⟩
      have r1 : allS f 80 (bS f N a) (bD f N a) := run_all
      have r2 : allS f 57 (bK f N a) (bE f N a) := run_all
      rw [g2.2.2] at r2
      by_cases hv : bV f N a = true
      · have eS : bS f N a = a + 1 := by unfold bS; rw [if_pos hv]
        have eK : bK f N a = bD f N a := by unfold bK; rw [if_neg (fun e => e.1 hv)]
        have hv2 : a < N ∧ f a = 86 := by unfold bV at hv; simpa using hv
        rw [eS] at r1
        rw [eK] at r2
        exact Or.inr (Or.inr (Or.inr (Or.inl ⟨bD f N a, by omega, by omega, hv2.2, r1, r2, rfl, by omega, by omega, rfl⟩)))
      · have eS : bS f N a = a := by unfold bS; rw [if_neg hv]
        rw [eS] at r1
        by_cases hw : bD f N a < N ∧ f (bD f N a) = 86
        · have eK : bK f N a = bD f N a + 1 := by unfold bK; rw [if_pos ⟨hv, hw⟩]
          rw [eK] at r2
          exact Or.inr (Or.inr (Or.inr (Or.inr (Or.inl ⟨bD f N a, by omega, by omega, r1, hw.2, r2, rfl, by omega, by omega, rfl⟩))))
        · have eK : bK f N a = bD f N a := by unfold bK; rw [if_neg (fun e => hw e.2)]
          rw [eK] at r2
          exact Or.inr (Or.inr (Or.inl ⟨bD f N a, by omega, by omega, r1, r2, rfl, by omega, by omega, rfl⟩))
    · rw [if_neg g2] at h
      by_cases g3 : hS f N a < hD f N a ∧ a < uP f N a ∧ hE f N a = N
      · rw [if_pos g3] at h
        cases h
        refine ⟨hD f N a - hS f N a, ?_, by rw [if_neg (by omega)]⟩
        have r1 : allS f 57 a (uP f N a) := run_all
        have r2 : allS f 80 (hS f N a) (hD f N a) := run_all
        by_cases hv : hV f N a = true
        · have eS : hS f N a = uP f N a + 1 := by unfold hS; rw [if_pos hv]
          have eE : hE f N a = hD f N a := by unfold hE; rw [if_neg (fun e => e.1 hv)]
          have hv2 : uP f N a < N ∧ f (uP f N a) = 86 := by unfold hV at hv; simpa using hv
          rw [eS, show hD f N a = N by omega] at r2
          exact Or.inr (Or.inr (Or.inr (Or.inr (Or.inr (Or.inr (Or.inl ⟨uP f N a, g3.2.1, by omega, r1, hv2.2, r2, by omega, rfl, rfl, by omega⟩))))))
        · have eS : hS f N a = uP f N a := by unfold hS; rw [if_neg hv]
          rw [eS] at r2
          by_cases hw : hD f N a < N ∧ f (hD f N a) = 86
          · have eE : hE f N a = hD f N a + 1 := by unfold hE; rw [if_pos ⟨hv, hw⟩]
            have e1 : hD f N a = N - 1 := by omega
            rw [e1] at r2
            exact Or.inr (Or.inr (Or.inr (Or.inr (Or.inr (Or.inr (Or.inr ⟨uP f N a, g3.2.1, by omega, r1, r2, by rw [← e1]; exact hw.2, by omega, rfl, rfl, by omega⟩))))))
          · have eE : hE f N a = hD f N a := by unfold hE; rw [if_neg (fun e => hw e.2)]
            rw [show hD f N a = N by omega] at r2
            exact Or.inr (Or.inr (Or.inr (Or.inr (Or.inr (Or.inl ⟨uP f N a, g3.2.1, by omega, r1, r2, by omega, rfl, rfl, by omega⟩)))))
      · rw [if_neg g3] at h; cases h
theorem NF_nPic {f : Nat → Int32} {N a before behind nines low : Nat} (ha : a ≤ N) (h : NF f N a before behind nines low) : nPic f N a ≠ none := by
  have nz : ∀ {α : Type} {p q r : Prop} [Decidable p] [Decidable q] [Decidable r] {x y z : α}, (p ∨ q ∨ r) → (if p then some x else if q then some y else if r then some z else none) ≠ none := by
    intro α p q r _ _ _ x y z h e
    by_cases hp : p
    · rw [if_pos hp] at e; cases e
    · rw [if_neg hp] at e
      by_cases hq : q
      · rw [if_pos hq] at e; cases e
      · rw [if_neg hq] at e
        by_cases hr : r
        · rw [if_pos hr] at e; cases e
        · rcases h with h | h | h
          · exact hp h
          · exact hq h
          · exact hr h
  have n1 : ¬ (86 : Int32) = 57 := by decide
  have n2 : ¬ (86 : Int32) = 80 := by decide
  have n3 : ¬ (57 : Int32) = 80 := by decide
  have n4 : ¬ (80 : Int32) = 57 := by decide
  have n5 : ¬ (57 : Int32) = 86 := by decide
  have n6 : ¬ (80 : Int32) = 86 := by decide
  unfold nPic
  apply nz
  rcases h with ⟨h1, h2, -⟩ | ⟨p, h1, h2, h3, h4, h5, h6, -⟩ | ⟨d, h1, h2, h3, h4, -⟩ | ⟨d, h1, h2, h3, h4, h5, -⟩ | ⟨d, h1, h2, h3, h4, h5, -⟩ | ⟨k, h1, h2, h3, h4, -⟩ | ⟨k, h1, h2, h3, h4, h5, -⟩ | ⟨k, h1, h2, h3, h4, h5, -⟩
  · left
    have e1 : uP f N a = N := runE_is (by omega) (by omega) h2 (by omega)
    have e2 : uF f N a = N := by unfold uF; rw [e1, if_neg (by omega)]
    have e3 : uE f N a = N := by unfold uE; rw [e2]; exact runE_is (by omega) (by omega) (fun j g1 g2 => by omega) (by omega)
    omega
  · left
    have e1 : uP f N a = p := runE_is (by omega) (by omega) h3 (fun _ e => n1 (h4.symm.trans e))
    have e2 : uF f N a = p + 1 := by unfold uF; rw [e1, if_pos ⟨h2, h4⟩]
    have e3 : uE f N a = N := by unfold uE; rw [e2]; exact runE_is (by omega) (by omega) h5 (by omega)
    omega
  · right; left
    have e0 : ¬ bV f N a = true := by unfold bV; rw [h3 a (by omega) h1]; simp
    have e1 : bS f N a = a := by unfold bS; rw [if_neg e0]
    have e2 : bD f N a = d := by unfold bD; rw [e1]; exact runE_is (by omega) (by omega) h3 (fun _ e => n3 ((h4 d (by omega) h2).symm.trans e))
    have e3 : bK f N a = d := by unfold bK; rw [e2, if_neg (fun e => n5 ((h4 d (by omega) h2).symm.trans e.2.2))]
    have e4 : bE f N a = N := by unfold bE; rw [e3]; exact runE_is (by omega) (by omega) h4 (by omega)
    omega
  · right; left
    have e0 : bV f N a = true := by unfold bV; simp [h3]; omega
    have e1 : bS f N a = a + 1 := by unfold bS; rw [if_pos e0]
    have e2 : bD f N a = d := by unfold bD; rw [e1]; exact runE_is (by omega) (by omega) h4 (fun _ e => n3 ((h5 d (by omega) h2).symm.trans e))
    have e3 : bK f N a = d := by unfold bK; rw [e2, if_neg (fun e => e.1 e0)]
    have e4 : bE f N a = N := by unfold bE; rw [e3]; exact runE_is (by omega) (by omega) h5 (by omega)
    omega
  · right; left
    have e0 : ¬ bV f N a = true := by unfold bV; rw [h3 a (by omega) h1]; simp
    have e1 : bS f N a = a := by unfold bS; rw [if_neg e0]
    have e2 : bD f N a = d := by unfold bD; rw [e1]; exact runE_is (by omega) (by omega) h3 (fun _ e => n2 (h4.symm.trans e))
    have e3 : bK f N a = d + 1 := by unfold bK; rw [e2, if_pos ⟨e0, by omega, h4⟩]
    have e4 : bE f N a = N := by unfold bE; rw [e3]; exact runE_is (by omega) (by omega) h5 (by omega)
    omega
  · right; right
    have e1 : uP f N a = k := runE_is (by omega) (by omega) h3 (fun _ e => n4 ((h4 k (by omega) h2).symm.trans e))
    have e0 : ¬ hV f N a = true := by unfold hV; rw [e1, h4 k (by omega) h2]; simp
    have e2 : hS f N a = k := by unfold hS; rw [if_neg e0, e1]
    have e3 : hD f N a = N := by unfold hD; rw [e2]; exact runE_is (by omega) (by omega) h4 (by omega)
    have e4 : hE f N a = N := by unfold hE; rw [e3, if_neg (fun e => by omega)]
    omega
  · right; right
    have e1 : uP f N a = k := runE_is (by omega) (by omega) h3 (fun _ e => n1 (h4.symm.trans e))
    have e0 : hV f N a = true := by unfold hV; rw [e1, h4]; simp; omega
    have e2 : hS f N a = k + 1 := by unfold hS; rw [if_pos e0, e1]
    have e3 : hD f N a = N := by unfold hD; rw [e2]; exact runE_is (by omega) (by omega) h5 (by omega)
    have e4 : hE f N a = N := by unfold hE; rw [e3, if_neg (fun e => by omega)]
    omega
  · right; right
    have e1 : uP f N a = k := runE_is (by omega) (by omega) h3 (fun _ e => n4 ((h4 k (by omega) (by omega)).symm.trans e))
    have e0 : ¬ hV f N a = true := by unfold hV; rw [e1, h4 k (by omega) (by omega)]; simp
    have e2 : hS f N a = k := by unfold hS; rw [if_neg e0, e1]
    have e3 : hD f N a = N - 1 := by unfold hD; rw [e2]; exact runE_is (by omega) (by omega) h4 (fun _ e => n2 (h5.symm.trans e))
    have e4 : hE f N a = N := by unfold hE; rw [e3, if_pos ⟨e0, by omega, h5⟩]; omega
    omega
