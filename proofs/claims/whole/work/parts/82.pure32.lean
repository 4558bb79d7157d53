theorem NF_cls {f : Nat → Int32} {N a before behind nines low : Nat} (h : NF f N a before behind nines low) :
    (before + behind = nines ∧ low = 0 ∧ ((∀ j, a ≤ j → j < N → f j = 57) ∧ behind = 0 ∨ ∃ p, a ≤ p ∧ p < N ∧ f p = 86 ∧ (∀ j, a ≤ j → j < N → j ≠ p → f j = 57) ∧ before = p - a)) ∨
    (nines < before + behind ∧ before = 0 ∧ low = 0 ∧ ¬ f a = 57) ∨ (nines < before + behind ∧ behind = 0 ∧ low = before - nines ∧ f a = 57) := by
  rcases h with ⟨h1, h2, z1, z2, z3, z4⟩ | ⟨p, h1, h2, h3, h4, h5, z0, z1, z2, z3, z4⟩ | ⟨d, h1, h2, h3, h4, z1, z2, z3, z4⟩ | ⟨d, h1, h2, h3, h4, h5, z1, z2, z3, z4⟩ | ⟨d, h1, h2, h3, h4, h5, z1, z2, z3, z4⟩ | ⟨k, h1, h2, h3, h4, z1, z2, z3, z4⟩ | ⟨k, h1, h2, h3, h4, h5, z1, z2, z3, z4⟩ | ⟨k, h1, h2, h3, h4, h5, z1, z2, z3, z4⟩
  · exact Or.inl ⟨by omega, z4, Or.inl ⟨h2, z2⟩⟩
  · refine Or.inl ⟨by omega, z4, Or.inr ⟨p, h1, h2, h4, fun j j1 j2 j3 => ?_, z1⟩⟩
    rcases Nat.lt_or_ge j p with g | g
    · exact h3 j j1 g
    · exact h5 j (by omega) j2
  · exact Or.inr (Or.inl ⟨by omega, z1, z4, fun e => s80_57 (h3 a (Nat.le_refl _) h1) e⟩)
  · exact Or.inr (Or.inl ⟨by omega, z1, z4, fun e => s86_57 h3 e⟩)
  · exact Or.inr (Or.inl ⟨by omega, z1, z4, fun e => s80_57 (h3 a (Nat.le_refl _) h1) e⟩)
  · exact Or.inr (Or.inr ⟨by omega, z2, by omega, h3 a (Nat.le_refl _) h1⟩)
  · exact Or.inr (Or.inr ⟨by omega, z2, by omega, h3 a (Nat.le_refl _) h1⟩)
  · exact Or.inr (Or.inr ⟨by omega, z2, by omega, h3 a (Nat.le_refl _) h1⟩)
theorem NF_uniq {f : Nat → Int32} {N a b1 h1 n1 l1 b2 h2 n2 l2 : Nat} (x : NF f N a b1 h1 n1 l1) (y : NF f N a b2 h2 n2 l2) : b1 = b2 ∧ h1 = h2 ∧ n1 = n2 ∧ l1 = l2 := by
  obtain ⟨p1, p2, p3, -⟩ := NF_cnt x
  obtain ⟨q1, q2, q3, -⟩ := NF_cnt y
  have en : n1 = n2 := by omega
  have es : b1 + h1 = b2 + h2 := by omega
  rcases NF_cls x with ⟨x1, x2, x3⟩ | ⟨x1, x2, x3, x4⟩ | ⟨x1, x2, x3, x4⟩
  · rcases NF_cls y with ⟨y1, y2, y3⟩ | ⟨y1, y2, y3, y4⟩ | ⟨y1, y2, y3, y4⟩
    · have eb : b1 = b2 := by
        rcases x3 with ⟨x3, x4⟩ | ⟨p, x3, x4, x5, x6, x7⟩
        · rcases y3 with ⟨y3, y4⟩ | ⟨p', y3, y4, y5, y6, y7⟩
          · omega
          · exact absurd (x3 p' y3 y4) (fun e => s86_57 y5 e)
        · rcases y3 with ⟨y3, y4⟩ | ⟨p', y3, y4, y5, y6, y7⟩
          · exact absurd (y3 p x3 x4) (fun e => s86_57 x5 e)
          · by_cases hp : p' = p
            · omega
            · exact absurd (x6 p' y3 y4 hp) (fun e => s86_57 y5 e)
      omega
    · omega
    · omega
  · rcases NF_cls y with ⟨y1, y2, y3⟩ | ⟨y1, y2, y3, y4⟩ | ⟨y1, y2, y3, y4⟩
    · omega
    · omega
    · exact absurd y4 x4
  · rcases NF_cls y with ⟨y1, y2, y3⟩ | ⟨y1, y2, y3, y4⟩ | ⟨y1, y2, y3, y4⟩
    · omega
    · exact absurd x4 y4
    · omega
theorem lg_57 : lg 57 := Or.inr (Or.inr (by decide))
theorem lg_80 : lg 80 := Or.inr (Or.inr (by decide))
theorem lg_86 : lg 86 := Or.inr (Or.inr (by decide))
theorem NF_lg {f : Nat → Int32} {N before behind nines low : Nat} (h : NF f N (if f 0 = 83 then 1 else 0) before behind nines low) : ∀ j, j < N → lg (f j) := by
  obtain ⟨q1, q2, q3, q4, q5, q6, q7⟩ := NF_cnt h
  intro j hj
  by_cases z : f 0 = 83
  · rw [if_pos z] at q5 q7
    by_cases j0 : j = 0
    · rw [j0, z]; exact Or.inr (Or.inr (by decide))
    · rcases (cnt_3 (f := f) (N - 1) 1).2 q5 j (by omega) (by omega) with e | e | e
      · rw [e]; exact lg_57
      · rw [e]; exact lg_80
      · rw [e]; exact lg_86
  · rw [if_neg z] at q5 q7
    rcases (cnt_3 (f := f) (N - 0) 0).2 q5 j (by omega) (by omega) with e | e | e
    · rw [e]; exact lg_57
    · rw [e]; exact lg_80
    · rw [e]; exact lg_86
theorem cnt_d3e {f : Nat → Int32} {x y z : Int32} (h1 : x ≠ y) (h2 : y ≠ z) (h3 : x ≠ z) : ∀ (n a : Nat), cnt f x a n + cnt f y a n + cnt f z a n = n → ∀ j, a ≤ j → j < a + n → f j = x ∨ f j = y ∨ f j = z := by
  intro n
  induction n with
  | zero => intro a _ j j1 j2; omega
  | succ n ih =>
    intro a h j j1 j2
    have hl := cnt_d3 (f := f) h1 h2 h3 n (a + 1)
    rw [cnt_s, cnt_s, cnt_s] at h
    by_cases e1 : f a = x
    · rw [if_pos e1, if_neg (fun e => h1 (e1.symm.trans e)), if_neg (fun e => h3 (e1.symm.trans e))] at h
      by_cases hj : j = a
      · rw [hj]; exact Or.inl e1
      · exact ih (a + 1) (by omega) j (by omega) (by omega)
    · by_cases e2 : f a = y
      · rw [if_neg e1, if_pos e2, if_neg (fun e => h2 (e2.symm.trans e))] at h
        by_cases hj : j = a
        · rw [hj]; exact Or.inr (Or.inl e2)
        · exact ih (a + 1) (by omega) j (by omega) (by omega)
      · by_cases e3 : f a = z
        · rw [if_neg e1, if_neg e2, if_pos e3] at h
          by_cases hj : j = a
          · rw [hj]; exact Or.inr (Or.inr e3)
          · exact ih (a + 1) (by omega) j (by omega) (by omega)
        · rw [if_neg e1, if_neg e2, if_neg e3] at h; omega
theorem TP_lg {f : Nat → Int32} {N : Nat} (h : TP f N) : ∀ j, j < N → lg (f j) := by
  intro j hj
  rcases cnt_d3e (f := f) (x := 88) (y := 65) (z := 57) (by decide) (by decide) (by decide) N 0 h.2 j (by omega) (by omega) with e | e | e
  · rw [e]; exact Or.inr (Or.inr (by decide))
  · rw [e]; exact Or.inr (Or.inr (by decide))
  · rw [e]; exact lg_57
/-- what stands before the body, and behind it -/
theorem EA_pre {f : Nat → Int32} {N j : Nat} (hj : j < eA f N) : (j < eL f N ∧ ld f N = true ∧ j = 0 ∧ (f j = 43 ∨ f j = 45)) ∨ (j = eL f N ∧ f j = 36) := by
  by_cases h : j < eL f N
  · left
    unfold eL at h
    by_cases hl : ld f N = true
    · rw [if_pos hl] at h
      have hd := of_decide_eq_true hl
      have : j = 0 := by omega
      subst this
      exact ⟨by unfold eL; rw [if_pos hl]; omega, hl, rfl, hd.2.1⟩
    · rw [if_neg hl] at h; omega
  · right
    unfold eA at hj
    by_cases hc : cu f N = true
    · rw [if_pos hc] at hj
      have hd := of_decide_eq_true hc
      have : j = eL f N := by omega
      exact ⟨this, by rw [this]; exact hd.2.1⟩
    · rw [if_neg hc] at hj; omega
theorem EB_post {f : Nat → Int32} {N j : Nat} (hj : eB f N ≤ j) (hN : j < N) : j = N - 1 ∧ tr f N = true ∧ (f j = 67 ∨ f j = 68 ∨ f j = 43 ∨ f j = 45) := by
  unfold eB at hj
  by_cases ht : tr f N = true
  · rw [if_pos ht] at hj
    have : j = N - 1 := by omega
    have hd := of_decide_eq_true ht
    refine ⟨this, ht, ?_⟩
    rw [this]
    rcases hd with g | g | g
    · exact Or.inl g
    · exact Or.inr (Or.inl g)
    · exact Or.inr (Or.inr g.1)
  · rw [if_neg ht] at hj; omega
theorem EOK_lg {f : Nat → Int32} {N : Nat} {fl : Int32} {pt : Option Nat} (h : EOK f N fl pt) : ∀ j, j < N → lg (f j) := by
  intro j hj
  have hA := eA_le f N
  by_cases g1 : j < eA f N
  · rcases EA_pre g1 with ⟨-, -, -, e | e⟩ | ⟨-, e⟩
    · rw [e]; exact Or.inr (Or.inr (by decide))
    · rw [e]; exact Or.inr (Or.inr (by decide))
    · rw [e]; exact Or.inr (Or.inr (by decide))
  · by_cases g2 : j < eB f N
    · rcases (bdy_sym _ _ _ _ _ h.1).1 j (by omega) (by omega) with ⟨e, -⟩ | ⟨e, -⟩ | e | e
      · have e := of_decide_eq_true e
        rcases e with e | e | e | e | e <;> rw [e] <;> exact Or.inr (Or.inr (by decide))
      · rcases e with e | e <;> rw [e] <;> exact Or.inr (Or.inr (by decide))
      · rw [e]; exact lg_57
      · have e := of_decide_eq_true e
        rcases e with e | e | e | e <;> rw [e] <;> exact Or.inr (Or.inr (by decide))
    · obtain ⟨-, -, e⟩ := EB_post (f := f) (by omega) hj
      rcases e with e | e | e | e
      · exact Or.inl e
      · exact Or.inr (Or.inl e)
      · rw [e]; exact Or.inr (Or.inr (by decide))
      · rw [e]; exact Or.inr (Or.inr (by decide))
