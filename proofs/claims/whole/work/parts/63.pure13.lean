theorem cnt_app (f : Nat → Int32) (x : Int32) : ∀ (n m a : Nat), cnt f x a (n + m) = cnt f x a n + cnt f x (a + n) m := by
  intro n
  induction n with
  | zero => intro m a; simp [cnt]
  | succ n ih =>
    intro m a
    rw [show n + 1 + m = (n + m) + 1 by omega]
    show (if f a = x then 1 else 0) + cnt f x (a + 1) (n + m) = (if f a = x then 1 else 0) + cnt f x (a + 1) n + _
    rw [ih m (a + 1), show a + 1 + n = a + (n + 1) by omega]
    omega
theorem cnt_all {f : Nat → Int32} {x : Int32} : ∀ (n a : Nat), allS f x a (a + n) → cnt f x a n = n := by
  intro n
  induction n with
  | zero => intro a _; rfl
  | succ n ih =>
    intro a h
    have e : f a = x := h a (Nat.le_refl _) (by omega)
    have := ih (a + 1) (fun j h1 h2 => h j (by omega) (by omega))
    simp only [cnt, if_pos e]
    omega
theorem cnt_no {f : Nat → Int32} {x : Int32} : ∀ (n a : Nat), (∀ j, a ≤ j → j < a + n → ¬ f j = x) → cnt f x a n = 0 := by
  intro n
  induction n with
  | zero => intro a _; rfl
  | succ n ih =>
    intro a h
    have e : ¬ f a = x := h a (Nat.le_refl _) (by omega)
    have := ih (a + 1) (fun j h1 h2 => h j (by omega) (by omega))
    simp only [cnt, if_neg e]
    omega
theorem cnt_pos {f : Nat → Int32} {x : Int32} {n a j : Nat} (h1 : a ≤ j) (h2 : j < a + n) (h : f j = x) : 0 < cnt f x a n := by
  have e1 := cnt_app f x (j - a) (n - (j - a)) a
  rw [show j - a + (n - (j - a)) = n by omega, show a + (j - a) = j by omega, show n - (j - a) = (n - (j - a) - 1) + 1 by omega] at e1
  simp only [cnt, if_pos h] at e1
  omega
theorem cnt_z {f : Nat → Int32} {x : Int32} {n a : Nat} (h : cnt f x a n = 0) : ∀ j, a ≤ j → j < a + n → ¬ f j = x := fun j h1 h2 e => by
  have := cnt_pos h1 h2 e
  omega
theorem cnt_one {f : Nat → Int32} {x : Int32} {n a i j : Nat} (h : cnt f x a n ≤ 1) (hi : a ≤ i ∧ i < a + n) (hj : a ≤ j ∧ j < a + n) (ei : f i = x) (ej : f j = x) : i = j := by
  have key : ∀ i j : Nat, a ≤ i → i < j → j < a + n → f i = x → f j = x → False := by
    intro i j h1 h2 h3 e1 e2
    have e := cnt_app f x (j - a) (n - (j - a)) a
    rw [show j - a + (n - (j - a)) = n by omega, show a + (j - a) = j by omega] at e
    have p1 := cnt_pos (n := j - a) (a := a) (j := i) h1 (by omega) e1
    have p2 := cnt_pos (n := n - (j - a)) (a := j) (j := j) (Nat.le_refl _) (by omega) e2
    omega
  rcases Nat.lt_trichotomy i j with h1 | h1 | h1
  · exact (key i j hi.1 h1 hj.2 ei ej).elim
  · exact h1
  · exact (key j i hj.1 h1 hi.2 ej ei).elim
theorem cnt_3 {f : Nat → Int32} : ∀ (n a : Nat), cnt f 57 a n + cnt f 80 a n + cnt f 86 a n ≤ n ∧ (cnt f 57 a n + cnt f 80 a n + cnt f 86 a n = n → ∀ j, a ≤ j → j < a + n → f j = 57 ∨ f j = 80 ∨ f j = 86) := by
  intro n
  induction n with
  | zero => intro a; exact ⟨Nat.le_refl _, fun _ j h1 h2 => by omega⟩
  | succ n ih =>
    intro a
    obtain ⟨h1, h2⟩ := ih (a + 1)
    have hd : (if f a = 57 then 1 else 0) + (if f a = 80 then 1 else 0) + (if f a = 86 then 1 else 0) ≤ 1 ∧ ((if f a = 57 then 1 else 0) + (if f a = 80 then 1 else 0) + (if f a = 86 then 1 else 0) = 1 → f a = 57 ∨ f a = 80 ∨ f a = 86) := by
      by_cases e1 : f a = 57
      · simp [e1]
      · by_cases e2 : f a = 80
        · simp [e2]
        · by_cases e3 : f a = 86 <;> simp [e1, e2, e3]
    simp only [cnt]
    refine ⟨by omega, fun h j g1 g2 => ?_⟩
    by_cases hj : j = a
    · subst hj; exact hd.2 (by omega)
    · exact h2 (by omega) j (by omega) (by omega)
theorem NF_cnt {f : Nat → Int32} {N a before behind nines low : Nat} (h : NF f N a before behind nines low) : cnt f 57 a (N - a) = nines ∧ cnt f 80 a (N - a) = before + behind - nines ∧ nines ≤ before + behind ∧ cnt f 86 a (N - a) ≤ 1 ∧ cnt f 57 a (N - a) + cnt f 80 a (N - a) + cnt f 86 a (N - a) = N - a ∧ 0 < nines ∧ a < N := by
  have n1 : ¬ (86 : Int32) = 57 := by decide
  have n2 : ¬ (86 : Int32) = 80 := by decide
  have n3 : ¬ (57 : Int32) = 80 := by decide
  have n4 : ¬ (80 : Int32) = 57 := by decide
  have n5 : ¬ (57 : Int32) = 86 := by decide
  have n6 : ¬ (80 : Int32) = 86 := by decide
  -- the counts over a run of one symbol
  have run : ∀ (y : Int32) (i j : Nat), i ≤ j → allS f y i j → ∀ x, cnt f x i (j - i) = if y = x then j - i else 0 := by
    intro y i j hij hy x
    by_cases e : y = x
    · subst e; rw [if_pos rfl]; exact cnt_all _ _ (by rw [show i + (j - i) = j by omega]; exact hy)
    · rw [if_neg e]; exact cnt_no _ _ (fun z h1 h2 g => e ((hy z h1 (by omega)).symm.trans g))
  have two : ∀ (m : Nat) (x : Int32), a ≤ m → m ≤ N → cnt f x a (N - a) = cnt f x a (m - a) + cnt f x m (N - m) := by
    intro m x h1 h2
    have := cnt_app f x (m - a) (N - m) a
    rw [show m - a + (N - m) = N - a by omega, show a + (m - a) = m by omega] at this
    exact this
  have one : ∀ (m : Nat) (y x : Int32), f m = y → cnt f x m 1 = if y = x then 1 else 0 := by
    intro m y x h; simp [cnt, h]
  have three : ∀ (m : Nat) (x : Int32), a ≤ m → m < N → cnt f x a (N - a) = cnt f x a (m - a) + cnt f x m 1 + cnt f x (m + 1) (N - (m + 1)) := by
    intro m x h1 h2
    rw [two m x h1 (by omega)]
    have := cnt_app f x 1 (N - (m + 1)) m
    rw [show 1 + (N - (m + 1)) = N - m by omega] at this
    omega
  rcases h with ⟨h1, h2, b1, b2, b3, b4⟩ | ⟨p, h1, h2, h3, h4, h5, h6, b1, b2, b3, b4⟩ | ⟨d, h1, h2, h3, h4, b1, b2, b3, b4⟩ | ⟨d, h1, h2, h3, h4, h5, b1, b2, b3, b4⟩ | ⟨d, h1, h2, h3, h4, h5, b1, b2, b3, b4⟩ | ⟨k, h1, h2, h3, h4, b1, b2, b3, b4⟩ | ⟨k, h1, h2, h3, h4, h5, b1, b2, b3, b4⟩ | ⟨k, h1, h2, h3, h4, h5, b1, b2, b3, b4⟩
  · rw [run 57 a N (by omega) h2, run 57 a N (by omega) h2, run 57 a N (by omega) h2, if_pos rfl, if_neg n3, if_neg n5]; omega
  · rw [three p 57 h1 h2, three p 80 h1 h2, three p 86 h1 h2, run 57 a p h1 h3, run 57 a p h1 h3, run 57 a p h1 h3, run 57 (p + 1) N (by omega) h5, run 57 (p + 1) N (by omega) h5, run 57 (p + 1) N (by omega) h5, one p 86 57 h4, one p 86 80 h4, one p 86 86 h4, if_pos rfl, if_pos rfl, if_neg n3, if_neg n3, if_neg n5, if_neg n5, if_neg n1, if_neg n2, if_pos rfl]; omega
  · rw [two d 57 (by omega) (by omega), two d 80 (by omega) (by omega), two d 86 (by omega) (by omega), run 80 a d (by omega) h3, run 80 a d (by omega) h3, run 80 a d (by omega) h3, run 57 d N (by omega) h4, run 57 d N (by omega) h4, run 57 d N (by omega) h4, if_neg n4, if_pos rfl, if_neg n6, if_pos rfl, if_neg n3, if_neg n5]; omega
  · have e : ∀ x : Int32, cnt f x a (N - a) = cnt f x a 1 + (cnt f x (a + 1) (d - (a + 1)) + cnt f x d (N - d)) := by
      intro x
      have q1 := three a x (Nat.le_refl _) (by omega)
      have q2 := cnt_app f x (d - (a + 1)) (N - d) (a + 1)
      rw [show d - (a + 1) + (N - d) = N - (a + 1) by omega, show a + 1 + (d - (a + 1)) = d by omega] at q2
      have : cnt f x a (a - a) = 0 := by rw [Nat.sub_self]; rfl
      omega
    rw [e 57, e 80, e 86, run 80 (a + 1) d (by omega) h4, run 80 (a + 1) d (by omega) h4, run 80 (a + 1) d (by omega) h4, run 57 d N (by omega) h5, run 57 d N (by omega) h5, run 57 d N (by omega) h5, one a 86 57 h3, one a 86 80 h3, one a 86 86 h3, if_neg n1, if_neg n4, if_pos rfl, if_neg n2, if_pos rfl, if_neg n3, if_pos rfl, if_neg n6, if_neg n5]; omega
  · rw [three d 57 (by omega) (by omega), three d 80 (by omega) (by omega), three d 86 (by omega) (by omega), run 80 a d (by omega) h3, run 80 a d (by omega) h3, run 80 a d (by omega) h3, run 57 (d + 1) N (by omega) h5, run 57 (d + 1) N (by omega) h5, run 57 (d + 1) N (by omega) h5, one d 86 57 h4, one d 86 80 h4, one d 86 86 h4, if_neg n4, if_neg n1, if_pos rfl, if_pos rfl, if_neg n2, if_neg n3, if_neg n6, if_pos rfl, if_neg n5]; omega
  · rw [two k 57 (by omega) (by omega), two k 80 (by omega) (by omega), two k 86 (by omega) (by omega), run 57 a k (by omega) h3, run 57 a k (by omega) h3, run 57 a k (by omega) h3, run 80 k N (by omega) h4, run 80 k N (by omega) h4, run 80 k N (by omega) h4, if_pos rfl, if_neg n4, if_neg n3, if_pos rfl, if_neg n5, if_neg n6]; omega
  · rw [three k 57 (by omega) (by omega), three k 80 (by omega) (by omega), three k 86 (by omega) (by omega), run 57 a k (by omega) h3, run 57 a k (by omega) h3, run 57 a k (by omega) h3, run 80 (k + 1) N (by omega) h5, run 80 (k + 1) N (by omega) h5, run 80 (k + 1) N (by omega) h5, one k 86 57 h4, one k 86 80 h4, one k 86 86 h4, if_pos rfl, if_neg n1, if_neg n4, if_neg n3, if_neg n2, if_pos rfl, if_neg n5, if_pos rfl, if_neg n6]; omega
  · have e : ∀ x : Int32, cnt f x a (N - a) = cnt f x a (k - a) + (cnt f x k (N - 1 - k) + cnt f x (N - 1) 1) := by
      intro x
      have q1 := two (N - 1) x (by omega) (by omega)
      have q2 := cnt_app f x (k - a) (N - 1 - k) a
      rw [show k - a + (N - 1 - k) = N - 1 - a by omega, show a + (k - a) = k by omega] at q2
      rw [show N - (N - 1) = 1 by omega] at q1
      omega
    rw [e 57, e 80, e 86, run 57 a k (by omega) h3, run 57 a k (by omega) h3, run 57 a k (by omega) h3, run 80 k (N - 1) (by omega) h4, run 80 k (N - 1) (by omega) h4, run 80 k (N - 1) (by omega) h4, one (N - 1) 86 57 h5, one (N - 1) 86 80 h5, one (N - 1) 86 86 h5, if_pos rfl, if_neg n4, if_neg n1, if_neg n3, if_pos rfl, if_neg n2, if_neg n5, if_neg n6, if_pos rfl]; omega
