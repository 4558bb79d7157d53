theorem i32_ss (x a b : Int32) : x - a - b = x - (a + b) := by
  rw [Int32.sub_eq_add_neg, Int32.sub_eq_add_neg, Int32.sub_eq_add_neg, Int32.neg_add, Int32.sub_eq_add_neg, Int32.add_assoc]
/-- how many of n places from k on are such -/
def dcn (D : Nat → Bool) : Nat → Nat → Nat
  | 0, _ => 0
  | n + 1, k => (if D k = true then 1 else 0) + dcn D n (k + 1)
theorem dcn_s (D : Nat → Bool) (n k : Nat) : dcn D (n + 1) k = (if D k = true then 1 else 0) + dcn D n (k + 1) := rfl
theorem dcn_le (D : Nat → Bool) : ∀ (n k : Nat), dcn D n k ≤ n := by
  intro n
  induction n with
  | zero => intro k; exact Nat.le_refl _
  | succ n ih => intro k; have := ih (k + 1); rw [dcn_s]; split <;> omega
theorem dcn_app (D : Nat → Bool) : ∀ (n m k : Nat), dcn D (n + m) k = dcn D n k + dcn D m (k + n) := by
  intro n
  induction n with
  | zero => intro m k; simp [dcn]
  | succ n ih =>
    intro m k
    rw [show n + 1 + m = (n + m) + 1 by omega, dcn_s, dcn_s, ih m (k + 1), show k + 1 + n = k + (n + 1) by omega]
    omega
theorem dcn_ext {D D' : Nat → Bool} : ∀ (n k : Nat), (∀ j, k ≤ j → j < k + n → D j = D' j) → dcn D n k = dcn D' n k := by
  intro n
  induction n with
  | zero => intro k _; rfl
  | succ n ih => intro k h; rw [dcn_s, dcn_s, h k (Nat.le_refl _) (by omega), ih (k + 1) (fun j j1 j2 => h j (by omega) (by omega))]
/-- does a digit stand there -/
def eD (f : Nat → Int32) (fl : Int32) (fF : Nat) (k : Nat) : Bool := decide (¬ (flo fl = true ∧ k = fF) ∧ (f k = 57 ∨ (fl ≠ 0 ∧ f k = fl)))
theorem flo_0 : flo 0 = false := by decide
theorem flo_n1 : flo (-1) = false := by decide
theorem C_isDigitPlace {v b rw pw : Nat → Int32} {fl : Int32} {fF k : Nat} (hk : k < 24) (h11 : v 11 = (if fl = 0 then -1 else fl)) (hn1 : ¬ rw k = -1) (h13 : flo fl = true → v 13 = nI fF) (hfF : fF < 1000) :
    m_E_isDigitPlace (nI k) v b rw pw = some (if eD rw fl fF k = true then 1 else 0) := by
  have h17 : m_E_isDigitPlace_17 v b rw pw (nI k) = some (if rw k = 57 ∨ (fl ≠ 0 ∧ rw k = fl) then 1 else 0) := by
    unfold m_E_isDigitPlace_17 m_E_isDigitPlace_41
    rw [zix_ok hk (by decide), zix_ok hk (by decide), nI_clamp (by omega), h11]
    by_cases g1 : rw k = 57
    · rw [if_pos g1, zbo_1, if_pos (Or.inl g1)]
    · rw [if_neg g1]
      by_cases g2 : fl = 0
      · rw [if_pos g2, if_neg hn1, zbo_0, if_neg (by simp [g1, g2])]
      · rw [if_neg g2]
        by_cases g3 : rw k = fl
        · rw [if_pos g3, zbo_1, if_pos (Or.inr ⟨g2, g3⟩)]
        · rw [if_neg g3, zbo_0, if_neg (by simp [g1, g3])]
  unfold m_E_isDigitPlace
  rw [C_isFloating, h17]
  simp only [Option.bind_some]
  have hfl : flo (v 11) = flo fl := by
    rw [h11]
    by_cases g : fl = 0
    · rw [if_pos g, g, flo_0, flo_n1]
    · rw [if_neg g]
  rw [hfl]
  by_cases g : flo fl = true
  · rw [if_pos g, if_neg (by decide), h13 g, zbo_0]
    by_cases g2 : k = fF
    · rw [if_pos (by rw [g2]), if_neg (show ¬ eD rw fl fF k = true from fun z => (of_decide_eq_true z).1 ⟨g, g2⟩)]
    · rw [if_neg (fun z => g2 ((nI_eq (by omega) (by omega)).mp z))]
      by_cases g3 : rw k = 57 ∨ (fl ≠ 0 ∧ rw k = fl)
      · rw [if_pos g3, if_pos (show eD rw fl fF k = true from decide_eq_true ⟨fun z => g2 z.2, g3⟩)]
      · rw [if_neg g3, if_neg (show ¬ eD rw fl fF k = true from fun z => g3 (of_decide_eq_true z).2)]
  · rw [if_neg g, if_pos rfl]
    by_cases g3 : rw k = 57 ∨ (fl ≠ 0 ∧ rw k = fl)
    · rw [if_pos g3, if_pos (show eD rw fl fF k = true from decide_eq_true ⟨fun z => g z.1, g3⟩)]
    · rw [if_neg g3, if_neg (show ¬ eD rw fl fF k = true from fun z => g3 (of_decide_eq_true z).2)]
/-- the powers of the digits -/
def pwF (pw : Nat → Int32) (D : Nat → Bool) (x : Int32) (k n : Nat) : Nat → Int32 := fun j => if k ≤ j ∧ j < k + n then (if D j = true then x - nI (dcn D (j - k) k + 1) else 99) else pw j
theorem pwF_s (pw : Nat → Int32) (D : Nat → Bool) (x : Int32) (k n : Nat) : pwF (upd pw k (if D k = true then x - nI 1 else 99)) D (x - nI (if D k = true then 1 else 0)) (k + 1) n = pwF pw D x k (n + 1) := by
  funext j
  unfold pwF
  by_cases h : j = k
  · subst h
    rw [if_neg (show ¬ (j + 1 ≤ j ∧ j < j + 1 + n) by omega), pk_us, if_pos (show j ≤ j ∧ j < j + (n + 1) by omega), Nat.sub_self]
    rfl
  · by_cases h2 : k + 1 ≤ j ∧ j < k + 1 + n
    · rw [if_pos h2, if_pos (show k ≤ j ∧ j < k + (n + 1) by omega)]
      by_cases h3 : D j = true
      · rw [if_pos h3, if_pos h3, i32_ss, nI_add, show j - k = (j - (k + 1)) + 1 by omega, dcn_s, Nat.add_assoc]
      · rw [if_neg h3, if_neg h3]
    · rw [if_neg h2, pk_un h, if_neg (show ¬ (k ≤ j ∧ j < k + (n + 1)) by omega)]
theorem C_pd2_l {b rw : Nat → Int32} {v : Nat → Int32} {fl : Int32} {e fF : Nat} (he : e ≤ 24) (h10 : v 10 = nI e) (h11 : v 11 = (if fl = 0 then -1 else fl)) (h13 : flo fl = true → v 13 = nI fF) (hfF : fF < 1000) : ∀ (n k fuel : Nat) (x : Int32) (pw : Nat → Int32), k + n = e → n < fuel → (∀ j, k ≤ j → j < e → ¬ rw j = -1) →
    m_E_placeDigits_91 b rw fuel x (nI k) v pw = some (v, pwF pw (eD rw fl fF) x k n) := by
  intro n
  induction n with
  | zero =>
    intro k fuel x pw hk hf hn
    obtain ⟨fuel, rfl⟩ : ∃ z, fuel = z + 1 := ⟨fuel - 1, by omega⟩
    show m_E_placeDigits_91b b rw _ x (nI k) v pw = _
    unfold m_E_placeDigits_91b
    rw [h10, if_pos (nI_le (by omega) (by omega))]
    have : pwF pw (eD rw fl fF) x k 0 = pw := by funext j; unfold pwF; rw [if_neg (by omega)]
    rw [this]
  | succ n ih =>
    intro k fuel x pw hk hf hn
    obtain ⟨fuel, rfl⟩ : ∃ z, fuel = z + 1 := ⟨fuel - 1, by omega⟩
    show m_E_placeDigits_91b b rw (m_E_placeDigits_91 b rw fuel) x (nI k) v pw = _
    unfold m_E_placeDigits_91b m_E_placeDigits_115 m_E_placeDigits_132
    rw [h10, if_neg (nI_ge (by omega) (by omega)), C_isDigitPlace (by omega) h11 (hn k (Nat.le_refl _) (by omega)) h13 hfF]
    simp only [Option.bind_some, zix_ok (show k < 24 by omega) (show 24 < 2 ^ 31 by decide)]
    rw [nI_clamp (by omega), nI_1]
    have i1 := ih (k + 1) fuel (x - nI (if eD rw fl fF k = true then 1 else 0)) (upd pw k (if eD rw fl fF k = true then x - nI 1 else 99)) (by omega) (by omega) (fun j j1 j2 => hn j (by omega) j2)
    rw [pwF_s] at i1
    by_cases h : eD rw fl fF k = true
    · rw [if_pos h, if_neg (by decide), if_neg (by decide)]
      rw [if_pos h, if_pos h] at i1
      exact i1
    · rw [if_neg h, if_pos rfl, if_pos rfl]
      rw [if_neg h, if_neg h] at i1
      exact i1
theorem C_pd1_l {b rw pw : Nat → Int32} {fl : Int32} {e m fF : Nat} (he : e ≤ 24) (hm : m ≤ e) (hfF : fF < 1000) : ∀ (n k fuel cb ch : Nat) (v : Nat → Int32), k + n = e → n < fuel → v 10 = nI e → v 11 = (if fl = 0 then -1 else fl) → (flo fl = true → v 13 = nI fF) → v 15 = nI m → v 2 = nI cb → v 3 = nI ch → (∀ j, k ≤ j → j < e → ¬ rw j = -1) →
    ∃ v', m_E_placeDigits_15 b rw fuel (nI k) v pw = m_E_placeDigits_91 b rw 64 (v' 2) (v' 9) v' pw ∧ v' 2 = nI (cb + dcn (fun j => eD rw fl fF j && decide (j < m)) n k) ∧ v' 3 = nI (ch + dcn (fun j => eD rw fl fF j && decide (m < j)) n k) ∧ ∀ j, j ≠ 2 → j ≠ 3 → v' j = v j := by
  intro n
  induction n with
  | zero =>
    intro k fuel cb ch v hk hf h10 h11 h13 h15 h2 h3 hn
    obtain ⟨fuel, rfl⟩ : ∃ z, fuel = z + 1 := ⟨fuel - 1, by omega⟩
    refine ⟨v, ?_, h2, h3, fun _ _ _ => rfl⟩
    show m_E_placeDigits_15b b rw _ (nI k) v pw = _
    unfold m_E_placeDigits_15b
    rw [h10, if_pos (nI_le (by omega) (by omega))]
  | succ n ih =>
    intro k fuel cb ch v hk hf h10 h11 h13 h15 h2 h3 hn
    obtain ⟨fuel, rfl⟩ : ∃ z, fuel = z + 1 := ⟨fuel - 1, by omega⟩
    have step : ∀ (tb th : Nat), tb = (if (eD rw fl fF k && decide (k < m)) = true then 1 else 0) → th = (if (eD rw fl fF k && decide (m < k)) = true then 1 else 0) → m_E_placeDigits_15 b rw (fuel + 1) (nI k) v pw = m_E_placeDigits_15 b rw fuel (nI (k + 1)) (upd (upd v 2 (nI (cb + tb))) 3 (nI (ch + th))) pw →
        ∃ v', m_E_placeDigits_15 b rw (fuel + 1) (nI k) v pw = m_E_placeDigits_91 b rw 64 (v' 2) (v' 9) v' pw ∧ v' 2 = nI (cb + dcn (fun j => eD rw fl fF j && decide (j < m)) (n + 1) k) ∧ v' 3 = nI (ch + dcn (fun j => eD rw fl fF j && decide (m < j)) (n + 1) k) ∧ ∀ j, j ≠ 2 → j ≠ 3 → v' j = v j := by
      intro tb th htb hth hs
      obtain ⟨v', e1, e2, e3, e4⟩ := ih (k + 1) fuel (cb + tb) (ch + th) (upd (upd v 2 (nI (cb + tb))) 3 (nI (ch + th))) (by omega) (by omega)
        (by rw [pk_un (by decide), pk_un (by decide)]; exact h10) (by rw [pk_un (by decide), pk_un (by decide)]; exact h11) (by rw [pk_un (by decide), pk_un (by decide)]; exact h13) (by rw [pk_un (by decide), pk_un (by decide)]; exact h15)
        (by rw [pk_un (by decide), pk_us]) pk_us (fun j j1 j2 => hn j (by omega) j2)
      refine ⟨v', hs.trans e1, ?_, ?_, fun j j2 j3 => ?_⟩
      · rw [e2, dcn_s, htb, Nat.add_assoc]
      · rw [e3, dcn_s, hth, Nat.add_assoc]
      · rw [e4 j j2 j3, pk_un j3, pk_un j2]
    have hA : m_E_placeDigits_15 b rw (fuel + 1) (nI k) v pw = (if eD rw fl fF k = true then (if nI m ≤ nI k then m_E_placeDigits_49 b rw (m_E_placeDigits_15 b rw fuel) (nI k) 0 (v 2) v pw else m_E_placeDigits_49 b rw (m_E_placeDigits_15 b rw fuel) (nI k) 1 (v 2) v pw) else m_E_placeDigits_15 b rw fuel (nI (k + 1)) v pw) := by
      show m_E_placeDigits_15b b rw (m_E_placeDigits_15 b rw fuel) (nI k) v pw = _
      unfold m_E_placeDigits_15b m_E_placeDigits_75
      rw [h10, if_neg (nI_ge (by omega) (by omega)), C_isDigitPlace (by omega) h11 (hn k (Nat.le_refl _) (by omega)) h13 hfF]
      simp only [Option.bind_some]
      rw [h15, nI_1]
      by_cases h : eD rw fl fF k = true
      · rw [if_pos h, if_pos h, if_neg (by decide)]
      · rw [if_neg h, if_neg h, if_pos rfl]
    have h49 : ∀ tb : Nat, m_E_placeDigits_49 b rw (m_E_placeDigits_15 b rw fuel) (nI k) (nI tb) (v 2) v pw = m_E_placeDigits_15 b rw fuel (nI (k + 1)) (upd (upd v 2 (nI (cb + tb))) 3 (nI (ch + (if m < k then 1 else 0)))) pw := by
      intro tb
      unfold m_E_placeDigits_49 m_E_placeDigits_71 m_E_placeDigits_75
      rw [h2, nI_add, pk_un (by decide), pk_un (by decide), h15, h3, nI_1]
      by_cases g : m < k
      · rw [if_neg (nI_ge g (by omega)), if_pos g, nI_1]
      · rw [if_pos (nI_le (by omega) (by omega)), if_neg g]
        rw [show nI ch + 0 = nI (ch + 0) from nI_add ch 0]
    by_cases h : eD rw fl fF k = true
    · rw [if_pos h] at hA
      by_cases g : k < m
      · rw [if_neg (nI_ge g (by omega)), show (1 : Int32) = nI 1 from rfl, h49, if_neg (by omega)] at hA
        exact step 1 0 (by rw [h, decide_eq_true g]; rfl) (by rw [h, decide_eq_false (by omega)]; rfl) hA
      · rw [if_pos (nI_le (by omega) (by omega)), show (0 : Int32) = nI 0 from rfl, h49] at hA
        exact step 0 _ (by rw [h, decide_eq_false g]; rfl) (by
          rw [h, Bool.true_and]
          by_cases g2 : m < k
          · rw [if_pos g2, decide_eq_true g2, if_pos rfl]
          · rw [if_neg g2, decide_eq_false g2]; rfl) hA
    · rw [if_neg h] at hA
      have hf' : eD rw fl fF k = false := by cases hz : eD rw fl fF k; rfl; exact absurd hz h
      have hv : upd (upd v 2 (nI (cb + 0))) 3 (nI (ch + 0)) = v := by
        funext j
        by_cases j3 : j = 3
        · subst j3; rw [pk_us]; exact h3.symm
        · rw [pk_un j3]
          by_cases j2 : j = 2
          · subst j2; rw [pk_us]; exact h2.symm
          · rw [pk_un j2]
      exact step 0 0 (by rw [hf']; rfl) (by rw [hf']; rfl) (by rw [hv]; exact hA)
theorem C_placeDigits {v b rw pw : Nat → Int32} {fl : Int32} {a e m fF : Nat} (hae : a ≤ e) (he : e ≤ 24) (hm : m ≤ e) (hfF : fF < 1000) (h9 : v 9 = nI a) (h10 : v 10 = nI e) (h11 : v 11 = (if fl = 0 then -1 else fl)) (h13 : flo fl = true → v 13 = nI fF) (h15 : v 15 = nI m) (hn : ∀ j, a ≤ j → j < e → ¬ rw j = -1) :
    ∃ v', m_E_placeDigits v b rw pw = some (v', pwF pw (eD rw fl fF) (v' 2) a (e - a)) ∧ v' 2 = nI (dcn (fun j => eD rw fl fF j && decide (j < m)) (e - a) a) ∧ v' 3 = nI (dcn (fun j => eD rw fl fF j && decide (m < j)) (e - a) a) ∧ ∀ j, j ≠ 2 → j ≠ 3 → v' j = v j := by
  obtain ⟨v', e1, e2, e3, e4⟩ := C_pd1_l (b := b) (rw := rw) (pw := pw) he hm hfF (e - a) a 64 0 0 (upd (upd v 2 0) 3 0) (by omega) (by omega) (by rw [pk_un (by decide), pk_un (by decide)]; exact h10) (by rw [pk_un (by decide), pk_un (by decide)]; exact h11) (by rw [pk_un (by decide), pk_un (by decide)]; exact h13) (by rw [pk_un (by decide), pk_un (by decide)]; exact h15) (by rw [pk_un (by decide), pk_us]; rfl) pk_us hn
  have e4' : ∀ j, j ≠ 2 → j ≠ 3 → v' j = v j := fun j j2 j3 => by rw [e4 j j2 j3, pk_un j3, pk_un j2]
  refine ⟨v', ?_, by rw [e2, Nat.zero_add], by rw [e3, Nat.zero_add], e4'⟩
  unfold m_E_placeDigits
  rw [show (upd (upd v 2 0) 3 0) 9 = nI a by rw [pk_un (by decide), pk_un (by decide)]; exact h9, e1, (e4' 9 (by decide) (by decide)).trans h9]
  exact C_pd2_l he ((e4' 10 (by decide) (by decide)).trans h10) ((e4' 11 (by decide) (by decide)).trans h11) (fun z => (e4' 13 (by decide) (by decide)).trans (h13 z)) hfF (e - a) a 64 _ pw (by omega) (by omega) hn
