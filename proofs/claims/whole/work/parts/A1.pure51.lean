/-! The number in an edited field. -/
/-- the place of the i-th digit -/
def pth (D : Nat → Bool) : Nat → Nat → Nat → Nat
  | 0, _, _ => 0
  | n + 1, k, i => if D k = true then (if i = 0 then k else pth D n (k + 1) (i - 1)) else pth D n (k + 1) i
theorem pth_is {D : Nat → Bool} : ∀ (n k j : Nat), k ≤ j → j < k + n → D j = true → pth D n k (dcn D (j - k) k) = j := by
  intro n
  induction n with
  | zero => intro k j h1 h2; omega
  | succ n ih =>
    intro k j h1 h2 h3
    by_cases c : j = k
    · subst c
      rw [Nat.sub_self, show dcn D 0 j = 0 from rfl]
      show (if D j = true then (if 0 = 0 then j else _) else _) = j
      rw [if_pos h3, if_pos rfl]
    · obtain ⟨m, hm⟩ : ∃ m, j - k = m + 1 := ⟨j - k - 1, by omega⟩
      have hi := ih (k + 1) j (by omega) (by omega) h3
      rw [show j - (k + 1) = m by omega] at hi
      rw [hm, dcn_s]
      show (if D k = true then (if (if D k = true then 1 else 0) + dcn D m (k + 1) = 0 then k else pth D n (k + 1) ((if D k = true then 1 else 0) + dcn D m (k + 1) - 1)) else pth D n (k + 1) ((if D k = true then 1 else 0) + dcn D m (k + 1))) = j
      by_cases d : D k = true
      · rw [if_pos d, if_pos d, if_neg (by omega), show 1 + dcn D m (k + 1) - 1 = dcn D m (k + 1) by omega]; exact hi
      · rw [if_neg d, if_neg d, Nat.zero_add]; exact hi
def ddg (b : Nat → Int32) (g : Nat → Int32) (D : Nat → Bool) (N i : Nat) : Nat := chd (b (wsm g (pth D N 0 i) 0))
theorem ddg_is {b g : Nat → Int32} {D : Nat → Bool} {N j : Nat} (hj : j < N) (h : D j = true) : ddg b g D N (dcn D j 0) = chd (b (wsm g j 0)) := by
  unfold ddg
  have := pth_is N 0 j (by omega) (by omega) h
  rw [Nat.sub_zero] at this
  rw [this]
theorem dcn_snoc (D : Nat → Bool) (k : Nat) : dcn D (k + 1) 0 = dcn D k 0 + (if D k = true then 1 else 0) := by
  rw [dcn_app D k 1 0, Nat.zero_add]
  show _ + ((if D k = true then 1 else 0) + 0) = _
  omega
def m45 (b : Nat → Int32) (i : Nat) : Nat := if b i = 45 then 1 else 0
/-- the letters of a sign stand there -/
def ltc (g b : Nat → Int32) (j : Nat) : Bool := decide (g j = 67 ∧ b (wsm g j 0) = 67 ∧ b (wsm g j 0 + 1) = 82) || decide (g j = 68 ∧ b (wsm g j 0) = 68 ∧ b (wsm g j 0 + 1) = 66)
def ebl (g b : Nat → Int32) (N : Nat) (T : Bool) : Bool := anz (m45 b) 0 (wsm g N 0) || (T && ltc g b (N - 1))
theorem C_Ebelow {v pw : Nat → Int32} {g : Nat → Int32} {N A B M F : Nat} {fl : Int32} {T : Bool} {D : Nat → Bool} {R sg before behind : Nat} (hX : EX g N A B M F fl T D R sg before behind) (hC : EC v pw g N A B M F fl T D sg before behind) (b : Nat → Int32) : m_E_isBelowZero v b g pw = some (if ebl g b N T = true then 1 else 0) := by
  have hsz := EG_size hX.1
  obtain ⟨⟨h0, hN, hAM, hMB, hBN, hB⟩, e2, e3, e4, e5, e6, e7, e8⟩ := hX.1
  obtain ⟨c1, c2, c3, c4, c8, c9, c10, c11, c13, c14, c15, cp⟩ := hC
  have hle := hsz.2.2.1
  have key : ∀ (n k fuel : Nat), k + n = wsm g N 0 → n < fuel → m_E_isBelowZero_2 v b g pw fuel (nI k) = some (if (anz (m45 b) k n || (T && ltc g b (N - 1))) = true then 1 else 0) := by
    intro n
    induction n with
    | zero =>
      intro k fuel hk hf
      obtain ⟨fuel, rfl⟩ : ∃ z, fuel = z + 1 := ⟨fuel - 1, by omega⟩
      show m_E_isBelowZero_2b v b g pw _ (nI k) = some (if (T && ltc g b (N - 1)) = true then 1 else 0)
      unfold m_E_isBelowZero_2b m_E_isLetterSign m_E_isLetterSign_18 m_E_secondLetter
      simp only [zbo_0, zbo_1]
      rw [if_pos (show v 1 ≤ nI k by rw [c1]; exact nI_le (by omega) (by omega)), c8]
      cases hT : T
      · rw [if_neg (show ¬ false = true by decide), if_neg (by decide), if_neg (by decide), Option.bind_some, if_pos rfl]; rfl
      · rw [if_pos (show true = true from rfl)]
        have hs := hsz.2.1 hT
        rcases e5 hT with q | q | q | q
        · have hw : wd (g (N - 1)) = 2 := by rw [q]; decide
          have s2 : v 1 - 2 = nI (wsm g (N - 1) 0) := by rw [c1, show nI (wsm g N 0) - 2 = nI (wsm g N 0 - 2) from pk_sub (b := 2) (by omega)]; congr 1; omega
          have s1 : v 1 - 1 = nI (wsm g (N - 1) 0 + 1) := by rw [c1, sub1 (by omega)]; congr 1; omega
          rw [if_pos q, Option.bind_some, if_neg (by decide), s2, s1, zix_ok (by omega) (by decide), zix_ok (by omega) (by decide), nI_clamp (by omega), nI_clamp (by omega), if_pos q, Option.bind_some, q]
          unfold ltc
          rw [q]
          by_cases t1 : b (wsm g (N - 1) 0) = 67
          · rw [if_pos t1]
            by_cases t2 : b (wsm g (N - 1) 0 + 1) = 82
            · rw [if_pos t2]; simp [t1, t2]
            · rw [if_neg t2]; simp [t1, t2]
          · rw [if_neg t1]; simp [t1]
        · have hw : wd (g (N - 1)) = 2 := by rw [q]; decide
          have hn : ¬ g (N - 1) = 67 := by rw [q]; decide
          have s2 : v 1 - 2 = nI (wsm g (N - 1) 0) := by rw [c1, show nI (wsm g N 0) - 2 = nI (wsm g N 0 - 2) from pk_sub (b := 2) (by omega)]; congr 1; omega
          have s1 : v 1 - 1 = nI (wsm g (N - 1) 0 + 1) := by rw [c1, sub1 (by omega)]; congr 1; omega
          rw [if_neg hn, if_pos q, Option.bind_some, if_neg (by decide), s2, s1, zix_ok (by omega) (by decide), zix_ok (by omega) (by decide), nI_clamp (by omega), nI_clamp (by omega), if_neg hn, Option.bind_some, q]
          unfold ltc
          rw [q]
          by_cases t1 : b (wsm g (N - 1) 0) = 68
          · rw [if_pos t1]
            by_cases t2 : b (wsm g (N - 1) 0 + 1) = 66
            · rw [if_pos t2]; simp [t1, t2]
            · rw [if_neg t2]; simp [t1, t2]
          · rw [if_neg t1]; simp [t1]
        all_goals
          rw [if_neg (by rw [q]; decide), if_neg (by rw [q]; decide), Option.bind_some, if_pos rfl]
          unfold ltc
          rw [q]
          simp
    | succ n ih =>
      intro k fuel hk hf
      obtain ⟨fuel, rfl⟩ : ∃ z, fuel = z + 1 := ⟨fuel - 1, by omega⟩
      show m_E_isBelowZero_2b v b g pw (m_E_isBelowZero_2 v b g pw fuel) (nI k) = _
      unfold m_E_isBelowZero_2b
      rw [if_neg (show ¬ v 1 ≤ nI k by rw [c1]; exact nI_ge (by omega) (by omega)), zix_ok (by omega) (by decide), nI_clamp (by omega), anz_s, zbo_1]
      by_cases q : b k = 45
      · rw [if_pos q]
        have : m45 b k = 1 := by unfold m45; rw [if_pos q]
        rw [this]; rfl
      · rw [if_neg q, nI_1, ih (k + 1) fuel (by omega) (by omega)]
        have : m45 b k = 0 := by unfold m45; rw [if_neg q]
        rw [this]; rfl
  exact key (wsm g N 0) 0 64 (by omega) (by omega)
theorem C_Enumber {v pw : Nat → Int32} {g : Nat → Int32} {N A B M F : Nat} {fl : Int32} {T : Bool} {D : Nat → Bool} {R sg before behind : Nat} (hX : EX g N A B M F fl T D R sg before behind) (hC : EC v pw g N A B M F fl T D sg before behind) (b : Nat → Int32) : ∃ Y : Int64, m_E_number v b g pw = some Y ∧ Y.toInt = (if (if ebl g b N T = true then (1 : Int32) else 0) = 0 then ((hz (ddg b g D N) R : Nat) : Int) else - ((hz (ddg b g D N) R : Nat) : Int)) := by
  have hbel := C_Ebelow hX hC b
  have hX' := hX
  have hC' := hC
  obtain ⟨hG, ⟨hD, hDR, hR1, hR2⟩, hR, hsg⟩ := hX'
  obtain ⟨⟨h0, hN, hAM, hMB, hBN, hB⟩, e2, e3, e4, e5, e6, e7, e8⟩ := hG
  obtain ⟨c1, c2, c3, c4, c8, c9, c10, c11, c13, c14, c15, cp⟩ := hC'
  have hd9 : ∀ i, ddg b g D N i ≤ 9 := fun i => chd_le _
  have hlt := hz_lt hd9 R
  have h12 : 10 ^ R ≤ 10 ^ 12 := Nat.pow_le_pow_right (by omega) hR2
  have hDB : dcn D B 0 = R := by
    rw [← hDR]
    have := dcn_app D B (N - B) 0
    rw [show B + (N - B) = N by omega, Nat.zero_add] at this
    rw [this, dcn_0 (D := D) (N - B) B (fun j j1 j2 => by
      cases q : D j
      · rfl
      · have := ((hD j).mp q).1; omega), Nat.add_zero]
  have hDA : dcn D A 0 = 0 := dcn_0 A 0 (fun j _ j2 => by
    cases q : D j
    · rfl
    · have := ((hD j).mp q).1; omega)
  have key : ∀ (n k fuel : Nat) (X : Int64), k + n = B → A ≤ k → n < fuel → X.toInt = hz (ddg b g D N) (dcn D k 0) → ∃ Y : Int64, m_E_number_7 v b g pw fuel X (nI k) = some Y ∧ Y.toInt = (if (if ebl g b N T = true then (1 : Int32) else 0) = 0 then ((hz (ddg b g D N) R : Nat) : Int) else - ((hz (ddg b g D N) R : Nat) : Int)) := by
    intro n
    induction n with
    | zero =>
      intro k fuel X hk hA hf hX1
      obtain ⟨fuel, rfl⟩ : ∃ z, fuel = z + 1 := ⟨fuel - 1, by omega⟩
      show ∃ Y, m_E_number_7b v b g pw _ X (nI k) = some Y ∧ _
      unfold m_E_number_7b
      rw [c10, if_pos (nI_le (by omega) (by omega)), hbel, Option.bind_some]
      obtain rfl : k = B := by omega
      rw [hDB] at hX1
      cases ebl g b N T
      · exact ⟨X, rfl, hX1⟩
      · exact ⟨0 - X, rfl, i64neg (by omega) hX1⟩
    | succ n ih =>
      intro k fuel X hk hA hf hX1
      obtain ⟨fuel, rfl⟩ : ∃ z, fuel = z + 1 := ⟨fuel - 1, by omega⟩
      obtain ⟨d1, -⟩ := C_dE hX hC (V := 0) (s := 0) (by omega) hA (show k < B by omega)
      have hwk := EG_wsm hX.1 k (by omega)
      have hds := dcn_snoc D k
      show ∃ Y, m_E_number_7b v b g pw (m_E_number_7 v b g pw fuel) X (nI k) = some Y ∧ _
      unfold m_E_number_7b m_E_number_60 m_E_number_63
      rw [c10, if_neg (nI_ge (by omega) (by omega)), zix_ok (by omega) (by decide), nI_clamp (by omega)]
      by_cases q : D k = true
      · rw [if_pos q] at hds
        have hdd := ddg_is (b := b) (g := g) (show k < N by omega) q
        have hst := hz_step hd9 (n := dcn D k 0) (by have := dcn_lt (show k < N by omega) q; omega) hX1
        rw [if_neg (fun z => by rw [d1.mp z] at q; exact absurd q (by decide)), C_EbyteOf (rw := g) hX hC (show k < B by omega), Option.bind_some, zix_ok (by omega) (by decide), nI_clamp (show wsm g k 0 < 2 ^ 31 by omega), C_isDigit, Option.bind_some]
        rw [hdd] at hst
        by_cases y : dg (b (wsm g k 0)) = 0
        · have h0 : chd (b (wsm g k 0)) = 0 := by unfold chd; rw [if_pos y]
          rw [if_pos y, nI_1]
          rw [h0] at hst
          exact ih (k + 1) fuel _ (by omega) (by omega) (by omega) (by rw [hds]; exact hst)
        · rw [if_neg y, nI_1, chd_is y]
          exact ih (k + 1) fuel _ (by omega) (by omega) (by omega) (by rw [hds]; exact hst)
      · have q' : D k = false := by cases z : D k; rfl; exact absurd z q
        rw [if_neg q, Nat.add_zero] at hds
        rw [if_pos (d1.mpr q'), nI_1]
        exact ih (k + 1) fuel X (by omega) (by omega) (by omega) (by rw [hds]; exact hX1)
  unfold m_E_number
  rw [c9]
  exact key (B - A) A 64 0 (by omega) (Nat.le_refl _) (by omega) (by rw [hDA]; rfl)
