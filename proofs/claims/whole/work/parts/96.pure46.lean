/-! A number is edited: what stands in the bytes. -/
def sgf (y : Int32) (neg : Bool) : Int32 := if neg = true then 45 else if y = 43 then 43 else 32
/-- where the zone of suppressed places ends -/
def ze (g : Nat → Int32) (M : Nat) (dig : Nat → Nat) : Nat → Nat → Nat
  | 0, k => k
  | n + 1, k => if k = M ∨ g k = 57 ∨ dig k ≠ 0 then k else ze g M dig n (k + 1)
theorem ze_s (g : Nat → Int32) (M : Nat) (dig : Nat → Nat) (n k : Nat) : ze g M dig (n + 1) k = if k = M ∨ g k = 57 ∨ dig k ≠ 0 then k else ze g M dig n (k + 1) := rfl
theorem ze_le (g : Nat → Int32) (M : Nat) (dig : Nat → Nat) : ∀ (n k : Nat), k ≤ ze g M dig n k ∧ ze g M dig n k ≤ k + n ∧ (k ≤ M → M < k + n → ze g M dig n k ≤ M) := by
  intro n
  induction n with
  | zero => intro k; exact ⟨Nat.le_refl _, Nat.le_refl _, fun h1 h2 => by omega⟩
  | succ n ih =>
    intro k
    rw [ze_s]
    by_cases c : k = M ∨ g k = 57 ∨ dig k ≠ 0
    · rw [if_pos c]; exact ⟨Nat.le_refl _, by omega, fun h1 _ => h1⟩
    · rw [if_neg c]
      obtain ⟨i1, i2, i3⟩ := ih (k + 1)
      exact ⟨by omega, by omega, fun h1 h2 => i3 (by have : k ≠ M := fun q => c (Or.inl q); omega) (by omega)⟩
theorem ze_in (g : Nat → Int32) (M : Nat) (dig : Nat → Nat) : ∀ (n k j : Nat), k ≤ j → j < ze g M dig n k → ¬ (j = M ∨ g j = 57 ∨ dig j ≠ 0) := by
  intro n
  induction n with
  | zero => intro k j h1 h2; have h2 : j < k := h2; omega
  | succ n ih =>
    intro k j h1 h2
    rw [ze_s] at h2
    by_cases c : k = M ∨ g k = 57 ∨ dig k ≠ 0
    · rw [if_pos c] at h2; omega
    · rw [if_neg c] at h2
      by_cases q : j = k
      · rw [q]; exact c
      · exact ih (k + 1) j (by omega) h2
def epl (g : Nat → Int32) (D : Nat → Bool) (dig : Nat → Nat) (neg : Bool) (j : Nat) : Int32 :=
  if D j = true then 48 + nI (dig j) else if g j = 43 ∨ g j = 45 then sgf (g j) neg else if g j = 67 ∨ g j = 68 then (if neg = true then g j else 32) else if g j = 66 then 32 else g j
def ezo (fl : Int32) (Z : Nat) (neg : Bool) (j : Nat) : Int32 := if fl = 42 then 42 else if flo fl = true ∧ j = Z - 1 then (if fl = 36 then 36 else sgf fl neg) else 32
def eem (g : Nat → Int32) (fl : Int32) (j : Nat) : Int32 := if fl = 42 then (if g j = 46 then 46 else 42) else 32
/-- the character of a symbol -/
def ech (g : Nat → Int32) (D : Nat → Bool) (dig : Nat → Nat) (fl : Int32) (F Z : Nat) (neg emp : Bool) (j : Nat) : Int32 :=
  if emp = true then eem g fl j else if F ≤ j ∧ j < Z then ezo fl Z neg j else epl g D dig neg j
/-- .. and of its second byte -/
def ec2 (g : Nat → Int32) (fl : Int32) (neg emp : Bool) (j : Nat) : Int32 := if emp = true then eem g fl j else if neg = true then (if g j = 67 then 82 else 66) else 32
theorem P_signFor (y : Int32) (neg : Bool) : m_M_signFor y (if neg = true then 1 else 0) = some (sgf y neg) := by
  unfold m_M_signFor sgf
  cases neg
  · simp only [Bool.false_eq_true, if_false, if_true]
    split <;> rfl
  · rfl
theorem P_plain {u : Nat → Nat → Int32} {x : Nat} (hx : x < 8) {g : Nat → Int32} {N A B M F : Nat} {fl : Int32} {T : Bool} {D : Nat → Bool} {R sg before behind : Nat} (hX : EX g N A B M F fl T D R sg before behind) (hU : ER u x g N A B M fl D R sg before behind) {V : Int64} {s : Nat} {v : Nat → Int32} (h : NR V s v u) (neg : Bool) {j : Nat} (hj : j < N) : m_M_plain (nI x) (nI j) (if neg = true then 1 else 0) v u = some (epl g D (dE V s D before) neg j) := by
  have hd := P_dE hx hX hU h hj
  obtain ⟨hG, ⟨hD, hDR, hR1, hR2⟩, hR, -⟩ := hX
  obtain ⟨r2, r3, r4, -⟩ := hU
  have hN : N ≤ 24 := hG.1.2.1
  unfold m_M_plain epl
  rw [P_sym (by omega) (by omega), Option.bind_some, n24, zix_ok (by omega) (by decide), nI_clamp (by omega), r3 j hj, r4 j hj, hd, Option.bind_some]
  by_cases c : D j = true
  · have := dcn_lt hj c
    rw [hDR] at this
    rw [if_pos c, if_pos c, if_neg (nI_nle (by omega) (by omega))]
  · rw [if_neg c, if_neg c, if_pos (by decide), P_isSign, Option.bind_some, P_signFor, Option.bind_some]
    by_cases e : g j = 43 ∨ g j = 45
    · rw [if_pos e, if_pos e, if_neg (by decide)]
    · rw [if_neg e, if_neg e, if_pos rfl]
      unfold m_M_plain_61
      by_cases e1 : g j = 67
      · rw [if_pos e1, if_pos (Or.inl e1)]
        cases neg <;> rfl
      · rw [if_neg e1]
        by_cases e2 : g j = 68
        · rw [if_pos e2, if_pos (Or.inr e2)]
          cases neg <;> rfl
        · rw [if_neg e2, if_neg (show ¬ (g j = 67 ∨ g j = 68) by rintro (q | q); exact e1 q; exact e2 q)]
          split <;> rfl
/-- the reference's zone -/
theorem P_zone {u : Nat → Nat → Int32} {x : Nat} (hx : x < 8) {g : Nat → Int32} {N A B M F : Nat} {fl : Int32} {T : Bool} {D : Nat → Bool} {R sg before behind : Nat} (hX : EX g N A B M F fl T D R sg before behind) (hU : ER u x g N A B M fl D R sg before behind) {V : Int64} {s : Nat} {v : Nat → Int32} (h : NR V s v u) : ∀ (n k fuel : Nat), k + n = B → n < fuel → m_M_zoneEnd_2 v u fuel (nI x) (nI k) = some (nI (ze g M (dE V s D before) n k)) := by
  have hd : ∀ j, j < N → m_M_digitFor (nI x) (nI j) v u = some (nI (dE V s D before j)) := fun j hj => P_dE hx hX hU h hj
  obtain ⟨hG, ⟨hD, hDR, hR1, hR2⟩, hR, -⟩ := hX
  obtain ⟨r2, r3, r4, r5, r7, r8, r9, r11, r12, r13, r14, r15⟩ := hU
  have hN : N ≤ 24 := hG.1.2.1
  have hBN : B ≤ N := hG.1.2.2.2.2.1
  intro n
  induction n with
  | zero =>
    intro k fuel hk hf
    obtain ⟨fuel, rfl⟩ : ∃ z, fuel = z + 1 := ⟨fuel - 1, by omega⟩
    show m_M_zoneEnd_2b v u _ (nI x) (nI k) = some (nI k)
    unfold m_M_zoneEnd_2b
    rw [zix_ok (show x < 9 by omega) (by decide), nI_clamp (by omega), r13, if_pos (nI_le (by omega) (by omega))]
  | succ n ih =>
    intro k fuel hk hf
    obtain ⟨fuel, rfl⟩ : ∃ z, fuel = z + 1 := ⟨fuel - 1, by omega⟩
    show m_M_zoneEnd_2b v u (m_M_zoneEnd_2 v u fuel) (nI x) (nI k) = _
    unfold m_M_zoneEnd_2b
    rw [ze_s]
    rw [zix_ok (show x < 9 by omega) (by decide), nI_clamp (show x < 2 ^ 31 by omega), r13, if_neg (nI_ge (by omega) (by omega)), P_sym (by omega) (by omega), Option.bind_some, r3 k (by omega), zix_ok (show x < 9 by omega) (by decide)]
    have h9 := dE_le V s D before k
    by_cases c1 : g k = 57
    · rw [if_pos c1, if_pos (Or.inr (Or.inl c1))]
    · rw [if_neg c1]
      by_cases c2 : k = M
      · rw [if_pos ((r14 k (by omega)).mpr c2), if_pos (Or.inl c2)]
      · rw [if_neg (fun q => c2 ((r14 k (by omega)).mp q)), hd k (by omega), Option.bind_some]
        by_cases c3 : dE V s D before k = 0
        · rw [c3, if_pos (show nI 0 = 0 from rfl), if_neg (by rintro (q | q | q); exact c2 q; exact c1 q; exact q rfl), nI_1]
          exact ih (k + 1) fuel (by omega) (by omega)
        · rw [if_neg (nI_ne0 (by omega) (by omega)), if_pos (Or.inr (Or.inr c3))]
/-- the first place of a digit or a fill -/
theorem P_fdig {u : Nat → Nat → Int32} {x : Nat} (hx : x < 8) {g : Nat → Int32} {N A B M F : Nat} {fl : Int32} {T : Bool} {D : Nat → Bool} {R sg before behind : Nat} (hG : EG g N A B M F fl T) (hU : ER u x g N A B M fl D R sg before behind) (v : Nat → Int32) : ∃ k, k ≤ B ∧ m_M_firstDigit (nI x) v u = some (nI k) ∧ (fl ≠ 0 → k = F) := by
  obtain ⟨⟨h0, hN, hAM, hMB, hBN, hB⟩, e2, e3, e4, e5, e6, e7, e8⟩ := hG
  obtain ⟨r2, r3, r4, r5, r7, r8, r9, r11, r12, r13, r14, r15⟩ := hU
  have key : ∀ (n k fuel : Nat), k + n = B → n < fuel → A ≤ k → (fl ≠ 0 → k ≤ F) → ∃ q, q ≤ B ∧ m_M_firstDigit_7 v u fuel (nI x) (nI k) = some (nI q) ∧ (fl ≠ 0 → q = F) := by
    intro n
    induction n with
    | zero =>
      intro k fuel hk hf hAk hkF
      obtain ⟨fuel, rfl⟩ : ∃ z, fuel = z + 1 := ⟨fuel - 1, by omega⟩
      refine ⟨k, by omega, ?_, fun q => by have := hkF q; have := e6 q; omega⟩
      show m_M_firstDigit_7b v u _ (nI x) (nI k) = _
      unfold m_M_firstDigit_7b
      rw [zix_ok (show x < 9 by omega) (by decide), nI_clamp (by omega), r13, if_pos (nI_le (by omega) (by omega))]
    | succ n ih =>
      intro k fuel hk hf hAk hkF
      obtain ⟨fuel, rfl⟩ : ∃ z, fuel = z + 1 := ⟨fuel - 1, by omega⟩
      have hbody : ∀ (K : Option Int32), m_M_firstDigit_7 v u (fuel + 1) (nI x) (nI k) = (if g k = 57 then some (nI k) else if fl = 0 then m_M_firstDigit_7 v u fuel (nI x) (nI (k + 1)) else if g k = fl then some (nI k) else m_M_firstDigit_7 v u fuel (nI x) (nI (k + 1))) := by
        intro _
        show m_M_firstDigit_7b v u (m_M_firstDigit_7 v u fuel) (nI x) (nI k) = _
        unfold m_M_firstDigit_7b m_M_firstDigit_52
        simp only [zix_ok (show x < 9 by omega) (show 9 < 2 ^ 31 by decide), nI_clamp (show x < 2 ^ 31 by omega), r13, r11, P_sym (show x ≤ 8 by omega) (show k < 24 by omega), Option.bind_some, r3 k (by omega), nI_1]
        rw [if_neg (nI_ge (by omega) (by omega))]
      rw [hbody none]
      by_cases c : g k = 57
      · rw [if_pos c]
        refine ⟨k, by omega, rfl, fun q => ?_⟩
        have h1 := hkF q
        obtain ⟨i1, i2, i3, i4, i5⟩ := e6 q
        rcases Nat.lt_or_ge k F with z | z
        · exact absurd c (i5 k hAk z).2
        · omega
      · rw [if_neg c]
        by_cases z : fl = 0
        · rw [if_pos z]
          exact ih (k + 1) fuel (by omega) (by omega) (by omega) (fun q => absurd z q)
        · rw [if_neg z]
          obtain ⟨i1, i2, i3, i4, i5⟩ := e6 z
          have h1 := hkF z
          by_cases y : g k = fl
          · rw [if_pos y]
            refine ⟨k, by omega, rfl, fun _ => ?_⟩
            rcases Nat.lt_or_ge k F with w | w
            · exact absurd y (i5 k hAk w).1
            · omega
          · rw [if_neg y]
            refine ih (k + 1) fuel (by omega) (by omega) (by omega) (fun _ => ?_)
            rcases Nat.lt_or_ge k F with w | w
            · omega
            · have : k = F := by omega
              rw [this] at y; exact absurd i4 y
  obtain ⟨q, q1, q2, q3⟩ := key (B - A) A 64 (by omega) (by omega) (Nat.le_refl _) (fun z => (e6 z).2.1)
  refine ⟨q, q1, ?_, q3⟩
  unfold m_M_firstDigit
  rw [zix_ok (show x < 9 by omega) (by decide), nI_clamp (by omega), r12]
  exact q2
