/-! The number in a number's bytes. -/
def bo (pk : Bool) (n k : Nat) : Nat := if pk = true then n / 2 - (n - k) / 2 else k
def sh (pk : Bool) (n k : Nat) : Int32 := if pk = true ∧ (n - k) % 2 = 1 then 4 else 0
def fsz (pk : Bool) (n : Nat) : Nat := if pk = true then n / 2 + 1 else n
def nsg (pk : Bool) (a : Nat) (last : Int32) : Int32 := if a = 0 then 0 else if pk = true then (if last &&& 15 = 11 then 1 else if last &&& 15 = 13 then 1 else 0) else if last &&& 64 = 0 then 0 else 1
theorem nsg_01 (pk : Bool) (a : Nat) (last : Int32) : nsg pk a last = 0 ∨ nsg pk a last = 1 := by
  unfold nsg
  repeat' split
  all_goals first | exact Or.inl rfl | exact Or.inr rfl
/-- a number of the class, with its usage -/
def cU (v : Nat → Int32) (pk : Bool) (a before behind nines low : Nat) : Prop := cN v a before behind nines low ∧ v 1 = nI (fsz pk nines) ∧ v 7 = (if pk = true then 1 else 0)
theorem bo_lt {pk : Bool} {n k : Nat} (h : k < n) : bo pk n k < fsz pk n := by
  unfold bo fsz
  cases pk
  · simp; omega
  · simp; omega
theorem fsz_le (pk : Bool) {n : Nat} (h : 0 < n) : fsz pk n ≤ n ∧ 0 < fsz pk n ∨ n = 1 ∧ fsz pk n = 1 := by
  unfold fsz
  cases pk
  · simp; omega
  · simp; omega
theorem C_byteOf {v b : Nat → Int32} {pk : Bool} {a before behind n low k : Nat} (h : cU v pk a before behind n low) (hk : k ≤ n) (hn : n ≤ 24) : m_N_byteOf (nI k) v b = some (nI (bo pk n k)) := by
  obtain ⟨⟨-, -, -, h5, -⟩, h1, h7⟩ := h
  unfold m_N_byteOf bo
  rw [h7]
  cases pk
  · rfl
  · rw [if_neg (by decide), h1, h5, if_pos rfl, show fsz true n = n / 2 + 1 from rfl, nI_pred, pk_sub hk, nI_div2 (by omega), pk_sub (by omega)]
theorem C_shiftOf {v b : Nat → Int32} {pk : Bool} {a before behind n low k : Nat} (h : cU v pk a before behind n low) (hk : k ≤ n) (hn : n ≤ 24) : m_N_shiftOf (nI k) v b = some (sh pk n k) := by
  obtain ⟨⟨-, -, -, h5, -⟩, h1, h7⟩ := h
  unfold m_N_shiftOf sh
  rw [h7]
  cases pk
  · rfl
  · rw [if_neg (by decide), h5, pk_sub hk, nI_mod2 (by omega)]
    by_cases c : (n - k) % 2 = 1
    · rw [c, if_pos (show nI 1 = 1 from rfl), if_pos ⟨rfl, rfl⟩]
    · rw [if_neg (show ¬ nI ((n - k) % 2) = 1 from fun e => c ((nI_eq (b := 1) (by omega) (by decide)).mp e)), if_neg (fun e => c e.2)]
/-- the k-th digit in the bytes -/
def nb (b : Nat → Int32) (pk : Bool) (n k : Nat) : Nat := hb (b (bo pk n k) >>> (sh pk n k &&& 31))
theorem nb_le (b : Nat → Int32) (pk : Bool) (n k : Nat) : nb b pk n k ≤ 9 := hb_le _
theorem C_below {v b : Nat → Int32} {pk : Bool} {a before behind n low : Nat} (h : cU v pk a before behind n low) (h0 : 0 < n) (hn : n ≤ 24) (ha : a ≤ 1) : m_N_isBelowZero v b = some (nsg pk a (b (fsz pk n - 1))) := by
  obtain ⟨⟨-, -, h4, h5, -⟩, h1, h7⟩ := h
  have hf := fsz_le pk h0
  have e : v 1 - 1 = nI (fsz pk n - 1) := by rw [h1]; exact pk_sub (b := 1) (by omega)
  unfold m_N_isBelowZero nsg
  rw [e, zix_ok (by omega) (by decide), nI_clamp (by omega), h7, h4]
  have ha0 : (nI a = 0) ↔ a = 0 := nI_eq (b := 0) (by omega) (by decide)
  by_cases c : a = 0
  · rw [if_pos c, if_pos (ha0.mpr c), if_pos (ha0.mpr c)]
    simp only [zbo_0, ite_self]
  · rw [if_neg c, if_neg (fun e => c (ha0.mp e)), if_neg (fun e => c (ha0.mp e))]
    unfold m_N_isBelowZero_44
    simp only [zbo_0, zbo_1]
    cases pk
    · simp only [if_true, Bool.false_eq_true, if_false]
      split <;> rfl
    · simp only [if_true, show ¬ (1 : Int32) = 0 by decide, if_false]
      repeat' split
      all_goals rfl
theorem C_number_l {v b : Nat → Int32} {pk : Bool} {a before behind n low : Nat} (h : cU v pk a before behind n low) (h0 : 0 < n) (hl : n + low ≤ 12) (ha : a ≤ 1) (hlb : low = 0 ∨ behind = 0) (hbh : behind ≤ 12) : ∀ (m k fuel : Nat) (X : Int64), k + m = n → m < fuel → X.toInt = hz (nb b pk n) k → ∃ Y : Int64, m_N_number_4 v b fuel X (nI k) = some Y ∧ Y.toInt = (if nsg pk a (b (fsz pk n - 1)) = 0 then ((hz (nb b pk n) n * 10 ^ low : Nat) : Int) else - ((hz (nb b pk n) n * 10 ^ low : Nat) : Int)) := by
  have hB := C_below (b := b) h h0 (by omega) ha
  have hs := nsg_01 pk a (b (fsz pk n - 1))
  generalize nsg pk a (b (fsz pk n - 1)) = sg at hB hs
  have h' := h
  obtain ⟨⟨-, -, h4, h5, h6⟩, h1, h7⟩ := h'
  have hmul : hz (nb b pk n) n * 10 ^ low < 10 ^ 12 := by
    have q1 := hz_lt (nb_le b pk n) n
    have q2 : 10 ^ n * 10 ^ low = 10 ^ (n + low) := (Nat.pow_add ..).symm
    have q3 : 10 ^ (n + low) ≤ 10 ^ 12 := Nat.pow_le_pow_right (by omega) hl
    have q4 : 0 < 10 ^ low := Nat.pow_pos (by omega)
    have q5 := Nat.mul_lt_mul_of_pos_right q1 q4
    omega
  intro m
  induction m with
  | zero =>
    intro k fuel X hk hf hX
    obtain ⟨fuel, rfl⟩ : ∃ z, fuel = z + 1 := ⟨fuel - 1, by omega⟩
    have fin : ∀ X : Int64, X.toInt = ((hz (nb b pk n) n * 10 ^ low : Nat) : Int) → ∃ Y : Int64, m_N_number_66 v b X = some Y ∧ Y.toInt = (if sg = 0 then ((hz (nb b pk n) n * 10 ^ low : Nat) : Int) else - ((hz (nb b pk n) n * 10 ^ low : Nat) : Int)) := by
      intro X hX
      unfold m_N_number_66
      rw [hB]
      rcases hs with rfl | rfl
      · exact ⟨X, rfl, by rw [if_pos rfl]; exact hX⟩
      · exact ⟨0 - X, rfl, by rw [if_neg (by decide)]; exact i64neg (by omega) hX⟩
    show ∃ Y, m_N_number_4b v b _ X (nI k) = some Y ∧ _
    unfold m_N_number_4b
    rw [h5, if_pos (nI_le (by omega) (by omega))]
    obtain rfl : k = n := by omega
    by_cases c : low = 0
    · have h60 : v 6 ≤ 0 := by
        rw [h6, if_pos c, Int32.le_iff_toInt_le, i32s (by rw [nI_toInt (by omega), Int32.toInt_zero]; omega) (by rw [nI_toInt (by omega), Int32.toInt_zero]; omega), nI_toInt (by omega), Int32.toInt_zero]; omega
      rw [if_pos h60]
      exact fin X (by rw [hX, c, Nat.pow_zero, Nat.mul_one])
    · rw [h6, if_neg c, if_neg (show ¬ nI low ≤ 0 from nI_nle (by omega) (by omega)), zix_ok (by omega) (by decide), nI_clamp (by omega)]
      apply fin
      have hzp := zpl_int low (by omega)
      have hp : ((10 ^ low : Nat) : Int) = (10 : Int) ^ low := by simp
      have e : X.toInt * (zpl low).toInt = ((hz (nb b pk k) k * 10 ^ low : Nat) : Int) := by rw [hX, hzp, Int.natCast_mul, hp]
      rw [i64m (by rw [e]; omega) (by rw [e]; omega), e]
  | succ m ih =>
    intro k fuel X hk hf hX
    obtain ⟨fuel, rfl⟩ : ∃ z, fuel = z + 1 := ⟨fuel - 1, by omega⟩
    show ∃ Y, m_N_number_4b v b (m_N_number_4 v b fuel) X (nI k) = some Y ∧ _
    unfold m_N_number_4b
    rw [h5, if_neg (nI_ge (by omega) (by omega)), C_byteOf h (by omega) (by omega), Option.bind_some, C_shiftOf h (by omega) (by omega), Option.bind_some]
    have hbl := bo_lt (pk := pk) (show k < n by omega)
    have hfl := fsz_le pk h0
    rw [zix_ok (by omega) (by decide), nI_clamp (by omega), hb_is, nI_1]
    exact ih (k + 1) fuel _ (by omega) (by omega) (hz_step (nb_le b pk n) (n := k) (by omega) hX)
/-- the class's number -/
theorem C_number {v b : Nat → Int32} {pk : Bool} {a before behind n low : Nat} (h : cU v pk a before behind n low) (h0 : 0 < n) (hl : n + low ≤ 12) (ha : a ≤ 1) (hlb : low = 0 ∨ behind = 0) (hbh : behind ≤ 12) : ∃ Y : Int64, m_N_number v b = some Y ∧ Y.toInt = (if nsg pk a (b (fsz pk n - 1)) = 0 then ((hz (nb b pk n) n * 10 ^ low : Nat) : Int) else - ((hz (nb b pk n) n * 10 ^ low : Nat) : Int)) :=
  C_number_l h h0 hl ha hlb hbh n 0 64 0 (by omega) (by omega) rfl
