/-! A number is stored in a number's bytes: the class. -/
/-- m digits from the k-th on are laid into the row -/
def rowK (d : Nat → Nat) (pk : Bool) (n : Nat) : Nat → Nat → (Nat → Int32) → Nat → Int32
  | 0, _, b => b
  | m + 1, k, b => rowK d pk n m (k + 1) (upd b (bo pk n k) (b (bo pk n k) ||| (nI (d k) <<< (sh pk n k &&& 31))))
theorem rowK_s (d : Nat → Nat) (pk : Bool) (n m k : Nat) (b : Nat → Int32) : rowK d pk n (m + 1) k b = rowK d pk n m (k + 1) (upd b (bo pk n k) (b (bo pk n k) ||| (nI (d k) <<< (sh pk n k &&& 31)))) := rfl
def sbt (pk : Bool) (a : Nat) (neg : Bool) : Int32 := if pk = true then (if a = 0 then 15 else if neg = true then 13 else 12) else if neg = true then 64 else 0
/-- the digit of the i-th nine -/
def dnu (V : Int64) (s n low behind i : Nat) : Nat := nD V s ((n : Int) + low - 1 - i - behind)
theorem dnu_le (V : Int64) (s n low behind i : Nat) : dnu V s n low behind i ≤ 9 := nD_le _ _ _
def cneg (V : Int64) (a : Nat) (any : Bool) : Bool := decide (a ≠ 0) && any && !decide (0 ≤ lg_cmp V 0)
theorem C_tN44 {v : Nat → Int32} {pk : Bool} {a before behind n low : Nat} (h : cU v pk a before behind n low) (h0 : 0 < n) (hl : n + low ≤ 12) (ha : a ≤ 1) (hlb : low = 0 ∨ behind = 0) (hbh : behind ≤ 12) {V : Int64} {s : Nat} (hs : s ≤ 12) :
    ∀ (m k fuel : Nat) (t : Bool) (b : Nat → Int32), k + m = n → m < fuel → m_N_takeNumber_44 v fuel V (nI s) (if t = true then 1 else 0) (nI k) b = some (1, upd (rowK (dnu V s n low behind) pk n m k b) (fsz pk n - 1) (rowK (dnu V s n low behind) pk n m k b (fsz pk n - 1) ||| sbt pk a (cneg V a (t || anz (dnu V s n low behind) k m)))) := by
  have h' := h
  obtain ⟨⟨-, -, h4, h5, h6⟩, h1, h7⟩ := h'
  have hfs := fsz_le pk h0
  have ha0 : (nI a = 0) ↔ a = 0 := nI_eq (b := 0) (by omega) (by decide)
  have e1 : v 1 - 1 = nI (fsz pk n - 1) := by rw [h1]; exact sub1 (by omega)
  have hsb : ∀ (neg : Bool) (b : Nat → Int32), m_N_signBits (if neg = true then 1 else 0) v b = some (sbt pk a neg) := by
    intro neg b
    unfold m_N_signBits sbt
    rw [h7, h4]
    by_cases c : a = 0
    · rw [if_pos c, if_pos (ha0.mpr c)]
      cases pk <;> cases neg <;> rfl
    · rw [if_neg c, if_neg (fun e => c (ha0.mp e))]
      cases pk <;> cases neg <;> rfl
  have hfin : ∀ (neg : Bool) (b : Nat → Int32), m_N_takeNumber_156 v (if neg = true then 1 else 0) (b (fsz pk n - 1)) (nI (fsz pk n - 1)) b = some (1, upd b (fsz pk n - 1) (b (fsz pk n - 1) ||| sbt pk a neg)) := by
    intro neg b
    unfold m_N_takeNumber_156
    rw [hsb, Option.bind_some, zix_ok (by omega) (by decide), zbo_1, nI_clamp (by omega)]
  have hpw : ∀ k, k < n → (v 6 + v 5 - 1 - nI k).toInt = (n : Int) + low - 1 - k - behind := by
    intro k hk
    have q6 : (v 6).toInt = (low : Int) - behind := by
      rw [h6]
      by_cases c : low = 0
      · rw [if_pos c, i32s (by rw [nI_toInt (by omega), Int32.toInt_zero]; omega) (by rw [nI_toInt (by omega), Int32.toInt_zero]; omega), nI_toInt (by omega), Int32.toInt_zero]; omega
      · rw [if_neg c, nI_toInt (by omega)]; omega
    have q5 : (v 5).toInt = n := by rw [h5, nI_toInt (by omega)]
    have q1 : (1 : Int32).toInt = 1 := by decide
    have qk : (nI k).toInt = k := nI_toInt (by omega)
    have a1 : (v 6 + v 5).toInt = (low : Int) - behind + n := by rw [i32a (by rw [q6, q5]; omega) (by rw [q6, q5]; omega), q6, q5]
    have a2 : (v 6 + v 5 - 1).toInt = (low : Int) - behind + n - 1 := by rw [i32s (by rw [a1, q1]; omega) (by rw [a1, q1]; omega), a1, q1]
    rw [i32s (by rw [a2, qk]; omega) (by rw [a2, qk]; omega), a2, qk]
    omega
  intro m
  induction m with
  | zero =>
    intro k fuel t b hk hf
    obtain ⟨fuel, rfl⟩ : ∃ z, fuel = z + 1 := ⟨fuel - 1, by omega⟩
    show m_N_takeNumber_44b v _ V (nI s) _ (nI k) b = some (1, upd b (fsz pk n - 1) (b (fsz pk n - 1) ||| sbt pk a (cneg V a (t || false))))
    unfold m_N_takeNumber_44b m_N_takeNumber_155
    rw [h5, if_pos (nI_le (by omega) (by omega)), e1, zix_ok (by omega) (by decide), nI_clamp (by omega), h4]
    have g0 := hfin false b
    have g1 := hfin true b
    simp only [Bool.false_eq_true, if_false, if_true] at g0 g1
    rw [Bool.or_false]
    by_cases c : a = 0
    · rw [if_pos (ha0.mpr c), g0]
      have : cneg V a t = false := by unfold cneg; simp [c]
      rw [this]
    · rw [if_neg (fun e => c (ha0.mp e))]
      cases t
      · simp only [Bool.false_eq_true, if_false, if_true]
        rw [g0]
        have : cneg V a false = false := by unfold cneg; simp
        rw [this]
      · simp only [if_true, show ¬ (1 : Int32) = 0 by decide, if_false]
        by_cases e : 0 ≤ lg_cmp V 0
        · rw [if_pos e, g0]
          have : cneg V a true = false := by unfold cneg; simp [e]
          rw [this]
        · rw [if_neg e, g1]
          have : cneg V a true = true := by unfold cneg; simp [e, c]
          rw [this]
  | succ m ih =>
    intro k fuel t b hk hf
    obtain ⟨fuel, rfl⟩ : ∃ z, fuel = z + 1 := ⟨fuel - 1, by omega⟩
    show m_N_takeNumber_44b v (m_N_takeNumber_44 v fuel) V (nI s) _ (nI k) b = _
    unfold m_N_takeNumber_44b
    have hbl := bo_lt (pk := pk) (show k < n by omega)
    have hp := hpw k (by omega)
    rw [if_neg (show ¬ v 5 ≤ nI k by rw [h5]; exact nI_ge (by omega) (by omega)), C_digitAt (by omega) (by rw [hp]; omega) (by rw [hp]; omega), hp, Option.bind_some, C_byteOf h (by omega) (by omega), Option.bind_some, C_shiftOf h (by omega) (by omega), Option.bind_some, zix_ok (by omega) (by decide), zix_ok (by omega) (by decide), nI_clamp (by omega)]
    rw [show dgz V.toInt.natAbs ((n : Int) + low - 1 - k - behind + s) = dnu V s n low behind k from rfl]
    have h9 := dnu_le V s n low behind k
    rw [rowK_s, anz_s]
    have i0 := ih (k + 1) fuel false (upd b (bo pk n k) (b (bo pk n k) ||| (nI (dnu V s n low behind k) <<< (sh pk n k &&& 31)))) (by omega) (by omega)
    have i1 := ih (k + 1) fuel true (upd b (bo pk n k) (b (bo pk n k) ||| (nI (dnu V s n low behind k) <<< (sh pk n k &&& 31)))) (by omega) (by omega)
    simp only [Bool.false_eq_true, if_false, if_true] at i0 i1
    unfold m_N_takeNumber_107 m_N_takeNumber_112
    rw [nI_1]
    cases t
    · simp only [Bool.false_eq_true, if_false, if_true]
      by_cases c : dnu V s n low behind k = 0
      · rw [if_pos (show nI (dnu V s n low behind k) = 0 by rw [c]; rfl), i0]
        rw [c]; rfl
      · rw [if_neg (nI_ne0 (by omega) (by omega)), i1]
        have : (dnu V s n low behind k != 0) = true := by simpa using c
        rw [this]; rfl
    · simp only [if_true, show ¬ (1 : Int32) = 0 by decide, if_false]
      rw [i1]
      rfl
/-- the row before its digits are laid -/
def row0 (pk : Bool) (sz : Nat) (b : Nat → Int32) : Nat → Int32 := fun j => if j < sz then (if pk = true then 0 else 48) else b j
theorem C_tN6 {v : Nat → Int32} {pk : Bool} {sz : Nat} (h1 : v 1 = nI sz) (hsz : sz ≤ 25) (h7 : v 7 = (if pk = true then 1 else 0)) (V : Int64) (S : Int32) : ∀ (m k fuel : Nat) (b : Nat → Int32), k + m = sz → m < fuel → m_N_takeNumber_6 v fuel V S 0 (nI k) b = m_N_takeNumber_44 v 64 V S 0 0 (fun j => if k ≤ j ∧ j < sz then (if pk = true then 0 else 48) else b j) := by
  intro m
  induction m with
  | zero =>
    intro k fuel b hk hf
    obtain ⟨fuel, rfl⟩ : ∃ z, fuel = z + 1 := ⟨fuel - 1, by omega⟩
    show m_N_takeNumber_6b v _ V S 0 (nI k) b = _
    unfold m_N_takeNumber_6b
    rw [h1, if_pos (nI_le (by omega) (by omega))]
    congr 1
    funext j
    rw [if_neg (by omega)]
  | succ m ih =>
    intro k fuel b hk hf
    obtain ⟨fuel, rfl⟩ : ∃ z, fuel = z + 1 := ⟨fuel - 1, by omega⟩
    show m_N_takeNumber_6b v (m_N_takeNumber_6 v fuel) V S 0 (nI k) b = _
    unfold m_N_takeNumber_6b m_N_takeNumber_34
    rw [h1, if_neg (nI_ge (by omega) (by omega)), h7, zix_ok (by omega) (by decide), zix_ok (by omega) (by decide), nI_clamp (by omega), nI_1]
    have key : ∀ c : Int32, (if pk = true then (0 : Int32) else 48) = c → m_N_takeNumber_6 v fuel V S 0 (nI (k + 1)) (upd b k c) = m_N_takeNumber_44 v 64 V S 0 0 (fun j => if k ≤ j ∧ j < sz then (if pk = true then 0 else 48) else b j) := by
      intro c hc
      rw [ih (k + 1) fuel (upd b k c) (by omega) (by omega)]
      congr 1
      funext j
      by_cases e : j = k
      · rw [if_neg (show ¬ (k + 1 ≤ j ∧ j < sz) by omega), if_pos (show k ≤ j ∧ j < sz by omega), e, pk_us, hc]
      · rw [pk_un e]
        by_cases g : k + 1 ≤ j ∧ j < sz
        · rw [if_pos g, if_pos (show k ≤ j ∧ j < sz by omega)]
        · rw [if_neg g, if_neg (show ¬ (k ≤ j ∧ j < sz) by omega)]
    cases pk
    · exact key 48 rfl
    · exact key 0 rfl
theorem C_takeNumber {v : Nat → Int32} {pk : Bool} {a before behind n low : Nat} (h : cU v pk a before behind n low) (h0 : 0 < n) (hl : n + low ≤ 12) (ha : a ≤ 1) (hlb : low = 0 ∨ behind = 0) (hbh : behind ≤ 12) {V : Int64} {s : Nat} (hs : s ≤ 12) (b : Nat → Int32) :
    m_N_takeNumber V (nI s) v b = some (1, upd (rowK (dnu V s n low behind) pk n n 0 (row0 pk (fsz pk n) b)) (fsz pk n - 1) (rowK (dnu V s n low behind) pk n n 0 (row0 pk (fsz pk n) b) (fsz pk n - 1) ||| sbt pk a (cneg V a (anz (dnu V s n low behind) 0 n)))) := by
  have hfs := fsz_le pk h0
  unfold m_N_takeNumber
  rw [show (0 : Int32) = nI 0 from rfl, show m_N_takeNumber_6 v 64 V (nI s) (nI 0) (nI 0) b = _ from C_tN6 h.2.1 (by omega) h.2.2 V (nI s) (fsz pk n) 0 64 b (by omega) (by omega)]
  have e : (fun j => if 0 ≤ j ∧ j < fsz pk n then (if pk = true then (0 : Int32) else 48) else b j) = row0 pk (fsz pk n) b := by
    funext j
    unfold row0
    by_cases c : j < fsz pk n
    · rw [if_pos ⟨by omega, c⟩, if_pos c]
    · rw [if_neg (fun h => c h.2), if_neg c]
  rw [e]
  exact C_tN44 h h0 hl ha hlb hbh hs n 0 64 false (row0 pk (fsz pk n) b) (by omega) (by omega)
