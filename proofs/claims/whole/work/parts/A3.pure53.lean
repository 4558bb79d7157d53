/-! Characters: spelled, and stored in texts. -/
theorem P_storeText {u : Nat → Nat → Int32} {x : Nat} (hx : x < 8) {L c : Nat} (hL : L ≤ 25) (hc : c ≤ 32) (h15 : u 15 x = nI L) {v : Nat → Int32} (h23 : v 23 = nI c) : ∃ w : Nat → Int32, m_M_storeText (nI x) v u = some (zset u 16 w) ∧ (∀ k, k < L → w (32 * x + k) = if k < c then u 18 k else 32) ∧ ∀ i, i < 32 * x ∨ 32 * x + 32 ≤ i → w i = u 16 i := by
  have key : ∀ (n k fuel : Nat) (u' : Nat → Nat → Int32), k + n = L → n < fuel → (∀ r, r ≠ 16 → u' r = u r) → ∃ w : Nat → Int32, m_M_storeText_2 v fuel (nI x) (nI k) u' = some (zset u' 16 w) ∧ ∀ i, w i = if 32 * x + k ≤ i ∧ i < 32 * x + L then (if i - 32 * x < c then u 18 (i - 32 * x) else 32) else u' 16 i := by
    intro n
    induction n with
    | zero =>
      intro k fuel u' hk hf hu
      obtain ⟨fuel, rfl⟩ : ∃ z, fuel = z + 1 := ⟨fuel - 1, by omega⟩
      refine ⟨u' 16, ?_, fun i => by rw [if_neg (show ¬ (32 * x + k ≤ i ∧ i < 32 * x + L) by omega)]⟩
      show m_M_storeText_2b v _ (nI x) (nI k) u' = _
      unfold m_M_storeText_2b
      rw [zix_ok (show x < 9 by omega) (by decide), nI_clamp (by omega), hu 15 (by decide), h15, if_pos (nI_le (by omega) (by omega)), zset_self]
    | succ n ih =>
      intro k fuel u' hk hf hu
      obtain ⟨fuel, rfl⟩ : ∃ z, fuel = z + 1 := ⟨fuel - 1, by omega⟩
      have step : ∀ t : Int32, t = (if k < c then u 18 k else 32) → ∃ w : Nat → Int32, m_M_storeText_41 v (m_M_storeText_2 v fuel) (nI x) (nI k) t (32 * nI x + nI k) u' = some (zset u' 16 w) ∧ ∀ i, w i = if 32 * x + k ≤ i ∧ i < 32 * x + L then (if i - 32 * x < c then u 18 (i - 32 * x) else 32) else u' 16 i := by
        intro t ht
        obtain ⟨w, e, hw⟩ := ih (k + 1) fuel (zset u' 16 (upd (u' 16) (32 * x + k) t)) (by omega) (by omega) (fun r hr => by rw [zset_n _ _ hr]; exact hu r hr)
        rw [zset_zset] at e
        refine ⟨w, ?_, fun i => ?_⟩
        · unfold m_M_storeText_41
          rw [n32, zix_ok (by omega) (by decide), zau_nI _ _ _ _ (by omega), nI_1]
          exact e
        · rw [hw i, zset_s]
          by_cases q : i = 32 * x + k
          · rw [if_neg (show ¬ (32 * x + (k + 1) ≤ i ∧ i < 32 * x + L) by omega), if_pos (show 32 * x + k ≤ i ∧ i < 32 * x + L by omega), q, pk_us, show 32 * x + k - 32 * x = k by omega, ht]
          · rw [pk_un q]
            by_cases y : 32 * x + (k + 1) ≤ i ∧ i < 32 * x + L
            · rw [if_pos y, if_pos (show 32 * x + k ≤ i ∧ i < 32 * x + L by omega)]
            · rw [if_neg y, if_neg (show ¬ (32 * x + k ≤ i ∧ i < 32 * x + L) by omega)]
      show ∃ w, m_M_storeText_2b v (m_M_storeText_2 v fuel) (nI x) (nI k) u' = _ ∧ _
      unfold m_M_storeText_2b
      rw [zix_ok (show x < 9 by omega) (by decide), nI_clamp (show x < 2 ^ 31 by omega), hu 15 (by decide), h15, if_neg (nI_ge (by omega) (by omega)), h23]
      by_cases q : k < c
      · rw [if_neg (nI_ge q (by omega)), zix_ok (by omega) (by decide), nI_clamp (by omega), hu 18 (by decide)]
        exact step _ (by rw [if_pos q])
      · rw [if_pos (nI_le (by omega) (by omega))]
        exact step _ (by rw [if_neg q])
  obtain ⟨w, e, hw⟩ := key L 0 64 u (by omega) (by omega) (fun _ _ => rfl)
  refine ⟨w, e, fun k hk => ?_, fun i hi => ?_⟩
  · rw [hw, if_pos (show 32 * x + 0 ≤ 32 * x + k ∧ 32 * x + k < 32 * x + L by omega), show 32 * x + k - 32 * x = k by omega]
  · rw [hw, if_neg (show ¬ (32 * x + 0 ≤ i ∧ i < 32 * x + L) by omega)]
theorem C_empty_T {v b : Nat → Int32} {N : Nat} (hv : v 1 = nI N) (hN : N ≤ 24) : ∃ b', m_T_empty v b = some b' ∧ ∀ k, k < N → b' k = 32 := by
  have key : ∀ (n k fuel : Nat) (b : Nat → Int32), k + n = N → n < fuel → (∀ i, i < k → b i = 32) → ∃ b', m_T_empty_2 v fuel (nI k) b = some b' ∧ ∀ k, k < N → b' k = 32 := by
    intro n
    induction n with
    | zero =>
      intro k fuel b hk hf hb
      obtain ⟨fuel, rfl⟩ : ∃ z, fuel = z + 1 := ⟨fuel - 1, by omega⟩
      refine ⟨b, ?_, fun i hi => hb i (by omega)⟩
      show m_T_empty_2b v _ (nI k) b = _
      unfold m_T_empty_2b
      rw [hv, if_pos (nI_le (by omega) (by omega))]
    | succ n ih =>
      intro k fuel b hk hf hb
      obtain ⟨fuel, rfl⟩ : ∃ z, fuel = z + 1 := ⟨fuel - 1, by omega⟩
      obtain ⟨b', e, h⟩ := ih (k + 1) fuel (upd b k 32) (by omega) (by omega) (fun i i2 => by
        by_cases z : i = k
        · rw [z, pk_us]
        · rw [pk_un z]; exact hb i (by omega))
      refine ⟨b', ?_, h⟩
      show m_T_empty_2b v (m_T_empty_2 v fuel) (nI k) b = _
      unfold m_T_empty_2b
      rw [hv, if_neg (nI_ge (by omega) (by omega)), zix_ok (by omega) (by decide), nI_clamp (by omega), nI_1]
      exact e
  exact key N 0 64 b (by omega) (by omega) (fun i hi => by omega)
/-- a text is spelled -/
theorem C_spell_T {v b : Nat → Int32} {S : Nat} (hv : v 1 = nI S) (hS : S ≤ 25) {L : Nat} (hL : L ≤ 25) (bx : Nat → Int32) : ∃ b', m_F_spell_T (nI L) v b bx = some (1, b') ∧ ∀ k, k < L → b' k = if k < S then b k else 32 := by
  have key : ∀ (n k fuel : Nat) (bx : Nat → Int32), k + n = L → n < fuel → (∀ i, i < k → bx i = if i < S then b i else 32) → ∃ b', m_F_spell_T_2 v b fuel (nI L) (nI k) bx = some (1, b') ∧ ∀ k, k < L → b' k = if k < S then b k else 32 := by
    intro n
    induction n with
    | zero =>
      intro k fuel bx hk hf hb
      obtain ⟨fuel, rfl⟩ : ∃ z, fuel = z + 1 := ⟨fuel - 1, by omega⟩
      refine ⟨bx, ?_, fun i hi => hb i (by omega)⟩
      show m_F_spell_T_2b v b _ (nI L) (nI k) bx = _
      unfold m_F_spell_T_2b
      rw [if_pos (nI_le (by omega) (by omega)), zbo_1]
    | succ n ih =>
      intro k fuel bx hk hf hb
      obtain ⟨fuel, rfl⟩ : ∃ z, fuel = z + 1 := ⟨fuel - 1, by omega⟩
      have step : ∀ t : Int32, t = (if k < S then b k else 32) → ∃ b', m_F_spell_T_28 v b (m_F_spell_T_2 v b fuel) (nI L) (nI k) t (nI k) bx = some (1, b') ∧ ∀ k, k < L → b' k = if k < S then b k else 32 := by
        intro t ht
        obtain ⟨b', e, h⟩ := ih (k + 1) fuel (upd bx k t) (by omega) (by omega) (fun i i2 => by
          by_cases z : i = k
          · rw [z, pk_us, ht]
          · rw [pk_un z]; exact hb i (by omega))
        refine ⟨b', ?_, h⟩
        unfold m_F_spell_T_28
        rw [zix_ok (by omega) (by decide), nI_clamp (by omega), nI_1]
        exact e
      show ∃ b', m_F_spell_T_2b v b (m_F_spell_T_2 v b fuel) (nI L) (nI k) bx = _ ∧ _
      unfold m_F_spell_T_2b
      rw [if_neg (nI_ge (by omega) (by omega)), hv]
      by_cases q : k < S
      · rw [if_neg (nI_ge q (by omega)), zix_ok (by omega) (by decide), nI_clamp (by omega)]
        exact step _ (by rw [if_pos q])
      · rw [if_pos (nI_le (by omega) (by omega))]
        exact step _ (by rw [if_neg q])
  exact key L 0 64 bx (by omega) (by omega) (fun i hi => by omega)
theorem C_spell_E {v b rw pw : Nat → Int32} {S : Nat} (hv : v 1 = nI S) (hS : S ≤ 25) {L : Nat} (hL : L ≤ 25) (bx : Nat → Int32) : ∃ b', m_F_spell_E (nI L) v b rw pw bx = some (1, b') ∧ ∀ k, k < L → b' k = if k < S then b k else 32 := by
  have e : ∀ fuel x2 x3 bx, m_F_spell_E_2 v b rw pw fuel x2 x3 bx = m_F_spell_T_2 v b fuel x2 x3 bx := by
    intro fuel
    induction fuel with
    | zero => intro _ _ _; rfl
    | succ n ih =>
      intro x2 x3 bx
      show m_F_spell_E_2b v b rw pw (m_F_spell_E_2 v b rw pw n) x2 x3 bx = m_F_spell_T_2b v b (m_F_spell_T_2 v b n) x2 x3 bx
      unfold m_F_spell_E_2b m_F_spell_T_2b m_F_spell_E_28 m_F_spell_T_28
      simp only [ih]
  have := C_spell_T (b := b) hv hS hL bx
  unfold m_F_spell_E
  rw [e]
  exact this
/-- a text is moved to itself -/
theorem C_spell_TT {v b : Nat → Int32} {S : Nat} (hv : v 1 = nI S) (hS : S ≤ 25) : ∃ b', m_F_spell_TT (nI S) v b = some (1, b') ∧ ∀ k, k < S → b' k = b k := by
  have key : ∀ (n k fuel : Nat) (c : Nat → Int32), k + n = S → n < fuel → (∀ i, i < S → c i = b i) → ∃ b', m_F_spell_TT_2 v fuel (nI S) (nI k) c = some (1, b') ∧ ∀ k, k < S → b' k = b k := by
    intro n
    induction n with
    | zero =>
      intro k fuel c hk hf hb
      obtain ⟨fuel, rfl⟩ : ∃ z, fuel = z + 1 := ⟨fuel - 1, by omega⟩
      refine ⟨c, ?_, hb⟩
      show m_F_spell_TT_2b v _ (nI S) (nI k) c = _
      unfold m_F_spell_TT_2b
      rw [if_pos (nI_le (by omega) (by omega)), zbo_1]
    | succ n ih =>
      intro k fuel c hk hf hb
      obtain ⟨fuel, rfl⟩ : ∃ z, fuel = z + 1 := ⟨fuel - 1, by omega⟩
      obtain ⟨b', e, h⟩ := ih (k + 1) fuel (upd c k (c k)) (by omega) (by omega) (fun i i2 => by
        by_cases z : i = k
        · rw [z, pk_us, hb k (by omega)]
        · rw [pk_un z]; exact hb i i2)
      refine ⟨b', ?_, h⟩
      show m_F_spell_TT_2b v (m_F_spell_TT_2 v fuel) (nI S) (nI k) c = _
      unfold m_F_spell_TT_2b m_F_spell_TT_28
      rw [if_neg (nI_ge (by omega) (by omega)), hv, if_neg (nI_ge (by omega) (by omega)), zix_ok (by omega) (by decide), zix_ok (by omega) (by decide), nI_clamp (by omega), nI_1]
      exact e
  exact key S 0 64 b (by omega) (by omega) (fun _ _ => rfl)
/-- a number is spelled -/
theorem C_spell_N {v b : Nat → Int32} {before : Nat} (h2 : v 2 = nI before) (hb : before ≤ 12) (h3 : v 3 = nI 0) {V : Int64} (hV : m_N_number v b = some V) {L : Nat} (hL : L ≤ 25) (bx : Nat → Int32) : ∃ b', m_N_spell (nI L) v b bx = some (1, b') ∧ ∀ k, k < L → b' k = if k < before then 48 + nI (dgz V.toInt.natAbs ((before - 1 - k : Nat) : Int)) else 32 := by
  have key : ∀ (n k fuel : Nat) (bx : Nat → Int32), k + n = L → n < fuel → (∀ i, i < k → bx i = if i < before then 48 + nI (dgz V.toInt.natAbs ((before - 1 - i : Nat) : Int)) else 32) → ∃ b', m_N_spell_17 v b fuel (nI L) V (nI k) bx = some (1, b') ∧ ∀ k, k < L → b' k = if k < before then 48 + nI (dgz V.toInt.natAbs ((before - 1 - k : Nat) : Int)) else 32 := by
    intro n
    induction n with
    | zero =>
      intro k fuel bx hk hf hb
      obtain ⟨fuel, rfl⟩ : ∃ z, fuel = z + 1 := ⟨fuel - 1, by omega⟩
      refine ⟨bx, ?_, fun i hi => hb i (by omega)⟩
      show m_N_spell_17b v b _ (nI L) V (nI k) bx = _
      unfold m_N_spell_17b
      rw [if_pos (nI_le (by omega) (by omega)), zbo_1]
    | succ n ih =>
      intro k fuel bx hk hf hbx
      obtain ⟨fuel, rfl⟩ : ∃ z, fuel = z + 1 := ⟨fuel - 1, by omega⟩
      have step : ∀ t : Int32, t = (if k < before then 48 + nI (dgz V.toInt.natAbs ((before - 1 - k : Nat) : Int)) else 32) → ∃ b', m_N_spell_57 v b (m_N_spell_17 v b fuel) (nI L) V (nI k) t (nI k) bx = some (1, b') ∧ ∀ k, k < L → b' k = if k < before then 48 + nI (dgz V.toInt.natAbs ((before - 1 - k : Nat) : Int)) else 32 := by
        intro t ht
        obtain ⟨b', e, h⟩ := ih (k + 1) fuel (upd bx k t) (by omega) (by omega) (fun i i2 => by
          by_cases z : i = k
          · rw [z, pk_us, ht]
          · rw [pk_un z]; exact hbx i (by omega))
        refine ⟨b', ?_, h⟩
        unfold m_N_spell_57
        rw [zix_ok (by omega) (by decide), nI_clamp (by omega), nI_1]
        exact e
      show ∃ b', m_N_spell_17b v b (m_N_spell_17 v b fuel) (nI L) V (nI k) bx = _ ∧ _
      unfold m_N_spell_17b
      rw [if_neg (nI_ge (by omega) (by omega)), h2]
      by_cases q : k < before
      · have hz : (nI before - 1 - nI k) = nI (before - 1 - k) := by rw [sub1 (by omega), pk_sub (by omega)]
        rw [if_neg (nI_ge q (by omega)), hz, show (0 : Int32) = nI 0 from rfl, C_digitAt (by omega) (by rw [nI_toInt (by omega)]; omega) (by rw [nI_toInt (by omega)]; omega), Option.bind_some, nI_toInt (by omega), show ((before - 1 - k : Nat) : Int) + ((0 : Nat) : Int) = ((before - 1 - k : Nat) : Int) by omega]
        exact step _ (by rw [if_pos q])
      · rw [if_pos (nI_le (by omega) (by omega))]
        exact step _ (by rw [if_neg q])
  unfold m_N_spell
  rw [h3, if_pos (by decide), hV, Option.bind_some]
  exact key L 0 64 bx (by omega) (by omega) (fun i hi => by omega)
/-- the reference's characters of a text or an edited field -/
theorem P_chars_T {u : Nat → Nat → Int32} {x : Nat} (hx : x < 8) {S : Nat} (hS : S ≤ 25) (h5 : u 5 x ≠ 0) (h15 : u 15 x = nI S) (v : Nat → Int32) : ∃ (v' w : Nat → Int32), m_M_takeCharacters (nI x) v u = some (v', zset u 18 w) ∧ v' 23 = nI S ∧ (∀ r, r ≠ 20 → r ≠ 21 → r ≠ 23 → v' r = v r) ∧ ∀ k, k < S → w k = u 16 (32 * x + k) := by
  have key : ∀ (n k fuel : Nat) (u' : Nat → Nat → Int32) (v : Nat → Int32), k + n = S → n < fuel → (∀ r, r ≠ 18 → u' r = u r) → (∀ i, i < k → u' 18 i = u 16 (32 * x + i)) → ∃ w : Nat → Int32, m_M_takeCharacters_69 fuel (nI x) (nI k) v u' = some (upd v 23 (nI S), zset u' 18 w) ∧ ∀ k, k < S → w k = u 16 (32 * x + k) := by
    intro n
    induction n with
    | zero =>
      intro k fuel u' v hk hf hu hw
      obtain ⟨fuel, rfl⟩ : ∃ z, fuel = z + 1 := ⟨fuel - 1, by omega⟩
      refine ⟨u' 18, ?_, fun i hi => hw i (by omega)⟩
      show m_M_takeCharacters_69b _ (nI x) (nI k) v u' = _
      unfold m_M_takeCharacters_69b
      rw [zix_ok (show x < 9 by omega) (by decide), nI_clamp (by omega), hu 15 (by decide), h15, if_pos (nI_le (by omega) (by omega)), zix_ok (show x < 9 by omega) (by decide), zset_self]
    | succ n ih =>
      intro k fuel u' v hk hf hu hw
      obtain ⟨fuel, rfl⟩ : ∃ z, fuel = z + 1 := ⟨fuel - 1, by omega⟩
      obtain ⟨w, e, h⟩ := ih (k + 1) fuel (zset u' 18 (upd (u' 18) k (u 16 (32 * x + k)))) v (by omega) (by omega) (fun r hr => by rw [zset_n _ _ hr]; exact hu r hr) (fun i i2 => by
        rw [zset_s]
        by_cases z : i = k
        · rw [z, pk_us]
        · rw [pk_un z]; exact hw i (by omega))
      rw [zset_zset] at e
      refine ⟨w, ?_, h⟩
      show m_M_takeCharacters_69b (m_M_takeCharacters_69 fuel) (nI x) (nI k) v u' = _
      unfold m_M_takeCharacters_69b
      rw [zix_ok (show x < 9 by omega) (by decide), nI_clamp (show x < 2 ^ 31 by omega), hu 15 (by decide), h15, if_neg (nI_ge (by omega) (by omega)), n32, zix_ok (by omega) (by decide), zix_ok (by omega) (by decide), nI_clamp (by omega), hu 16 (by decide), zau_nI _ _ _ _ (by omega), nI_1]
      exact e
  obtain ⟨w, e, h⟩ := key S 0 64 u (upd v 23 0) (by omega) (by omega) (fun _ _ => rfl) (fun i hi => by omega)
  refine ⟨upd (upd v 23 0) 23 (nI S), w, ?_, pk_us, fun r q1 q2 q3 => by rw [pk_un q3, pk_un q3], h⟩
  unfold m_M_takeCharacters
  rw [zix_ok (show x < 9 by omega) (by decide), nI_clamp (by omega), if_neg h5]
  exact e
/-- .. of a number -/
theorem P_chars_N {u : Nat → Nat → Int32} {x : Nat} (hx : x < 8) {before : Nat} (hb : before ≤ 12) (h5 : u 5 x = 0) (h7 : u 7 x = nI before) {v : Nat → Int32} {V : Int64} {v' : Nat → Int32} {u' : Nat → Nat → Int32} (ht : m_M_takeNumber (nI x) (upd v 23 0) u = some (v', u')) (hK : TK V 0 (upd v 23 0) u v' u') : ∃ (v2 w : Nat → Int32), m_M_takeCharacters (nI x) v u = some (v2, zset u' 18 w) ∧ v2 23 = nI before ∧ (∀ r, r ≠ 20 → r ≠ 21 → r ≠ 23 → v2 r = v r) ∧ ∀ k, k < before → w k = 48 + nI (dgz V.toInt.natAbs ((before - 1 - k : Nat) : Int)) := by
  obtain ⟨⟨-, -, -, hd, -⟩, hv, hu, -⟩ := hK
  have key : ∀ (n fuel : Nat) (v1 : Nat → Int32) (u1 : Nat → Nat → Int32), n ≤ before → n < fuel → v1 23 = nI (before - n) → (∀ r, r ≠ 18 → u1 r = u' r) → (∀ i, i < before - n → u1 18 i = 48 + nI (dgz V.toInt.natAbs ((before - 1 - i : Nat) : Int))) → ∃ (v2 w : Nat → Int32), m_M_takeCharacters_28 fuel (nI n - 1) v1 u1 = some (v2, zset u1 18 w) ∧ v2 23 = nI before ∧ (∀ r, r ≠ 23 → v2 r = v1 r) ∧ ∀ k, k < before → w k = 48 + nI (dgz V.toInt.natAbs ((before - 1 - k : Nat) : Int)) := by
    intro n
    induction n with
    | zero =>
      intro fuel v1 u1 hn hf h23 hu1 hw
      obtain ⟨fuel, rfl⟩ : ∃ z, fuel = z + 1 := ⟨fuel - 1, by omega⟩
      refine ⟨v1, u1 18, ?_, by rw [h23, Nat.sub_zero], fun _ _ => rfl, fun i hi => hw i (by omega)⟩
      show m_M_takeCharacters_28b _ (nI 0 - 1) v1 u1 = _
      unfold m_M_takeCharacters_28b
      rw [if_pos (by decide), zset_self]
    | succ n ih =>
      intro fuel v1 u1 hn hf h23 hu1 hw
      obtain ⟨fuel, rfl⟩ : ∃ z, fuel = z + 1 := ⟨fuel - 1, by omega⟩
      obtain ⟨v2, w, e, a1, a2, a3⟩ := ih fuel (upd v1 23 (nI (before - n))) (zset u1 18 (upd (u1 18) (before - (n + 1)) (48 + nI (dgz V.toInt.natAbs (n : Int))))) (by omega) (by omega) pk_us (fun r hr => by rw [zset_n _ _ hr]; exact hu1 r hr) (fun i i2 => by
        rw [zset_s]
        by_cases z : i = before - (n + 1)
        · rw [z, pk_us, show before - 1 - (before - (n + 1)) = n by omega]
        · rw [pk_un z]; exact hw i (by omega))
      rw [zset_zset] at e
      refine ⟨v2, w, ?_, a1, fun r hr => by rw [a2 r hr, pk_un hr], a3⟩
      show m_M_takeCharacters_28b (m_M_takeCharacters_28 fuel) (nI (n + 1) - 1) v1 u1 = _
      unfold m_M_takeCharacters_28b
      rw [nI_pred, if_neg (nI_pos (by omega)), zix_ok (by omega) (by decide), h23, zix_ok (by omega) (by decide), nI_clamp (by omega), addm1, hu1 17 (by decide), hd n (by omega), nI_1, zau_nI _ _ _ _ (by omega), show before - (n + 1) + 1 = before - n by omega]
      exact e
  obtain ⟨v2, w, e, a1, a2, a3⟩ := key before 64 v' u' (Nat.le_refl _) (by omega) (by rw [Nat.sub_self, hv 23 (by decide) (by decide), pk_us]; rfl) (fun _ _ => rfl) (fun i hi => by omega)
  refine ⟨v2, w, ?_, a1, fun r q1 q2 q3 => by rw [a2 r q3, hv r q1 q2, pk_un q3], a3⟩
  unfold m_M_takeCharacters
  rw [zix_ok (show x < 9 by omega) (by decide), nI_clamp (by omega), if_pos h5, ht, Option.bind_some, zix_ok (show x < 9 by omega) (by decide)]
  show m_M_takeCharacters_28 64 (u' 7 x - 1) v' u' = _
  rw [hu 7 (by decide), h7]
  exact e
