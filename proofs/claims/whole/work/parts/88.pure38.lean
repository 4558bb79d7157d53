/-- a number's place in the reference, with its usage -/
def rU (u : Nat → Nat → Int32) (x : Nat) (pk : Bool) (f : Nat → Int32) (N a before behind nines low : Nat) : Prop := rN u x f N a before behind nines low ∧ u 6 x = (if pk = true then 1 else 0) ∧ u 15 x = nI (fsz pk nines)
/-- what of a number's picture is used -/
def nfd (f : Nat → Int32) (N a before behind nines low : Nat) : Prop := N ≤ 24 ∧ a ≤ 1 ∧ 0 < nines ∧ cnt f 57 0 N = nines ∧ nines + low ≤ 12 ∧ behind ≤ 12 ∧ before ≤ 12 ∧ (low = 0 ∨ behind = 0) ∧ (behind = 0 → before = nines + low)
theorem NF_nfd {f : Nat → Int32} {N a before behind nines low : Nat} (h : NF f N a before behind nines low) (ha : a = (if f 0 = 83 then 1 else 0)) (hN : N ≤ 24) (hb : before + behind ≤ 12) : nfd f N a before behind nines low := by
  obtain ⟨c1, -, c3, -, -, c6, c7⟩ := NF_cnt h
  have ha1 : a ≤ 1 := by rw [ha]; split <;> omega
  have hc : cnt f 57 0 N = nines := by
    have : cnt f 57 0 (a + (N - a)) = cnt f 57 0 a + cnt f 57 (0 + a) (N - a) := cnt_app f 57 a (N - a) 0
    rw [show a + (N - a) = N by omega, Nat.zero_add, c1] at this
    rw [this]
    by_cases c : f 0 = 83
    · rw [if_pos c] at ha
      have : cnt f 57 0 a = 0 := cnt_no a 0 (fun j _ hj => by
        obtain rfl : j = 0 := by omega
        rw [c]; decide)
      omega
    · rw [if_neg c] at ha
      subst ha
      show 0 + nines = nines
      omega
  refine ⟨hN, ha1, c6, hc, ?_, by omega, by omega, ?_, ?_⟩
  · rcases h with h | ⟨p, h⟩ | ⟨p, h⟩ | ⟨p, h⟩ | ⟨p, h⟩ | ⟨p, h⟩ | ⟨p, h⟩ | ⟨p, h⟩ <;> omega
  · rcases h with h | ⟨p, h⟩ | ⟨p, h⟩ | ⟨p, h⟩ | ⟨p, h⟩ | ⟨p, h⟩ | ⟨p, h⟩ | ⟨p, h⟩ <;> omega
  · rcases h with h | ⟨p, h⟩ | ⟨p, h⟩ | ⟨p, h⟩ | ⟨p, h⟩ | ⟨p, h⟩ | ⟨p, h⟩ | ⟨p, h⟩ <;> omega
theorem n32 (x k : Nat) : 32 * nI x + nI k = nI (32 * x + k) := by
  rw [show (32 : Int32) = nI 32 from rfl, pk_mul, nI_add]
theorem n32' (x : Nat) : 32 * nI x = nI (32 * x) := by
  rw [show (32 : Int32) = nI 32 from rfl, pk_mul]
theorem n24 (x k : Nat) : 24 * nI x + nI k = nI (24 * x + k) := by
  rw [show (24 : Int32) = nI 24 from rfl, pk_mul, nI_add]
theorem n2 (k : Nat) : 2 * nI k = nI (2 * k) := by
  rw [show (2 : Int32) = nI 2 from rfl, pk_mul]
theorem sub1 {n : Nat} (h : 0 < n) : nI n - 1 = nI (n - 1) := pk_sub (b := 1) (by omega)
/-- the digits out of the bytes, in the reference -/
theorem P_takeDigits_l {u0 : Nat → Nat → Int32} {x : Nat} (hx : x < 8) {pk : Bool} {f : Nat → Int32} {N a before behind n low : Nat} (hU : rU u0 x pk f N a before behind n low) (hd : nfd f N a before behind n low) (v : Nat → Int32) (last : Int32) :
    ∀ (m k fuel : Nat) (u : Nat → Nat → Int32), k + m = n → m < fuel → (∀ r, r ≠ 17 → u r = u0 r) → ∃ g : Nat → Int32, m_M_takeDigits_78 fuel (nI x) (nI n) (nI (32 * x)) last (nI (2 * fsz pk n) - nI n - 1) (nI k) v u = some (upd (upd v 20 (nI behind)) 21 (nsg pk a last), zset u 17 g) ∧ ∀ j, g j = if low ≤ j ∧ j < low + m then nI (nb (fun i => u0 16 (32 * x + i)) pk n (n - 1 - (j - low))) else u 17 j := by
  obtain ⟨⟨r2, r3, r4, r5, r7, r8, r9, r10⟩, r6, r15⟩ := hU
  obtain ⟨hN, ha, h0, hc, hl, hbh, hbf, hlb, -⟩ := hd
  have hfs := fsz_le pk h0
  have hpad : nI (2 * fsz pk n) - nI n - 1 = nI (2 * fsz pk n - n - 1) := by
    have : n < 2 * fsz pk n := by unfold fsz; cases pk <;> simp <;> omega
    rw [pk_sub (by omega), sub1 (by omega)]
  rw [hpad]
  intro m
  induction m with
  | zero =>
    intro k fuel u hk hf hu
    obtain ⟨fuel, rfl⟩ : ∃ z, fuel = z + 1 := ⟨fuel - 1, by omega⟩
    refine ⟨u 17, ?_, fun j => by rw [if_neg (by omega)]⟩
    show m_M_takeDigits_78b _ (nI x) (nI n) (nI (32 * x)) last _ (nI k) v u = _
    unfold m_M_takeDigits_78b
    rw [if_pos (nI_le (by omega) (by omega)), zset_self]
    simp only [zix_ok (show x < 9 by omega) (show 9 < 2 ^ 31 by decide), nI_clamp (show x < 2 ^ 31 by omega), hu 9 (by decide), hu 8 (by decide), hu 6 (by decide), r9, r8, r6]
    unfold m_M_takeDigits_236 m_M_takeDigits_232 m_M_takeDigits_237 nsg
    simp only [zbo_0, zbo_1]
    have ha0 : (nI a = 0) ↔ a = 0 := nI_eq (b := 0) (by omega) (by decide)
    by_cases c : a = 0
    · rw [if_pos (ha0.mpr c), if_pos c]
    · rw [if_neg (fun e => c (ha0.mp e)), if_neg c]
      cases pk
      · simp only [Bool.false_eq_true, if_false, if_true]
        split <;> rfl
      · simp only [if_true, show ¬ (1 : Int32) = 0 by decide, if_false]
        repeat' split
        all_goals rfl
  | succ m ih =>
    intro k fuel u hk hf hu
    obtain ⟨fuel, rfl⟩ : ∃ z, fuel = z + 1 := ⟨fuel - 1, by omega⟩
    have hidx : nI n - 1 - nI k + nI low = nI (low + m) := by
      rw [sub1 (by omega), pk_sub (by omega), nI_add]; congr 1; omega
    obtain ⟨g, e, hg⟩ := ih (k + 1) fuel (zset u 17 (upd (u 17) (low + m) (nI (nb (fun i => u0 16 (32 * x + i)) pk n k)))) (by omega) (by omega) (fun r hr => by rw [zset_n _ _ hr]; exact hu r hr)
    refine ⟨g, ?_, ?_⟩
    · rw [zset_zset] at e
      have key : ∀ t : Int32, hb t = nb (fun i => u0 16 (32 * x + i)) pk n k → m_M_takeDigits_141 (m_M_takeDigits_78 fuel) (nI x) (nI n) (nI (32 * x)) last (nI (2 * fsz pk n - n - 1)) (nI k) (t &&& 15) v u = some (upd (upd v 20 (nI behind)) 21 (nsg pk a last), zset u 17 g) := by
        intro t ht
        unfold m_M_takeDigits_141
        rw [zix_ok (show x < 9 by omega) (by decide), nI_clamp (show x < 2 ^ 31 by omega), hu 10 (by decide), r10, hidx, zix_ok (by omega) (by decide), hb_is, ht, zau_nI _ _ _ _ (by omega), nI_1, e]
      show m_M_takeDigits_78b (m_M_takeDigits_78 fuel) (nI x) (nI n) (nI (32 * x)) last _ (nI k) v u = _
      unfold m_M_takeDigits_78b
      rw [if_neg (nI_ge (by omega) (by omega)), zix_ok (show x < 9 by omega) (by decide), nI_clamp (show x < 2 ^ 31 by omega), hu 6 (by decide), r6]
      cases pk
      · have hbo : bo false n k = k := rfl
        simp only [Bool.false_eq_true, if_false, if_true]
        rw [nI_add, zix_ok (by omega) (by decide), nI_clamp (by omega), hu 16 (by decide)]
        apply key
        unfold nb sh
        rw [hbo]
        simp
      · have hbo : bo true n k = n / 2 - (n - k) / 2 := rfl
        have hfz : fsz true n = n / 2 + 1 := rfl
        have hpk : 2 * fsz true n - n - 1 + k = 2 * (n / 2 - (n - k) / 2) + (if (n - k) % 2 = 1 then 0 else 1) := by
          rw [hfz]
          split <;> omega
        simp only [if_true, show ¬ (1 : Int32) = 0 by decide, if_false]
        rw [nI_add, nI_mod2 (by omega), nI_div2 (by omega), nI_add, hpk]
        rw [show 32 * x + (2 * (n / 2 - (n - k) / 2) + (if (n - k) % 2 = 1 then 0 else 1)) / 2 = 32 * x + bo true n k by rw [hbo]; split <;> omega]
        rw [zix_ok (by rw [hbo]; omega) (by decide), nI_clamp (by rw [hbo]; omega), hu 16 (by decide)]
        unfold m_M_takeDigits_137
        by_cases c : (n - k) % 2 = 1
        · rw [if_pos c, show nI ((2 * (n / 2 - (n - k) / 2) + 0) % 2) = 0 by rw [show (2 * (n / 2 - (n - k) / 2) + 0) % 2 = 0 by omega]; rfl, if_pos rfl]
          apply key
          unfold nb sh
          rw [if_pos ⟨rfl, c⟩]
        · rw [if_neg c, show nI ((2 * (n / 2 - (n - k) / 2) + 1) % 2) = 1 by rw [show (2 * (n / 2 - (n - k) / 2) + 1) % 2 = 1 by omega]; rfl, if_neg (by decide)]
          apply key
          unfold nb sh
          rw [if_neg (fun e => c e.2)]
    · intro j
      rw [hg j, zset_s]
      by_cases c : low ≤ j ∧ j < low + m
      · rw [if_pos c, if_pos (by omega)]
      · rw [if_neg c]
        by_cases e : j = low + m
        · rw [e, pk_us, if_pos (by omega)]
          congr 2; omega
        · rw [pk_un e, if_neg (by omega)]
theorem P_takeDigits {u : Nat → Nat → Int32} {x : Nat} (hx : x < 8) {pk : Bool} {f : Nat → Int32} {N a before behind n low : Nat} (hU : rU u x pk f N a before behind n low) (hd : nfd f N a before behind n low) (v : Nat → Int32) :
    ∃ g : Nat → Int32, m_M_takeDigits (nI x) v u = some (upd (upd v 20 (nI behind)) 21 (nsg pk a (u 16 (32 * x + (fsz pk n - 1)))), zset u 17 g) ∧ ∀ j, g j = if low ≤ j ∧ j < low + n then nI (nb (fun i => u 16 (32 * x + i)) pk n (n - 1 - (j - low))) else u 17 j := by
  obtain ⟨g, e, hg⟩ := P_takeDigits_l hx hU hd v (u 16 (32 * x + (fsz pk n - 1))) n 0 64 u (by omega) (by have := hd.2.2.2.2.1; omega) (fun _ _ => rfl)
  refine ⟨g, ?_, hg⟩
  obtain ⟨⟨r2, r3, r4, r5, r7, r8, r9, r10⟩, r6, r15⟩ := hU
  obtain ⟨hN, ha, h0, hc, hl, hbh, hbf, hlb, -⟩ := hd
  have hfs := fsz_le pk h0
  have key : ∀ (m k fuel : Nat), k + m = N → m < fuel → m_M_takeDigits_4 fuel (nI x) (nI (cnt f 57 0 k)) (nI k) v u = some (upd (upd v 20 (nI behind)) 21 (nsg pk a (u 16 (32 * x + (fsz pk n - 1)))), zset u 17 g) := by
    intro m
    induction m with
    | zero =>
      intro k fuel hk hf
      obtain ⟨fuel, rfl⟩ : ∃ z, fuel = z + 1 := ⟨fuel - 1, by omega⟩
      show m_M_takeDigits_4b _ (nI x) (nI (cnt f 57 0 k)) (nI k) v u = _
      unfold m_M_takeDigits_4b
      simp only [zix_ok (show x < 9 by omega) (show 9 < 2 ^ 31 by decide), nI_clamp (show x < 2 ^ 31 by omega), r2, r15]
      obtain rfl : k = N := by omega
      rw [if_pos (nI_le (Nat.le_refl _) (by omega)), n32, sub1 (by omega), zix_ok (by omega) (by decide), nI_clamp (by omega), n32', n2, hc, show 32 * x + fsz pk n - 1 = 32 * x + (fsz pk n - 1) by omega]
      exact e
    | succ m ih =>
      intro k fuel hk hf
      obtain ⟨fuel, rfl⟩ : ∃ z, fuel = z + 1 := ⟨fuel - 1, by omega⟩
      show m_M_takeDigits_4b (m_M_takeDigits_4 fuel) (nI x) (nI (cnt f 57 0 k)) (nI k) v u = _
      unfold m_M_takeDigits_4b
      rw [zix_ok (show x < 9 by omega) (by decide), nI_clamp (show x < 2 ^ 31 by omega), r2, if_neg (nI_ge (by omega) (by omega)), P_sym (by omega) (by omega), Option.bind_some, r3 k (by omega)]
      have hcs : cnt f 57 0 (k + 1) = cnt f 57 0 k + (if f k = 57 then 1 else 0) := by
        rw [cnt_app f 57 k 1 0, Nat.zero_add]
        show _ + ((if f k = 57 then 1 else 0) + 0) = _
        omega
      have := ih (k + 1) fuel (by omega) (by omega)
      unfold m_M_takeDigits_31
      by_cases c : f k = 57
      · rw [if_pos c] at hcs ⊢
        rw [nI_1, nI_1, ← hcs]; exact this
      · rw [if_neg c] at hcs ⊢
        rw [nI_1, Int32.add_zero, show cnt f 57 0 k = cnt f 57 0 (k + 1) by omega]; exact this
  exact key N 0 64 (by omega) (by omega)
