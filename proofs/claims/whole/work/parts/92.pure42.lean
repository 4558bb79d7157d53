/-! .. and the reference. -/
/-- only the bytes of one place have changed (and the row of characters) -/
def stx (x : Nat) (u u' : Nat → Nat → Int32) : Prop := (∀ r, r ≠ 16 → r ≠ 18 → u' r = u r) ∧ ∀ i, i < 32 * x ∨ 32 * x + 32 ≤ i → u' 16 i = u 16 i
theorem cnt_hit {f : Nat → Int32} {y : Int32} : ∀ (N i : Nat), i < cnt f y 0 N → ∃ k, k < N ∧ f k = y ∧ cnt f y 0 k = i := by
  intro N
  induction N with
  | zero => intro i h; exact absurd h (Nat.not_lt_zero _)
  | succ N ih =>
    intro i h
    rw [cnt_app f y N 1 0, Nat.zero_add] at h
    have h1 : cnt f y N 1 = if f N = y then 1 else 0 := by show (if f N = y then 1 else 0) + 0 = _; omega
    rw [h1] at h
    by_cases c : i < cnt f y 0 N
    · obtain ⟨k, k1, k2, k3⟩ := ih i c
      exact ⟨k, by omega, k2, k3⟩
    · by_cases d : f N = y
      · rw [if_pos d] at h
        exact ⟨N, by omega, d, by omega⟩
      · rw [if_neg d] at h; omega
theorem cnt_snoc (f : Nat → Int32) (y : Int32) (k : Nat) : cnt f y 0 (k + 1) = cnt f y 0 k + (if f k = y then 1 else 0) := by
  rw [cnt_app f y k 1 0, Nat.zero_add]
  show _ + ((if f k = y then 1 else 0) + 0) = _
  omega
theorem cnt_mon (f : Nat → Int32) (y : Int32) {k N : Nat} (h : k ≤ N) : cnt f y 0 k ≤ cnt f y 0 N := by
  obtain ⟨m, rfl⟩ : ∃ m, N = k + m := ⟨N - k, by omega⟩
  rw [cnt_app f y k m 0]; omega
/-- the digit at the k-th symbol of a number's picture -/
def dsy (f : Nat → Int32) (d : Nat → Nat) (k : Nat) : Nat := if f k = 57 then d (cnt f 57 0 k) else 0
theorem P_dsy {u : Nat → Nat → Int32} {x : Nat} (hx : x < 8) {f : Nat → Int32} {N a before behind n low : Nat} (hU : rN u x f N a before behind n low) (hd : nfd f N a before behind n low) {V : Int64} {s : Nat} {v : Nat → Int32} (h : NR V s v u) {k : Nat} (hk : k < N) : m_M_digitFor (nI x) (nI k) v u = some (nI (dsy f (dnu V s n low behind) k)) := by
  obtain ⟨r2, r3, r4, r5, r7, r8, r9, r10⟩ := hU
  obtain ⟨hN, ha, h0, hc, hl, hbh, hbf, hlb, -⟩ := hd
  by_cases c : f k = 57
  · have hlt : cnt f 57 0 k < n := by
      have := cnt_mon f 57 (show k + 1 ≤ N by omega)
      rw [cnt_snoc, if_pos c] at this
      omega
    rw [P_digitFor hx (by omega) h r8 (by omega) (rank := n + low - cnt f 57 0 k) (by rw [r4 k hk, if_pos c]) (by omega)]
    unfold dsy dnu
    rw [if_pos c, if_neg (by omega)]
    congr 3
    omega
  · rw [P_digitFor hx (by omega) h r8 (by omega) (rank := 0) (by rw [r4 k hk, if_neg c]; rfl) (by omega)]
    unfold dsy
    rw [if_neg c, if_pos rfl]
theorem dsy_le {f : Nat → Int32} {d : Nat → Nat} (h : ∀ k, d k ≤ 9) (k : Nat) : dsy f d k ≤ 9 := by
  unfold dsy
  split
  · exact h _
  · omega
theorem dsy_any {f : Nat → Int32} {d : Nat → Nat} {N n : Nat} (hc : cnt f 57 0 N = n) : anz (dsy f d) 0 N = anz d 0 n := by
  have h : anz (dsy f d) 0 N = true ↔ anz d 0 n = true := by
    rw [anz_iff, anz_iff]
    constructor
    · intro ⟨k, _, h2, h3⟩
      unfold dsy at h3
      by_cases c : f k = 57
      · rw [if_pos c] at h3
        have := cnt_mon f 57 (show k + 1 ≤ N by omega)
        rw [cnt_snoc, if_pos c] at this
        exact ⟨_, by omega, by omega, h3⟩
      · rw [if_neg c] at h3; exact absurd rfl h3
    · intro ⟨i, _, h2, h3⟩
      obtain ⟨k, k1, k2, k3⟩ := cnt_hit (f := f) (y := 57) N i (by omega)
      refine ⟨k, by omega, by omega, ?_⟩
      unfold dsy
      rw [if_pos k2, k3]; exact h3
  cases q : anz (dsy f d) 0 N <;> cases q2 : anz d 0 n
  · rfl
  · rw [q, q2] at h; exact absurd (h.mpr rfl) (by decide)
  · rw [q, q2] at h; exact absurd (h.mp rfl) (by decide)
  · rfl
/-- the digits in a row, before the bytes are written -/
theorem P_chars {u0 : Nat → Nat → Int32} {x : Nat} (hx : x < 8) {pk : Bool} {f : Nat → Int32} {N a before behind n low : Nat} (hU : rU u0 x pk f N a before behind n low) (hd : nfd f N a before behind n low) {V : Int64} {s : Nat} {v : Nat → Int32} (h : NR V s v u0) (X2 : Int32) :
    ∀ (m k fuel : Nat) (u : Nat → Nat → Int32), k + m = N → m < fuel → (∀ r, r ≠ 18 → u r = u0 r) → ∃ g : Nat → Int32, m_M_storeNumber_27 v fuel (nI x) X2 (nI (cnt f 57 0 k)) (nI k) u = (if pk = true then m_M_storeNumber_173 v (nI x) (nI n) (nI (32 * x)) (if a = 0 then 15 else if X2 = 0 then 12 else 13) (nI n) (zset u 18 g) else m_M_storeNumber_90 v 64 X2 (nI n) (nI (32 * x)) 0 (zset u 18 g)) ∧ (∀ i, cnt f 57 0 k ≤ i → i < n → g i = nI (dnu V s n low behind i)) ∧ ∀ i, i < cnt f 57 0 k → g i = u 18 i := by
  have hd' := hd
  obtain ⟨⟨r2, r3, r4, r5, r7, r8, r9, r10⟩, r6, r15⟩ := hU
  obtain ⟨hN, ha, h0, hc, hl, hbh, hbf, hlb, -⟩ := hd'
  have ha0 : (nI a = 0) ↔ a = 0 := nI_eq (b := 0) (by omega) (by decide)
  intro m
  induction m with
  | zero =>
    intro k fuel u hk hf hu
    obtain ⟨fuel, rfl⟩ : ∃ z, fuel = z + 1 := ⟨fuel - 1, by omega⟩
    obtain rfl : k = N := by omega
    refine ⟨u 18, ?_, fun i h1 h2 => by omega, fun _ _ => rfl⟩
    show m_M_storeNumber_27b v _ (nI x) X2 (nI (cnt f 57 0 k)) (nI k) u = _
    unfold m_M_storeNumber_27b
    simp only [zix_ok (show x < 9 by omega) (show 9 < 2 ^ 31 by decide), nI_clamp (show x < 2 ^ 31 by omega), hu 2 (by decide), hu 6 (by decide), hu 9 (by decide), r2, r6, r9, zset_self, hc, n32']
    rw [if_pos (nI_le (Nat.le_refl _) (by omega))]
    cases pk
    · simp only [Bool.false_eq_true, if_false, if_true]
    · simp only [if_true, show ¬ (1 : Int32) = 0 by decide, if_false]
      by_cases c : a = 0
      · rw [if_pos (ha0.mpr c), if_pos c]
      · rw [if_neg (fun e => c (ha0.mp e)), if_neg c]
        split <;> rfl
  | succ m ih =>
    intro k fuel u hk hf hu
    obtain ⟨fuel, rfl⟩ : ∃ z, fuel = z + 1 := ⟨fuel - 1, by omega⟩
    have hcs := cnt_snoc f 57 k
    have hNR : NR V s v u := NR_ext h rfl rfl (hu 17 (by decide))
    have hrN : rN u x f N a before behind n low := by
      refine ⟨?_, ?_, ?_, ?_, ?_, ?_, ?_, ?_⟩ <;> rw [hu _ (by decide)] <;> assumption
    by_cases c : f k = 57
    · have hlt : cnt f 57 0 k < n := by
        have := cnt_mon f 57 (show k + 1 ≤ N by omega)
        rw [cnt_snoc, if_pos c] at this
        omega
      rw [if_pos c] at hcs
      obtain ⟨g, e, g1, g2⟩ := ih (k + 1) fuel (zset u 18 (upd (u 18) (cnt f 57 0 k) (nI (dnu V s n low behind (cnt f 57 0 k))))) (by omega) (by omega) (fun r hr => by rw [zset_n _ _ hr]; exact hu r hr)
      rw [zset_zset] at e
      refine ⟨g, ?_, ?_, ?_⟩
      · show m_M_storeNumber_27b v (m_M_storeNumber_27 v fuel) (nI x) X2 (nI (cnt f 57 0 k)) (nI k) u = _
        unfold m_M_storeNumber_27b m_M_storeNumber_66
        rw [zix_ok (show x < 9 by omega) (by decide), nI_clamp (show x < 2 ^ 31 by omega), hu 2 (by decide), r2, if_neg (nI_ge (by omega) (by omega)), P_sym (by omega) (by omega), Option.bind_some, hu 3 (by decide), r3 k (by omega), if_pos c, P_dsy hx hrN hd hNR (by omega), Option.bind_some, zix_ok (by omega) (by decide), zau_nI _ _ _ _ (by omega), nI_1, nI_1, ← hcs]
        unfold dsy
        rw [if_pos c]
        exact e
      · intro i h1 h2
        by_cases q : i = cnt f 57 0 k
        · rw [g2 i (by omega), zset_s, q, pk_us]
        · exact g1 i (by omega) h2
      · intro i h1
        rw [g2 i (by omega), zset_s, pk_un (by omega)]
    · rw [if_neg c, Nat.add_zero] at hcs
      obtain ⟨g, e, g1, g2⟩ := ih (k + 1) fuel u (by omega) (by omega) hu
      rw [hcs] at e g1 g2
      refine ⟨g, ?_, g1, g2⟩
      show m_M_storeNumber_27b v (m_M_storeNumber_27 v fuel) (nI x) X2 (nI (cnt f 57 0 k)) (nI k) u = _
      unfold m_M_storeNumber_27b m_M_storeNumber_66
      rw [zix_ok (show x < 9 by omega) (by decide), nI_clamp (show x < 2 ^ 31 by omega), hu 2 (by decide), r2, if_neg (nI_ge (by omega) (by omega)), P_sym (by omega) (by omega), Option.bind_some, hu 3 (by decide), r3 k (by omega), if_neg c, nI_1]
      exact e
/-- a digit a byte -/
theorem P_zoned {x n : Nat} (hx : x < 8) (h0 : 0 < n) (hn : n ≤ 12) {d : Nat → Nat} (X2 : Int32) (v : Nat → Int32) : ∀ (m k fuel : Nat) (u : Nat → Nat → Int32), k + m = n → m < fuel → (∀ i, i < n → u 18 i = nI (d i)) → ∃ g : Nat → Int32, m_M_storeNumber_90 v fuel X2 (nI n) (nI (32 * x)) (nI k) u = some (zset u 16 (if X2 = 0 then g else upd g (32 * x + (n - 1)) (g (32 * x + (n - 1)) + 64))) ∧ ∀ i, g i = if 32 * x + k ≤ i ∧ i < 32 * x + n then nI (48 + d (i - 32 * x)) else u 16 i := by
  intro m
  induction m with
  | zero =>
    intro k fuel u hk hf hu
    obtain ⟨fuel, rfl⟩ : ∃ z, fuel = z + 1 := ⟨fuel - 1, by omega⟩
    refine ⟨u 16, ?_, fun i => by rw [if_neg (by omega)]⟩
    show m_M_storeNumber_90b v _ X2 (nI n) (nI (32 * x)) (nI k) u = _
    unfold m_M_storeNumber_90b
    rw [if_pos (nI_le (by omega) (by omega)), nI_add, sub1 (by omega), zix_ok (by omega) (by decide), zix_ok (by omega) (by decide), nI_clamp (by omega), zau_nI _ _ _ _ (by omega), show 32 * x + n - 1 = 32 * x + (n - 1) by omega]
    by_cases c : X2 = 0
    · rw [if_pos c, if_pos c, zset_self]
    · rw [if_neg c, if_neg c]
  | succ m ih =>
    intro k fuel u hk hf hu
    obtain ⟨fuel, rfl⟩ : ∃ z, fuel = z + 1 := ⟨fuel - 1, by omega⟩
    obtain ⟨g, e, hg⟩ := ih (k + 1) fuel (zset u 16 (upd (u 16) (32 * x + k) (nI (48 + d k)))) (by omega) (by omega) (fun i hi => by rw [zset_n _ _ (by decide)]; exact hu i hi)
    rw [zset_zset] at e
    refine ⟨g, ?_, ?_⟩
    · show m_M_storeNumber_90b v (m_M_storeNumber_90 v fuel) X2 (nI n) (nI (32 * x)) (nI k) u = _
      unfold m_M_storeNumber_90b
      rw [if_neg (nI_ge (by omega) (by omega)), zix_ok (by omega) (by decide), nI_add, zix_ok (by omega) (by decide), nI_clamp (by omega), zau_nI _ _ _ _ (by omega), nI_1, hu k (by omega), show (48 : Int32) = nI 48 from rfl, nI_add]
      exact e
    · intro i
      rw [hg i, zset_s]
      by_cases c : i = 32 * x + k
      · rw [if_neg (by omega), if_pos (by omega), c, pk_us, show 32 * x + k - 32 * x = k by omega]
      · rw [pk_un c]
        by_cases q : 32 * x + (k + 1) ≤ i ∧ i < 32 * x + n
        · rw [if_pos q, if_pos (by omega)]
        · rw [if_neg q, if_neg (by omega)]
