theorem upd_ext {f g : Nat → Int32} {k : Nat} {y : Int32} {j : Nat} (h : f j = g j) : upd f k y j = upd g k y j := by
  by_cases c : j = k
  · rw [c, pk_us, pk_us]
  · rw [pk_un c, pk_un c, h]
/-- half bytes -/
theorem P_packed {x n : Nat} (hx : x < 8) (h0 : 0 < n) (hn : n ≤ 12) {d : Nat → Nat} (sg : Int32) (hsg : sg <<< ((0 : Int32) &&& 31) = sg) (v : Nat → Int32) : ∀ (m k fuel : Nat) (u : Nat → Nat → Int32) (b : Nat → Int32), k + m = n → m + 1 < fuel → (∀ i, i < n → u 18 i = nI (d i)) → u 18 n = sg → (∀ j, j < n / 2 + 1 → u 16 (32 * x + j) = b j) →
    ∃ g : Nat → Int32, m_M_storeNumber_222 v fuel (nI n) (nI (32 * x)) (nI (2 * (n / 2 + 1) - n - 1)) (nI k) u = some (zset u 16 g) ∧ (∀ j, j < n / 2 + 1 → g (32 * x + j) = upd (rowK d true n m k b) (n / 2) (rowK d true n m k b (n / 2) ||| sg) j) ∧ ∀ i, i < 32 * x ∨ 32 * x + 32 ≤ i → g i = u 16 i := by
  have hidx : ∀ k, k ≤ n → 32 * x + (2 * (n / 2 + 1) - n - 1 + k) / 2 = 32 * x + bo true n k := by
    intro k hk
    show _ = 32 * x + (n / 2 - (n - k) / 2)
    omega
  have hbo : ∀ k, k ≤ n → bo true n k ≤ n / 2 := by
    intro k hk
    show n / 2 - (n - k) / 2 ≤ n / 2
    omega
  intro m
  induction m with
  | zero =>
    intro k fuel u b hk hf h1 h2 h3
    obtain ⟨fuel, rfl⟩ : ∃ z, fuel = z + 1 + 1 := ⟨fuel - 2, by omega⟩
    obtain rfl : k = n := by omega
    have hb := hbo k (Nat.le_refl _)
    have hbe : bo true k k = k / 2 := by show k / 2 - (k - k) / 2 = k / 2; omega
    refine ⟨upd (u 16) (32 * x + k / 2) (u 16 (32 * x + k / 2) ||| sg), ?_, ?_, ?_⟩
    · show m_M_storeNumber_222b v (m_M_storeNumber_222 v (fuel + 1)) (nI k) (nI (32 * x)) _ (nI k) u = _
      unfold m_M_storeNumber_222b m_M_storeNumber_266
      rw [if_neg (nI_nlt (Nat.le_refl _) (by omega)), nI_add, nI_mod2 (by omega), nI_div2 (by omega), nI_add, hidx k (Nat.le_refl _), hbe, zix_ok (by omega) (by decide), zix_ok (by omega) (by decide), zix_ok (by omega) (by decide), nI_clamp (by omega), nI_clamp (by omega), h2, if_neg (show ¬ nI ((2 * (k / 2 + 1) - k - 1 + k) % 2) = 0 from nI_ne0 (by omega) (by omega)), hsg, zau_nI _ _ _ _ (by omega), nI_1, zix_ok (by omega) (by decide)]
      show m_M_storeNumber_222b v (m_M_storeNumber_222 v fuel) (nI k) (nI (32 * x)) _ (nI (k + 1)) _ = _
      unfold m_M_storeNumber_222b
      rw [if_pos (nI_lt (by omega) (by omega))]
    · intro j hj
      show _ = upd b (k / 2) (b (k / 2) ||| sg) j
      rw [h3 _ (by omega)]
      by_cases c : j = k / 2
      · rw [c, pk_us, pk_us]
      · rw [pk_un (by omega), pk_un c, h3 j hj]
    · intro i hi
      rw [pk_un (by omega)]
  | succ m ih =>
    intro k fuel u b hk hf h1 h2 h3
    obtain ⟨fuel, rfl⟩ : ∃ z, fuel = z + 1 := ⟨fuel - 1, by omega⟩
    have hb := hbo k (by omega)
    obtain ⟨g, e, g1, g2⟩ := ih (k + 1) fuel (zset u 16 (upd (u 16) (32 * x + bo true n k) (b (bo true n k) ||| (nI (d k) <<< (sh true n k &&& 31))))) (upd b (bo true n k) (b (bo true n k) ||| (nI (d k) <<< (sh true n k &&& 31)))) (by omega) (by omega) (fun i hi => by rw [zset_n _ _ (by decide)]; exact h1 i hi) (by rw [zset_n _ _ (by decide)]; exact h2) (fun j hj => by
      rw [zset_s]
      by_cases c : j = bo true n k
      · rw [c, pk_us, pk_us]
      · rw [pk_un (by omega), pk_un c, h3 j hj])
    rw [zset_zset] at e
    refine ⟨g, ?_, ?_, ?_⟩
    · show m_M_storeNumber_222b v (m_M_storeNumber_222 v fuel) (nI n) (nI (32 * x)) _ (nI k) u = _
      unfold m_M_storeNumber_222b m_M_storeNumber_266
      rw [if_neg (nI_nlt (by omega) (by omega)), nI_add, nI_mod2 (by omega), nI_div2 (by omega), nI_add, hidx k (by omega), zix_ok (by omega) (by decide), zix_ok (by omega) (by decide), zix_ok (by omega) (by decide), zix_ok (by omega) (by decide), nI_clamp (by omega), nI_clamp (by omega), h1 k (by omega), h3 _ (by omega), zau_nI _ _ _ _ (by omega), zau_nI _ _ _ _ (by omega), nI_1]
      unfold sh at e
      by_cases c : (n - k) % 2 = 1
      · rw [if_pos ⟨rfl, c⟩] at e
        rw [if_pos (show nI ((2 * (n / 2 + 1) - n - 1 + k) % 2) = 0 by rw [show (2 * (n / 2 + 1) - n - 1 + k) % 2 = 0 by omega]; rfl)]
        exact e
      · rw [if_neg (fun q => c q.2)] at e
        rw [if_neg (show ¬ nI ((2 * (n / 2 + 1) - n - 1 + k) % 2) = 0 from nI_ne0 (by omega) (by omega))]
        exact e
    · intro j hj
      rw [g1 j hj, rowK_s]
    · intro i hi
      rw [g2 i hi, zset_s, pk_un (by omega)]
theorem P_zero {x n : Nat} (hx : x < 8) (hn : n ≤ 12) (v : Nat → Int32) (X5 : Int32) : ∀ (m k fuel : Nat) (u : Nat → Nat → Int32), k + m = n / 2 + 1 → m < fuel → u 15 x = nI (n / 2 + 1) → ∃ g : Nat → Int32, m_M_storeNumber_191 v fuel (nI x) (nI n) (nI (32 * x)) X5 (nI k) u = m_M_storeNumber_222 v 64 (nI n) (nI (32 * x)) X5 0 (zset u 16 g) ∧ ∀ i, g i = if 32 * x + k ≤ i ∧ i < 32 * x + (n / 2 + 1) then 0 else u 16 i := by
  intro m
  induction m with
  | zero =>
    intro k fuel u hk hf h15
    obtain ⟨fuel, rfl⟩ : ∃ z, fuel = z + 1 := ⟨fuel - 1, by omega⟩
    refine ⟨u 16, ?_, fun i => by rw [if_neg (by omega)]⟩
    show m_M_storeNumber_191b v _ (nI x) (nI n) (nI (32 * x)) X5 (nI k) u = _
    unfold m_M_storeNumber_191b
    rw [zix_ok (show x < 9 by omega) (by decide), nI_clamp (by omega), h15, if_pos (nI_le (by omega) (by omega)), zset_self]
  | succ m ih =>
    intro k fuel u hk hf h15
    obtain ⟨fuel, rfl⟩ : ∃ z, fuel = z + 1 := ⟨fuel - 1, by omega⟩
    obtain ⟨g, e, hg⟩ := ih (k + 1) fuel (zset u 16 (upd (u 16) (32 * x + k) 0)) (by omega) (by omega) (by rw [zset_n _ _ (by decide)]; exact h15)
    rw [zset_zset] at e
    refine ⟨g, ?_, ?_⟩
    · show m_M_storeNumber_191b v (m_M_storeNumber_191 v fuel) (nI x) (nI n) (nI (32 * x)) X5 (nI k) u = _
      unfold m_M_storeNumber_191b
      rw [zix_ok (show x < 9 by omega) (by decide), nI_clamp (show x < 2 ^ 31 by omega), h15, if_neg (nI_ge (by omega) (by omega)), nI_add, zix_ok (by omega) (by decide), zau_nI _ _ _ _ (by omega), nI_1]
      exact e
    · intro i
      rw [hg i, zset_s]
      by_cases c : i = 32 * x + k
      · rw [if_neg (by omega), if_pos (by omega), c, pk_us]
      · rw [pk_un c]
        by_cases q : 32 * x + (k + 1) ≤ i ∧ i < 32 * x + (n / 2 + 1)
        · rw [if_pos q, if_pos (by omega)]
        · rw [if_neg q, if_neg (by omega)]
theorem rowK_z {d : Nat → Nat} {n : Nat} : ∀ (m k : Nat) (b : Nat → Int32) (j : Nat), rowK d false n m k b j = if k ≤ j ∧ j < k + m then b j ||| (nI (d j) <<< ((0 : Int32) &&& 31)) else b j := by
  intro m
  induction m with
  | zero => intro k b j; rw [if_neg (by omega)]; rfl
  | succ m ih =>
    intro k b j
    rw [rowK_s, ih]
    have hb : bo false n k = k := rfl
    have hs : sh false n k = 0 := rfl
    rw [hb, hs]
    by_cases c : j = k
    · rw [if_neg (by omega), if_pos (by omega), c, pk_us]
    · rw [pk_un c]
      by_cases q : k + 1 ≤ j ∧ j < k + 1 + m
      · rw [if_pos q, if_pos (by omega)]
      · rw [if_neg q, if_neg (by omega)]
theorem rowK_ext {d : Nat → Nat} {n : Nat} {pk : Bool} {S : Nat} : ∀ (m k : Nat) (b c : Nat → Int32), k + m ≤ n → (∀ k, k < n → bo pk n k < S) → (∀ j, j < S → b j = c j) → ∀ j, j < S → rowK d pk n m k b j = rowK d pk n m k c j := by
  intro m
  induction m with
  | zero => intro k b c _ _ h j hj; exact h j hj
  | succ m ih =>
    intro k b c hk hS h j hj
    rw [rowK_s, rowK_s]
    apply ih (k + 1) _ _ (by omega) hS _ j hj
    intro i hi
    rw [h _ (hS k (by omega))]
    exact upd_ext (h i hi)
/-- a number is stored in a number: both alike -/
theorem store_N {u : Nat → Nat → Int32} {x : Nat} (hx : x < 8) {pk : Bool} {f : Nat → Int32} {N a before behind n low : Nat} (hU : rU u x pk f N a before behind n low) (hd : nfd f N a before behind n low) {V : Int64} {s : Nat} {v : Nat → Int32} (hR : NR V s v u) {vn : Nat → Int32} (hC : cU vn pk a before behind n low) (b : Nat → Int32) :
    ∃ b' u', m_N_takeNumber V (nI s) vn b = some (1, b') ∧ m_M_storeNumber (nI x) v u = some u' ∧ stx x u u' ∧ ∀ j, j < fsz pk n → b' j = u' 16 (32 * x + j) := by
  have hd' := hd
  obtain ⟨hN, ha, h0, hc, hl, hbh, hbf, hlb, -⟩ := hd'
  have hU' := hU
  obtain ⟨⟨r2, r3, r4, r5, r7, r8, r9, r10⟩, r6, r15⟩ := hU'
  have eC := C_takeNumber hC h0 hl ha hlb hbh hR.1 (V := V) b
  generalize hdd : dnu V s n low behind = d at eC
  have hd9 : ∀ k, d k ≤ 9 := fun k => by rw [← hdd]; exact dnu_le _ _ _ _ _ _
  have hfs := fsz_le pk h0
  -- the sign
  have hbel := P_isBelow hx hN r2 (D := dsy f d) (fun k hk => by rw [← hdd]; exact P_dsy hx hU.1 hd hR hk) (dsy_le hd9)
  rw [dsy_any hc, r9] at hbel
  have ha0 : (nI a = 0) ↔ a = 0 := nI_eq (b := 0) (by omega) (by decide)
  have hneg : (if v 21 = 0 then (0 : Int32) else if anz d 0 n = false then 0 else if nI a = 0 then 0 else 1) = (if cneg V a (anz d 0 n) = true then 1 else 0) := by
    unfold cneg
    cases q : anz d 0 n
    · simp
    · obtain ⟨i, _, i2, i3⟩ := (anz_iff _ _).mp q
      rw [← hdd] at i3
      have hg := NR_neg hR i3
      by_cases c : a = 0
      · simp [c, nI_0]
      · have : ¬ nI a = 0 := fun e => c (ha0.mp e)
        by_cases e : v 21 = 0
        · simp [e, hg.mpr e]
        · have : ¬ 0 ≤ lg_cmp V 0 := fun z => e (hg.mp z)
          simp [c, e, this, ha0]
  rw [hneg] at hbel
  generalize cneg V a (anz d 0 n) = neg at eC hbel
  obtain ⟨g, e, g1, -⟩ := P_chars hx hU hd hR (if neg = true then 1 else 0) N 0 64 u (by omega) (by omega) (fun _ _ => rfl)
  have g1 : ∀ i, i < n → g i = nI (d i) := fun i hi => by rw [g1 i (Nat.zero_le _) hi, hdd]
  have hst : m_M_storeNumber (nI x) v u = m_M_storeNumber_27 v 64 (nI x) (if neg = true then 1 else 0) (nI (cnt f 57 0 0)) (nI 0) u := by
    unfold m_M_storeNumber
    rw [zix_ok (show x < 9 by omega) (by decide), nI_clamp (by omega), r5, if_neg (by decide), hbel]; rfl
  rw [e] at hst
  cases pk
  · -- zoned
    rw [if_neg (by decide)] at hst
    obtain ⟨g', e', hg'⟩ := P_zoned hx h0 (by omega) (d := d) (if neg = true then 1 else 0) v n 0 64 (zset u 18 g) (by omega) (by omega) (fun i hi => by rw [zset_s]; exact g1 i hi)
    rw [show nI 0 = 0 from rfl] at e'
    rw [e'] at hst
    refine ⟨_, _, eC, hst, ⟨?_, ?_⟩, ?_⟩
    · intro r q1 q2
      rw [zset_n _ _ q1, zset_n _ _ q2]
    · intro i hi
      rw [zset_s]
      have : g' i = u 16 i := by rw [hg' i, if_neg (by omega), zset_n _ _ (by decide)]
      by_cases c : (if neg = true then (1 : Int32) else 0) = 0
      · rw [if_pos c]; exact this
      · rw [if_neg c, pk_un (by omega), this]
    · intro j hj
      have hj : j < n := hj
      have hn1 : fsz false n = n := rfl
      have hor : ∀ d, d ≤ 9 → (48 : Int32) ||| (nI d <<< ((0 : Int32) &&& 31)) = nI (48 + d) := by
        intro d hd
        exact (by decide : ∀ d, d < 10 → (48 : Int32) ||| (nI d <<< ((0 : Int32) &&& 31)) = nI (48 + d)) d (by omega)
      have hrow : ∀ j, j < n → rowK d false n n 0 (row0 false n b) j = nI (48 + d j) := by
        intro j hj
        rw [rowK_z, if_pos (by omega)]
        unfold row0
        rw [if_pos hj, if_neg (by decide)]
        exact hor _ (hd9 j)
      have hg : ∀ j, j < n → g' (32 * x + j) = nI (48 + d j) := by
        intro j hj
        rw [hg', if_pos (by omega), show 32 * x + j - 32 * x = j by omega]
      rw [zset_s, hn1, hrow (n - 1) (by omega)]
      unfold sbt
      rw [if_neg (by decide)]
      have h9 := hd9 (n - 1)
      cases neg
      · rw [if_neg (show ¬ false = true by decide), if_pos (show (if false = true then (1 : Int32) else 0) = 0 from rfl), hg j hj]
        by_cases c : j = n - 1
        · rw [c, pk_us]
          exact (by decide : ∀ d, d < 10 → nI (48 + d) ||| 0 = nI (48 + d)) (d (n - 1)) (by omega)
        · rw [pk_un c, hrow j hj]
      · rw [if_pos (show true = true from rfl), if_neg (show ¬ (if true = true then (1 : Int32) else 0) = 0 by decide)]
        by_cases c : j = n - 1
        · rw [c, pk_us, pk_us, hg _ (by omega)]
          exact (by decide : ∀ d, d < 10 → nI (48 + d) ||| 64 = nI (48 + d) + 64) (d (n - 1)) (by omega)
        · rw [pk_un c, pk_un (by omega), hrow j hj, hg j hj]
  · -- packed
    rw [if_pos rfl] at hst
    have hn2 : fsz true n = n / 2 + 1 := rfl
    have hsg : (if a = 0 then (15 : Int32) else if (if neg = true then (1 : Int32) else 0) = 0 then 12 else 13) = sbt true a neg := by
      unfold sbt
      rw [if_pos rfl]
      cases neg <;> rfl
    rw [hsg] at hst
    have hsh : sbt true a neg <<< ((0 : Int32) &&& 31) = sbt true a neg := by
      unfold sbt
      rw [if_pos rfl]
      repeat' split
      all_goals decide
    obtain ⟨ga, ea, hga⟩ := P_zero hx (show n ≤ 12 by omega) v (nI (2 * (n / 2 + 1) - n - 1)) (n / 2 + 1) 0 64 (zset (zset u 18 g) 18 (upd g n (sbt true a neg))) (by omega) (by omega) (by rw [zset_n _ _ (by decide), zset_n _ _ (by decide), r15]; rfl)
    rw [zset_zset] at ea hga
    obtain ⟨gb, eb, gb1, gb2⟩ := P_packed hx h0 (show n ≤ 12 by omega) (d := d) (sbt true a neg) hsh v n 0 64 (zset (zset u 18 (upd g n (sbt true a neg))) 16 ga) (row0 true (fsz true n) b) (by omega) (by omega) (fun i hi => by rw [zset_n _ _ (by decide), zset_s, pk_un (by omega)]; exact g1 i hi) (by rw [zset_n _ _ (by decide), zset_s, pk_us]) (fun j hj => by
      rw [zset_s, hga, if_pos (by omega)]
      unfold row0
      rw [hn2, if_pos hj, if_pos rfl])
    rw [show nI 0 = 0 from rfl] at ea eb
    have h173 : m_M_storeNumber_173 v (nI x) (nI n) (nI (32 * x)) (sbt true a neg) (nI n) (zset u 18 g) = some (zset (zset (zset u 18 (upd g n (sbt true a neg))) 16 ga) 16 gb) := by
      unfold m_M_storeNumber_173
      rw [zix_ok (by omega) (by decide), zix_ok (show x < 9 by omega) (by decide), nI_clamp (by omega), zau_nI _ _ _ _ (by omega), zset_zset, zset_s, zset_n _ _ (show (15 : Nat) ≠ 18 by decide), r15, n2, hn2, pk_sub (by omega), sub1 (by omega), ea, eb]
    rw [h173] at hst
    refine ⟨_, _, eC, hst, ⟨?_, ?_⟩, ?_⟩
    · intro r q1 q2
      rw [zset_n _ _ q1, zset_n _ _ q1, zset_n _ _ q2]
    · intro i hi
      rw [zset_s, gb2 i hi, zset_s, hga, if_neg (by omega), zset_n _ _ (by decide)]
    · intro j hj
      rw [zset_s, gb1 j hj, hn2]
      rfl
