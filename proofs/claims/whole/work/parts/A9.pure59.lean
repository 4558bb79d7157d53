/-! declare: the reference lays the draft down as a field. -/
def CP (u u2 : Nat → Nat → Int32) (x : Nat) (a1 len : Int32) : Prop :=
  (∀ j, j < 24 → u2 3 (24 * x + j) = u 3 (192 + j) ∧ u2 4 (24 * x + j) = u 4 (192 + j)) ∧
  (u2 2 x = u 2 8 ∧ u2 5 x = u 5 8 ∧ u2 7 x = u 7 8 ∧ u2 8 x = u 8 8 ∧ u2 9 x = vp_nar .boolean (u 9 8) ∧ u2 10 x = u 10 8 ∧ u2 11 x = u 11 8 ∧ u2 12 x = u 12 8 ∧ u2 13 x = u 13 8 ∧ u2 14 x = u 14 8) ∧
  u2 6 x = a1 ∧ u2 15 x = len ∧ (∀ z, z < 8 → z ≠ x → kp z u u2) ∧ u2 1 = u 1 ∧ u2 16 = u 16
theorem P_cp103 {x : Nat} (hx : x < 8) (a1 : Int32) (v : Nat → Int32) : ∀ (m k fuel : Nat) (u : Nat → Nat → Int32), k + m = 24 → m < fuel → ∃ g3 g4 : Nat → Int32, m_M_declare_103 fuel a1 (nI x) (nI k) v u = m_M_declare_103b (fun _ _ _ _ _ => none) a1 (nI x) 24 v (zset (zset u 3 g3) 4 g4) ∧ (∀ i, g3 i = if 24 * x + k ≤ i ∧ i < 24 * x + 24 then u 3 (192 + (i - 24 * x)) else u 3 i) ∧ ∀ i, g4 i = if 24 * x + k ≤ i ∧ i < 24 * x + 24 then u 4 (192 + (i - 24 * x)) else u 4 i := by
  intro m
  induction m with
  | zero =>
    intro k fuel u hk hf
    obtain ⟨fuel, rfl⟩ : ∃ z, fuel = z + 1 := ⟨fuel - 1, by omega⟩
    refine ⟨u 3, u 4, ?_, fun i => by rw [if_neg (by omega)], fun i => by rw [if_neg (by omega)]⟩
    have e : zset (zset u 3 (u 3)) 4 (u 4) = u := by rw [zset_self, zset_self]
    obtain rfl : k = 24 := by omega
    rw [e]
    show m_M_declare_103b _ a1 (nI x) 24 v u = _
    unfold m_M_declare_103b
    rw [if_pos (by decide), if_pos (by decide)]
  | succ m ih =>
    intro k fuel u hk hf
    obtain ⟨fuel, rfl⟩ : ∃ z, fuel = z + 1 := ⟨fuel - 1, by omega⟩
    obtain ⟨g3, g4, e, h3, h4⟩ := ih (k + 1) fuel (zset (zset u 3 (upd (u 3) (24 * x + k) (u 3 (192 + k)))) 4 (upd (u 4) (24 * x + k) (u 4 (192 + k)))) (by omega) (by omega)
    refine ⟨g3, g4, ?_, fun i => ?_, fun i => ?_⟩
    · have e' : zset (zset (zset (zset u 3 (upd (u 3) (24 * x + k) (u 3 (192 + k)))) 4 (upd (u 4) (24 * x + k) (u 4 (192 + k)))) 3 g3) 4 g4 = zset (zset u 3 g3) 4 g4 := by
        rw [zset_comm (zset u 3 _) _ _ (show (4 : Nat) ≠ 3 by decide), zset_zset, zset_zset]
      rw [e'] at e
      show m_M_declare_103b (m_M_declare_103 fuel) a1 (nI x) (nI k) v u = _
      unfold m_M_declare_103b at e ⊢
      rw [if_neg (show ¬ 24 ≤ nI k from nI_ge (b := 24) (by omega) (by decide)), show (8 : Int32) = nI 8 from rfl, P_sym (by omega) (by omega), Option.bind_some, n24, zix_ok (by omega) (by decide), show (192 : Int32) = nI 192 from rfl, nI_add, zix_ok (by omega) (by decide), zix_ok (by omega) (by decide), zau_nI _ _ _ _ (by omega), zau_nI _ _ _ _ (by omega), nI_clamp (by omega), zset_n _ _ (show (4 : Nat) ≠ 3 by decide), nI_1]
      exact e
    · rw [h3 i, zset_n _ _ (by decide), zset_s]
      by_cases c : i = 24 * x + k
      · rw [if_neg (show ¬ (24 * x + (k + 1) ≤ i ∧ i < 24 * x + 24) by omega), if_pos (show 24 * x + k ≤ i ∧ i < 24 * x + 24 by omega), c, pk_us, show 24 * x + k - 24 * x = k by omega]
      · by_cases d : 24 * x + (k + 1) ≤ i ∧ i < 24 * x + 24
        · rw [if_pos d, if_pos (show 24 * x + k ≤ i ∧ i < 24 * x + 24 by omega), pk_un (by omega)]
        · rw [if_neg d, if_neg (show ¬ (24 * x + k ≤ i ∧ i < 24 * x + 24) by omega), pk_un c]
    · rw [h4 i, zset_s]
      by_cases c : i = 24 * x + k
      · rw [if_neg (show ¬ (24 * x + (k + 1) ≤ i ∧ i < 24 * x + 24) by omega), if_pos (show 24 * x + k ≤ i ∧ i < 24 * x + 24 by omega), c, pk_us, show 24 * x + k - 24 * x = k by omega]
      · by_cases d : 24 * x + (k + 1) ≤ i ∧ i < 24 * x + 24
        · rw [if_pos d, if_pos (show 24 * x + k ≤ i ∧ i < 24 * x + 24 by omega), pk_un (by omega)]
        · rw [if_neg d, if_neg (show ¬ (24 * x + k ≤ i ∧ i < 24 * x + 24) by omega), pk_un c]
/-- one place of one row -/
def zp (u : Nat → Nat → Int32) (r x : Nat) (a : Int32) : Nat → Nat → Int32 := zset u r (upd (u r) x a)
theorem zp_n (u : Nat → Nat → Int32) {r q : Nat} (x : Nat) (a : Int32) (h : q ≠ r) : zp u r x a q = u q := zset_n _ _ h
theorem zp_s (u : Nat → Nat → Int32) (r x : Nat) (a : Int32) : zp u r x a r x = a := by unfold zp; rw [zset_s, pk_us]
theorem zp_o (u : Nat → Nat → Int32) (r : Nat) {x z : Nat} (a : Int32) (h : z ≠ x) (q : Nat) : zp u r x a q z = u q z := by
  unfold zp
  by_cases c : q = r
  · rw [c, zset_s, pk_un h]
  · rw [zset_n _ _ c]
theorem zau_zp (u : Nat → Nat → Int32) (r : Nat) {x : Nat} (hx : x < 8) (a : Int32) : zau u r (nI x) a = zp u r x a := zau_nI _ _ _ _ (by omega)
/-- the reference's declare behind a picture that is good: up to the bytes -/
theorem P_lay {x : Nat} (hx : x < 8) (a1 : Int32) {v : Nat → Int32} (h3 : v 3 = nI x) (u : Nat → Nat → Int32) : ∃ u2 : Nat → Nat → Int32, CP u u2 x a1 (if a1 = 1 then u 15 8 / 2 + 1 else u 15 8) ∧ m_M_declare_51 a1 v u = (m_M_nothing (upd (upd (upd (upd v 1 0) 0 0) 3 (nI (x + 1))) 23 0) u2).bind (fun q34 => (if ((q34.2 5) x) = 1 then (m_M_storeText (nI x) q34.1 q34.2).bind (fun q38 => (some (nI x, q34.1, q38))) else (m_M_storeNumber (nI x) q34.1 q34.2).bind (fun q37 => (some (nI x, q34.1, q37))))) := by
  have h3' : upd (upd v 1 0) 0 0 3 = nI x := by rw [pk_un (by decide), pk_un (by decide)]; exact h3
  have e51 : m_M_declare_51 a1 v u = m_M_declare_103 64 a1 (nI x) 0 (upd (upd v 1 0) 0 0) (zp u 2 x (u 2 8)) := by
    simp only [m_M_declare_51, m_M_declare_56, m_M_declare_73, show ¬ (1 : Int32) = 0 by decide, if_false, P_fails0, Option.bind_some, if_true, zix8, h3', zix_ok (show x < 9 by omega) (show 9 < 2 ^ 31 by decide), zau_zp _ _ hx, c8]
  obtain ⟨g3, g4, e, k3, k4⟩ := P_cp103 hx a1 (upd (upd v 1 0) 0 0) 24 0 64 (zp u 2 x (u 2 8)) (by omega) (by omega)
  rw [zp_n _ _ _ (show (3 : Nat) ≠ 2 by decide)] at k3
  rw [zp_n _ _ _ (show (4 : Nat) ≠ 2 by decide)] at k4
  rw [e51, show m_M_declare_103 64 a1 (nI x) 0 (upd (upd v 1 0) 0 0) (zp u 2 x (u 2 8)) = _ from e]
  generalize hU : zset (zset (zp u 2 x (u 2 8)) 3 g3) 4 g4 = U
  have U3 : U 3 = g3 := by rw [← hU, zset_n _ _ (by decide), zset_s]
  have U4 : U 4 = g4 := by rw [← hU, zset_s]
  have U2 : U 2 x = u 2 8 := by rw [← hU, zset_n _ _ (by decide), zset_n _ _ (by decide), zp_s]
  have Uo : ∀ r, r ≠ 2 → r ≠ 3 → r ≠ 4 → U r = u r := fun r q1 q2 q3 => by rw [← hU, zset_n _ _ q3, zset_n _ _ q2, zp_n _ _ _ q1]
  have U2o : ∀ z, z ≠ x → U 2 z = u 2 z := fun z hz => by rw [← hU, zset_n _ _ (by decide), zset_n _ _ (by decide), zp_o _ _ _ hz]
  refine ⟨zp (zp (zp (zp (zp (zp (zp (zp (zp (zp (zp U 5 x (u 5 8)) 6 x a1) 7 x (u 7 8)) 8 x (u 8 8)) 9 x (vp_nar .boolean (u 9 8))) 10 x (u 10 8)) 11 x (u 11 8)) 12 x (u 12 8)) 13 x (u 13 8)) 14 x (u 14 8)) 15 x (if a1 = 1 then u 15 8 / 2 + 1 else u 15 8), ⟨?_, ?_, ?_, ?_, ?_, ?_, ?_⟩, ?_⟩
  · intro j hj
    simp only [zp_n _ _ _ (show (3 : Nat) ≠ 15 by decide), zp_n _ _ _ (show (3 : Nat) ≠ 14 by decide), zp_n _ _ _ (show (3 : Nat) ≠ 13 by decide), zp_n _ _ _ (show (3 : Nat) ≠ 12 by decide), zp_n _ _ _ (show (3 : Nat) ≠ 11 by decide), zp_n _ _ _ (show (3 : Nat) ≠ 10 by decide), zp_n _ _ _ (show (3 : Nat) ≠ 9 by decide), zp_n _ _ _ (show (3 : Nat) ≠ 8 by decide), zp_n _ _ _ (show (3 : Nat) ≠ 7 by decide), zp_n _ _ _ (show (3 : Nat) ≠ 6 by decide), zp_n _ _ _ (show (3 : Nat) ≠ 5 by decide), zp_n _ _ _ (show (4 : Nat) ≠ 15 by decide), zp_n _ _ _ (show (4 : Nat) ≠ 14 by decide), zp_n _ _ _ (show (4 : Nat) ≠ 13 by decide), zp_n _ _ _ (show (4 : Nat) ≠ 12 by decide), zp_n _ _ _ (show (4 : Nat) ≠ 11 by decide), zp_n _ _ _ (show (4 : Nat) ≠ 10 by decide), zp_n _ _ _ (show (4 : Nat) ≠ 9 by decide), zp_n _ _ _ (show (4 : Nat) ≠ 8 by decide), zp_n _ _ _ (show (4 : Nat) ≠ 7 by decide), zp_n _ _ _ (show (4 : Nat) ≠ 6 by decide), zp_n _ _ _ (show (4 : Nat) ≠ 5 by decide), U3, U4]
    rw [k3, k4, if_pos (show 24 * x + 0 ≤ 24 * x + j ∧ 24 * x + j < 24 * x + 24 by omega), if_pos (show 24 * x + 0 ≤ 24 * x + j ∧ 24 * x + j < 24 * x + 24 by omega), show 24 * x + j - 24 * x = j by omega]
    exact ⟨rfl, rfl⟩
  · refine ⟨?_, ?_, ?_, ?_, ?_, ?_, ?_, ?_, ?_, ?_⟩
    · iterate 11 rw [zp_n _ _ _ (by decide)]
      exact U2
    · iterate 10 rw [zp_n _ _ _ (by decide)]
      rw [zp_s]
    · iterate 8 rw [zp_n _ _ _ (by decide)]
      rw [zp_s]
    · iterate 7 rw [zp_n _ _ _ (by decide)]
      rw [zp_s]
    · iterate 6 rw [zp_n _ _ _ (by decide)]
      rw [zp_s]
    · iterate 5 rw [zp_n _ _ _ (by decide)]
      rw [zp_s]
    · iterate 4 rw [zp_n _ _ _ (by decide)]
      rw [zp_s]
    · iterate 3 rw [zp_n _ _ _ (by decide)]
      rw [zp_s]
    · iterate 2 rw [zp_n _ _ _ (by decide)]
      rw [zp_s]
    · rw [zp_n _ _ _ (by decide), zp_s]
  · iterate 9 rw [zp_n _ _ _ (by decide)]
    rw [zp_s]
  · rw [zp_s]
  · intro z hz hzx
    refine ⟨fun r hr => ?_, fun j hj => ?_⟩
    · iterate 11 rw [zp_o _ _ _ hzx]
      by_cases c : r = 2
      · rw [c]; exact U2o z hzx
      · rw [Uo r c (by omega) (by omega)]
    · iterate 11 rw [zp_n _ _ _ (by decide)]
      iterate 11 rw [zp_n _ _ _ (by decide)]
      rw [U3, U4, k3, k4, if_neg (show ¬ (24 * x + 0 ≤ 24 * z + j ∧ 24 * z + j < 24 * x + 24) by omega), if_neg (show ¬ (24 * x + 0 ≤ 24 * z + j ∧ 24 * z + j < 24 * x + 24) by omega)]
      exact ⟨rfl, rfl⟩
  · iterate 11 rw [zp_n _ _ _ (by decide)]
    exact Uo 1 (by decide) (by decide) (by decide)
  · iterate 11 rw [zp_n _ _ _ (by decide)]
    exact Uo 16 (by decide) (by decide) (by decide)
  · have u5 := Uo 5 (by decide) (by decide) (by decide)
    have u7 := Uo 7 (by decide) (by decide) (by decide)
    have u8 := Uo 8 (by decide) (by decide) (by decide)
    have u9 := Uo 9 (by decide) (by decide) (by decide)
    have u10 := Uo 10 (by decide) (by decide) (by decide)
    have u11 := Uo 11 (by decide) (by decide) (by decide)
    have u12 := Uo 12 (by decide) (by decide) (by decide)
    have u13 := Uo 13 (by decide) (by decide) (by decide)
    have u14 := Uo 14 (by decide) (by decide) (by decide)
    have u15 := Uo 15 (by decide) (by decide) (by decide)
    have s103 : m_M_declare_103b (fun _ _ _ _ _ => none) a1 (nI x) 24 (upd (upd v 1 0) 0 0) U = m_M_declare_192 a1 (nI x) (upd (upd v 1 0) 0 0) (zp (zp (zp U 5 x (u 5 8)) 6 x a1) 7 x (u 7 8)) := by
      unfold m_M_declare_103b
      rw [if_pos (by decide)]
      simp only [zix8, zix_ok (show x < 9 by omega) (show 9 < 2 ^ 31 by decide), zau_zp _ _ hx, c8, zp_n _ _ _ (show (7 : Nat) ≠ 6 by decide), zp_n _ _ _ (show (7 : Nat) ≠ 5 by decide), u5, u7]
    have s192 : ∀ W : Nat → Nat → Int32, W 8 = u 8 → W 9 = u 9 → W 10 = u 10 → m_M_declare_192 a1 (nI x) (upd (upd v 1 0) 0 0) W = m_M_declare_231 a1 (nI x) (upd (upd v 1 0) 0 0) (zp (zp (zp W 8 x (u 8 8)) 9 x (vp_nar .boolean (u 9 8))) 10 x (u 10 8)) := by
      intro W w8 w9 w10
      unfold m_M_declare_192
      simp only [zix8, zix_ok (show x < 9 by omega) (show 9 < 2 ^ 31 by decide), zau_zp _ _ hx, c8, zp_n _ _ _ (show (9 : Nat) ≠ 8 by decide), zp_n _ _ _ (show (10 : Nat) ≠ 8 by decide), zp_n _ _ _ (show (10 : Nat) ≠ 9 by decide), w8, w9, w10]
    have s231 : ∀ W : Nat → Nat → Int32, W 11 = u 11 → W 12 = u 12 → W 13 = u 13 → m_M_declare_231 a1 (nI x) (upd (upd v 1 0) 0 0) W = m_M_declare_270 a1 (nI x) (upd (upd v 1 0) 0 0) (zp (zp (zp W 11 x (u 11 8)) 12 x (u 12 8)) 13 x (u 13 8)) := by
      intro W w8 w9 w10
      unfold m_M_declare_231
      simp only [zix8, zix_ok (show x < 9 by omega) (show 9 < 2 ^ 31 by decide), zau_zp _ _ hx, c8, zp_n _ _ _ (show (12 : Nat) ≠ 11 by decide), zp_n _ _ _ (show (13 : Nat) ≠ 11 by decide), zp_n _ _ _ (show (13 : Nat) ≠ 12 by decide), w8, w9, w10]
    have s270 : ∀ W : Nat → Nat → Int32, W 14 = u 14 → W 15 = u 15 → m_M_declare_270 a1 (nI x) (upd (upd v 1 0) 0 0) W = m_M_declare_314 (nI x) (if a1 = 1 then u 15 8 / 2 + 1 else u 15 8) (nI x) (upd (upd v 1 0) 0 0) (zp W 14 x (u 14 8)) := by
      intro W w8 w9
      unfold m_M_declare_270
      simp only [zix8, zix_ok (show x < 9 by omega) (show 9 < 2 ^ 31 by decide), zau_zp _ _ hx, c8, zp_n _ _ _ (show (15 : Nat) ≠ 14 by decide), w8, w9]
      by_cases c : a1 = 1
      · rw [if_pos c, if_pos c]
      · rw [if_neg c, if_neg c]
    rw [s103, s192, s231, s270]
    · unfold m_M_declare_314
      simp only [zix_ok (show x < 9 by omega) (show 9 < 2 ^ 31 by decide), zau_zp _ _ hx, h3', nI_1, nI_clamp (show x < 2 ^ 31 by omega)]
    all_goals
      repeat rw [zp_n _ _ _ (by decide)]
      first | exact u8 | exact u9 | exact u10 | exact u11 | exact u12 | exact u13 | exact u14 | exact u15
