def lst (f : Nat → Int32) (fl : Int32) : Nat → Nat → Int32 → Int32
  | 0, _, l => l
  | n + 1, k, l => lst f fl n (k + 1) (if f k = fl then nI k else l)
theorem lst_some {f : Nat → Int32} {fl : Int32} : ∀ (n k : Nat) (l : Int32), (lst f fl n k l = l ∧ ∀ j, k ≤ j → j < k + n → ¬ f j = fl) ∨ ∃ w, k ≤ w ∧ w < k + n ∧ lst f fl n k l = nI w ∧ f w = fl ∧ ∀ j, w < j → j < k + n → ¬ f j = fl := by
  intro n
  induction n with
  | zero => intro k l; exact Or.inl ⟨rfl, fun j h1 h2 => by omega⟩
  | succ n ih =>
    intro k l
    rcases ih (k + 1) (if f k = fl then nI k else l) with ⟨g1, g2⟩ | ⟨w, w1, w2, w3, w4, w5⟩
    · by_cases h : f k = fl
      · refine Or.inr ⟨k, Nat.le_refl _, by omega, ?_, h, fun j j1 j2 => g2 j (by omega) (by omega)⟩
        show lst f fl n (k + 1) _ = _
        rw [g1, if_pos h]
      · refine Or.inl ⟨?_, fun j j1 j2 => ?_⟩
        · show lst f fl n (k + 1) _ = _
          rw [g1, if_neg h]
        · by_cases hj : j = k
          · rw [hj]; exact h
          · exact g2 j (by omega) (by omega)
    · exact Or.inr ⟨w, by omega, by omega, w3, w4, fun j j1 j2 => w5 j j1 (by omega)⟩
theorem P_ord_l {v f : Nat → Int32} {u : Nat → Nat → Int32} {a e m : Nat} {fl : Int32} (hm : m ≤ 24) (hf : ∀ j, u 3 (192 + j) = f j) : ∀ (n k fuel : Nat) (l : Int32), k + n = m → n < fuel →
    m_M_ordered_62 v u fuel (nI a) (nI e) fl (nI m) l (nI k) = (m_M_countOf 57 (nI a) (lst f fl n k l) v u).bind (fun q10 => (if q10 ≤ 0 then (m_M_countOf fl (nI m) (nI e) v u).bind (fun q12 => (if q12 = 0 then some 1 else (m_M_countOf 57 (nI a) (nI e) v u).bind (fun q15 => (if q15 = 0 then some 1 else some 0)))) else some 0)) := by
  intro n
  induction n with
  | zero =>
    intro k fuel l hk hfu
    obtain ⟨fuel, rfl⟩ : ∃ z, fuel = z + 1 := ⟨fuel - 1, by omega⟩
    show m_M_ordered_62b v u _ (nI a) (nI e) fl (nI m) l (nI k) = _
    unfold m_M_ordered_62b m_M_ordered_136
    rw [if_pos (nI_le (by omega) (by omega))]
    simp only [zbo_0, zbo_1]
    rfl
  | succ n ih =>
    intro k fuel l hk hfu
    obtain ⟨fuel, rfl⟩ : ∃ z, fuel = z + 1 := ⟨fuel - 1, by omega⟩
    show m_M_ordered_62b v u (m_M_ordered_62 v u fuel) (nI a) (nI e) fl (nI m) l (nI k) = _
    unfold m_M_ordered_62b m_M_ordered_88
    rw [if_neg (nI_ge (by omega) (by omega)), show (8 : Int32) = nI 8 from rfl, P_sym (by omega) (by omega)]
    simp only [Option.bind_some, nI_1]
    rw [show 24 * 8 + k = 192 + k by omega, hf k]
    have hl : lst f fl (n + 1) k l = lst f fl n (k + 1) (if f k = fl then nI k else l) := rfl
    rw [hl]
    by_cases h : f k = fl
    · rw [if_pos h, if_pos h]
      exact ih (k + 1) fuel (nI k) (by omega) (by omega)
    · rw [if_neg h, if_neg h]
      exact ih (k + 1) fuel l (by omega) (by omega)
theorem P_ord35 {v f : Nat → Int32} {u : Nat → Nat → Int32} {a e m : Nat} {fl : Int32} (ham : a ≤ m) (hme : m ≤ e) (he : e ≤ 24) (hf : ∀ j, u 3 (192 + j) = f j) :
    (OR f a e m fl ∧ m_M_ordered_35 v u (nI a) (nI e) fl (nI m) = some 1) ∨ (¬ OR f a e m fl ∧ m_M_ordered_35 v u (nI a) (nI e) fl (nI m) = some 0) := by
  have hfun : (fun j => u 3 (192 + j)) = f := funext hf
  have hcl := cnt_le f fl (m - a) a
  have hcl2 := cnt_le f fl (e - m) m
  have hcl9 := cnt_le f 57 (e - a) a
  unfold m_M_ordered_35
  rw [P_countOf ham (by omega), hfun]
  simp only [Option.bind_some, zbo_0]
  by_cases h1 : cnt f fl a (m - a) = 0
  · rw [if_pos (by rw [h1]; rfl)]
    refine Or.inr ⟨fun z => ?_, rfl⟩
    obtain ⟨j, j1, j2, j3⟩ := z.1
    exact cnt_z h1 j j1 (by omega) j3
  · rw [if_neg (nI_ne0 (by omega) (by omega)), P_firstOf (by omega) he, hfun]
    simp only [Option.bind_some]
    rw [P_ord_l (by omega) hf (m - a) a 64 _ (by omega) (by omega)]
    rcases lst_some (f := f) (fl := fl) (m - a) a (fstI f fl a (e - a)) with ⟨-, g2⟩ | ⟨w, w1, w2, w3, w4, w5⟩
    · exact absurd (cnt_no (m - a) a g2) h1
    · rw [w3, P_countOf w1 (by omega), hfun]
      simp only [Option.bind_some]
      have hw9 := cnt_le f 57 (w - a) a
      by_cases h2 : cnt f 57 a (w - a) = 0
      · rw [if_pos (show nI (cnt f 57 a (w - a)) ≤ 0 by rw [h2]; decide), P_countOf hme he, hfun]
        simp only [Option.bind_some]
        have k2 : ∀ i j, a ≤ i → i < j → j < m → f i = 57 → ¬ f j = fl := by
          intro i j i1 i2 i3 i4 i5
          rcases Nat.lt_or_ge w j with hwj | hwj
          · exact w5 j hwj (by omega) i5
          · exact cnt_z h2 i i1 (by omega) i4
        by_cases h3 : cnt f fl m (e - m) = 0
        · rw [if_pos (by rw [h3]; rfl)]
          exact Or.inl ⟨⟨⟨w, w1, by omega, w4⟩, k2, Or.inl (fun j j1 j2 => cnt_z h3 j j1 (by omega))⟩, rfl⟩
        · rw [if_neg (nI_ne0 (by omega) (by omega)), P_countOf (by omega) he, hfun]
          simp only [Option.bind_some]
          by_cases h4 : cnt f 57 a (e - a) = 0
          · rw [if_pos (by rw [h4]; rfl)]
            exact Or.inl ⟨⟨⟨w, w1, by omega, w4⟩, k2, Or.inr (fun j j1 j2 => cnt_z h4 j j1 (by omega))⟩, rfl⟩
          · rw [if_neg (nI_ne0 (by omega) (by omega))]
            refine Or.inr ⟨fun z => ?_, rfl⟩
            rcases z.2.2 with z | z
            · exact h3 (cnt_no (e - m) m (fun j j1 j2 => z j j1 (by omega)))
            · exact h4 (cnt_no (e - a) a (fun j j1 j2 => z j j1 (by omega)))
      · rw [if_neg (nI_nle (by omega) (by omega))]
        refine Or.inr ⟨fun z => ?_, rfl⟩
        refine h2 (cnt_no (w - a) a (fun j j1 j2 j3 => z.2.1 j w j1 (by omega) (by omega) j3 w4))
theorem P_ordered {v f : Nat → Int32} {u : Nat → Nat → Int32} {a e : Nat} {fl : Int32} {pt : Option Nat} (hae : a ≤ e) (he : e ≤ 24) (hf : ∀ j, u 3 (192 + j) = f j) (h11 : u 11 8 = fl) (h14 : u 14 8 = vx pt) (hpt : ∀ w, pt = some w → a ≤ w ∧ w < e) :
    (fl = 0 ∧ m_M_ordered (nI a) (nI e) v u = some 1) ∨ (fl ≠ 0 ∧ OR f a e (pt.getD e) fl ∧ m_M_ordered (nI a) (nI e) v u = some 1) ∨ (fl ≠ 0 ∧ ¬ OR f a e (pt.getD e) fl ∧ m_M_ordered (nI a) (nI e) v u = some 0) := by
  unfold m_M_ordered
  rw [zix8, zix8, zix8, c8, h11, h14]
  by_cases h0 : fl = 0
  · rw [if_pos h0, zbo_1]; exact Or.inl ⟨h0, rfl⟩
  · rw [if_neg h0]
    cases pt with
    | none =>
      rw [if_neg (show ¬ (0 : Int32) ≤ vx none by decide)]
      rcases P_ord35 (v := v) (u := u) (a := a) (e := e) (m := e) (fl := fl) hae (Nat.le_refl _) he hf with h | h
      · exact Or.inr (Or.inl ⟨h0, h⟩)
      · exact Or.inr (Or.inr ⟨h0, h⟩)
    | some w =>
      obtain ⟨w1, w2⟩ := hpt w rfl
      rw [if_pos (show (0 : Int32) ≤ vx (some w) from nI_pos' (by omega))]
      rcases P_ord35 (v := v) (u := u) (a := a) (e := e) (m := w) (fl := fl) w1 (by omega) he hf with h | h
      · exact Or.inr (Or.inl ⟨h0, h⟩)
      · exact Or.inr (Or.inr ⟨h0, h⟩)
