/-! The class edits. -/
def fxc (y : Int32) (neg : Bool) : Int32 := if y = 36 then 36 else sgf y neg
theorem C_fixed (y : Int32) (neg : Bool) : m_E_fixedCharacter y (if neg = true then 1 else 0) = some (fxc y neg) := by
  unfold m_E_fixedCharacter fxc sgf
  cases neg
  · simp only [Bool.false_eq_true, if_false, if_true]
    repeat' split
    all_goals rfl
  · simp only [if_true, show ¬ (1 : Int32) = 0 by decide, if_false]
    split <;> rfl
def spr (fl : Int32) : Int32 := if fl = 42 then 42 else 32
theorem C_supp {v : Nat → Int32} {fl : Int32} (h : v 11 = (if fl = 0 then -1 else fl)) (b rw pw : Nat → Int32) : m_E_suppressed v b rw pw = some (spr fl) := by
  unfold m_E_suppressed spr
  rw [h]
  by_cases c : fl = 0
  · rw [if_pos c, if_neg (by decide), if_neg (by rw [c]; decide)]
  · rw [if_neg c]
    split <;> rfl
theorem flo_11 {fl : Int32} : flo (if fl = 0 then -1 else fl) = flo fl := by
  by_cases c : fl = 0
  · rw [if_pos c, c]; decide
  · rw [if_neg c]
theorem C_EbyteOf {v rw pw : Nat → Int32} {g : Nat → Int32} {N A B M F : Nat} {fl : Int32} {T : Bool} {D : Nat → Bool} {R sg before behind : Nat} (hX : EX g N A B M F fl T D R sg before behind) (hC : EC v pw g N A B M F fl T D sg before behind) {j : Nat} (hj : j < B) (b : Nat → Int32) : m_E_byteOf (nI j) v b g pw = some (nI (wsm g j 0)) := by
  have hW := EG_wsm hX.1 j (by omega)
  obtain ⟨⟨h0, hN, hAM, hMB, hBN, hB⟩, -⟩ := hX.1
  obtain ⟨c1, c2, c3, c4, c8, c9, c10, c11, c13, c14, c15, cp⟩ := hC
  unfold m_E_byteOf
  rw [c15, C_hidden (e := B) (m := M) (by omega) hMB c10 c15, Option.bind_some, hW]
  by_cases q : j ≤ M
  · rw [if_pos (nI_le q (by omega)), if_neg (by omega), Nat.sub_zero]
  · rw [if_neg (nI_ge (by omega) (by omega))]
    show (if (if hdn g B M = true then (1 : Int32) else 0) = 0 then _ else _) = _
    by_cases z : hdn g B M = true
    · rw [if_neg (show ¬ (if hdn g B M = true then (1 : Int32) else 0) = 0 by rw [if_pos z]; decide), if_pos (show hdn g B M = true ∧ M < j from ⟨z, by omega⟩), sub1 (by omega)]
    · rw [if_pos (show (if hdn g B M = true then (1 : Int32) else 0) = 0 by rw [if_neg z]), if_neg (show ¬ (hdn g B M = true ∧ M < j) from fun y => z y.1), Nat.sub_zero]
theorem C_leaves {v pw : Nat → Int32} {g : Nat → Int32} {N A B M F : Nat} {fl : Int32} {T : Bool} {D : Nat → Bool} {R sg before behind : Nat} (hX : EX g N A B M F fl T D R sg before behind) (hC : EC v pw g N A B M F fl T D sg before behind) {V : Int64} {s : Nat} (hs : s ≤ 12) (b : Nat → Int32) : m_E_leavesDigit V (nI s) v b g pw = some (if anz (dE V s D before) A (B - A) = true then 1 else 0) := by
  obtain ⟨⟨h0, hN, hAM, hMB, hBN, hB⟩, -⟩ := hX.1
  have hC' := hC
  obtain ⟨c1, c2, c3, c4, c8, c9, c10, c11, c13, c14, c15, cp⟩ := hC'
  have key : ∀ (n k fuel : Nat), k + n = B → A ≤ k → n < fuel → m_E_leavesDigit_6 v b g pw fuel V (nI s) (nI k) = some (if anz (dE V s D before) k n = true then 1 else 0) := by
    intro n
    induction n with
    | zero =>
      intro k fuel hk hA hf
      obtain ⟨fuel, rfl⟩ : ∃ z, fuel = z + 1 := ⟨fuel - 1, by omega⟩
      show m_E_leavesDigit_6b v b g pw _ V (nI s) (nI k) = some 0
      unfold m_E_leavesDigit_6b
      rw [c10, if_pos (nI_le (by omega) (by omega)), zbo_0]
    | succ n ih =>
      intro k fuel hk hA hf
      obtain ⟨fuel, rfl⟩ : ∃ z, fuel = z + 1 := ⟨fuel - 1, by omega⟩
      show m_E_leavesDigit_6b v b g pw (m_E_leavesDigit_6 v b g pw fuel) V (nI s) (nI k) = _
      unfold m_E_leavesDigit_6b
      rw [c10, if_neg (nI_ge (by omega) (by omega)), C_more hX hC hs hA (by omega), Option.bind_some, zbo_1, anz_s]
      by_cases c : dE V s D before k = 0
      · rw [if_pos c, if_pos rfl, nI_1, ih (k + 1) fuel (by omega) (by omega) (by omega), c]; rfl
      · rw [if_neg c, if_neg (by decide)]
        have : (dE V s D before k != 0) = true := by simpa using c
        rw [this]; rfl
  unfold m_E_leavesDigit
  rw [c9]
  exact key (B - A) A 64 (by omega) (Nat.le_refl _) (by omega)
theorem C_zone {v pw : Nat → Int32} {g : Nat → Int32} {N A B M F : Nat} {fl : Int32} {T : Bool} {D : Nat → Bool} {R sg before behind : Nat} (hX : EX g N A B M F fl T D R sg before behind) (hC : EC v pw g N A B M F fl T D sg before behind) {V : Int64} {s : Nat} (hs : s ≤ 12) (b : Nat → Int32) (hAF : A ≤ F) (hFB : F ≤ B) : m_E_zoneEnd V (nI s) v b g pw = some (nI (ze g M (dE V s D before) (B - F) F)) := by
  obtain ⟨⟨h0, hN, hAM, hMB, hBN, hB⟩, -⟩ := hX.1
  have hC' := hC
  obtain ⟨c1, c2, c3, c4, c8, c9, c10, c11, c13, c14, c15, cp⟩ := hC'
  have key : ∀ (n k fuel : Nat), k + n = B → A ≤ k → n < fuel → m_E_zoneEnd_6 v b g pw fuel V (nI s) (nI k) = some (nI (ze g M (dE V s D before) n k)) := by
    intro n
    induction n with
    | zero =>
      intro k fuel hk hA hf
      obtain ⟨fuel, rfl⟩ : ∃ z, fuel = z + 1 := ⟨fuel - 1, by omega⟩
      show m_E_zoneEnd_6b v b g pw _ V (nI s) (nI k) = some (nI k)
      unfold m_E_zoneEnd_6b
      rw [c10, if_pos (nI_le (by omega) (by omega))]
      congr 2; omega
    | succ n ih =>
      intro k fuel hk hA hf
      obtain ⟨fuel, rfl⟩ : ∃ z, fuel = z + 1 := ⟨fuel - 1, by omega⟩
      show m_E_zoneEnd_6b v b g pw (m_E_zoneEnd_6 v b g pw fuel) V (nI s) (nI k) = _
      unfold m_E_zoneEnd_6b
      rw [ze_s, c10, if_neg (nI_ge (by omega) (by omega)), c15]
      by_cases q1 : k = M
      · rw [if_pos (by rw [q1]), if_pos (Or.inl q1)]
      · rw [if_neg (fun z => q1 ((nI_eq (by omega) (by omega)).mp z)), zix_ok (by omega) (by decide), nI_clamp (by omega)]
        by_cases q2 : g k = 57
        · rw [if_pos q2, if_pos (Or.inr (Or.inl q2))]
        · rw [if_neg q2, C_more hX hC hs hA (by omega), Option.bind_some]
          by_cases q3 : dE V s D before k = 0
          · rw [if_pos q3, if_pos rfl, if_neg (by rintro (z | z | z); exact q1 z; exact q2 z; exact z q3), nI_1]
            exact ih (k + 1) fuel (by omega) (by omega) (by omega)
          · rw [if_neg q3, if_neg (by decide), if_pos (Or.inr (Or.inr q3))]
  unfold m_E_zoneEnd
  rw [c13]
  exact key (B - F) F 64 (by omega) hAF (by omega)
theorem wsm_mon (g : Nat → Int32) {j k : Nat} (h : j ≤ k) : wsm g j 0 ≤ wsm g k 0 := by
  obtain ⟨m, rfl⟩ : ∃ m, k = j + m := ⟨k - j, by omega⟩
  induction m with
  | zero => exact Nat.le_refl _
  | succ m ih => have := ih (by omega); rw [show j + (m + 1) = (j + m) + 1 by omega, wsm_snoc]; omega
theorem wsm_lt (g : Nat → Int32) {j k : Nat} (h : j < k) (hw : 0 < wd (g j)) : wsm g j 0 < wsm g k 0 := by
  have h1 := wsm_mon g (show j + 1 ≤ k from h)
  rw [wsm_snoc, Nat.zero_add] at h1
  omega
def ebd (g : Nat → Int32) (D : Nat → Bool) (dig : Nat → Nat) (j : Nat) : Int32 := if D j = true then 48 + nI (dig j) else if g j = 66 then 32 else g j
theorem C_writeBody {v pw : Nat → Int32} {g : Nat → Int32} {N A B M F : Nat} {fl : Int32} {T : Bool} {D : Nat → Bool} {R sg before behind : Nat} (hX : EX g N A B M F fl T D R sg before behind) (hC : EC v pw g N A B M F fl T D sg before behind) {V : Int64} {s : Nat} (hs : s ≤ 12) : ∀ (n k fuel : Nat) (b : Nat → Int32), k + n = B → A ≤ k → n < fuel → ∃ b', m_E_writeBody_6 v g pw fuel V (nI s) (nI k) b = some b' ∧ (∀ j, k ≤ j → j < B → 0 < wd (g j) → b' (wsm g j 0) = ebd g D (dE V s D before) j) ∧ ∀ i, i < wsm g k 0 ∨ wsm g B 0 ≤ i → b' i = b i := by
  have hX' := hX
  obtain ⟨hG, ⟨hD, hDR, hR1, hR2⟩, hR, hsg⟩ := hX'
  obtain ⟨⟨h0, hN, hAM, hMB, hBN, hB⟩, e2, e3, e4, e5, e6, e7, e8⟩ := hG
  have hC' := hC
  obtain ⟨c1, c2, c3, c4, c8, c9, c10, c11, c13, c14, c15, cp⟩ := hC'
  intro n
  induction n with
  | zero =>
    intro k fuel b hk hA hf
    obtain ⟨fuel, rfl⟩ : ∃ z, fuel = z + 1 := ⟨fuel - 1, by omega⟩
    refine ⟨b, ?_, fun j j1 j2 => by omega, fun _ _ => rfl⟩
    show m_E_writeBody_6b v g pw _ V (nI s) (nI k) b = _
    unfold m_E_writeBody_6b
    rw [c10, if_pos (nI_le (by omega) (by omega))]
  | succ n ih =>
    intro k fuel b hk hA hf
    obtain ⟨fuel, rfl⟩ : ∃ z, fuel = z + 1 := ⟨fuel - 1, by omega⟩
    have hwB := wsm_mon g (show k + 1 ≤ B by omega)
    have hwk := EG_wsm hX.1 k (by omega)
    have hws : wsm g (k + 1) 0 = wsm g k 0 + wd (g k) := by rw [wsm_snoc, Nat.zero_add]
    obtain ⟨d1, d2⟩ := C_dE hX hC (V := V) hs hA (show k < B by omega)
    have hstep : ∀ c : Int32, 0 < wd (g k) → c = ebd g D (dE V s D before) k → ∃ b', m_E_writeBody_6 v g pw fuel V (nI s) (nI k + 1) (upd b (wsm g k 0) c) = some b' ∧ (∀ j, k ≤ j → j < B → 0 < wd (g j) → b' (wsm g j 0) = ebd g D (dE V s D before) j) ∧ ∀ i, i < wsm g k 0 ∨ wsm g B 0 ≤ i → b' i = b i := by
      intro c hw hc
      obtain ⟨b', e, p1, p2⟩ := ih (k + 1) fuel (upd b (wsm g k 0) c) (by omega) (by omega) (by omega)
      refine ⟨b', by rw [nI_1]; exact e, ?_, ?_⟩
      · intro j j1 j2 j3
        by_cases z : j = k
        · rw [z, p2 _ (Or.inl (by omega)), pk_us, hc]
        · exact p1 j (by omega) j2 j3
      · intro i hi
        rw [p2 i (by omega), pk_un (by omega)]
    show ∃ b', m_E_writeBody_6b v g pw (m_E_writeBody_6 v g pw fuel) V (nI s) (nI k) b = some b' ∧ _
    unfold m_E_writeBody_6b m_E_writeBody_102 m_E_writeBody_103
    simp only [zix_ok (show k < 24 by omega) (show 24 < 2 ^ 31 by decide), nI_clamp (show k < 2 ^ 31 by omega), C_EbyteOf (rw := g) hX hC (show k < B by omega), Option.bind_some, zix_ok (show wsm g k 0 < 25 by omega) (show 25 < 2 ^ 31 by decide), nI_clamp (show wsm g k 0 < 2 ^ 31 by omega)]
    rw [c10, if_neg (nI_ge (by omega) (by omega))]
    by_cases q : D k = true
    · rw [if_neg (fun z => by rw [d1.mp z] at q; exact absurd q (by decide)), d2 q, Option.bind_some]
      have hw : 0 < wd (g k) := by
        have := EG_wd hX.1 (show k < B by omega)
        rw [this, if_neg]
        · omega
        · intro ⟨z1, z2⟩
          have hz := of_decide_eq_true z1
          have := ((hD k).mp q).2.2
          rw [z2, hz.2] at this
          rcases this with y | ⟨y1, y2⟩
          · exact absurd y (by decide)
          · exact absurd y2.symm (iF_wd (e6 y1).1).1
      exact hstep _ hw (by unfold ebd; rw [if_pos q])
    · have q' : D k = false := by cases z : D k; rfl; exact absurd z q
      rw [if_pos (d1.mpr q')]
      by_cases y : g k = 86
      · rw [if_pos y]
        have hw : wd (g k) = 0 := by rw [y]; decide
        obtain ⟨b', e, p1, p2⟩ := ih (k + 1) fuel b (by omega) (by omega) (by omega)
        refine ⟨b', by rw [nI_1]; exact e, ?_, ?_⟩
        · intro j j1 j2 j3
          by_cases z : j = k
          · rw [z] at j3; omega
          · exact p1 j (by omega) j2 j3
        · intro i hi
          rw [p2 i (by omega)]
      · rw [if_neg y]
        have hw : 0 < wd (g k) := by
          have := EG_wd hX.1 (show k < B by omega)
          rw [this, if_neg]
          · omega
          · intro ⟨z1, z2⟩
            have hz := of_decide_eq_true z1
            rw [z2] at y
            exact y hz.2
        by_cases t : g k = 66
        · rw [if_pos t]; exact hstep 32 hw (by unfold ebd; rw [if_neg q, if_pos t])
        · rw [if_neg t]; exact hstep (g k) hw (by unfold ebd; rw [if_neg q, if_neg t])
theorem C_suppZone {v pw : Nat → Int32} {g : Nat → Int32} {N A B M F : Nat} {fl : Int32} {T : Bool} {D : Nat → Bool} {sg before behind : Nat} (hC : EC v pw g N A B M F fl T D sg before behind) {Z : Nat} (hFZ : F ≤ Z) (hZ : Z ≤ 24) (neg : Bool) (b : Nat → Int32) : ∃ b', m_E_suppressZone (nI Z) (if neg = true then 1 else 0) v b g pw = some b' ∧ ∀ i, b' i = if F ≤ i ∧ i < Z then (if flo fl = true ∧ i = Z - 1 then fxc fl neg else spr fl) else b i := by
  obtain ⟨c1, c2, c3, c4, c8, c9, c10, c11, c13, c14, c15, cp⟩ := hC
  have key : ∀ (n k fuel : Nat) (b : Nat → Int32), k + n = Z → F ≤ k → n < fuel → (∀ i, F ≤ i → i < k → b i = spr fl) → ∃ b', m_E_suppressZone_5 v g pw fuel (nI Z) (if neg = true then 1 else 0) (nI k) b = some b' ∧ ∀ i, b' i = if F ≤ i ∧ i < Z then (if flo fl = true ∧ i = Z - 1 then fxc fl neg else spr fl) else b i := by
    intro n
    induction n with
    | zero =>
      intro k fuel b hk hF hf hb
      obtain ⟨fuel, rfl⟩ : ∃ z, fuel = z + 1 := ⟨fuel - 1, by omega⟩
      show ∃ b', m_E_suppressZone_5b v g pw _ (nI Z) _ (nI k) b = some b' ∧ _
      unfold m_E_suppressZone_5b
      rw [if_pos (nI_le (by omega) (by omega)), C_isFloating, Option.bind_some, c11, flo_11, c13]
      by_cases q : flo fl = true
      · have hfl : fl ≠ 0 := fun z => by rw [z] at q; exact absurd q (by decide)
        rw [if_neg (show ¬ (if flo fl = true then (1 : Int32) else 0) = 0 by rw [if_pos q]; decide)]
        by_cases z : Z ≤ F
        · rw [if_pos (nI_le z (by omega))]
          exact ⟨b, rfl, fun i => by rw [if_neg (by omega)]⟩
        · rw [if_neg (nI_ge (by omega) (by omega)), if_neg hfl, C_fixed, Option.bind_some, sub1 (by omega), zix_ok (by omega) (by decide), nI_clamp (by omega)]
          refine ⟨_, rfl, fun i => ?_⟩
          by_cases y : i = Z - 1
          · rw [y, pk_us, if_pos (by omega), if_pos ⟨q, rfl⟩]
          · rw [pk_un y]
            by_cases w : F ≤ i ∧ i < Z
            · rw [if_pos w, if_neg (fun h => y h.2), hb i w.1 (by omega)]
            · rw [if_neg w]
      · rw [if_pos (show (if flo fl = true then (1 : Int32) else 0) = 0 by rw [if_neg q])]
        refine ⟨b, rfl, fun i => ?_⟩
        by_cases w : F ≤ i ∧ i < Z
        · rw [if_pos w, if_neg (fun h => q h.1), hb i w.1 (by omega)]
        · rw [if_neg w]
    | succ n ih =>
      intro k fuel b hk hF hf hb
      obtain ⟨fuel, rfl⟩ : ∃ z, fuel = z + 1 := ⟨fuel - 1, by omega⟩
      obtain ⟨b', e, hb'⟩ := ih (k + 1) fuel (upd b k (spr fl)) (by omega) (by omega) (by omega) (fun i i1 i2 => by
        by_cases z : i = k
        · rw [z, pk_us]
        · rw [pk_un z]; exact hb i i1 (by omega))
      refine ⟨b', ?_, fun i => ?_⟩
      · show m_E_suppressZone_5b v g pw (m_E_suppressZone_5 v g pw fuel) (nI Z) _ (nI k) b = _
        unfold m_E_suppressZone_5b
        rw [if_neg (nI_ge (by omega) (by omega)), C_supp c11, Option.bind_some, zix_ok (by omega) (by decide), nI_clamp (by omega), nI_1]
        exact e
      · rw [hb' i]
        by_cases w : F ≤ i ∧ i < Z
        · rw [if_pos w, if_pos w]
        · rw [if_neg w, if_neg w, pk_un (by omega)]
  unfold m_E_suppressZone
  rw [c13]
  exact key (Z - F) F 64 b (by omega) (Nat.le_refl _) (by omega) (fun i i1 i2 => by omega)
