theorem P_flags {u : Nat → Nat → Int32} {x : Nat} (hx : x < 8) {g : Nat → Int32} {N A B M F : Nat} {fl : Int32} {T : Bool} {D : Nat → Bool} {R sg before behind : Nat} (hX : EX g N A B M F fl T D R sg before behind) (hU : ER u x g N A B M fl D R sg before behind) {V : Int64} {s : Nat} {v : Nat → Int32} (h : NR V s v u) (X2 : Int32) : ∀ (n k fuel : Nat) (p z : Bool), k + n = B → n < fuel → m_M_edit_19 v fuel (nI x) X2 (if p = true then 1 else 0) (if z = true then 1 else 0) (nI k) u = m_M_edit_103 v (nI x) X2 (if (decide (fl ≠ 0) && !(p || decide (0 < cnt g 57 k n)) && (z && !anz (dE V s D before) k n)) = true then 1 else 0) u := by
  have hd : ∀ j, j < N → m_M_digitFor (nI x) (nI j) v u = some (nI (dE V s D before j)) := fun j hj => P_dE hx hX hU h hj
  obtain ⟨hG, ⟨hD, hDR, hR1, hR2⟩, hR, -⟩ := hX
  obtain ⟨r2, r3, r4, r5, r7, r8, r9, r11, r12, r13, r14, r15⟩ := hU
  have hN : N ≤ 24 := hG.1.2.1
  have hBN : B ≤ N := hG.1.2.2.2.2.1
  intro n
  induction n with
  | zero =>
    intro k fuel p z hk hf
    obtain ⟨fuel, rfl⟩ : ∃ z, fuel = z + 1 := ⟨fuel - 1, by omega⟩
    show m_M_edit_19b v _ (nI x) X2 _ _ (nI k) u = _
    unfold m_M_edit_19b m_M_edit_102
    rw [zix_ok (show x < 9 by omega) (by decide), nI_clamp (by omega), r13, if_pos (nI_le (by omega) (by omega)), zix_ok (show x < 9 by omega) (by decide), r11]
    by_cases c : fl = 0
    · rw [if_pos c]
      simp [c]
    · rw [if_neg c]
      cases p <;> cases z <;> simp [c, cnt, anz]
  | succ n ih =>
    intro k fuel p z hk hf
    obtain ⟨fuel, rfl⟩ : ∃ z, fuel = z + 1 := ⟨fuel - 1, by omega⟩
    have h9 := dE_le V s D before k
    have hcs : cnt g 57 k (n + 1) = (if g k = 57 then 1 else 0) + cnt g 57 (k + 1) n := rfl
    have step : m_M_edit_19 v (fuel + 1) (nI x) X2 (if p = true then 1 else 0) (if z = true then 1 else 0) (nI k) u = m_M_edit_19 v fuel (nI x) X2 (if (p || decide (g k = 57)) = true then 1 else 0) (if (z && decide (dE V s D before k = 0)) = true then 1 else 0) (nI (k + 1)) u := by
      show m_M_edit_19b v (m_M_edit_19 v fuel) (nI x) X2 _ _ (nI k) u = _
      unfold m_M_edit_19b
      have h51 : ∀ q : Bool, m_M_edit_51 v (m_M_edit_19 v fuel) (nI x) X2 (if z = true then 1 else 0) (nI k) (if q = true then 1 else 0) u = m_M_edit_19 v fuel (nI x) X2 (if q = true then 1 else 0) (if (z && decide (dE V s D before k = 0)) = true then 1 else 0) (nI (k + 1)) u := by
        intro q
        unfold m_M_edit_51 m_M_edit_71 m_M_edit_72
        rw [hd k (by omega), Option.bind_some, nI_1]
        cases z
        · rw [if_pos (show (if false = true then (1 : Int32) else 0) = 0 from rfl)]; rfl
        · rw [if_neg (show ¬ (if true = true then (1 : Int32) else 0) = 0 by decide)]
          by_cases c : dE V s D before k = 0
          · rw [c]; rfl
          · rw [if_neg (nI_ne0 (by omega) (by omega))]
            simp [c]
      rw [zix_ok (show x < 9 by omega) (by decide), nI_clamp (by omega), r13, if_neg (nI_ge (by omega) (by omega)), P_sym (by omega) (by omega), Option.bind_some, r3 k (by omega)]
      unfold m_M_edit_46
      have h1 := h51 true
      have h0 := h51 false
      rw [if_pos (show true = true from rfl)] at h1
      rw [if_neg (show ¬ false = true by decide)] at h0
      rw [h1, h0]
      cases p
      · rw [if_pos (show (if false = true then (1 : Int32) else 0) = 0 from rfl)]
        by_cases c : g k = 57
        · rw [if_pos c]; simp [c]
        · rw [if_neg c]; simp [c]
      · rw [if_neg (show ¬ (if true = true then (1 : Int32) else 0) = 0 by decide)]; rfl
    rw [step, ih (k + 1) fuel _ _ (by omega) (by omega), hcs, anz_s]
    have e : (decide (fl ≠ 0) && !((p || decide (g k = 57)) || decide (0 < cnt g 57 (k + 1) n)) && ((z && decide (dE V s D before k = 0)) && !anz (dE V s D before) (k + 1) n)) = (decide (fl ≠ 0) && !(p || decide (0 < (if g k = 57 then 1 else 0) + cnt g 57 (k + 1) n)) && (z && !((dE V s D before k != 0) || anz (dE V s D before) (k + 1) n))) := by
      by_cases c1 : g k = 57 <;> by_cases c2 : dE V s D before k = 0 <;> cases p <;> cases z <;> simp [c1, c2]
    rw [e]
/-- the row of characters, symbol by symbol -/
theorem P_walk {u0 : Nat → Nat → Int32} {x : Nat} (hx : x < 8) {g : Nat → Int32} {N A B M F : Nat} {fl : Int32} {T : Bool} {D : Nat → Bool} {R sg before behind : Nat} (hX : EX g N A B M F fl T D R sg before behind) (hU : ER u0 x g N A B M fl D R sg before behind) {V : Int64} {s : Nat} {v : Nat → Int32} (h : NR V s v u0) (neg emp : Bool) {bg en Z : Nat} (hbg : bg ≤ 24) (hen : en ≤ 24) (hz0 : fl = 0 → bg = en ∧ Z ≤ F) (hz1 : fl ≠ 0 → bg = F ∧ en = Z) :
    ∀ (n k fuel : Nat) (u : Nat → Nat → Int32), k + n = N → n < fuel → (∀ r, r ≠ 16 → u r = u0 r) → ∃ w : Nat → Int32, m_M_edit_184 v fuel (nI x) (if neg = true then 1 else 0) (if emp = true then 1 else 0) (nI bg) (nI en) (if flo fl = true then 1 else 0) (nI (32 * x + wsm g k 0)) (nI k) u = some (zset u 16 w) ∧
      (∀ j, k ≤ j → j < N → (0 < wd (g j) → w (32 * x + wsm g j 0) = ech g D (dE V s D before) fl F Z neg emp j) ∧ (wd (g j) = 2 → w (32 * x + wsm g j 0 + 1) = ec2 g fl neg emp j)) ∧ ∀ i, i < 32 * x + wsm g k 0 ∨ 32 * x + wsm g N 0 ≤ i → w i = u 16 i := by
  have hX' := hX
  have hU' := hU
  obtain ⟨hG, ⟨hD, hDR, hR1, hR2⟩, hR, -⟩ := hX'
  obtain ⟨r2, r3, r4, r5, r7, r8, r9, r11, r12, r13, r14, r15⟩ := hU'
  have hsz := EG_size hG
  obtain ⟨⟨h0, hN, hAM, hMB, hBN, hB⟩, e2, e3, e4, e5, e6, e7, e8⟩ := hG
  have hmono : ∀ k, k ≤ N → wsm g k 0 ≤ wsm g N 0 := by
    intro k hk
    have : ∀ m k, wsm g k 0 ≤ wsm g (k + m) 0 := by
      intro m
      induction m with
      | zero => intro k; exact Nat.le_refl _
      | succ m ih => intro k; have := ih k; rw [show k + (m + 1) = (k + m) + 1 by omega, wsm_snoc]; omega
    have := this (N - k) k
    rw [show k + (N - k) = N by omega] at this
    exact this
  intro n
  induction n with
  | zero =>
    intro k fuel u hk hf hu
    obtain ⟨fuel, rfl⟩ : ∃ z, fuel = z + 1 := ⟨fuel - 1, by omega⟩
    refine ⟨u 16, ?_, fun j j1 j2 => by omega, fun _ _ => rfl⟩
    show m_M_edit_184b v _ (nI x) _ _ _ _ _ _ (nI k) u = _
    unfold m_M_edit_184b
    rw [zix_ok (show x < 9 by omega) (by decide), nI_clamp (by omega), hu 2 (by decide), r2, if_pos (nI_le (by omega) (by omega)), zset_self]
  | succ n ih =>
    intro k fuel u hk hf hu
    obtain ⟨fuel, rfl⟩ : ∃ z, fuel = z + 1 := ⟨fuel - 1, by omega⟩
    have hNR : NR V s v u := NR_ext h rfl rfl (hu 17 (by decide))
    have hER : ER u x g N A B M fl D R sg before behind := by
      refine ⟨?_, ?_, ?_, ?_, ?_, ?_, ?_, ?_, ?_, ?_, ?_, ?_⟩ <;> rw [hu _ (by decide)] <;> assumption
    have hkN := hmono (k + 1) (by omega)
    rw [wsm_snoc, Nat.zero_add] at hkN
    have hws : wsm g (k + 1) 0 = wsm g k 0 + wd (g k) := by rw [wsm_snoc, Nat.zero_add]
    -- the step behind the first character is known
    have key : ∀ c : Int32, c = ech g D (dE V s D before) fl F Z neg emp k → ∃ w : Nat → Int32, m_M_edit_339 v (m_M_edit_184 v fuel) (nI x) (if neg = true then 1 else 0) (if emp = true then 1 else 0) (nI bg) (nI en) (if flo fl = true then 1 else 0) (nI (32 * x + wsm g k 0)) (nI k) (g k) c u = some (zset u 16 w) ∧
      (∀ j, k ≤ j → j < N → (0 < wd (g j) → w (32 * x + wsm g j 0) = ech g D (dE V s D before) fl F Z neg emp j) ∧ (wd (g j) = 2 → w (32 * x + wsm g j 0 + 1) = ec2 g fl neg emp j)) ∧ ∀ i, i < 32 * x + wsm g k 0 ∨ 32 * x + wsm g N 0 ≤ i → w i = u 16 i := by
      intro c hc
      have hrest : ∀ (row : Nat → Int32), (∀ i, i < 32 * x + wsm g k 0 ∨ 32 * x + wsm g (k + 1) 0 ≤ i → row i = u 16 i) → (0 < wd (g k) → row (32 * x + wsm g k 0) = c) → (wd (g k) = 2 → row (32 * x + wsm g k 0 + 1) = ec2 g fl neg emp k) → ∃ w : Nat → Int32, m_M_edit_184 v fuel (nI x) (if neg = true then 1 else 0) (if emp = true then 1 else 0) (nI bg) (nI en) (if flo fl = true then 1 else 0) (nI (32 * x + wsm g k 0) + nI (wd (g k))) (nI k + 1) (zset u 16 row) = some (zset u 16 w) ∧
      (∀ j, k ≤ j → j < N → (0 < wd (g j) → w (32 * x + wsm g j 0) = ech g D (dE V s D before) fl F Z neg emp j) ∧ (wd (g j) = 2 → w (32 * x + wsm g j 0 + 1) = ec2 g fl neg emp j)) ∧ ∀ i, i < 32 * x + wsm g k 0 ∨ 32 * x + wsm g N 0 ≤ i → w i = u 16 i := by
        intro row q1 q2 q3
        obtain ⟨w, e, w1, w2⟩ := ih (k + 1) fuel (zset u 16 row) (by omega) (by omega) (fun r hr => by rw [zset_n _ _ hr]; exact hu r hr)
        rw [zset_zset] at e
        refine ⟨w, ?_, ?_, ?_⟩
        · rw [nI_add, nI_1, show 32 * x + wsm g k 0 + wd (g k) = 32 * x + wsm g (k + 1) 0 by omega]
          exact e
        · intro j j1 j2
          by_cases z : j = k
          · rw [z]
            refine ⟨fun hw => ?_, fun hw => ?_⟩
            · rw [w2 _ (Or.inl (by omega)), zset_s, q2 hw, hc]
            · rw [w2 _ (Or.inl (by omega)), zset_s, q3 hw]
          · exact w1 j (by omega) j2
        · intro i hi
          rw [w2 i (by rcases hi with q | q; exact Or.inl (by omega); exact Or.inr q), zset_s, q1 i (by rcases hi with q | q; exact Or.inl q; exact Or.inr (by omega))]
      unfold m_M_edit_339 m_M_edit_356 m_M_edit_406 m_M_edit_407
      simp only [P_width, Option.bind_some]
      have hwd := wd_le (g k)
      rcases Nat.lt_or_ge 0 (wd (g k)) with w0 | w0
      · rw [if_neg (nI_nle w0 (by omega)), zix_ok (by omega) (by decide), zau_nI _ _ _ _ (by omega), nI_1]
        by_cases w2 : wd (g k) = 2
        · rw [if_pos (show nI (wd (g k)) = 2 by rw [w2]; rfl)]
          have h2 : g k = 67 ∨ g k = 68 := by
            unfold wd at w2
            by_cases a1 : g k = 86
            · rw [if_pos a1] at w2; omega
            · rw [if_neg a1] at w2
              by_cases a2 : g k = 67 ∨ g k = 68
              · exact a2
              · rw [if_neg a2] at w2; omega
          have fin : ∀ c2 : Int32, c2 = ec2 g fl neg emp k → ∃ w : Nat → Int32, zix (nI (32 * x + wsm g k 0 + 1)) 256 (m_M_edit_184 v fuel (nI x) (if neg = true then 1 else 0) (if emp = true then 1 else 0) (nI bg) (nI en) (if flo fl = true then 1 else 0) (nI (32 * x + wsm g k 0) + nI (wd (g k))) (nI k + 1) (zau (zset u 16 (upd (u 16) (32 * x + wsm g k 0) c)) 16 (nI (32 * x + wsm g k 0 + 1)) c2)) = some (zset u 16 w) ∧
      (∀ j, k ≤ j → j < N → (0 < wd (g j) → w (32 * x + wsm g j 0) = ech g D (dE V s D before) fl F Z neg emp j) ∧ (wd (g j) = 2 → w (32 * x + wsm g j 0 + 1) = ec2 g fl neg emp j)) ∧ ∀ i, i < 32 * x + wsm g k 0 ∨ 32 * x + wsm g N 0 ≤ i → w i = u 16 i := by
            intro c2 hc2
            rw [zix_ok (by omega) (by decide), zau_nI _ _ _ _ (by omega), zset_zset, zset_s]
            apply hrest
            · intro i hi
              rw [pk_un (by omega), pk_un (by omega)]
            · intro _
              rw [pk_un (by omega), pk_us]
            · intro _
              rw [pk_us, hc2]
          cases emp
          · rw [if_pos (show (if false = true then (1 : Int32) else 0) = 0 from rfl)]
            cases neg
            · rw [if_pos (show (if false = true then (1 : Int32) else 0) = 0 from rfl)]
              exact fin 32 rfl
            · rw [if_neg (show ¬ (if true = true then (1 : Int32) else 0) = 0 by decide)]
              by_cases a : g k = 67
              · rw [if_pos a]; exact fin 82 (by unfold ec2; rw [if_neg (by decide), if_pos rfl, if_pos a])
              · rw [if_neg a]; exact fin 66 (by unfold ec2; rw [if_neg (by decide), if_pos rfl, if_neg a])
          · rw [if_neg (show ¬ (if true = true then (1 : Int32) else 0) = 0 by decide)]
            exact fin c hc
        · rw [if_neg (show ¬ nI (wd (g k)) = 2 from fun q => w2 ((nI_eq (b := 2) (by omega) (by decide)).mp q))]
          apply hrest
          · intro i hi
            rw [pk_un (by omega)]
          · intro _
            rw [pk_us]
          · intro q; exact absurd q w2
      · have w0' : wd (g k) = 0 := by omega
        rw [if_pos (by rw [w0']; decide), if_neg (show ¬ nI (wd (g k)) = 2 by rw [w0']; decide)]
        have := hrest (u 16) (fun _ _ => rfl) (fun q => by omega) (fun q => by omega)
        rw [zset_self] at this
        exact this
    -- the first character
    have h302 : ∀ q : Int32, q = (if F ≤ k ∧ k < Z then ezo fl Z neg k else epl g D (dE V s D before) neg k) → ∃ w : Nat → Int32, m_M_edit_302 v (m_M_edit_184 v fuel) (nI x) (if neg = true then 1 else 0) (if emp = true then 1 else 0) (nI bg) (nI en) (if flo fl = true then 1 else 0) (nI (32 * x + wsm g k 0)) (nI k) (g k) q u = some (zset u 16 w) ∧
      (∀ j, k ≤ j → j < N → (0 < wd (g j) → w (32 * x + wsm g j 0) = ech g D (dE V s D before) fl F Z neg emp j) ∧ (wd (g j) = 2 → w (32 * x + wsm g j 0 + 1) = ec2 g fl neg emp j)) ∧ ∀ i, i < 32 * x + wsm g k 0 ∨ 32 * x + wsm g N 0 ≤ i → w i = u 16 i := by
      intro q hq
      unfold m_M_edit_302 m_M_edit_337
      rw [zix_ok (show x < 9 by omega) (by decide), nI_clamp (show x < 2 ^ 31 by omega), hu 11 (by decide), r11]
      cases emp
      · rw [if_pos (show (if false = true then (1 : Int32) else 0) = 0 from rfl)]
        exact key q hq
      · rw [if_neg (show ¬ (if true = true then (1 : Int32) else 0) = 0 by decide)]
        by_cases a : fl = 42
        · rw [if_pos a]
          by_cases a2 : g k = 46
          · rw [if_pos a2]; exact key 46 (by unfold ech eem; rw [if_pos rfl, if_pos a, if_pos a2])
          · rw [if_neg a2]; exact key 42 (by unfold ech eem; rw [if_pos rfl, if_pos a, if_neg a2])
        · rw [if_neg a]; exact key 32 (by unfold ech eem; rw [if_pos rfl, if_neg a])
    show ∃ w : Nat → Int32, m_M_edit_184b v (m_M_edit_184 v fuel) (nI x) _ _ _ _ _ _ (nI k) u = _ ∧ _
    unfold m_M_edit_184b m_M_edit_298 m_M_edit_300
    simp only [zix_ok (show x < 9 by omega) (show 9 < 2 ^ 31 by decide), nI_clamp (show x < 2 ^ 31 by omega), hu 2 (by decide), hu 11 (by decide), hu 12 (by decide), r2, r11, r12, P_sym (show x ≤ 8 by omega) (show k < 24 by omega), hu 3 (by decide), r3 k (by omega), P_plain hx hX hER hNR neg (show k < N by omega), Option.bind_some, P_signFor]
    rw [if_neg (nI_ge (by omega) (by omega))]
    by_cases c : F ≤ k ∧ k < Z
    · have hfl : fl ≠ 0 := fun q => by have := (hz0 q).2; omega
      obtain ⟨rfl, rfl⟩ := hz1 hfl
      have hAF := (e6 hfl).2.1
      rw [if_pos c] at h302
      unfold ezo at h302
      rw [if_neg (nI_nlt (by omega) (by omega)), if_neg (nI_ge (by omega) (by omega)), if_neg (nI_nlt (by omega) (by omega))]
      by_cases a1 : fl = 42
      · rw [if_pos a1]; rw [if_pos a1] at h302; exact h302 42 rfl
      · rw [if_neg a1]; rw [if_neg a1] at h302
        by_cases a2 : flo fl = true
        · rw [if_neg (show ¬ (if flo fl = true then (1 : Int32) else 0) = 0 by rw [if_pos a2]; decide), sub1 (by omega)]
          by_cases a3 : k = en - 1
          · rw [if_pos (show nI k = nI (en - 1) by rw [a3])]
            rw [if_pos ⟨a2, a3⟩] at h302
            by_cases a4 : fl = 36
            · rw [if_pos a4]; rw [if_pos a4] at h302; exact h302 36 rfl
            · rw [if_neg a4]; rw [if_neg a4] at h302; exact h302 _ rfl
          · rw [if_neg (fun q => a3 ((nI_eq (by omega) (by omega)).mp q))]
            rw [if_neg (fun q => a3 q.2)] at h302
            exact h302 32 rfl
        · rw [if_pos (show (if flo fl = true then (1 : Int32) else 0) = 0 by rw [if_neg a2])]
          rw [if_neg (fun q => a2 q.1)] at h302
          exact h302 32 rfl
    · rw [if_neg c] at h302
      have hf := h302 _ rfl
      by_cases b1 : nI k < nI bg
      · rw [if_pos b1]; exact hf
      · rw [if_neg b1]
        by_cases b2 : nI en ≤ nI k
        · rw [if_pos b2]; exact hf
        · rw [if_neg b2]
          exfalso
          have b1' : bg ≤ k := by
            rcases Nat.lt_or_ge k bg with q | q
            · exact absurd (nI_lt q (by omega)) b1
            · exact q
          have b2' : k < en := by
            rcases Nat.lt_or_ge k en with q | q
            · exact q
            · exact absurd (nI_le q (by omega)) b2
          by_cases z : fl = 0
          · have := (hz0 z).1; omega
          · have := hz1 z; omega
