theorem C_trailing {v pw : Nat → Int32} {g : Nat → Int32} {N A B M F : Nat} {fl : Int32} {T : Bool} {D : Nat → Bool} {R sg before behind : Nat} (hX : EX g N A B M F fl T D R sg before behind) (hC : EC v pw g N A B M F fl T D sg before behind) (neg : Bool) (b : Nat → Int32) : ∃ b', m_E_writeTrailing (if neg = true then 1 else 0) v b g pw = some b' ∧ (T = false → b' = b) ∧ (T = true → (∀ i, i < wsm g (N - 1) 0 → b' i = b i) ∧ (wd (g (N - 1)) = 1 → b' (wsm g (N - 1) 0) = fxc (g (N - 1)) neg) ∧ (wd (g (N - 1)) = 2 → b' (wsm g (N - 1) 0) = (if neg = true then g (N - 1) else 32) ∧ b' (wsm g (N - 1) 0 + 1) = (if neg = true then (if g (N - 1) = 67 then 82 else 66) else 32))) := by
  have hsz := EG_size hX.1
  obtain ⟨⟨h0, hN, hAM, hMB, hBN, hB⟩, e2, e3, e4, e5, e6, e7, e8⟩ := hX.1
  obtain ⟨c1, c2, c3, c4, c8, c9, c10, c11, c13, c14, c15, cp⟩ := hC
  unfold m_E_writeTrailing m_E_isLetterSign m_E_isLetterSign_18
  rw [zbo_0, zbo_1]
  cases T
  · rw [if_neg (by decide)] at c8
    rw [c8, if_neg (by decide), if_neg (by decide), Option.bind_some, if_pos rfl, if_pos rfl]
    exact ⟨b, rfl, fun _ => rfl, fun q => absurd q (by decide)⟩
  · rw [if_pos rfl] at c8
    have hs := hsz.2.1 rfl
    have hle := hsz.2.2.1
    rw [c8]
    rcases e5 rfl with q | q | q | q
    · -- C
      have hw : wd (g (N - 1)) = 2 := by rw [q]; decide
      have s2 : v 1 - 2 = nI (wsm g (N - 1) 0) := by rw [c1, show nI (wsm g N 0) - 2 = nI (wsm g N 0 - 2) from pk_sub (b := 2) (by omega)]; congr 1; omega
      have s1 : v 1 - 1 = nI (wsm g (N - 1) 0 + 1) := by rw [c1, sub1 (by omega)]; congr 1; omega
      rw [if_pos q, Option.bind_some, if_neg (by decide)]
      unfold m_E_writeTrailing_30 m_E_writeTrailing_54 m_E_secondLetter
      rw [s2, s1, c8, if_pos q, Option.bind_some]
      simp only [zix_ok (show wsm g (N - 1) 0 < 25 by omega) (show 25 < 2 ^ 31 by decide), zix_ok (show wsm g (N - 1) 0 + 1 < 25 by omega) (show 25 < 2 ^ 31 by decide), nI_clamp (show wsm g (N - 1) 0 < 2 ^ 31 by omega), nI_clamp (show wsm g (N - 1) 0 + 1 < 2 ^ 31 by omega)]
      cases neg
      · rw [if_pos (show (if false = true then (1 : Int32) else 0) = 0 from rfl), if_pos (show (if false = true then (1 : Int32) else 0) = 0 from rfl)]
        refine ⟨_, rfl, fun z => absurd z (by decide), fun _ => ⟨fun i hi => by rw [pk_un (by omega), pk_un (by omega)], fun z => by omega, fun _ => ⟨by rw [pk_un (by omega), pk_us]; rfl, by rw [pk_us]; rfl⟩⟩⟩
      · rw [if_neg (show ¬ (if true = true then (1 : Int32) else 0) = 0 by decide), if_neg (show ¬ (if true = true then (1 : Int32) else 0) = 0 by decide)]
        refine ⟨_, rfl, fun z => absurd z (by decide), fun _ => ⟨fun i hi => by rw [pk_un (by omega), pk_un (by omega)], fun z => by omega, fun _ => ⟨by rw [pk_un (by omega), pk_us]; rfl, by rw [pk_us, if_pos rfl, if_pos q]⟩⟩⟩
    · -- D
      have hw : wd (g (N - 1)) = 2 := by rw [q]; decide
      have hn : ¬ g (N - 1) = 67 := by rw [q]; decide
      have s2 : v 1 - 2 = nI (wsm g (N - 1) 0) := by rw [c1, show nI (wsm g N 0) - 2 = nI (wsm g N 0 - 2) from pk_sub (b := 2) (by omega)]; congr 1; omega
      have s1 : v 1 - 1 = nI (wsm g (N - 1) 0 + 1) := by rw [c1, sub1 (by omega)]; congr 1; omega
      rw [if_neg hn, if_pos q, Option.bind_some, if_neg (by decide)]
      unfold m_E_writeTrailing_30 m_E_writeTrailing_54 m_E_secondLetter
      rw [s2, s1, c8, if_neg hn, Option.bind_some]
      simp only [zix_ok (show wsm g (N - 1) 0 < 25 by omega) (show 25 < 2 ^ 31 by decide), zix_ok (show wsm g (N - 1) 0 + 1 < 25 by omega) (show 25 < 2 ^ 31 by decide), nI_clamp (show wsm g (N - 1) 0 < 2 ^ 31 by omega), nI_clamp (show wsm g (N - 1) 0 + 1 < 2 ^ 31 by omega)]
      cases neg
      · rw [if_pos (show (if false = true then (1 : Int32) else 0) = 0 from rfl), if_pos (show (if false = true then (1 : Int32) else 0) = 0 from rfl)]
        refine ⟨_, rfl, fun z => absurd z (by decide), fun _ => ⟨fun i hi => by rw [pk_un (by omega), pk_un (by omega)], fun z => by omega, fun _ => ⟨by rw [pk_un (by omega), pk_us]; rfl, by rw [pk_us]; rfl⟩⟩⟩
      · rw [if_neg (show ¬ (if true = true then (1 : Int32) else 0) = 0 by decide), if_neg (show ¬ (if true = true then (1 : Int32) else 0) = 0 by decide)]
        refine ⟨_, rfl, fun z => absurd z (by decide), fun _ => ⟨fun i hi => by rw [pk_un (by omega), pk_un (by omega)], fun z => by omega, fun _ => ⟨by rw [pk_un (by omega), pk_us]; rfl, by rw [pk_us, if_pos rfl, if_neg hn]⟩⟩⟩
    all_goals
      have hw : wd (g (N - 1)) = 1 := by rw [q]; decide
      have n1 : ¬ g (N - 1) = 67 := by rw [q]; decide
      have n2 : ¬ g (N - 1) = 68 := by rw [q]; decide
      have n3 : ¬ g (N - 1) = -1 := by rw [q]; decide
      have s1 : v 1 - 1 = nI (wsm g (N - 1) 0) := by rw [c1, sub1 (by omega)]; congr 1; omega
      rw [if_neg n1, if_neg n2, Option.bind_some, if_pos rfl, if_neg n3, C_fixed, Option.bind_some, s1, zix_ok (by omega) (by decide), nI_clamp (by omega)]
      exact ⟨_, rfl, fun z => absurd z (by decide), fun _ => ⟨fun i hi => by rw [pk_un (by omega)], fun _ => by rw [pk_us], fun z => by omega⟩⟩
theorem C_suppAll {v pw : Nat → Int32} {g : Nat → Int32} {N A B M F : Nat} {fl : Int32} {T : Bool} {D : Nat → Bool} {R sg before behind : Nat} (hX : EX g N A B M F fl T D R sg before behind) (hC : EC v pw g N A B M F fl T D sg before behind) (b : Nat → Int32) : ∃ b', m_E_suppressAll v b g pw = some b' ∧ ∀ i, i < wsm g N 0 → b' i = (if fl = 42 ∧ M < B ∧ g M = 46 ∧ i = M then 46 else spr fl) := by
  have hsz := EG_size hX.1
  obtain ⟨⟨h0, hN, hAM, hMB, hBN, hB⟩, e2, e3, e4, e5, e6, e7, e8⟩ := hX.1
  obtain ⟨c1, c2, c3, c4, c8, c9, c10, c11, c13, c14, c15, cp⟩ := hC
  have hle := hsz.2.2.1
  have h42 : (if fl = 0 then -1 else fl) = 42 ↔ fl = 42 := by
    by_cases c : fl = 0
    · rw [if_pos c, c]; decide
    · rw [if_neg c]
  have key : ∀ (n k fuel : Nat) (b : Nat → Int32), k + n = wsm g N 0 → n < fuel → (∀ i, i < k → b i = spr fl) → ∃ b', m_E_suppressAll_2 v g pw fuel (nI k) b = some b' ∧ ∀ i, i < wsm g N 0 → b' i = (if fl = 42 ∧ M < B ∧ g M = 46 ∧ i = M then 46 else spr fl) := by
    intro n
    induction n with
    | zero =>
      intro k fuel b hk hf hb
      obtain ⟨fuel, rfl⟩ : ∃ z, fuel = z + 1 := ⟨fuel - 1, by omega⟩
      show ∃ b', m_E_suppressAll_2b v g pw _ (nI k) b = some b' ∧ _
      unfold m_E_suppressAll_2b
      rw [c1, if_pos (nI_le (by omega) (by omega)), c11, c10, c15]
      by_cases q1 : fl = 42
      · rw [if_pos (h42.mpr q1)]
        by_cases q2 : M < B
        · rw [if_neg (nI_ge q2 (by omega)), zix_ok (by omega) (by decide), nI_clamp (by omega)]
          by_cases q3 : g M = 46
          · rw [if_pos q3, zix_ok (by omega) (by decide)]
            refine ⟨_, rfl, fun i hi => ?_⟩
            by_cases q4 : i = M
            · rw [q4, pk_us, if_pos ⟨q1, q2, q3, rfl⟩]
            · rw [pk_un q4, if_neg (fun z => q4 z.2.2.2), hb i (by omega)]
          · rw [if_neg q3]
            exact ⟨b, rfl, fun i hi => by rw [if_neg (fun z => q3 z.2.2.1), hb i (by omega)]⟩
        · rw [if_pos (nI_le (by omega) (by omega))]
          exact ⟨b, rfl, fun i hi => by rw [if_neg (fun z => q2 z.2.1), hb i (by omega)]⟩
      · rw [if_neg (fun z => q1 (h42.mp z))]
        exact ⟨b, rfl, fun i hi => by rw [if_neg (fun z => q1 z.1), hb i (by omega)]⟩
    | succ n ih =>
      intro k fuel b hk hf hb
      obtain ⟨fuel, rfl⟩ : ∃ z, fuel = z + 1 := ⟨fuel - 1, by omega⟩
      obtain ⟨b', e, hb'⟩ := ih (k + 1) fuel (upd b k (spr fl)) (by omega) (by omega) (fun i i2 => by
        by_cases z : i = k
        · rw [z, pk_us]
        · rw [pk_un z]; exact hb i (by omega))
      refine ⟨b', ?_, hb'⟩
      show m_E_suppressAll_2b v g pw (m_E_suppressAll_2 v g pw fuel) (nI k) b = _
      unfold m_E_suppressAll_2b
      rw [c1, if_neg (nI_ge (by omega) (by omega)), C_supp c11, Option.bind_some, zix_ok (by omega) (by decide), nI_clamp (by omega), nI_1]
      exact e
  unfold m_E_suppressAll
  exact key (wsm g N 0) 0 64 b (by omega) (by omega) (fun i hi => by omega)
/-- the class edits: what stands in the bytes -/
theorem C_edit {v pw : Nat → Int32} {g : Nat → Int32} {N A B M F : Nat} {fl : Int32} {T : Bool} {D : Nat → Bool} {R sg before behind : Nat} (hX : EX g N A B M F fl T D R sg before behind) (hC : EC v pw g N A B M F fl T D sg before behind) {V : Int64} {s : Nat} (hs : s ≤ 12) (b : Nat → Int32) :
    ∃ b', m_E_takeNumber V (nI s) v b g pw = some (1, b') ∧ ∀ j, j < N → (0 < wd (g j) → b' (wsm g j 0) = ech g D (dE V s D before) fl F (ze g M (dE V s D before) (B - F) F) (cneg V sg (anz (dE V s D before) A (B - A))) (eemp g A B (anz (dE V s D before) A (B - A))) j) ∧ (wd (g j) = 2 → b' (wsm g j 0 + 1) = ec2 g fl (cneg V sg (anz (dE V s D before) A (B - A))) (eemp g A B (anz (dE V s D before) A (B - A))) j) := by
  have hX' := hX
  have hC' := hC
  have hsz := EG_size hX.1
  have hW := EG_wsm hX.1
  obtain ⟨hG, ⟨hD, hDR, hR1, hR2⟩, hR, hsg⟩ := hX'
  obtain ⟨⟨h0, hN, hAM, hMB, hBN, hB⟩, e2, e3, e4, e5, e6, e7, e8⟩ := hG
  obtain ⟨c1, c2, c3, c4, c8, c9, c10, c11, c13, c14, c15, cp⟩ := hC'
  have hcl : cnt g 57 A (B - A) ≤ 24 := by have := cnt_le g 57 (B - A) A; omega
  have hFB : F ≤ B := by
    by_cases c : fl = 0
    · rw [e7 c]; omega
    · have := e6 c; omega
  have hAF : A ≤ F := by
    by_cases c : fl = 0
    · rw [e7 c]; omega
    · exact (e6 c).2.1
  unfold m_E_takeNumber
  rw [C_leaves hX hC hs, Option.bind_some]
  generalize hdig : dE V s D before = dig
  have hdD : ∀ j, ¬ D j = true → dig j = 0 := fun j hj => by rw [← hdig]; unfold dE; rw [if_neg hj]
  generalize hany : anz dig A (B - A) = any
  by_cases hem : eemp g A B any = true
  · -- all is suppressed
    have hcz : cnt g 57 A (B - A) = 0 := by
      unfold eemp at hem
      rw [Bool.and_eq_true] at hem
      exact of_decide_eq_true hem.1
    have ha : any = false := by
      unfold eemp at hem
      rw [Bool.and_eq_true] at hem
      cases any
      · rfl
      · exact absurd hem.2 (by decide)
    obtain ⟨b', eb, hb'⟩ := C_suppAll hX hC b
    rw [hem, if_pos (show v 14 = 0 by rw [c14, hcz]; rfl), ha, if_pos (show (if false = true then (1 : Int32) else 0) = 0 from rfl), eb, Option.bind_some, zbo_1]
    refine ⟨b', rfl, fun j hj => ?_⟩
    have hlt := wsm_mon g (show j + 1 ≤ N from hj)
    rw [wsm_snoc, Nat.zero_add] at hlt
    unfold ech ec2
    rw [if_pos rfl, if_pos rfl]
    have hone : ∀ i, i < wsm g N 0 → (i = wsm g j 0 ∧ 0 < wd (g j) ∨ i = wsm g j 0 + 1 ∧ wd (g j) = 2) → b' i = eem g fl j := by
      intro i hi hij
      rw [hb' i hi]
      unfold eem spr
      by_cases q1 : fl = 42
      · by_cases q2 : g j = 46
        · -- it is the point
          have hjB : j < B := by
            rcases Nat.lt_or_ge j B with z | z
            · exact z
            · exfalso
              cases T
              · rw [if_neg (by decide)] at hB; omega
              · rw [if_pos rfl] at hB
                have : j = N - 1 := by omega
                rw [this] at q2
                rcases e5 rfl with y | y | y | y <;> rw [y] at q2 <;> exact absurd q2 (by decide)
          have hAj : A ≤ j := by
            rcases Nat.lt_or_ge j A with z | z
            · rcases e2 j z with y | y | y <;> rw [y] at q2 <;> exact absurd q2 (by decide)
            · exact z
          have hjM : j = M := by
            rcases e3 j hAj hjB with ⟨y, y2⟩ | ⟨y, _⟩ | y | y
            · rw [q2] at y; rw [← y] at y2; exact absurd y2 (by decide)
            · exact y
            · rw [q2] at y; exact absurd y (by decide)
            · rw [q2] at y; exact absurd y (by decide)
          have hiM : i = M := by
            have hw : wd (g j) = 1 := by rw [q2]; decide
            have := hW j (by omega)
            rw [if_neg (by omega)] at this
            omega
          rw [if_pos ⟨q1, by omega, by rw [← hjM]; exact q2, hiM⟩, if_pos q1, if_pos q2]
        · rw [if_pos q1, if_neg q2]
          rw [if_neg]
          · rw [if_pos q1]
          · rintro ⟨-, z1, z2, z3⟩
            -- the byte of the point belongs to the point
            have hwM : wsm g M 0 = M := by
              have := hW M hMB
              rw [if_neg (by omega)] at this
              omega
            have hwd1 : wd (g M) = 1 := by rw [z2]; decide
            have hjM : j ≠ M := fun y => by rw [y] at q2; exact q2 z2
            rcases Nat.lt_or_ge j M with y | y
            · have := wsm_mon g (show j + 1 ≤ M from y)
              rw [wsm_snoc, Nat.zero_add] at this
              omega
            · have := wsm_mon g (show M + 1 ≤ j by omega)
              rw [wsm_snoc, Nat.zero_add] at this
              omega
      · rw [if_neg (fun z => q1 z.1), if_neg q1, if_neg q1]
    exact ⟨fun hw => hone _ (by omega) (Or.inl ⟨rfl, hw⟩), fun hw => hone _ (by omega) (Or.inr ⟨rfl, hw⟩)⟩
  · -- it is written
    have hem' : eemp g A B any = false := by cases q : eemp g A B any; rfl; exact absurd q hem
    rw [hem']
    generalize hneg : cneg V sg any = neg
    have ha0 : (nI sg = 0) ↔ sg = 0 := nI_eq (b := 0) (by omega) (by decide)
    -- the way to the loop
    have hto : (if v 14 = 0 then (if (if any = true then (1 : Int32) else 0) = 0 then (m_E_suppressAll v b g pw).bind (fun q16 => (zbo 1 (some (1, q16)))) else m_E_takeNumber_26 v g pw V (nI s) (if any = true then 1 else 0) b) else m_E_takeNumber_26 v g pw V (nI s) (if any = true then 1 else 0) b) = m_E_takeNumber_54 v g pw 64 V (nI s) (if neg = true then 1 else 0) 0 b := by
      have h26 : m_E_takeNumber_26 v g pw V (nI s) (if any = true then 1 else 0) b = m_E_takeNumber_54 v g pw 64 V (nI s) (if neg = true then 1 else 0) 0 b := by
        unfold m_E_takeNumber_26 m_E_takeNumber_48 m_E_takeNumber_49
        rw [c4, ← hneg]
        unfold cneg
        by_cases q1 : sg = 0
        · rw [if_pos (ha0.mpr q1)]; simp [q1]
        · rw [if_neg (fun z => q1 (ha0.mp z))]
          cases any
          · rw [if_pos (show (if false = true then (1 : Int32) else 0) = 0 from rfl), Bool.and_false]; rfl
          · rw [if_neg (show ¬ (if true = true then (1 : Int32) else 0) = 0 by decide)]
            by_cases q2 : 0 ≤ lg_cmp V 0
            · rw [if_pos q2]; simp [q2]
            · rw [if_neg q2]; simp [q1, q2]
      by_cases q1 : cnt g 57 A (B - A) = 0
      · rw [if_pos (show v 14 = 0 by rw [c14, q1]; rfl)]
        cases any
        · exact absurd (show eemp g A B false = true by unfold eemp; simp [q1]) hem
        · rw [if_neg (show ¬ (if true = true then (1 : Int32) else 0) = 0 by decide)]; exact h26
      · rw [if_neg (show ¬ v 14 = 0 by rw [c14]; exact nI_ne0 (by omega) (by omega))]; exact h26
    rw [hto]
    -- the loop before the body
    have hpre : ∀ (n k fuel : Nat) (b : Nat → Int32), k + n = A → n < fuel → (∀ i, i < k → b i = fxc (g i) neg) → ∃ b1, m_E_takeNumber_54 v g pw fuel V (nI s) (if neg = true then 1 else 0) (nI k) b = (m_E_writeBody V (nI s) v b1 g pw).bind (fun q5 => (m_E_zoneEnd V (nI s) v q5 g pw).bind (fun q6 => (m_E_suppressZone q6 (if neg = true then 1 else 0) v q5 g pw).bind (fun q7 => (m_E_writeTrailing (if neg = true then 1 else 0) v q7 g pw).bind (fun q8 => some (1, q8))))) ∧ ∀ i, i < A → b1 i = fxc (g i) neg := by
      intro n
      induction n with
      | zero =>
        intro k fuel b hk hf hb
        obtain ⟨fuel, rfl⟩ : ∃ z, fuel = z + 1 := ⟨fuel - 1, by omega⟩
        refine ⟨b, ?_, fun i hi => hb i (by omega)⟩
        show m_E_takeNumber_54b v g pw _ V (nI s) _ (nI k) b = _
        unfold m_E_takeNumber_54b
        rw [c9, if_pos (nI_le (by omega) (by omega))]
        simp only [zbo_1]
      | succ n ih =>
        intro k fuel b hk hf hb
        obtain ⟨fuel, rfl⟩ : ∃ z, fuel = z + 1 := ⟨fuel - 1, by omega⟩
        obtain ⟨b1, e, hb1⟩ := ih (k + 1) fuel (upd b k (fxc (g k) neg)) (by omega) (by omega) (fun i i2 => by
          by_cases z : i = k
          · rw [z, pk_us]
          · rw [pk_un z]; exact hb i (by omega))
        refine ⟨b1, ?_, hb1⟩
        show m_E_takeNumber_54b v g pw (m_E_takeNumber_54 v g pw fuel) V (nI s) _ (nI k) b = _
        unfold m_E_takeNumber_54b
        rw [c9, if_neg (nI_ge (by omega) (by omega)), zix_ok (by omega) (by decide), nI_clamp (by omega), C_fixed, Option.bind_some, zix_ok (by omega) (by decide), nI_1]
        exact e
    obtain ⟨b1, eb1, hb1⟩ := hpre A 0 64 b (by omega) (by omega) (fun i hi => by omega)
    rw [show m_E_takeNumber_54 v g pw 64 V (nI s) (if neg = true then 1 else 0) 0 b = _ from eb1]
    obtain ⟨b2, eb2, hb2, hb2o⟩ := C_writeBody hX hC (V := V) hs (B - A) A 64 b1 (by omega) (Nat.le_refl _) (by omega)
    rw [show m_E_writeBody V (nI s) v b1 g pw = some b2 by unfold m_E_writeBody; rw [c9]; exact eb2, Option.bind_some, C_zone hX hC hs b2 hAF hFB, Option.bind_some, hdig]
    rw [hdig] at hb2
    obtain ⟨z1, z2, z3⟩ := ze_le g M dig (B - F) F
    generalize hZ : ze g M dig (B - F) F = Z at z1 z2 z3
    have hZM : fl ≠ 0 → Z ≤ M := by
      intro q
      have := e6 q
      rcases Nat.lt_or_ge M B with y | y
      · exact z3 (by omega) (by omega)
      · omega
    obtain ⟨b3, eb3, hb3⟩ := C_suppZone hC (Z := Z) z1 (by omega) neg b2
    rw [eb3, Option.bind_some]
    obtain ⟨b4, eb4, hb4a, hb4b⟩ := C_trailing hX hC neg b3
    rw [eb4, Option.bind_some]
    have hA0 : wsm g A 0 = A := by have := hW A (by omega); rw [if_neg (by omega)] at this; omega
    -- before the end of the body nothing else is written
    have h43 : ∀ j, j < B → 0 < wd (g j) → b4 (wsm g j 0) = b3 (wsm g j 0) := by
      intro j hj hw
      cases hT : T
      · rw [hb4a hT]
      · have hB' : B = N - 1 := by rw [hB, hT, if_pos rfl]
        have := wsm_lt g hj hw
        rw [hB'] at this
        exact (hb4b hT).1 _ this
    refine ⟨b4, rfl, fun j hj => ?_⟩
    unfold ech ec2
    rw [if_neg (show ¬ false = true by decide), if_neg (show ¬ false = true by decide)]
    rcases Nat.lt_or_ge j B with hjB | hjB
    · refine ⟨fun hw => ?_, fun hw => ?_⟩
      · rw [h43 j hjB hw, hb3]
        rcases Nat.lt_or_ge j A with hjA | hjA
        · -- before the body
          have hwj : wsm g j 0 = j := by have := hW j (by omega); rw [if_neg (by omega)] at this; omega
          have hDj : ¬ D j = true := fun z => by have := ((hD j).mp z).1; omega
          rw [hwj, if_neg (by omega), if_neg (by omega), hb2o j (Or.inl (by omega)), hb1 j hjA]
          unfold epl fxc
          rw [if_neg hDj]
          rcases e2 j hjA with q | q | q
          · rw [if_pos (Or.inl q), if_neg (by rw [q]; decide)]
          · rw [if_pos (Or.inr q), if_neg (by rw [q]; decide)]
          · rw [if_pos q, if_neg (by rw [q]; decide), if_neg (by rw [q]; decide), if_neg (by rw [q]; decide), q]
        · by_cases hz : F ≤ j ∧ j < Z
          · -- in the zone
            have hfl : fl ≠ 0 := fun q => by have := e7 q; omega
            have hwj : wsm g j 0 = j := by have t1 := hW j (by omega); have t2 := hZM hfl; rw [if_neg (by omega)] at t1; omega
            rw [hwj, if_pos hz, if_pos hz]
            unfold ezo spr fxc
            by_cases q1 : fl = 42
            · rw [if_pos q1, if_neg (fun y => by rw [q1] at y; exact absurd y.1 (by decide)), if_pos q1]
            · rw [if_neg q1, if_neg q1]
          · have hni : ¬ (F ≤ wsm g j 0 ∧ wsm g j 0 < Z) := by
              intro ⟨y1, y2⟩
              have hfl : fl ≠ 0 := fun q => by have := e7 q; omega
              have h1 := hZM hfl
              have h2 := hW j (by omega)
              by_cases t : hdn g B M = true ∧ M < j
              · rw [if_pos t] at h2; omega
              · rw [if_neg t] at h2; omega
            rw [if_neg hni, if_neg hz, hb2 j hjA hjB hw]
            unfold ebd epl
            by_cases q : D j = true
            · rw [if_pos q, if_pos q]
            · rw [if_neg q, if_neg q]
              have hns : ¬ (g j = 43 ∨ g j = 45) := by
                intro y
                rcases e3 j hjA hjB with ⟨t1, t2⟩ | ⟨_, t⟩ | t | t
                · have hfl : fl ≠ 0 := fun z => by rw [z] at t2; exact absurd t2 (by decide)
                  have hflo : flo fl = true := by
                    rw [← t1]
                    rcases y with y | y <;> rw [y] <;> decide
                  have hjF : j = F := by
                    rcases Nat.lt_or_ge j F with w | w
                    · exact absurd t1 ((e6 hfl).2.2.2.2 j hjA w).1
                    · by_cases w2 : j = F
                      · exact w2
                      · exact absurd ((hD j).mpr ⟨⟨hjA, hjB⟩, fun w3 => w2 w3.2, Or.inr ⟨hfl, t1⟩⟩) q
                  apply hz
                  refine ⟨by omega, ?_⟩
                  have hBF : B - F = (B - F - 1) + 1 := by omega
                  rw [← hZ, hBF, ze_s, if_neg]
                  · have := (ze_le g M dig (B - F - 1) (F + 1)).1
                    omega
                  · have h6 := e6 hfl
                    rintro (w | w | w)
                    · omega
                    · rw [h6.2.2.2.1] at w
                      exact (iF_wd h6.1).2.2.2.1 w
                    · rw [← hjF] at w
                      exact w (hdD j q)
                · rcases t with t | t <;> rw [t] at y <;> exact absurd y (by decide)
                · rw [t] at y; exact absurd y (by decide)
                · have := iI_wd t
                  rcases y with y | y
                  · exact this.2.2.2.2.2.1 y
                  · exact this.2.2.2.2.2.2.1 y
              have hnl : ¬ (g j = 67 ∨ g j = 68) := by
                intro y
                have := EG_wd hX.1 hjB
                have hw2 : wd (g j) = 2 := by rcases y with y | y <;> rw [y] <;> decide
                rw [hw2] at this
                split at this <;> omega
              rw [if_neg hns, if_neg hnl]
      · have := EG_wd hX.1 hjB
        rw [hw] at this
        split at this <;> omega
    · -- behind the body
      have hT : T = true := by
        cases hT : T
        · rw [hT, if_neg (by decide)] at hB; omega
        · rfl
      have hB' : B = N - 1 := by rw [hB, hT, if_pos rfl]
      obtain rfl : j = N - 1 := by omega
      have hDj : ¬ D (N - 1) = true := fun z => by have := ((hD _).mp z).1; omega
      obtain ⟨-, t1, t2⟩ := hb4b hT
      have hnz : ¬ (F ≤ N - 1 ∧ N - 1 < Z) := by omega
      rw [if_neg hnz]
      unfold epl
      rw [if_neg hDj]
      refine ⟨fun _ => ?_, fun hw => (t2 hw).2⟩
      rcases e5 hT with q | q | q | q
      · rw [(t2 (by rw [q]; decide)).1, if_neg (show ¬ (g (N - 1) = 43 ∨ g (N - 1) = 45) by rw [q]; decide), if_pos (Or.inl q)]
      · rw [(t2 (by rw [q]; decide)).1, if_neg (show ¬ (g (N - 1) = 43 ∨ g (N - 1) = 45) by rw [q]; decide), if_pos (Or.inr q)]
      · rw [t1 (by rw [q]; decide), if_pos (Or.inl q)]
        unfold fxc
        rw [if_neg (by rw [q]; decide)]
      · rw [t1 (by rw [q]; decide), if_pos (Or.inr q)]
        unfold fxc
        rw [if_neg (by rw [q]; decide)]
/-- a number is stored in an edited field: both alike -/
theorem store_E {u : Nat → Nat → Int32} {x : Nat} (hx : x < 8) {ve pw : Nat → Int32} {g : Nat → Int32} {N A B M F : Nat} {fl : Int32} {T : Bool} {D : Nat → Bool} {R sg before behind : Nat} (hX : EX g N A B M F fl T D R sg before behind) (hU : ER u x g N A B M fl D R sg before behind) (hC : EC ve pw g N A B M F fl T D sg before behind) {V : Int64} {s : Nat} {v : Nat → Int32} (h : NR V s v u) (b : Nat → Int32) :
    ∃ b' u', m_E_takeNumber V (nI s) ve b g pw = some (1, b') ∧ m_M_storeNumber (nI x) v u = some u' ∧ stx x u u' ∧ ∀ j, j < wsm g N 0 → b' j = u' 16 (32 * x + j) := by
  obtain ⟨w, ew, w1, w2⟩ := P_edit hx hX hU h
  obtain ⟨b', eb, hb⟩ := C_edit hX hC (V := V) h.1 b
  have hle := (EG_size hX.1).2.2.1
  refine ⟨b', _, eb, ew, ⟨fun r q1 q2 => zset_n _ _ q1, fun i hi => by rw [zset_s, w2 i (by omega)]⟩, fun i hi => ?_⟩
  rw [zset_s]
  obtain ⟨j, hj, q⟩ := wsm_cover g N i hi
  rcases q with ⟨rfl, q⟩ | ⟨rfl, q⟩
  · rw [(hb j hj).1 q, (w1 j hj).1 q]
  · rw [(hb j hj).2 q, ← Nat.add_assoc, (w1 j hj).2 q]
