theorem upd_upd (f : Nat → Int32) (k : Nat) (x y : Int32) : upd (upd f k x) k y = upd f k y := by
  funext j
  by_cases c : j = k
  · rw [c, pk_us, pk_us]
  · rw [pk_un c, pk_un c, pk_un c]
/-- does a symbol's place show a number below zero -/
def chk1 (g b : Nat → Int32) (j : Nat) : Bool := (decide (0 < wd (g j)) && decide (b (wsm g j 0) = 45)) || (decide (wd (g j) = 2) && decide (b (wsm g j 0 + 1) = 45)) || ltc g b j
theorem wd_2 {y : Int32} (h : wd y = 2) : y = 67 ∨ y = 68 := by
  unfold wd at h
  by_cases a1 : y = 86
  · rw [if_pos a1] at h; omega
  · rw [if_neg a1] at h
    by_cases a2 : y = 67 ∨ y = 68
    · exact a2
    · rw [if_neg a2] at h; omega
/-- one symbol's place is looked at -/
theorem P_sgn {g b : Nat → Int32} {x k : Nat} (hx : x < 8) (rec : Int32 → Int32 → Int32 → (Nat → Int32) → (Nat → Nat → Int32) → Option ((Nat → Int32) × (Nat → Nat → Int32))) (v : Nat → Int32) (u : Nat → Nat → Int32) (h1 : wsm g k 0 + wd (g k) ≤ 26) (hb : ∀ i, i < wd (g k) → u 16 (32 * x + wsm g k 0 + i) = b (wsm g k 0 + i)) :
    m_M_takeEdited_77 rec (nI x) (nI (32 * x + wsm g k 0)) (nI k) (g k) v u = rec (nI x) (nI (32 * x + wsm g k 0) + nI (wd (g k))) (nI k + 1) (if chk1 g b k = true then upd v 21 1 else v) u := by
  have hw := wd_le (g k)
  have h190 : ∀ w, m_M_takeEdited_190 rec (nI x) (nI (32 * x + wsm g k 0)) (nI k) (g k) w u = rec (nI x) (nI (32 * x + wsm g k 0) + nI (wd (g k))) (nI k + 1) w u := by
    intro w
    unfold m_M_takeEdited_190
    rw [P_width, Option.bind_some]
  have h185 : ∀ w, m_M_takeEdited_185 rec (nI x) (nI (32 * x + wsm g k 0)) (nI k) (g k) w u = rec (nI x) (nI (32 * x + wsm g k 0) + nI (wd (g k))) (nI k + 1) (upd w 21 1) u := by
    intro w
    unfold m_M_takeEdited_185
    rw [zbo_1, h190]
  have h123 : ∀ w, m_M_takeEdited_123 rec (nI x) (nI (32 * x + wsm g k 0)) (nI k) (g k) w u = rec (nI x) (nI (32 * x + wsm g k 0) + nI (wd (g k))) (nI k + 1) (if ltc g b k = true then upd w 21 1 else w) u := by
    intro w
    have n4 : ¬ (68 : Int32) = 67 := by decide
    unfold m_M_takeEdited_123 m_M_takeEdited_154 ltc
    rw [h190, h185]
    by_cases c1 : g k = 67
    · have h2 : wd (g k) = 2 := by rw [c1]; decide
      have b0 := hb 0 (by omega)
      have b1 := hb 1 (by omega)
      rw [Nat.add_zero, Nat.add_zero] at b0
      have c2 : ¬ g k = 68 := by rw [c1]; decide
      rw [if_pos c1, if_neg c2, nI_1, zix_ok (by omega) (by decide), zix_ok (by omega) (by decide), nI_clamp (by omega), nI_clamp (by omega), b0, b1]
      by_cases t1 : b (wsm g k 0) = 67
      · rw [if_pos t1]
        by_cases t2 : b (wsm g k 0 + 1) = 82
        · rw [if_pos t2, if_pos]; simp [c1, t1, t2]
        · rw [if_neg t2, if_neg]; simp [t1, t2]
      · rw [if_neg t1, if_neg]
        simp [t1, c2]
    · rw [if_neg c1]
      by_cases c2 : g k = 68
      · have h2 : wd (g k) = 2 := by rw [c2]; decide
        have b0 := hb 0 (by omega)
        have b1 := hb 1 (by omega)
        rw [Nat.add_zero, Nat.add_zero] at b0
        rw [if_pos c2, nI_1, zix_ok (by omega) (by decide), zix_ok (by omega) (by decide), nI_clamp (by omega), nI_clamp (by omega), b0, b1]
        by_cases t1 : b (wsm g k 0) = 68
        · rw [if_pos t1]
          by_cases t2 : b (wsm g k 0 + 1) = 66
          · rw [if_pos t2, if_pos]; simp [c2, t1, t2]
          · rw [if_neg t2, if_neg]; simp [t1, t2, c1]
        · rw [if_neg t1, if_neg]
          simp [t1, c1]
      · rw [if_neg c2, if_neg]
        simp [c1, c2]
  have h118 : ∀ w, m_M_takeEdited_118 rec (nI x) (nI (32 * x + wsm g k 0)) (nI k) (g k) w u = rec (nI x) (nI (32 * x + wsm g k 0) + nI (wd (g k))) (nI k + 1) (upd w 21 1) u := by
    intro w
    unfold m_M_takeEdited_118
    rw [zbo_1, h123, upd_upd, ite_self]
  have h96 : m_M_takeEdited_96 rec (nI x) (nI (32 * x + wsm g k 0)) (nI k) (g k) v u = rec (nI x) (nI (32 * x + wsm g k 0) + nI (wd (g k))) (nI k + 1) (if ((decide (wd (g k) = 2) && decide (b (wsm g k 0 + 1) = 45)) || ltc g b k) = true then upd v 21 1 else v) u := by
    unfold m_M_takeEdited_96
    rw [P_width, Option.bind_some, h118, h123]
    by_cases c : wd (g k) = 2
    · have b1 := hb 1 (by omega)
      rw [if_pos (show nI (wd (g k)) = 2 by rw [c]; rfl), nI_1, zix_ok (by omega) (by decide), nI_clamp (by omega), b1]
      by_cases t : b (wsm g k 0 + 1) = 45
      · rw [if_pos t, if_pos]; simp [c, t]
      · rw [if_neg t]
        have : ((decide (wd (g k) = 2) && decide (b (wsm g k 0 + 1) = 45)) || ltc g b k) = ltc g b k := by simp [t]
        rw [this]
    · rw [if_neg (show ¬ nI (wd (g k)) = 2 from fun q => c ((nI_eq (b := 2) (by omega) (by decide)).mp q))]
      have : ((decide (wd (g k) = 2) && decide (b (wsm g k 0 + 1) = 45)) || ltc g b k) = ltc g b k := by simp [c]
      rw [this]
  unfold m_M_takeEdited_77 chk1
  rw [P_width, Option.bind_some, h118, h96]
  rcases Nat.lt_or_ge 0 (wd (g k)) with c | c
  · have b0 := hb 0 c
    rw [Nat.add_zero, Nat.add_zero] at b0
    rw [if_neg (nI_nle c (by omega)), zix_ok (by omega) (by decide), nI_clamp (by omega), b0]
    by_cases t : b (wsm g k 0) = 45
    · rw [if_pos t, if_pos]; simp [c, t]
    · rw [if_neg t]
      have : (((decide (0 < wd (g k)) && decide (b (wsm g k 0) = 45)) || (decide (wd (g k) = 2) && decide (b (wsm g k 0 + 1) = 45))) || ltc g b k) = ((decide (wd (g k) = 2) && decide (b (wsm g k 0 + 1) = 45)) || ltc g b k) := by simp [t]
      rw [this]
  · have c0 : wd (g k) = 0 := by omega
    rw [if_pos (show nI (wd (g k)) ≤ 0 by rw [c0]; decide)]
    have : (((decide (0 < wd (g k)) && decide (b (wsm g k 0) = 45)) || (decide (wd (g k) = 2) && decide (b (wsm g k 0 + 1) = 45))) || ltc g b k) = ((decide (wd (g k) = 2) && decide (b (wsm g k 0 + 1) = 45)) || ltc g b k) := by simp [c0]
    rw [this]
def ch1 (g b : Nat → Int32) (j : Nat) : Nat := if chk1 g b j = true then 1 else 0
theorem P_takeEd {u0 : Nat → Nat → Int32} {x : Nat} (hx : x < 8) {g : Nat → Int32} {N A B M F : Nat} {fl : Int32} {T : Bool} {D : Nat → Bool} {R sg before behind : Nat} (hX : EX g N A B M F fl T D R sg before behind) (hU : ER u0 x g N A B M fl D R sg before behind) {b : Nat → Int32} (hb : ∀ j, j < wsm g N 0 → b j = u0 16 (32 * x + j)) :
    ∀ (n k fuel : Nat) (v : Nat → Int32) (u : Nat → Nat → Int32) (fb : Bool), k + n = N → n < fuel → (∀ r, r ≠ 17 → u r = u0 r) → v 21 = (if fb = true then 1 else 0) → ∃ v' w, m_M_takeEdited_7 fuel (nI x) (nI (32 * x + wsm g k 0)) (nI k) v u = some (v', zset u 17 w) ∧ v' 20 = nI behind ∧ v' 21 = (if (fb || anz (ch1 g b) k n) = true then 1 else 0) ∧ (∀ r, r ≠ 20 → r ≠ 21 → v' r = v r) ∧ ∀ i, w i = if i < R - dcn D k 0 then nI (ddg b g D N (R - 1 - i)) else u 17 i := by
  have hsz := EG_size hX.1
  have hX' := hX
  have hU' := hU
  obtain ⟨hG, ⟨hD, hDR, hR1, hR2⟩, hR, hsg⟩ := hX'
  obtain ⟨⟨h0, hN, hAM, hMB, hBN, hB⟩, e2, e3, e4, e5, e6, e7, e8⟩ := hG
  obtain ⟨r2, r3, r4, r5, r7, r8, r9, r11, r12, r13, r14, r15⟩ := hU'
  intro n
  induction n with
  | zero =>
    intro k fuel v u fb hk hf hu hv
    obtain ⟨fuel, rfl⟩ : ∃ z, fuel = z + 1 := ⟨fuel - 1, by omega⟩
    refine ⟨upd v 20 (nI behind), u 17, ?_, pk_us, ?_, fun r q1 q2 => pk_un q1, fun i => ?_⟩
    · show m_M_takeEdited_7b _ (nI x) _ (nI k) v u = _
      unfold m_M_takeEdited_7b
      rw [zix_ok (show x < 9 by omega) (by decide), nI_clamp (by omega), hu 2 (by decide), r2, if_pos (nI_le (by omega) (by omega)), zix_ok (show x < 9 by omega) (by decide), hu 8 (by decide), r8, zset_self]
    · rw [pk_un (by decide), hv]
      show _ = if (fb || false) = true then (1 : Int32) else 0
      rw [Bool.or_false]
    · obtain rfl : k = N := by omega
      rw [if_neg (by omega)]
  | succ n ih =>
    intro k fuel v u fb hk hf hu hv
    obtain ⟨fuel, rfl⟩ : ∃ z, fuel = z + 1 := ⟨fuel - 1, by omega⟩
    have hmon := wsm_mon g (show k + 1 ≤ N by omega)
    have hws : wsm g (k + 1) 0 = wsm g k 0 + wd (g k) := by rw [wsm_snoc, Nat.zero_add]
    have hle := hsz.2.2.1
    have hds := dcn_snoc D k
    have hdm : dcn D (k + 1) 0 ≤ R := by
      rw [← hDR]
      have := dcn_app D (k + 1) (N - (k + 1)) 0
      rw [show k + 1 + (N - (k + 1)) = N by omega] at this
      omega
    -- the step, with the row as it is then
    have step : ∀ u1 : Nat → Nat → Int32, (∀ r, r ≠ 17 → u1 r = u0 r) → (∀ i, u1 17 i = if i < R - dcn D k 0 ∧ R - dcn D (k + 1) 0 ≤ i then nI (ddg b g D N (R - 1 - i)) else u 17 i) → ∃ v' w, m_M_takeEdited_77 (m_M_takeEdited_7 fuel) (nI x) (nI (32 * x + wsm g k 0)) (nI k) (g k) v u1 = some (v', zset u1 17 w) ∧ v' 20 = nI behind ∧ v' 21 = (if (fb || anz (ch1 g b) k (n + 1)) = true then 1 else 0) ∧ (∀ r, r ≠ 20 → r ≠ 21 → v' r = v r) ∧ ∀ i, w i = if i < R - dcn D k 0 then nI (ddg b g D N (R - 1 - i)) else u 17 i := by
      intro u1 hu1 hrow
      rw [P_sgn (b := b) hx _ v u1 (by omega) (fun i hi => by rw [hu1 16 (by decide), hb _ (by omega), Nat.add_assoc]), nI_add, nI_1, show 32 * x + wsm g k 0 + wd (g k) = 32 * x + wsm g (k + 1) 0 by omega]
      obtain ⟨v', w, e, a1, a2, a3, a4⟩ := ih (k + 1) fuel (if chk1 g b k = true then upd v 21 1 else v) u1 (fb || chk1 g b k) (by omega) (by omega) hu1 (by
        by_cases c : chk1 g b k = true
        · rw [if_pos c, pk_us, c, Bool.or_true, if_pos rfl]
        · have c' : chk1 g b k = false := by cases q : chk1 g b k; rfl; exact absurd q c
          rw [if_neg c, c', Bool.or_false]; exact hv)
      refine ⟨v', w, e, a1, ?_, ?_, ?_⟩
      · rw [a2, anz_s]
        have : (ch1 g b k != 0) = chk1 g b k := by
          unfold ch1
          cases chk1 g b k <;> rfl
        rw [this, Bool.or_assoc]
      · intro r q1 q2
        rw [a3 r q1 q2]
        split
        · rw [pk_un q2]
        · rfl
      · intro i
        rw [a4 i, hrow i]
        by_cases c : i < R - dcn D (k + 1) 0
        · rw [if_pos c, if_pos (by omega)]
        · rw [if_neg c]
          by_cases d : i < R - dcn D k 0
          · rw [if_pos d, if_pos ⟨d, by omega⟩]
          · rw [if_neg d, if_neg (fun q => d q.1)]
    show ∃ v' w, m_M_takeEdited_7b (m_M_takeEdited_7 fuel) (nI x) (nI (32 * x + wsm g k 0)) (nI k) v u = _ ∧ _
    unfold m_M_takeEdited_7b m_M_takeEdited_76
    rw [zix_ok (show x < 9 by omega) (by decide), nI_clamp (show x < 2 ^ 31 by omega), hu 2 (by decide), r2, if_neg (nI_ge (by omega) (by omega)), n24, zix_ok (by omega) (by decide), P_sym (by omega) (by omega), Option.bind_some, nI_clamp (by omega), hu 3 (by decide), r3 k (by omega), hu 4 (by decide), r4 k (by omega)]
    by_cases q : D k = true
    · rw [if_pos q] at hds
      have hlt := dcn_lt (show k < N by omega) q
      rw [hDR] at hlt
      have hkB := ((hD k).mp q).1
      have hw : wd (g k) = 1 := by
        have := EG_wd hX.1 hkB.2
        rw [this, if_neg]
        intro ⟨z1, z2⟩
        have hz := of_decide_eq_true z1
        have := ((hD k).mp q).2.2
        rw [z2, hz.2] at this
        rcases this with y | ⟨y1, y2⟩
        · exact absurd y (by decide)
        · exact absurd y2.symm (iF_wd (e6 y1).1).1
      have hdd := ddg_is (b := b) (g := g) (show k < N by omega) q
      have hbk := hb (wsm g k 0) (by omega)
      rw [if_pos q, if_neg (nI_nle (by omega) (by omega)), zix_ok (show 32 * x + wsm g k 0 < 256 by omega) (by decide), nI_clamp (show 32 * x + wsm g k 0 < 2 ^ 31 by omega), hu 16 (by decide), ← hbk, P_isDigit, Option.bind_some, sub1 (by omega)]
      have fin : ∀ c : Int32, c = nI (chd (b (wsm g k 0))) → ∃ v' w, zix (nI (R - dcn D k 0 - 1)) 48 (m_M_takeEdited_77 (m_M_takeEdited_7 fuel) (nI x) (nI (32 * x + wsm g k 0)) (nI k) (g k) v (zau u 17 (nI (R - dcn D k 0 - 1)) c)) = some (v', zset u 17 w) ∧ v' 20 = nI behind ∧ v' 21 = (if (fb || anz (ch1 g b) k (n + 1)) = true then 1 else 0) ∧ (∀ r, r ≠ 20 → r ≠ 21 → v' r = v r) ∧ ∀ i, w i = if i < R - dcn D k 0 then nI (ddg b g D N (R - 1 - i)) else u 17 i := by
        intro c hc
        rw [zix_ok (by omega) (by decide), zau_nI _ _ _ _ (by omega)]
        obtain ⟨v', w, e, a1, a2, a3, a4⟩ := step (zset u 17 (upd (u 17) (R - dcn D k 0 - 1) c)) (fun r hr => by rw [zset_n _ _ hr]; exact hu r hr) (fun i => by
          rw [zset_s]
          by_cases z : i = R - dcn D k 0 - 1
          · rw [z, pk_us, if_pos ⟨by omega, by omega⟩, hc, show R - 1 - (R - dcn D k 0 - 1) = dcn D k 0 by omega, hdd]
          · rw [pk_un z, if_neg (by omega)])
        rw [zset_zset] at e
        exact ⟨v', w, e, a1, a2, a3, a4⟩
      by_cases y : dg (b (wsm g k 0)) = 0
      · rw [if_pos y]
        exact fin 0 (by unfold chd; rw [if_pos y]; rfl)
      · rw [if_neg y, zix_ok (show 32 * x + wsm g k 0 < 256 by omega) (by decide)]
        exact fin _ (chd_is y)
    · rw [if_neg q, Nat.add_zero] at hds
      rw [if_neg q, if_pos (by decide)]
      exact step u hu (fun i => by rw [if_neg (by omega)])
/-- both take the same number out of an edited field -/
theorem take_E {u : Nat → Nat → Int32} {x : Nat} (hx : x < 8) {ve pw : Nat → Int32} {g : Nat → Int32} {N A B M F : Nat} {fl : Int32} {T : Bool} {D : Nat → Bool} {R sg before behind : Nat} (hX : EX g N A B M F fl T D R sg before behind) (hU : ER u x g N A B M fl D R sg before behind) (hC : EC ve pw g N A B M F fl T D sg before behind) (v : Nat → Int32) {b : Nat → Int32} (hb : ∀ j, j < wsm g N 0 → b j = u 16 (32 * x + j)) :
    ∃ V v' u', m_E_number ve b g pw = some V ∧ m_M_takeNumber (nI x) v u = some (v', u') ∧ TK V behind v u v' u' := by
  have hX' := hX
  have hU' := hU
  have hsz := EG_size hX.1
  obtain ⟨hG, ⟨hD, hDR, hR1, hR2⟩, hR, hsg⟩ := hX'
  obtain ⟨⟨h0, hN, hAM, hMB, hBN, hB⟩, e2, e3, e4, e5, e6, e7, e8⟩ := hG
  obtain ⟨V, eV, hV⟩ := C_Enumber hX hC b
  obtain ⟨g0, e0, hg0⟩ := P_nothing v u
  have hU2 : ER (zset u 17 g0) x g N A B M fl D R sg before behind := by
    obtain ⟨r2, r3, r4, r5, r7, r8, r9, r11, r12, r13, r14, r15⟩ := hU'
    have z : ∀ r, r ≠ 17 → zset u 17 g0 r = u r := fun r hr => zset_n u g0 hr
    refine ⟨?_, ?_, ?_, ?_, ?_, ?_, ?_, ?_, ?_, ?_, ?_, ?_⟩ <;> rw [z _ (by decide)] <;> assumption
  obtain ⟨v', w, e, a1, a2, a3, a4⟩ := P_takeEd hx hX hU2 (b := b) (fun j hj => by rw [zset_n _ _ (by decide)]; exact hb j hj) N 0 64 (upd (upd v 20 0) 21 0) (zset u 17 g0) false (by omega) (by omega) (fun _ _ => rfl) (by rw [pk_us]; rfl)
  rw [zset_zset] at e
  have hd9 : ∀ i, ddg b g D N i ≤ 9 := fun i => chd_le _
  have hlt := hz_lt hd9 R
  have h12 : 10 ^ R ≤ 10 ^ 12 := Nat.pow_le_pow_right (by omega) hR2
  have hflag : anz (ch1 g b) 0 N = ebl g b N T := by
    have h : anz (ch1 g b) 0 N = true ↔ ebl g b N T = true := by
      unfold ebl
      rw [Bool.or_eq_true, anz_iff, anz_iff]
      have hlt : ∀ j, ltc g b j = true → g j = 67 ∨ g j = 68 := by
        intro j hj
        unfold ltc at hj
        rw [Bool.or_eq_true, decide_eq_true_iff, decide_eq_true_iff] at hj
        rcases hj with hj | hj
        · exact Or.inl hj.1
        · exact Or.inr hj.1
      have hin : ∀ j, j < N → (g j = 67 ∨ g j = 68) → T = true ∧ j = N - 1 := by
        intro j hj hg
        have hw2 : wd (g j) = 2 := by rcases hg with y | y <;> rw [y] <;> decide
        rcases Nat.lt_or_ge j B with c | c
        · have := EG_wd hX.1 c
          rw [hw2] at this
          split at this <;> omega
        · cases hT : T
          · rw [hT, if_neg (by decide)] at hB; omega
          · rw [hT, if_pos rfl] at hB; exact ⟨rfl, by omega⟩
      constructor
      · intro ⟨j, _, j2, j3⟩
        have hj : chk1 g b j = true := by
          unfold ch1 at j3
          by_cases c : chk1 g b j = true
          · exact c
          · rw [if_neg c] at j3; exact absurd rfl j3
        have hmon := wsm_mon g (show j + 1 ≤ N by omega)
        rw [wsm_snoc, Nat.zero_add] at hmon
        unfold chk1 at hj
        rw [Bool.or_eq_true, Bool.or_eq_true, Bool.and_eq_true, Bool.and_eq_true, decide_eq_true_iff, decide_eq_true_iff, decide_eq_true_iff, decide_eq_true_iff] at hj
        rcases hj with (⟨q1, q2⟩ | ⟨q1, q2⟩) | q
        · exact Or.inl ⟨wsm g j 0, by omega, by omega, by unfold m45; rw [if_pos q2]; decide⟩
        · exact Or.inl ⟨wsm g j 0 + 1, by omega, by omega, by unfold m45; rw [if_pos q2]; decide⟩
        · obtain ⟨t1, t2⟩ := hin j (by omega) (hlt j q)
          rw [t2] at q
          exact Or.inr (by rw [t1, q]; rfl)
      · rintro (⟨i, _, i2, i3⟩ | q)
        · obtain ⟨j, j1, j2⟩ := wsm_cover g N i (by omega)
          have hi : b i = 45 := by
            unfold m45 at i3
            by_cases c : b i = 45
            · exact c
            · rw [if_neg c] at i3; exact absurd rfl i3
          refine ⟨j, by omega, by omega, ?_⟩
          unfold ch1
          rw [if_pos]
          · decide
          · unfold chk1
            rw [Bool.or_eq_true, Bool.or_eq_true, Bool.and_eq_true, Bool.and_eq_true, decide_eq_true_iff, decide_eq_true_iff, decide_eq_true_iff, decide_eq_true_iff]
            rcases j2 with ⟨y1, y2⟩ | ⟨y1, y2⟩
            · exact Or.inl (Or.inl ⟨y2, by rw [← y1]; exact hi⟩)
            · exact Or.inl (Or.inr ⟨y2, by rw [← y1]; exact hi⟩)
        · rw [Bool.and_eq_true] at q
          refine ⟨N - 1, by omega, by omega, ?_⟩
          unfold ch1
          rw [if_pos]
          · decide
          · unfold chk1
            rw [q.2, Bool.or_true]
    cases q : anz (ch1 g b) 0 N <;> cases q2 : ebl g b N T
    · rfl
    · rw [q, q2] at h; exact absurd (h.mpr rfl) (by decide)
    · rw [q, q2] at h; exact absurd (h.mp rfl) (by decide)
    · rfl
  rw [Bool.false_or, hflag] at a2
  have hbh : behind ≤ 12 := by omega
  have hNR : NR V behind v' (zset u 17 w) ∧ V.toInt.natAbs = hz (ddg b g D N) R := by
    refine NR_of hbh a1 a2 ?_ hV ?_
    · cases ebl g b N T
      · exact Or.inl rfl
      · exact Or.inr rfl
    · intro j hj
      have hD0 : dcn D 0 0 = 0 := rfl
      rw [zset_s, a4 j, hD0, Nat.sub_zero, hz_dig hd9]
      by_cases c : j < R
      · rw [if_pos c, if_pos c]
      · rw [if_neg c, if_neg c, zset_s, hg0 j hj]; rfl
  refine ⟨V, v', _, eV, ?_, hNR.1, fun r q1 q2 => by rw [a3 r q1 q2, pk_un q2, pk_un q1], fun r hr => zset_n _ _ hr, by rw [hNR.2]; omega⟩
  have r5 : u 5 x = 2 := hU.2.2.2.1
  unfold m_M_takeNumber
  rw [e0, Option.bind_some]
  simp only [zix_ok (show x < 9 by omega) (show 9 < 2 ^ 31 by decide), nI_clamp (show x < 2 ^ 31 by omega), zset_n u g0 (show (5 : Nat) ≠ 17 by decide), r5]
  rw [if_neg (by decide), if_pos trivial]
  unfold m_M_takeEdited
  rw [n32', show m_M_takeEdited_7 64 (nI x) (nI (32 * x)) 0 (upd (upd v 20 0) 21 0) (zset u 17 g0) = some (v', zset u 17 w) from e]; rfl
