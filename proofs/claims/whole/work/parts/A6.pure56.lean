/-! get and set. -/
theorem P_byte {n x : Nat} (hn : n ≤ 8) (hx : x < n) {mv : Nat → Int32} (h3 : mv 3 = nI n) {mu : Nat → Nat → Int32} {S : Nat} (h15 : mu 15 x = nI S) (k : Int32) : m_M_isByte (nI x) k mv mu = some (if k < 0 then 0 else if nI S ≤ k then 0 else 1) := by
  unfold m_M_isByte
  rw [P_isF hn hx h3, Option.bind_some, if_neg (show ¬ (1 : Int32) = 0 by decide), zix_ok (show x < 9 by omega) (by decide), nI_clamp (by omega), h15]
  simp only [zbo_0, zbo_1]
  repeat' split
  all_goals rfl
theorem P_byte0 {n : Nat} {a : Int32} (ha : a < 0 ∨ (¬ a < 0 ∧ nI n ≤ a)) {mv : Nat → Int32} (h3 : mv 3 = nI n) (mu : Nat → Nat → Int32) (k : Int32) : m_M_isByte a k mv mu = some 0 := by
  unfold m_M_isByte
  rw [P_isF0 ha h3, Option.bind_some, if_pos rfl, zbo_0]
theorem byte_cases {S : Nat} (hS : S ≤ 25) (k : Int32) : (∃ j, j < S ∧ k = nI j) ∨ (if k < 0 then (0 : Int32) else if nI S ≤ k then 0 else 1) = 0 := by
  by_cases c : k < 0
  · right; rw [if_pos c]
  · obtain ⟨j, hj, rfl⟩ := nI_of c
    rcases Nat.lt_or_ge j S with q | q
    · exact Or.inl ⟨j, q, rfl⟩
    · right; rw [if_neg c, if_pos (nI_le q hj)]
theorem byte_in {S j : Nat} (hS : S ≤ 25) (hj : j < S) : (if nI j < 0 then (0 : Int32) else if nI S ≤ nI j then 0 else 1) = 1 := by
  rw [if_neg (nI_pos (by omega)), if_neg (nI_ge hj (by omega))]
theorem C_hb_N (k : Int32) {S : Nat} {v : Nat → Int32} (h : v 1 = nI S) (b : Nat → Int32) : m_F_hasByte_N k v b = some (if k < 0 then 0 else if nI S ≤ k then 0 else 1) := by
  unfold m_F_hasByte_N
  simp only [zbo_0, zbo_1, h]
  repeat' split
  all_goals rfl
theorem C_hb_T (k : Int32) {S : Nat} {v : Nat → Int32} (h : v 1 = nI S) (b : Nat → Int32) : m_F_hasByte_T k v b = some (if k < 0 then 0 else if nI S ≤ k then 0 else 1) := by
  unfold m_F_hasByte_T
  simp only [zbo_0, zbo_1, h]
  repeat' split
  all_goals rfl
theorem C_hb_E (k : Int32) {S : Nat} {v : Nat → Int32} (h : v 1 = nI S) (b rw pw : Nat → Int32) : m_F_hasByte_E k v b rw pw = some (if k < 0 then 0 else if nI S ≤ k then 0 else 1) := by
  unfold m_F_hasByte_E
  simp only [zbo_0, zbo_1, h]
  repeat' split
  all_goals rfl
theorem call_get {n t : Nat} {kd : Nat → Nat} {dc : Nat → Option Nat} {fa : Nat → Nat → Nat} {pv y : Nat → Int32} {C : Nat → Nat → Nat → Int32} {mv : Nat → Int32} {mu : Nat → Nat → Int32} (h : Rel n t kd dc fa pv y C mv mu) (xs : Nat → Int32) {L : Nat} {x4 : Int32} (ov : Nat → Int64) (h1 : vp_in (x4 + 1) L) (h2 : vp_in (x4 + 2) L) :
    (∃ mv', m_F_L_get_n xs L x4 pv dc ov mv mu = some mv' ∧ Rel n t kd dc fa pv y C mv' mu) ∨
    ∃ x, x < n ∧ x < 8 ∧ dc (xs (x4 + 1).toNatClampNeg).toNatClampNeg = some (fa x (2 * kd x)) ∧
      ((kd x = 0 ∧ ((∃ mv', m_F_L_get_n2N xs L x4 pv dc (C x 0) (C x 1) ov mv mu = some mv' ∧ Rel n t kd dc fa pv y C mv' mu) ∨ ∃ ov' mv', m_F_L_get_N xs L x4 pv dc (C x 0) (C x 1) ov mv mu = some (ov', mv') ∧ Rel n t kd dc fa pv y C mv' mu)) ∨ (kd x = 1 ∧ ((∃ mv', m_F_L_get_n2T xs L x4 pv dc (C x 2) (C x 3) ov mv mu = some mv' ∧ Rel n t kd dc fa pv y C mv' mu) ∨ ∃ ov' mv', m_F_L_get_T xs L x4 pv dc (C x 2) (C x 3) ov mv mu = some (ov', mv') ∧ Rel n t kd dc fa pv y C mv' mu)) ∨ (kd x = 2 ∧ ((∃ mv', m_F_L_get_n2E xs L x4 pv dc (C x 4) (C x 5) (C x 6) (C x 7) ov mv mu = some mv' ∧ Rel n t kd dc fa pv y C mv' mu) ∨ ∃ ov' mv', m_F_L_get_E xs L x4 pv dc (C x 4) (C x 5) (C x 6) (C x 7) ov mv mu = some (ov', mv') ∧ Rel n t kd dc fa pv y C mv' mu))) := by
  have h' := h
  obtain ⟨a1, a2, a3, a4, a5, a6, a7, a8, a9⟩ := h'
  have rel : ∀ r, Rel n t kd dc fa pv y C (upd mv 0 r) mu := fun r => Rel_sc h (pk_un (by decide)) (pk_un (by decide)) (fun _ _ _ => rfl)
  unfold m_F_L_get_n m_F_L_get_n2N m_F_L_get_N m_F_L_get_n2T m_F_L_get_T m_F_L_get_n2E m_F_L_get_E
  simp only [zix_in h1, zix_in h2]
  generalize xs (x4 + 1).toNatClampNeg = f
  generalize xs (x4 + 2).toNatClampNeg = w
  rcases fld_cases a1 f with ⟨x, hx, rfl⟩ | hf
  · right
    obtain ⟨d1, d2⟩ := a9 x hx
    refine ⟨x, hx, by omega, by rw [nI_clamp (by omega)]; exact d1, ?_⟩
    rcases d2 with ⟨e, q⟩ | ⟨e, q⟩ | ⟨e, q⟩
    · left
      refine ⟨e, ?_⟩
      obtain ⟨S, q1, q2, q3, q4, q5, q6, q7, q8, q9⟩ := FN_HD q
      have hB := P_byte a1 hx a4 q4 w
      have hC : ∀ (bb : Nat → Int32), m_F_hasByte_N w (C x 0) bb = some (if w < 0 then 0 else if nI S ≤ w then 0 else 1) := fun bb => C_hb_N w q1 bb
      rcases byte_cases q3 w with ⟨j, hj, rfl⟩ | hw
      · right
        rw [byte_in q3 hj] at hB hC
        refine ⟨vp_updL ov (0 : Int32).toNatClampNeg (mu 16 (32 * x + j)).toInt64, upd mv 0 0, ?_, rel 0⟩
        have hbj := q9 j hj
        simp only [m_L_get_N, m_P_get_N, C_ex a1 hx a3, hC, m_M_get, m_M_get_15, hB, P_fails0, m_M_thrown, Option.bind_some, show ¬ (1 : Int32) = 0 by decide, if_false, if_true, zix_ok (show j < 25 by omega) (show 25 < 2 ^ 31 by decide), n32, zix_ok (show 32 * x + j < 256 by omega) (show 256 < 2 ^ 31 by decide), nI_clamp (show j < 2 ^ 31 by omega), nI_clamp (show 32 * x + j < 2 ^ 31 by omega), zix_in vp01, pk_us, vpu, hbj, lgc0]
      · left
        rw [hw] at hB hC
        refine ⟨upd mv 0 1, ?_, rel 1⟩
        simp only [m_L_get_n2N, m_Px2_get_N, C_ex a1 hx a3, hC, m_M_get, m_M_get_15, hB, P_fails1, m_M_thrown, Option.bind_some, show ¬ (1 : Int32) = 0 by decide, if_false, if_true, pk_us]
    · right; left
      refine ⟨e, ?_⟩
      obtain ⟨S, q1, q2, q3, q4, q5, q6, q7, q8, q9⟩ := FT_HD q
      have hB := P_byte a1 hx a4 q4 w
      have hC : ∀ (bb : Nat → Int32), m_F_hasByte_T w (C x 2) bb = some (if w < 0 then 0 else if nI S ≤ w then 0 else 1) := fun bb => C_hb_T w q1 bb
      rcases byte_cases q3 w with ⟨j, hj, rfl⟩ | hw
      · right
        rw [byte_in q3 hj] at hB hC
        refine ⟨vp_updL ov (0 : Int32).toNatClampNeg (mu 16 (32 * x + j)).toInt64, upd mv 0 0, ?_, rel 0⟩
        have hbj := q9 j hj
        simp only [m_L_get_T, m_P_get_T, C_ex a1 hx a3, hC, m_M_get, m_M_get_15, hB, P_fails0, m_M_thrown, Option.bind_some, show ¬ (1 : Int32) = 0 by decide, if_false, if_true, zix_ok (show j < 25 by omega) (show 25 < 2 ^ 31 by decide), n32, zix_ok (show 32 * x + j < 256 by omega) (show 256 < 2 ^ 31 by decide), nI_clamp (show j < 2 ^ 31 by omega), nI_clamp (show 32 * x + j < 2 ^ 31 by omega), zix_in vp01, pk_us, vpu, hbj, lgc0]
      · left
        rw [hw] at hB hC
        refine ⟨upd mv 0 1, ?_, rel 1⟩
        simp only [m_L_get_n2T, m_Px2_get_T, C_ex a1 hx a3, hC, m_M_get, m_M_get_15, hB, P_fails1, m_M_thrown, Option.bind_some, show ¬ (1 : Int32) = 0 by decide, if_false, if_true, pk_us]
    · right; right
      refine ⟨e, ?_⟩
      obtain ⟨S, q1, q2, q3, q4, q5, q6, q7, q8, q9⟩ := FE_HD q
      have hB := P_byte a1 hx a4 q4 w
      have hC : ∀ (bb : Nat → Int32), m_F_hasByte_E w (C x 4) bb (C x 6) (C x 7) = some (if w < 0 then 0 else if nI S ≤ w then 0 else 1) := fun bb => C_hb_E w q1 bb _ _
      rcases byte_cases q3 w with ⟨j, hj, rfl⟩ | hw
      · right
        rw [byte_in q3 hj] at hB hC
        refine ⟨vp_updL ov (0 : Int32).toNatClampNeg (mu 16 (32 * x + j)).toInt64, upd mv 0 0, ?_, rel 0⟩
        have hbj := q9 j hj
        simp only [m_L_get_E, m_P_get_E, C_ex a1 hx a3, hC, m_M_get, m_M_get_15, hB, P_fails0, m_M_thrown, Option.bind_some, show ¬ (1 : Int32) = 0 by decide, if_false, if_true, zix_ok (show j < 25 by omega) (show 25 < 2 ^ 31 by decide), n32, zix_ok (show 32 * x + j < 256 by omega) (show 256 < 2 ^ 31 by decide), nI_clamp (show j < 2 ^ 31 by omega), nI_clamp (show 32 * x + j < 2 ^ 31 by omega), zix_in vp01, pk_us, vpu, hbj, lgc0]
      · left
        rw [hw] at hB hC
        refine ⟨upd mv 0 1, ?_, rel 1⟩
        simp only [m_L_get_n2E, m_Px2_get_E, C_ex a1 hx a3, hC, m_M_get, m_M_get_15, hB, P_fails1, m_M_thrown, Option.bind_some, show ¬ (1 : Int32) = 0 by decide, if_false, if_true, pk_us]
  · left
    refine ⟨upd mv 0 1, ?_, rel 1⟩
    simp only [m_L_get_n, m_Px_get, m_M_get, m_M_get_15, P_byte0 hf a4, P_fails1, m_M_thrown, C_ex0 hf a3, Option.bind_some, pk_us, if_true, show ¬ (1 : Int32) = 0 by decide, if_false]
theorem call_set {n t : Nat} {kd : Nat → Nat} {dc : Nat → Option Nat} {fa : Nat → Nat → Nat} {pv y : Nat → Int32} {C : Nat → Nat → Nat → Int32} {mv : Nat → Int32} {mu : Nat → Nat → Int32} (h : Rel n t kd dc fa pv y C mv mu) (xs : Nat → Int32) {L : Nat} {x4 : Int32} (ov : Nat → Int64) (h1 : vp_in (x4 + 1) L) (h2 : vp_in (x4 + 2) L) (h3 : vp_in (x4 + 3) L) :
    (∃ mv' mu', m_F_L_set_n xs L x4 pv dc ov mv mu = some (mv', mu') ∧ Rel n t kd dc fa pv y C mv' mu') ∨
    ∃ x, x < n ∧ x < 8 ∧ dc (xs (x4 + 1).toNatClampNeg).toNatClampNeg = some (fa x (2 * kd x)) ∧ ∃ b' mv' mu', Rel n t kd dc fa pv y (cst C x (2 * kd x + 1) b') mv' mu' ∧
      ((kd x = 0 ∧ (m_F_L_set_n2N xs L x4 pv dc (C x 0) (C x 1) ov mv mu = some (b', mv', mu') ∨ m_F_L_set_iN xs L x4 pv dc (C x 0) (C x 1) ov mv mu = some (b', mv', mu') ∨ m_F_L_set_N xs L x4 pv dc (C x 0) (C x 1) ov mv mu = some (b', mv', mu'))) ∨ (kd x = 1 ∧ (m_F_L_set_n2T xs L x4 pv dc (C x 2) (C x 3) ov mv mu = some (b', mv', mu') ∨ m_F_L_set_iT xs L x4 pv dc (C x 2) (C x 3) ov mv mu = some (b', mv', mu') ∨ m_F_L_set_T xs L x4 pv dc (C x 2) (C x 3) ov mv mu = some (b', mv', mu'))) ∨ (kd x = 2 ∧ (m_F_L_set_n2E xs L x4 pv dc (C x 4) (C x 5) (C x 6) (C x 7) ov mv mu = some (b', mv', mu') ∨ m_F_L_set_iE xs L x4 pv dc (C x 4) (C x 5) (C x 6) (C x 7) ov mv mu = some (b', mv', mu') ∨ m_F_L_set_E xs L x4 pv dc (C x 4) (C x 5) (C x 6) (C x 7) ov mv mu = some (b', mv', mu')))) := by
  have h' := h
  obtain ⟨a1, a2, a3, a4, a5, a6, a7, a8, a9⟩ := h'
  have rel : ∀ r, Rel n t kd dc fa pv y C (upd mv 0 r) mu := fun r => Rel_sc h (pk_un (by decide)) (pk_un (by decide)) (fun _ _ _ => rfl)
  have cself : ∀ x r, cst C x r (C x r) = C := fun x r => by
    funext k q
    unfold cst
    by_cases c : k = x ∧ q = r
    · rw [if_pos c, c.1, c.2]
    · rw [if_neg c]
  unfold m_F_L_set_n m_F_L_set_n2N m_F_L_set_iN m_F_L_set_N m_F_L_set_n2T m_F_L_set_iT m_F_L_set_T m_F_L_set_n2E m_F_L_set_iE m_F_L_set_E
  simp only [zix_in h1, zix_in h2, zix_in h3]
  generalize xs (x4 + 1).toNatClampNeg = f
  generalize xs (x4 + 2).toNatClampNeg = w
  generalize xs (x4 + 3).toNatClampNeg = z
  rcases fld_cases a1 f with ⟨x, hx, rfl⟩ | hf
  · right
    obtain ⟨d1, d2⟩ := a9 x hx
    refine ⟨x, hx, by omega, by rw [nI_clamp (by omega)]; exact d1, ?_⟩
    rcases d2 with ⟨e, q⟩ | ⟨e, q⟩ | ⟨e, q⟩
    · obtain ⟨S, q1, q2, q3, q4, q5, q6, q7, q8, q9⟩ := FN_HD q
      have hB := P_byte a1 hx a4 q4 w
      have hC : ∀ (bb : Nat → Int32), m_F_hasByte_N w (C x 0) bb = some (if w < 0 then 0 else if nI S ≤ w then 0 else 1) := fun bb => C_hb_N w q1 bb
      have hr : 2 * kd x + 1 = 1 := by rw [e]
      rcases byte_cases q3 w with ⟨j, hj, rfl⟩ | hw
      · rw [byte_in q3 hj] at hB hC
        by_cases z1 : z < 0
        · refine ⟨C x 1, upd mv 0 2, mu, by rw [hr, cself]; exact rel 2, Or.inl ⟨e, Or.inr (Or.inl ?_)⟩⟩
          simp only [m_L_set_iN, m_Pi_set_N, m_Pi_set_N_37, C_ex a1 hx a3, hC, m_M_set, m_M_set_15, m_M_set_26, m_M_set_31, hB, P_fails2, m_M_thrown, Option.bind_some, show ¬ (1 : Int32) = 0 by decide, if_false, if_true, if_pos z1, pk_us]
        · by_cases z2 : z ≤ 255
          · refine ⟨upd (C x 1) j z, upd mv 0 0, zset mu 16 (upd (mu 16) (32 * x + j) z), ?_, Or.inl ⟨e, Or.inr (Or.inr ?_)⟩⟩
            · have := Rel_st h (mv' := upd mv 0 0) (mu' := zset mu 16 (upd (mu 16) (32 * x + j) z)) (pk_un (by decide)) (pk_un (by decide)) hx (b' := upd (C x 1) j z) (fun r t1 _ _ => zset_n _ _ t1) (fun i hi => by rw [zset_s, pk_un (by omega)]) (fun S' hS' hS25 i hi => by
                rw [e] at hS'
                have hSS : S' = S := by
                  have hS' : C x 0 1 = nI S' := hS'
                  rw [q1] at hS'
                  exact ((nI_eq (by omega) (by omega)).mp hS').symm
                rw [zset_s]
                by_cases c : i = j
                · rw [c, pk_us, pk_us]
                · rw [pk_un c, pk_un (by omega), q9 i (by omega)])
              exact this
            · simp only [m_L_set_N, m_P_set_N, C_ex a1 hx a3, hC, m_M_set, m_M_set_15, m_M_set_26, m_M_set_31, hB, P_fails0, m_M_thrown, Option.bind_some, show ¬ (1 : Int32) = 0 by decide, if_false, if_true, if_neg z1, if_pos z2, zix_ok (show j < 25 by omega) (show 25 < 2 ^ 31 by decide), n32, zix_ok (show 32 * x + j < 256 by omega) (show 256 < 2 ^ 31 by decide), nI_clamp (show j < 2 ^ 31 by omega), zau_nI _ _ _ _ (show 32 * x + j < 2 ^ 31 by omega), pk_us]
          · refine ⟨C x 1, upd mv 0 2, mu, by rw [hr, cself]; exact rel 2, Or.inl ⟨e, Or.inr (Or.inl ?_)⟩⟩
            simp only [m_L_set_iN, m_Pi_set_N, m_Pi_set_N_37, C_ex a1 hx a3, hC, m_M_set, m_M_set_15, m_M_set_26, m_M_set_31, hB, P_fails2, m_M_thrown, Option.bind_some, show ¬ (1 : Int32) = 0 by decide, if_false, if_true, if_neg z1, if_neg z2, pk_us]
      · rw [hw] at hB hC
        refine ⟨C x 1, upd mv 0 1, mu, by rw [hr, cself]; exact rel 1, Or.inl ⟨e, Or.inl ?_⟩⟩
        simp only [m_L_set_n2N, m_Px2_set_N, C_ex a1 hx a3, hC, m_M_set, m_M_set_15, m_M_set_26, m_M_set_31, hB, P_fails1, m_M_thrown, Option.bind_some, show ¬ (1 : Int32) = 0 by decide, if_false, if_true, ite_self, pk_us]
    · obtain ⟨S, q1, q2, q3, q4, q5, q6, q7, q8, q9⟩ := FT_HD q
      have hB := P_byte a1 hx a4 q4 w
      have hC : ∀ (bb : Nat → Int32), m_F_hasByte_T w (C x 2) bb = some (if w < 0 then 0 else if nI S ≤ w then 0 else 1) := fun bb => C_hb_T w q1 bb
      have hr : 2 * kd x + 1 = 3 := by rw [e]
      rcases byte_cases q3 w with ⟨j, hj, rfl⟩ | hw
      · rw [byte_in q3 hj] at hB hC
        by_cases z1 : z < 0
        · refine ⟨C x 3, upd mv 0 2, mu, by rw [hr, cself]; exact rel 2, Or.inr (Or.inl ⟨e, Or.inr (Or.inl ?_)⟩)⟩
          simp only [m_L_set_iT, m_Pi_set_T, m_Pi_set_T_37, C_ex a1 hx a3, hC, m_M_set, m_M_set_15, m_M_set_26, m_M_set_31, hB, P_fails2, m_M_thrown, Option.bind_some, show ¬ (1 : Int32) = 0 by decide, if_false, if_true, if_pos z1, pk_us]
        · by_cases z2 : z ≤ 255
          · refine ⟨upd (C x 3) j z, upd mv 0 0, zset mu 16 (upd (mu 16) (32 * x + j) z), ?_, Or.inr (Or.inl ⟨e, Or.inr (Or.inr ?_)⟩)⟩
            · have := Rel_st h (mv' := upd mv 0 0) (mu' := zset mu 16 (upd (mu 16) (32 * x + j) z)) (pk_un (by decide)) (pk_un (by decide)) hx (b' := upd (C x 3) j z) (fun r t1 _ _ => zset_n _ _ t1) (fun i hi => by rw [zset_s, pk_un (by omega)]) (fun S' hS' hS25 i hi => by
                rw [e] at hS'
                have hSS : S' = S := by
                  have hS' : C x 2 1 = nI S' := hS'
                  rw [q1] at hS'
                  exact ((nI_eq (by omega) (by omega)).mp hS').symm
                rw [zset_s]
                by_cases c : i = j
                · rw [c, pk_us, pk_us]
                · rw [pk_un c, pk_un (by omega), q9 i (by omega)])
              exact this
            · simp only [m_L_set_T, m_P_set_T, C_ex a1 hx a3, hC, m_M_set, m_M_set_15, m_M_set_26, m_M_set_31, hB, P_fails0, m_M_thrown, Option.bind_some, show ¬ (1 : Int32) = 0 by decide, if_false, if_true, if_neg z1, if_pos z2, zix_ok (show j < 25 by omega) (show 25 < 2 ^ 31 by decide), n32, zix_ok (show 32 * x + j < 256 by omega) (show 256 < 2 ^ 31 by decide), nI_clamp (show j < 2 ^ 31 by omega), zau_nI _ _ _ _ (show 32 * x + j < 2 ^ 31 by omega), pk_us]
          · refine ⟨C x 3, upd mv 0 2, mu, by rw [hr, cself]; exact rel 2, Or.inr (Or.inl ⟨e, Or.inr (Or.inl ?_)⟩)⟩
            simp only [m_L_set_iT, m_Pi_set_T, m_Pi_set_T_37, C_ex a1 hx a3, hC, m_M_set, m_M_set_15, m_M_set_26, m_M_set_31, hB, P_fails2, m_M_thrown, Option.bind_some, show ¬ (1 : Int32) = 0 by decide, if_false, if_true, if_neg z1, if_neg z2, pk_us]
      · rw [hw] at hB hC
        refine ⟨C x 3, upd mv 0 1, mu, by rw [hr, cself]; exact rel 1, Or.inr (Or.inl ⟨e, Or.inl ?_⟩)⟩
        simp only [m_L_set_n2T, m_Px2_set_T, C_ex a1 hx a3, hC, m_M_set, m_M_set_15, m_M_set_26, m_M_set_31, hB, P_fails1, m_M_thrown, Option.bind_some, show ¬ (1 : Int32) = 0 by decide, if_false, if_true, ite_self, pk_us]
    · obtain ⟨S, q1, q2, q3, q4, q5, q6, q7, q8, q9⟩ := FE_HD q
      have hB := P_byte a1 hx a4 q4 w
      have hC : ∀ (bb : Nat → Int32), m_F_hasByte_E w (C x 4) bb (C x 6) (C x 7) = some (if w < 0 then 0 else if nI S ≤ w then 0 else 1) := fun bb => C_hb_E w q1 bb _ _
      have hr : 2 * kd x + 1 = 5 := by rw [e]
      rcases byte_cases q3 w with ⟨j, hj, rfl⟩ | hw
      · rw [byte_in q3 hj] at hB hC
        by_cases z1 : z < 0
        · refine ⟨C x 5, upd mv 0 2, mu, by rw [hr, cself]; exact rel 2, Or.inr (Or.inr ⟨e, Or.inr (Or.inl ?_)⟩)⟩
          simp only [m_L_set_iE, m_Pi_set_E, m_Pi_set_E_37, C_ex a1 hx a3, hC, m_M_set, m_M_set_15, m_M_set_26, m_M_set_31, hB, P_fails2, m_M_thrown, Option.bind_some, show ¬ (1 : Int32) = 0 by decide, if_false, if_true, if_pos z1, pk_us]
        · by_cases z2 : z ≤ 255
          · refine ⟨upd (C x 5) j z, upd mv 0 0, zset mu 16 (upd (mu 16) (32 * x + j) z), ?_, Or.inr (Or.inr ⟨e, Or.inr (Or.inr ?_)⟩)⟩
            · have := Rel_st h (mv' := upd mv 0 0) (mu' := zset mu 16 (upd (mu 16) (32 * x + j) z)) (pk_un (by decide)) (pk_un (by decide)) hx (b' := upd (C x 5) j z) (fun r t1 _ _ => zset_n _ _ t1) (fun i hi => by rw [zset_s, pk_un (by omega)]) (fun S' hS' hS25 i hi => by
                rw [e] at hS'
                have hSS : S' = S := by
                  have hS' : C x 4 1 = nI S' := hS'
                  rw [q1] at hS'
                  exact ((nI_eq (by omega) (by omega)).mp hS').symm
                rw [zset_s]
                by_cases c : i = j
                · rw [c, pk_us, pk_us]
                · rw [pk_un c, pk_un (by omega), q9 i (by omega)])
              exact this
            · simp only [m_L_set_E, m_P_set_E, C_ex a1 hx a3, hC, m_M_set, m_M_set_15, m_M_set_26, m_M_set_31, hB, P_fails0, m_M_thrown, Option.bind_some, show ¬ (1 : Int32) = 0 by decide, if_false, if_true, if_neg z1, if_pos z2, zix_ok (show j < 25 by omega) (show 25 < 2 ^ 31 by decide), n32, zix_ok (show 32 * x + j < 256 by omega) (show 256 < 2 ^ 31 by decide), nI_clamp (show j < 2 ^ 31 by omega), zau_nI _ _ _ _ (show 32 * x + j < 2 ^ 31 by omega), pk_us]
          · refine ⟨C x 5, upd mv 0 2, mu, by rw [hr, cself]; exact rel 2, Or.inr (Or.inr ⟨e, Or.inr (Or.inl ?_)⟩)⟩
            simp only [m_L_set_iE, m_Pi_set_E, m_Pi_set_E_37, C_ex a1 hx a3, hC, m_M_set, m_M_set_15, m_M_set_26, m_M_set_31, hB, P_fails2, m_M_thrown, Option.bind_some, show ¬ (1 : Int32) = 0 by decide, if_false, if_true, if_neg z1, if_neg z2, pk_us]
      · rw [hw] at hB hC
        refine ⟨C x 5, upd mv 0 1, mu, by rw [hr, cself]; exact rel 1, Or.inr (Or.inr ⟨e, Or.inl ?_⟩)⟩
        simp only [m_L_set_n2E, m_Px2_set_E, C_ex a1 hx a3, hC, m_M_set, m_M_set_15, m_M_set_26, m_M_set_31, hB, P_fails1, m_M_thrown, Option.bind_some, show ¬ (1 : Int32) = 0 by decide, if_false, if_true, ite_self, pk_us]
  · left
    refine ⟨upd mv 0 1, mu, ?_, rel 1⟩
    simp only [m_L_set_n, m_Px_set, m_M_set, m_M_set_15, m_M_set_26, m_M_set_31, P_byte0 hf a4, P_fails1, m_M_thrown, C_ex0 hf a3, Option.bind_some, pk_us, if_true, show ¬ (1 : Int32) = 0 by decide, if_false, ite_self]
