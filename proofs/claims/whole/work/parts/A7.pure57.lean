/-! value and put. -/
theorem FN_take {x : Nat} (hx : x < 8) {vc b : Nat → Int32} {u : Nat → Nat → Int32} (h : FN x vc b u) (v : Nat → Int32) : ∃ V s v' u', m_N_number vc b = some V ∧ vc 3 = nI s ∧ m_M_takeNumber (nI x) v u = some (v', u') ∧ TK V s v u v' u' := by
  obtain ⟨pk, f, N, a, before, behind, n, low, hC, hU, hd, hb⟩ := h
  obtain ⟨V, v', u', e1, e2, e3, -⟩ := take_N hx hU hd v hC hb
  exact ⟨V, behind, v', u', e1, hC.1.2.1, e2, e3⟩
theorem FT_take {x : Nat} (hx : x < 8) {vc b : Nat → Int32} {u : Nat → Nat → Int32} (h : FT x vc b u) (v : Nat → Int32) : ∃ V s v' u', m_T_number vc b = some V ∧ vc 3 = nI s ∧ m_M_takeNumber (nI x) v u = some (v', u') ∧ TK V s v u v' u' := by
  obtain ⟨N, h0, hN, c1, c2, c3, c4, ⟨r2, r5, r7, r8, r9⟩, r15, hb⟩ := h
  obtain ⟨V, v', u', e1, e2, e3⟩ := take_T hx hN r5 r15 v c1 hb
  exact ⟨V, 0, v', u', e1, c3, e2, e3⟩
theorem FE_take {x : Nat} (hx : x < 8) {vc b g pw : Nat → Int32} {u : Nat → Nat → Int32} (h : FE x vc b g pw u) (v : Nat → Int32) : ∃ V s v' u', m_E_number vc b g pw = some V ∧ vc 3 = nI s ∧ m_M_takeNumber (nI x) v u = some (v', u') ∧ TK V s v u v' u' := by
  obtain ⟨N, A, B, M, F, fl, T, D, R, sg, before, behind, hX, hC, hU, hb⟩ := h
  obtain ⟨V, v', u', e1, e2, e3⟩ := take_E hx hX hU hC v hb
  exact ⟨V, behind, v', u', e1, hC.2.2.1, e2, e3⟩
theorem FN_store {x : Nat} (hx : x < 8) {vc b : Nat → Int32} {u : Nat → Nat → Int32} (h : FN x vc b u) {V : Int64} {s : Nat} {v : Nat → Int32} (hR : NR V s v u) (b0 : Nat → Int32) : ∃ b' u', m_N_takeNumber V (nI s) vc b0 = some (1, b') ∧ m_M_storeNumber (nI x) v u = some u' ∧ stx x u u' ∧ ∀ S, vc 1 = nI S → S ≤ 25 → ∀ j, j < S → b' j = u' 16 (32 * x + j) := by
  obtain ⟨pk, f, N, a, before, behind, n, low, hC, hU, hd, hb⟩ := h
  obtain ⟨b', u', e1, e2, e3, e4⟩ := store_N hx hU hd hR hC b0
  have hfs := fsz_le pk hd.2.2.1
  have hl := hd.2.2.2.2.1
  refine ⟨b', u', e1, e2, e3, fun S hS hS25 => ?_⟩
  rw [hC.2.1] at hS
  rw [← (nI_eq (by omega) (by omega)).mp hS]
  exact e4
theorem FE_store {x : Nat} (hx : x < 8) {vc b g pw : Nat → Int32} {u : Nat → Nat → Int32} (h : FE x vc b g pw u) {V : Int64} {s : Nat} {v : Nat → Int32} (hR : NR V s v u) (b0 : Nat → Int32) : ∃ b' u', m_E_takeNumber V (nI s) vc b0 g pw = some (1, b') ∧ m_M_storeNumber (nI x) v u = some u' ∧ stx x u u' ∧ ∀ S, vc 1 = nI S → S ≤ 25 → ∀ j, j < S → b' j = u' 16 (32 * x + j) := by
  obtain ⟨N, A, B, M, F, fl, T, D, R, sg, before, behind, hX, hC, hU, hb⟩ := h
  obtain ⟨b', u', e1, e2, e3, e4⟩ := store_E hx hX hU hC hR b0
  have hle := (EG_size hX.1).2.2.1
  refine ⟨b', u', e1, e2, e3, fun S hS hS25 => ?_⟩
  rw [hC.1] at hS
  rw [← (nI_eq (by omega) (by omega)).mp hS]
  exact e4
theorem kp_17 {x : Nat} {u u' : Nat → Nat → Int32} (h : ∀ r, r ≠ 17 → u' r = u r) : kp x u u' := ⟨fun r hr => by rw [h r (by omega)], fun j _ => by rw [h 3 (by decide), h 4 (by decide)]; exact ⟨rfl, rfl⟩⟩
theorem call_value {n t : Nat} {kd : Nat → Nat} {dc : Nat → Option Nat} {fa : Nat → Nat → Nat} {pv y : Nat → Int32} {C : Nat → Nat → Nat → Int32} {mv : Nat → Int32} {mu : Nat → Nat → Int32} (h : Rel n t kd dc fa pv y C mv mu) (xs : Nat → Int32) {L : Nat} {x4 : Int32} (ov : Nat → Int64) (h1 : vp_in (x4 + 1) L) :
    (∃ mv' mu', m_F_L_value_n xs L x4 pv dc ov mv mu = some (mv', mu') ∧ Rel n t kd dc fa pv y C mv' mu') ∨
    ∃ x, x < n ∧ x < 8 ∧ dc (xs (x4 + 1).toNatClampNeg).toNatClampNeg = some (fa x (2 * kd x)) ∧ ∃ ov' mv' mu', Rel n t kd dc fa pv y C mv' mu' ∧
      ((kd x = 0 ∧ m_F_L_value_N xs L x4 pv dc (C x 0) (C x 1) ov mv mu = some (ov', mv', mu')) ∨ (kd x = 1 ∧ m_F_L_value_T xs L x4 pv dc (C x 2) (C x 3) ov mv mu = some (ov', mv', mu')) ∨ (kd x = 2 ∧ m_F_L_value_E xs L x4 pv dc (C x 4) (C x 5) (C x 6) (C x 7) ov mv mu = some (ov', mv', mu'))) := by
  have h' := h
  obtain ⟨a1, a2, a3, a4, a5, a6, a7, a8, a9⟩ := h'
  have rel : ∀ r, Rel n t kd dc fa pv y C (upd mv 0 r) mu := fun r => Rel_sc h (pk_un (by decide)) (pk_un (by decide)) (fun _ _ _ => rfl)
  unfold m_F_L_value_n m_F_L_value_N m_F_L_value_T m_F_L_value_E
  simp only [zix_in h1]
  generalize xs (x4 + 1).toNatClampNeg = f
  rcases fld_cases a1 f with ⟨x, hx, rfl⟩ | hf
  · right
    obtain ⟨d1, d2⟩ := a9 x hx
    refine ⟨x, hx, by omega, by rw [nI_clamp (by omega)]; exact d1, ?_⟩
    rcases d2 with ⟨e, q⟩ | ⟨e, q⟩ | ⟨e, q⟩
    · obtain ⟨V, s, v', u', e1, -, e2, e3, e4, e5, e6⟩ := FN_take (show x < 8 by omega) q (upd mv 0 0)
      have hv0 : v' 0 = 0 := by rw [e4 0 (by decide) (by decide), pk_us]
      refine ⟨vp_updL ov (0 : Int32).toNatClampNeg V, v', u', Rel_sc h (by rw [e4 1 (by decide) (by decide), pk_un (by decide)]) (by rw [e4 3 (by decide) (by decide), pk_un (by decide)]) (fun r t1 _ => e5 r t1), Or.inl ⟨e, ?_⟩⟩
      simp only [m_L_value_N, m_P_value_N, C_ex a1 hx a3, e1, m_M_value, m_M_value_14, P_isF a1 hx a4, P_fails0, e2, P_value e3 e6, m_M_thrown, Option.bind_some, show ¬ (1 : Int32) = 0 by decide, if_false, if_true, zix_in vp01, hv0, vpu, lgc0]
    · obtain ⟨V, s, v', u', e1, -, e2, e3, e4, e5, e6⟩ := FT_take (show x < 8 by omega) q (upd mv 0 0)
      have hv0 : v' 0 = 0 := by rw [e4 0 (by decide) (by decide), pk_us]
      refine ⟨vp_updL ov (0 : Int32).toNatClampNeg V, v', u', Rel_sc h (by rw [e4 1 (by decide) (by decide), pk_un (by decide)]) (by rw [e4 3 (by decide) (by decide), pk_un (by decide)]) (fun r t1 _ => e5 r t1), Or.inr (Or.inl ⟨e, ?_⟩)⟩
      simp only [m_L_value_T, m_P_value_T, C_ex a1 hx a3, e1, m_M_value, m_M_value_14, P_isF a1 hx a4, P_fails0, e2, P_value e3 e6, m_M_thrown, Option.bind_some, show ¬ (1 : Int32) = 0 by decide, if_false, if_true, zix_in vp01, hv0, vpu, lgc0]
    · obtain ⟨V, s, v', u', e1, -, e2, e3, e4, e5, e6⟩ := FE_take (show x < 8 by omega) q (upd mv 0 0)
      have hv0 : v' 0 = 0 := by rw [e4 0 (by decide) (by decide), pk_us]
      refine ⟨vp_updL ov (0 : Int32).toNatClampNeg V, v', u', Rel_sc h (by rw [e4 1 (by decide) (by decide), pk_un (by decide)]) (by rw [e4 3 (by decide) (by decide), pk_un (by decide)]) (fun r t1 _ => e5 r t1), Or.inr (Or.inr ⟨e, ?_⟩)⟩
      simp only [m_L_value_E, m_P_value_E, C_ex a1 hx a3, e1, m_M_value, m_M_value_14, P_isF a1 hx a4, P_fails0, e2, P_value e3 e6, m_M_thrown, Option.bind_some, show ¬ (1 : Int32) = 0 by decide, if_false, if_true, zix_in vp01, hv0, vpu, lgc0]
  · left
    refine ⟨upd mv 0 1, mu, ?_, rel 1⟩
    simp only [m_L_value_n, m_Px_value, m_M_value, m_M_value_14, P_isF0 hf a4, P_fails1, m_M_thrown, C_ex0 hf a3, Option.bind_some, pk_us, if_true, show ¬ (1 : Int32) = 0 by decide, if_false]
theorem sc_cases (w : Int32) : (∃ s : Nat, s ≤ 6 ∧ w = nI s ∧ ¬ w < 0 ∧ w ≤ 6) ∨ (w < 0 ∨ (¬ w < 0 ∧ ¬ w ≤ 6)) := by
  by_cases c : w < 0
  · exact Or.inr (Or.inl c)
  · obtain ⟨j, hj, rfl⟩ := nI_of c
    rcases Nat.lt_or_ge 6 j with q | q
    · exact Or.inr (Or.inr ⟨c, nI_ge (a := 6) q hj⟩)
    · exact Or.inl ⟨j, q, rfl, c, nI_le (b := 6) q (by decide)⟩
theorem P_put_n {n : Nat} {a : Int32} (ha : a < 0 ∨ (¬ a < 0 ∧ nI n ≤ a)) {mv : Nat → Int32} (h3 : mv 3 = nI n) (mu : Nat → Nat → Int32) (V : Int64) (w : Int32) : m_M_put a V w mv mu = some (upd mv 0 1, mu) := by
  simp only [m_M_put, m_M_put_13, m_M_put_30, m_M_put_35, m_M_put_54, m_M_put_55, P_isF0 ha h3, Option.bind_some, if_true, show ¬ (1 : Int32) = 0 by decide, if_false, P_fails1, ite_self]
theorem P_put_i {n x : Nat} (hn : n ≤ 8) (hx : x < n) {mv : Nat → Int32} (h3 : mv 3 = nI n) (mu : Nat → Nat → Int32) (V : Int64) {w : Int32} (hw : w < 0 ∨ (¬ w < 0 ∧ ¬ w ≤ 6)) : m_M_put (nI x) V w mv mu = some (upd mv 0 2, mu) := by
  have : m_M_put_30 (nI x) V w 0 0 mv mu = some (upd mv 0 2, mu) := by
    simp only [m_M_put_30, m_M_put_35, m_M_put_54, m_M_put_55, if_true, zix_ok (show x < 9 by omega) (show 9 < 2 ^ 31 by decide), P_fails2, Option.bind_some, show ¬ (1 : Int32) = 0 by decide, if_false, ite_self]
  simp only [m_M_put, m_M_put_13, P_isF hn hx h3, Option.bind_some, show ¬ (1 : Int32) = 0 by decide, if_false, this]
  rcases hw with q | ⟨q1, q2⟩
  · rw [if_pos q]
  · rw [if_neg q1, if_neg q2]
theorem P_put_u {n x : Nat} (hn : n ≤ 8) (hx : x < n) {mv : Nat → Int32} (h3 : mv 3 = nI n) {mu : Nat → Nat → Int32} (h5 : mu 5 x = 1) (V : Int64) {w : Int32} (q1 : ¬ w < 0) (q2 : w ≤ 6) : m_M_put (nI x) V w mv mu = some (upd mv 0 3, mu) := by
  simp only [m_M_put, m_M_put_13, m_M_put_35, m_M_put_54, m_M_put_55, P_isF hn hx h3, Option.bind_some, show ¬ (1 : Int32) = 0 by decide, if_false, if_true, if_neg q1, if_pos q2, zix_ok (show x < 9 by omega) (show 9 < 2 ^ 31 by decide), nI_clamp (show x < 2 ^ 31 by omega), h5, P_fails3]
/-- put has made its number, and stores it -/
theorem P_put_s {n x : Nat} (hn : n ≤ 8) (hx : x < n) {mv : Nat → Int32} (h3 : mv 3 = nI n) {mu : Nat → Nat → Int32} (h5 : mu 5 x ≠ 1) (V : Int64) {s : Nat} (hs : s ≤ 6) (q1 : ¬ nI s < 0) (q2 : nI s ≤ 6) : ∃ v u, m_M_put (nI x) V (nI s) mv mu = (m_M_storeNumber (nI x) v u).bind (fun q => some (v, q)) ∧ NR V s v u ∧ (∀ r, r ≠ 20 → r ≠ 21 → v r = upd mv 0 0 r) ∧ ∀ r, r ≠ 17 → u r = mu r := by
  obtain ⟨g, e, hg⟩ := P_nothing (upd mv 0 0) mu
  obtain ⟨g', t, e', hR⟩ := P_put_d (nI x) V (s := s) (by omega) (upd (upd (upd mv 0 0) 20 0) 21 0) (u := zset mu 17 g) (fun j hj => by rw [zset_s]; exact hg j hj)
  refine ⟨_, _, ?_, hR, fun r t1 t2 => by rw [pk_un t2, pk_un t1, pk_un t2, pk_un t1], fun r t1 => by rw [zset_n _ _ t1, zset_n _ _ t1]⟩
  simp only [m_M_put, m_M_put_13, m_M_put_35, m_M_put_54, m_M_put_55, P_isF hn hx h3, Option.bind_some, show ¬ (1 : Int32) = 0 by decide, if_false, if_true, if_neg q1, if_pos q2, zix_ok (show x < 9 by omega) (show 9 < 2 ^ 31 by decide), nI_clamp (show x < 2 ^ 31 by omega), h5, P_fails0, e]
  exact e'
theorem call_put {n t : Nat} {kd : Nat → Nat} {dc : Nat → Option Nat} {fa : Nat → Nat → Nat} {pv y : Nat → Int32} {C : Nat → Nat → Nat → Int32} {mv : Nat → Int32} {mu : Nat → Nat → Int32} (h : Rel n t kd dc fa pv y C mv mu) (xs : Nat → Int32) {L : Nat} {x4 : Int32} (ov : Nat → Int64) (h1 : vp_in (x4 + 1) L) (h2 : vp_in (x4 + 2) L) (h3 : vp_in (x4 + 3) L) (h4 : vp_in (x4 + 4) L) :
    (∃ mv' mu', m_F_L_put_n xs L x4 pv dc ov mv mu = some (mv', mu') ∧ Rel n t kd dc fa pv y C mv' mu') ∨
    (∃ aF mv' mu', dc (xs (x4 + 1).toNatClampNeg).toNatClampNeg = some aF ∧ m_F_L_put_i xs L x4 pv dc ov mv mu = some (mv', mu') ∧ Rel n t kd dc fa pv y C mv' mu') ∨
    ∃ x, x < n ∧ x < 8 ∧ dc (xs (x4 + 1).toNatClampNeg).toNatClampNeg = some (fa x (2 * kd x)) ∧ ∃ mv' mu',
      ((kd x = 1 ∧ m_F_L_put_u xs L x4 pv dc (C x 2) (C x 3) ov mv mu = some (mv', mu') ∧ Rel n t kd dc fa pv y C mv' mu') ∨ ∃ b', Rel n t kd dc fa pv y (cst C x (2 * kd x + 1) b') mv' mu' ∧ ((kd x = 0 ∧ m_F_L_put_N xs L x4 pv dc (C x 0) (C x 1) ov mv mu = some (b', mv', mu')) ∨ (kd x = 2 ∧ m_F_L_put_E xs L x4 pv dc (C x 4) (C x 5) (C x 6) (C x 7) ov mv mu = some (b', mv', mu')))) := by
  have h' := h
  obtain ⟨a1, a2, a3, a4, a5, a6, a7, a8, a9⟩ := h'
  have rel : ∀ r, Rel n t kd dc fa pv y C (upd mv 0 r) mu := fun r => Rel_sc h (pk_un (by decide)) (pk_un (by decide)) (fun _ _ _ => rfl)
  unfold m_F_L_put_n m_F_L_put_i m_F_L_put_u m_F_L_put_N m_F_L_put_E
  simp only [zix_in h1, zix_in h2, zix_in h3, zix_in h4]
  generalize (((xs (x4 + 2).toNatClampNeg).toInt64) <<< ((32 : Int32).toInt64 &&& 63)) ||| (((xs (x4 + 3).toNatClampNeg).toInt64) &&& 4294967295) = V
  generalize xs (x4 + 1).toNatClampNeg = f
  generalize xs (x4 + 4).toNatClampNeg = w
  rcases fld_cases a1 f with ⟨x, hx, rfl⟩ | hf
  · right
    obtain ⟨d1, d2⟩ := a9 x hx
    rcases sc_cases w with ⟨s, hs, rfl, s1, s2⟩ | hw
    · right
      refine ⟨x, hx, by omega, by rw [nI_clamp (by omega)]; exact d1, ?_⟩
      rcases d2 with ⟨e, q⟩ | ⟨e, q⟩ | ⟨e, q⟩
      · obtain ⟨S, q1, q2, q3, q4, q5, q6, q7, q8, q9⟩ := FN_HD q
        obtain ⟨v, u, eP, hR, hv, hu⟩ := P_put_s a1 hx a4 (show mu 5 x ≠ 1 by rw [q8]; decide) V hs s1 s2
        have q' := FN_ext q (kp_17 hu) (b' := C x 1) (fun S' hS' hS25 j hj => by
          rw [q1] at hS'
          have := (nI_eq (by omega) (by omega)).mp hS'
          rw [hu 16 (by decide), q9 j (by omega)])
        obtain ⟨b', u', t1, t2, t3, t4⟩ := FN_store (show x < 8 by omega) q' hR (C x 1)
        have hv0 : v 0 = 0 := by rw [hv 0 (by decide) (by decide), pk_us]
        refine ⟨v, u', Or.inr ⟨b', ?_, Or.inl ⟨e, ?_⟩⟩⟩
        · refine Rel_st h (by rw [hv 1 (by decide) (by decide), pk_un (by decide)]) (by rw [hv 3 (by decide) (by decide), pk_un (by decide)]) hx (fun r w1 w2 w3 => by rw [t3.1 r w1 w3, hu r w2]) (fun i hi => by rw [t3.2 i hi, hu 16 (by decide)]) ?_
          rw [e]; exact t4
        · simp only [m_L_put_N, m_P_put_N, C_ex a1 hx a3, t1, eP, t2, m_M_thrown, Option.bind_some, if_neg s1, if_pos s2, show ¬ (1 : Int32) = 0 by decide, if_false, hv0, if_true]
      · obtain ⟨S, q1, q2, q3, q4, q5, q6, q7, q8, q9⟩ := FT_HD q
        refine ⟨upd mv 0 3, mu, Or.inl ⟨e, ?_, rel 3⟩⟩
        simp only [m_L_put_u, m_Pu_put, m_T_takeNumber, C_ex a1 hx a3, P_put_u a1 hx a4 q8 V s1 s2, m_M_thrown, Option.bind_some, if_neg s1, if_pos s2, zbo_0, if_true, pk_us]
      · obtain ⟨S, q1, q2, q3, q4, q5, q6, q7, q8, q9⟩ := FE_HD q
        obtain ⟨v, u, eP, hR, hv, hu⟩ := P_put_s a1 hx a4 (show mu 5 x ≠ 1 by rw [q8]; decide) V hs s1 s2
        have q' := FE_ext q (kp_17 hu) (b' := C x 5) (fun S' hS' hS25 j hj => by
          rw [q1] at hS'
          have := (nI_eq (by omega) (by omega)).mp hS'
          rw [hu 16 (by decide), q9 j (by omega)])
        obtain ⟨b', u', t1, t2, t3, t4⟩ := FE_store (show x < 8 by omega) q' hR (C x 5)
        have hv0 : v 0 = 0 := by rw [hv 0 (by decide) (by decide), pk_us]
        refine ⟨v, u', Or.inr ⟨b', ?_, Or.inr ⟨e, ?_⟩⟩⟩
        · refine Rel_st h (by rw [hv 1 (by decide) (by decide), pk_un (by decide)]) (by rw [hv 3 (by decide) (by decide), pk_un (by decide)]) hx (fun r w1 w2 w3 => by rw [t3.1 r w1 w3, hu r w2]) (fun i hi => by rw [t3.2 i hi, hu 16 (by decide)]) ?_
          rw [e]; exact t4
        · simp only [m_L_put_E, m_P_put_E, C_ex a1 hx a3, t1, eP, t2, m_M_thrown, Option.bind_some, if_neg s1, if_pos s2, show ¬ (1 : Int32) = 0 by decide, if_false, hv0, if_true]
    · left
      refine ⟨fa x (2 * kd x), upd mv 0 2, mu, by rw [nI_clamp (by omega)]; exact d1, ?_, rel 2⟩
      have hPi : m_Pi_put (nI x) V w pv dc = some () := by
        unfold m_Pi_put m_Pi_put_19
        rw [C_ex a1 hx a3, Option.bind_some]
        rcases hw with q | ⟨q1, q2⟩
        · rw [if_pos q]
        · rw [if_neg q1, if_neg q2]
      simp only [m_L_put_i, hPi, P_put_i a1 hx a4 mu V hw, m_M_thrown, Option.bind_some, pk_us, if_true]
  · left
    refine ⟨upd mv 0 1, mu, ?_, rel 1⟩
    simp only [m_L_put_n, m_Px_put, P_put_n hf a4, m_M_thrown, C_ex0 hf a3, Option.bind_some, pk_us, if_true]
