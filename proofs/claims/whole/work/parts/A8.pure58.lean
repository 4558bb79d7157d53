/-! move. -/
theorem P_move_n {n : Nat} {mv : Nat → Int32} (h3 : mv 3 = nI n) (mu : Nat → Nat → Int32) {a b : Int32} (h : m_M_isField a mv mu = some 0 ∨ (m_M_isField a mv mu = some 1 ∧ m_M_isField b mv mu = some 0)) : m_M_move a b mv mu = some (upd mv 0 1, mu) := by
  rcases h with h | ⟨h, h'⟩
  · simp only [m_M_move, m_M_move_16, m_M_move_21, m_M_move_60, m_M_move_61, h, Option.bind_some, if_true, show ¬ (1 : Int32) = 0 by decide, if_false, P_fails1]
  · simp only [m_M_move, m_M_move_16, m_M_move_21, m_M_move_60, m_M_move_61, h, h', Option.bind_some, if_true, show ¬ (1 : Int32) = 0 by decide, if_false, P_fails1]
theorem P_move_num {n x z : Nat} (hn : n ≤ 8) (hx : x < n) (hz : z < n) {mv : Nat → Int32} (h3 : mv 3 = nI n) {mu : Nat → Nat → Int32} (h5 : ¬ mu 5 z = 1) : m_M_move (nI x) (nI z) mv mu = (m_M_takeNumber (nI x) (upd mv 0 0) mu).bind (fun q8 => (m_M_storeNumber (nI z) q8.1 q8.2).bind (fun q9 => (some (q8.1, q9)))) := by
  simp only [m_M_move, m_M_move_21, m_M_move_60, m_M_move_61, P_isF hn hx h3, P_isF hn hz h3, Option.bind_some, show ¬ (1 : Int32) = 0 by decide, if_false, if_true, zix_ok (show z < 9 by omega) (show 9 < 2 ^ 31 by decide), nI_clamp (show z < 2 ^ 31 by omega), if_neg h5, P_fails0]
theorem P_move_ref {n x z : Nat} (hn : n ≤ 8) (hx : x < n) (hz : z < n) {mv : Nat → Int32} (h3 : mv 3 = nI n) {mu : Nat → Nat → Int32} (h5 : mu 5 z = 1) (h5x : mu 5 x = 0) {bh : Nat} (h8 : mu 8 x = nI bh) (hb : 0 < bh) (hb2 : bh ≤ 12) : m_M_move (nI x) (nI z) mv mu = some (upd mv 0 2, mu) := by
  simp only [m_M_move, m_M_move_21, m_M_move_60, m_M_move_61, P_isF hn hx h3, P_isF hn hz h3, Option.bind_some, show ¬ (1 : Int32) = 0 by decide, if_false, if_true, zix_ok (show z < 9 by omega) (show 9 < 2 ^ 31 by decide), zix_ok (show x < 9 by omega) (show 9 < 2 ^ 31 by decide), nI_clamp (show z < 2 ^ 31 by omega), nI_clamp (show x < 2 ^ 31 by omega), h5, h5x, h8, if_neg (nI_nle hb (show bh < 2 ^ 31 by omega)), P_fails2]
theorem P_move_txt {n x z : Nat} (hn : n ≤ 8) (hx : x < n) (hz : z < n) {mv : Nat → Int32} (h3 : mv 3 = nI n) {mu : Nat → Nat → Int32} (h5 : mu 5 z = 1) (h5x : ¬ mu 5 x = 0 ∨ mu 8 x ≤ 0) : m_M_move (nI x) (nI z) mv mu = (m_M_takeCharacters (nI x) (upd mv 0 0) mu).bind (fun q10 => (m_M_storeText (nI z) q10.1 q10.2).bind (fun q11 => (some (q10.1, q11)))) := by
  have h60 : m_M_move_60 (nI x) (nI z) 0 mv mu = (m_M_takeCharacters (nI x) (upd mv 0 0) mu).bind (fun q10 => (m_M_storeText (nI z) q10.1 q10.2).bind (fun q11 => (some (q10.1, q11)))) := by
    simp only [m_M_move_60, m_M_move_61, P_fails0, Option.bind_some, if_true, zix_ok (show z < 9 by omega) (show 9 < 2 ^ 31 by decide), nI_clamp (show z < 2 ^ 31 by omega), h5]
  simp only [m_M_move, m_M_move_21, P_isF hn hx h3, P_isF hn hz h3, Option.bind_some, show ¬ (1 : Int32) = 0 by decide, if_false, if_true, zix_ok (show z < 9 by omega) (show 9 < 2 ^ 31 by decide), zix_ok (show x < 9 by omega) (show 9 < 2 ^ 31 by decide), nI_clamp (show z < 2 ^ 31 by omega), nI_clamp (show x < 2 ^ 31 by omega), h5, h60]
  rcases h5x with q | q
  · rw [if_neg q]
  · by_cases c : mu 5 x = 0
    · rw [if_pos c, if_pos q]
    · rw [if_neg c]
theorem txt_store {z : Nat} (hz : z < 8) {vt bt : Nat → Int32} {u u2 : Nat → Nat → Int32} (h : FT z vt bt u) (hu : ∀ r, r ≠ 17 → r ≠ 18 → u2 r = u r) {v2 : Nat → Int32} {c : Nat} (h23 : v2 23 = nI c) (hc : c ≤ 32) : ∃ u3, m_M_storeText (nI z) v2 u2 = some u3 ∧ (∀ r, r ≠ 16 → r ≠ 17 → r ≠ 18 → u3 r = u r) ∧ (∀ i, i < 32 * z ∨ 32 * z + 32 ≤ i → u3 16 i = u 16 i) ∧ ∀ S, vt 1 = nI S → S ≤ 25 → ∀ k, k < S → u3 16 (32 * z + k) = if k < c then u2 18 k else 32 := by
  obtain ⟨N, h0, hN, c1, c2, c3, c4, ⟨r2, r5, r7, r8, r9⟩, r15, hb⟩ := h
  obtain ⟨w, e, w1, w2⟩ := P_storeText hz (L := N) (c := c) (by omega) hc (u := u2) (by rw [hu 15 (by decide) (by decide)]; exact r15) h23
  refine ⟨_, e, fun r t1 t2 t3 => by rw [zset_n _ _ t1, hu r t2 t3], fun i hi => by rw [zset_s, w2 i hi, hu 16 (by decide) (by decide)], fun S hS hS25 k hk => ?_⟩
  rw [c1] at hS
  have := (nI_eq (by omega) (by omega)).mp hS
  rw [zset_s, w1 k (by omega)]
theorem call_move {n t : Nat} {kd : Nat → Nat} {dc : Nat → Option Nat} {fa : Nat → Nat → Nat} {pv y : Nat → Int32} {C : Nat → Nat → Nat → Int32} {mv : Nat → Int32} {mu : Nat → Nat → Int32} (h : Rel n t kd dc fa pv y C mv mu) (xs : Nat → Int32) {L : Nat} {x4 : Int32} (ov : Nat → Int64) (h1 : vp_in (x4 + 1) L) (h2 : vp_in (x4 + 2) L) :
    (∃ mv' mu', m_F_L_move_n xs L x4 pv dc ov mv mu = some (mv', mu') ∧ Rel n t kd dc fa pv y C mv' mu') ∨
    (∃ aF mv' mu', dc (xs (x4 + 1).toNatClampNeg).toNatClampNeg = some aF ∧ m_F_L_move_n2 xs L x4 pv dc ov mv mu = some (mv', mu') ∧ Rel n t kd dc fa pv y C mv' mu') ∨
    ∃ x z, x < n ∧ x < 8 ∧ z < n ∧ z < 8 ∧ dc (xs (x4 + 1).toNatClampNeg).toNatClampNeg = some (fa x (2 * kd x)) ∧ dc (xs (x4 + 2).toNatClampNeg).toNatClampNeg = some (fa z (2 * kd z)) ∧ ∃ b' mv' mu', Rel n t kd dc fa pv y (cst C z (2 * kd z + 1) b') mv' mu' ∧
      ((x = z ∧ kd z = 0 ∧ m_F_L_move_N xs L x4 pv dc (C z 0) (C z 1) ov mv mu = some (b', mv', mu')) ∨
       (x ≠ z ∧ kd z = 0 ∧ kd x = 0 ∧ m_F_L_move_NN xs L x4 pv dc (C z 0) (C z 1) (C x 0) (C x 1) ov mv mu = some (b', mv', mu')) ∨
       (x ≠ z ∧ kd z = 0 ∧ kd x = 1 ∧ m_F_L_move_NT xs L x4 pv dc (C z 0) (C z 1) (C x 2) (C x 3) ov mv mu = some (b', mv', mu')) ∨
       (x ≠ z ∧ kd z = 0 ∧ kd x = 2 ∧ m_F_L_move_NE xs L x4 pv dc (C z 0) (C z 1) (C x 4) (C x 5) (C x 6) (C x 7) ov mv mu = some (b', mv', mu')) ∨
       (x = z ∧ kd z = 1 ∧ m_F_L_move_T xs L x4 pv dc (C z 2) (C z 3) ov mv mu = some (b', mv', mu')) ∨
       (x ≠ z ∧ kd z = 1 ∧ kd x = 0 ∧ m_F_L_move_TN xs L x4 pv dc (C z 2) (C z 3) (C x 0) (C x 1) ov mv mu = some (b', mv', mu')) ∨
       (x ≠ z ∧ kd z = 1 ∧ kd x = 1 ∧ m_F_L_move_TT xs L x4 pv dc (C z 2) (C z 3) (C x 2) (C x 3) ov mv mu = some (b', mv', mu')) ∨
       (x ≠ z ∧ kd z = 1 ∧ kd x = 2 ∧ m_F_L_move_TE xs L x4 pv dc (C z 2) (C z 3) (C x 4) (C x 5) (C x 6) (C x 7) ov mv mu = some (b', mv', mu')) ∨
       (x = z ∧ kd z = 2 ∧ m_F_L_move_E xs L x4 pv dc (C z 4) (C z 5) (C z 6) (C z 7) ov mv mu = some (b', mv', mu')) ∨
       (x ≠ z ∧ kd z = 2 ∧ kd x = 0 ∧ m_F_L_move_EN xs L x4 pv dc (C z 4) (C z 5) (C z 6) (C z 7) (C x 0) (C x 1) ov mv mu = some (b', mv', mu')) ∨
       (x ≠ z ∧ kd z = 2 ∧ kd x = 1 ∧ m_F_L_move_ET xs L x4 pv dc (C z 4) (C z 5) (C z 6) (C z 7) (C x 2) (C x 3) ov mv mu = some (b', mv', mu')) ∨
       (x ≠ z ∧ kd z = 2 ∧ kd x = 2 ∧ m_F_L_move_EE xs L x4 pv dc (C z 4) (C z 5) (C z 6) (C z 7) (C x 4) (C x 5) (C x 6) (C x 7) ov mv mu = some (b', mv', mu')) ∨
       (x ≠ z ∧ kd z = 1 ∧ kd x = 0 ∧ m_F_L_move_u xs L x4 pv dc (C z 2) (C z 3) (C x 0) (C x 1) ov mv mu = some (b', mv', mu'))) := by
  have h' := h
  obtain ⟨a1, a2, a3, a4, a5, a6, a7, a8, a9⟩ := h'
  have rel : ∀ r, Rel n t kd dc fa pv y C (upd mv 0 r) mu := fun r => Rel_sc h (pk_un (by decide)) (pk_un (by decide)) (fun _ _ _ => rfl)
  have cself : ∀ x r, cst C x r (C x r) = C := fun x r => by
    funext k q
    unfold cst
    by_cases c : k = x ∧ q = r
    · rw [if_pos c, c.1, c.2]
    · rw [if_neg c]
  unfold m_F_L_move_n m_F_L_move_n2 m_F_L_move_N m_F_L_move_NN m_F_L_move_NT m_F_L_move_NE m_F_L_move_T m_F_L_move_TN m_F_L_move_TT m_F_L_move_TE m_F_L_move_E m_F_L_move_EN m_F_L_move_ET m_F_L_move_EE m_F_L_move_u
  simp only [zix_in h1, zix_in h2]
  generalize xs (x4 + 1).toNatClampNeg = f
  generalize xs (x4 + 2).toNatClampNeg = w
  rcases fld_cases a1 f with ⟨x, hx, rfl⟩ | hf
  · right
    rcases fld_cases a1 w with ⟨z, hz, rfl⟩ | hw
    · right
      obtain ⟨d1, d2⟩ := a9 x hx
      obtain ⟨d3, d4⟩ := a9 z hz
      refine ⟨x, z, hx, by omega, hz, by omega, by rw [nI_clamp (by omega)]; exact d1, by rw [nI_clamp (by omega)]; exact d3, ?_⟩
      rcases d4 with ⟨ez, qz⟩ | ⟨ez, qz⟩ | ⟨ez, qz⟩
      · -- the one that takes is of kind 0
        obtain ⟨S, p1, p2, p3, p4, p5, p6, p7, p8, p9⟩ := FN_HD qz
        have hM := P_move_num a1 hx hz a4 (show ¬ mu 5 z = 1 by rw [p8]; decide)
        rcases d2 with ⟨ex, qx⟩ | ⟨ex, qx⟩ | ⟨ex, qx⟩
        · obtain ⟨V, s, v', u', e1, e0, e2, e3, e4, e5, e6⟩ := FN_take (show x < 8 by omega) qx (upd mv 0 0)
          have qz' := FN_ext qz (kp_17 e5) (b' := C z 1) (fun S' hS' hS25 j hj => by
            rw [p1] at hS'
            have := (nI_eq (by omega) (by omega)).mp hS'
            rw [e5 16 (by decide), p9 j (by omega)])
          obtain ⟨b', u2, t1, t2, t3, t4⟩ := FN_store (show z < 8 by omega) qz' e3 (C z 1)
          have hv0 : v' 0 = 0 := by rw [e4 0 (by decide) (by decide), pk_us]
          have hrel : Rel n t kd dc fa pv y (cst C z (2 * kd z + 1) b') v' u2 := by
            refine Rel_st h (by rw [e4 1 (by decide) (by decide), pk_un (by decide)]) (by rw [e4 3 (by decide) (by decide), pk_un (by decide)]) hz (fun r w1 w2 w3 => by rw [t3.1 r w1 w3, e5 r w2]) (fun i hi => by rw [t3.2 i hi, e5 16 (by decide)]) ?_
            rw [ez]; exact t4
          by_cases hxz : x = z
          · subst hxz
            refine ⟨b', v', u2, hrel, Or.inl ⟨rfl, ez, ?_⟩⟩
            simp only [m_L_move_N, m_P_move_N, m_F_takeField_N, C_ex a1 hx a3, e1, e0, t1, hM, e2, t2, m_M_thrown, Option.bind_some, zbo_1, show ¬ (1 : Int32) = 0 by decide, if_false, if_true, hv0]
          · refine ⟨b', v', u2, hrel, Or.inr (Or.inl ⟨hxz, ez, ex, ?_⟩)⟩
            simp only [m_L_move_NN, m_P_move_NN, m_F_takeField_NN, C_ex a1 hx a3, C_ex a1 hz a3, e1, e0, t1, hM, e2, t2, m_M_thrown, Option.bind_some, zbo_1, show ¬ (1 : Int32) = 0 by decide, if_false, if_true, hv0]
        · obtain ⟨V, s, v', u', e1, e0, e2, e3, e4, e5, e6⟩ := FT_take (show x < 8 by omega) qx (upd mv 0 0)
          have qz' := FN_ext qz (kp_17 e5) (b' := C z 1) (fun S' hS' hS25 j hj => by
            rw [p1] at hS'
            have := (nI_eq (by omega) (by omega)).mp hS'
            rw [e5 16 (by decide), p9 j (by omega)])
          obtain ⟨b', u2, t1, t2, t3, t4⟩ := FN_store (show z < 8 by omega) qz' e3 (C z 1)
          have hv0 : v' 0 = 0 := by rw [e4 0 (by decide) (by decide), pk_us]
          have hrel : Rel n t kd dc fa pv y (cst C z (2 * kd z + 1) b') v' u2 := by
            refine Rel_st h (by rw [e4 1 (by decide) (by decide), pk_un (by decide)]) (by rw [e4 3 (by decide) (by decide), pk_un (by decide)]) hz (fun r w1 w2 w3 => by rw [t3.1 r w1 w3, e5 r w2]) (fun i hi => by rw [t3.2 i hi, e5 16 (by decide)]) ?_
            rw [ez]; exact t4
          have hxz : x ≠ z := fun q => by rw [q, ez] at ex; exact absurd ex (by decide)
          refine ⟨b', v', u2, hrel, Or.inr (Or.inr (Or.inl ⟨hxz, ez, ex, ?_⟩))⟩
          simp only [m_L_move_NT, m_P_move_NT, m_F_takeField_NT, C_ex a1 hx a3, C_ex a1 hz a3, e1, e0, t1, hM, e2, t2, m_M_thrown, Option.bind_some, zbo_1, show ¬ (1 : Int32) = 0 by decide, if_false, if_true, hv0]
        · obtain ⟨V, s, v', u', e1, e0, e2, e3, e4, e5, e6⟩ := FE_take (show x < 8 by omega) qx (upd mv 0 0)
          have qz' := FN_ext qz (kp_17 e5) (b' := C z 1) (fun S' hS' hS25 j hj => by
            rw [p1] at hS'
            have := (nI_eq (by omega) (by omega)).mp hS'
            rw [e5 16 (by decide), p9 j (by omega)])
          obtain ⟨b', u2, t1, t2, t3, t4⟩ := FN_store (show z < 8 by omega) qz' e3 (C z 1)
          have hv0 : v' 0 = 0 := by rw [e4 0 (by decide) (by decide), pk_us]
          have hrel : Rel n t kd dc fa pv y (cst C z (2 * kd z + 1) b') v' u2 := by
            refine Rel_st h (by rw [e4 1 (by decide) (by decide), pk_un (by decide)]) (by rw [e4 3 (by decide) (by decide), pk_un (by decide)]) hz (fun r w1 w2 w3 => by rw [t3.1 r w1 w3, e5 r w2]) (fun i hi => by rw [t3.2 i hi, e5 16 (by decide)]) ?_
            rw [ez]; exact t4
          have hxz : x ≠ z := fun q => by rw [q, ez] at ex; exact absurd ex (by decide)
          refine ⟨b', v', u2, hrel, Or.inr (Or.inr (Or.inr (Or.inl ⟨hxz, ez, ex, ?_⟩)))⟩
          simp only [m_L_move_NE, m_P_move_NE, m_F_takeField_NE, C_ex a1 hx a3, C_ex a1 hz a3, e1, e0, t1, hM, e2, t2, m_M_thrown, Option.bind_some, zbo_1, show ¬ (1 : Int32) = 0 by decide, if_false, if_true, hv0]
      · -- a text takes characters
        obtain ⟨S, p1, p2, p3, p4, p5, p6, p7, p8, p9⟩ := FT_HD qz
        rcases d2 with ⟨ex, qx⟩ | ⟨ex, qx⟩ | ⟨ex, qx⟩
        · have hxz : x ≠ z := fun q => by rw [q, ez] at ex; exact absurd ex (by decide)
          have qx0 := qx
          obtain ⟨pk, ff, NN, aa, before, behind, nn, low, hC, hU, hd, hb⟩ := qx
          obtain ⟨⟨cc2, cc3, cc4, cc5, cc6⟩, cc1, cc7⟩ := hC
          have hr7 : mu 7 x = nI before := hU.1.2.2.2.2.1
          have hr8 : mu 8 x = nI behind := hU.1.2.2.2.2.2.1
          have hr5 : mu 5 x = 0 := hU.1.2.2.2.1
          have hbf : before ≤ 12 := hd.2.2.2.2.2.2.1
          have hbh : behind ≤ 12 := hd.2.2.2.2.2.1
          by_cases hbz : behind = 0
          · obtain ⟨V, s, v', u', e1, e0, e2, e3⟩ := FN_take (show x < 8 by omega) qx0 (upd (upd mv 0 0) 23 0)
            have hs0 : s = 0 := by
              rw [cc3, hbz] at e0
              have := e3.1.1
              exact ((nI_eq (by omega) (by omega)).mp e0).symm
            subst hs0
            obtain ⟨v2, w, c1, c2, c3, c4⟩ := P_chars_N (show x < 8 by omega) hbf hr5 hr7 e2 e3
            obtain ⟨-, e4, e5, e6⟩ := e3
            obtain ⟨u3, s1, s2, s3, s4⟩ := txt_store (show z < 8 by omega) qz (u2 := zset u' 18 w) (fun r t1 t2 => by rw [zset_n _ _ t2, e5 r t1]) c2 (by omega)
            obtain ⟨b', f1, f2⟩ := C_spell_N (v := C x 0) (b := C x 1) cc2 hbf (by rw [cc3, hbz]) e1 (L := S) p3 (C z 3)
            have hM := P_move_txt a1 hx hz a4 p8 (Or.inr (by rw [hr8, hbz]; decide))
            have hv0 : v2 0 = 0 := by rw [c3 0 (by decide) (by decide) (by decide), pk_us]
            refine ⟨b', v2, u3, ?_, Or.inr (Or.inr (Or.inr (Or.inr (Or.inr (Or.inl ⟨hxz, ez, ex, ?_⟩)))))⟩
            · refine Rel_st h (by rw [c3 1 (by decide) (by decide) (by decide), pk_un (by decide)]) (by rw [c3 3 (by decide) (by decide) (by decide), pk_un (by decide)]) hz s2 s3 ?_
              rw [ez]
              intro S' hS' hS25 j hj
              have hSS : S' = S := by
                have hS'' : C z 2 1 = nI S' := hS'
                rw [p1] at hS''
                exact ((nI_eq (by omega) (by omega)).mp hS'').symm
              rw [s4 S' hS' hS25 j hj, f2 j (by omega), zset_s]
              by_cases c : j < before
              · rw [if_pos c, if_pos c, c4 j c]
              · rw [if_neg c, if_neg c]
            · simp only [m_L_move_TN, m_P_move_TN, m_T_takeField_TN, C_ex a1 hx a3, C_ex a1 hz a3, p1, f1, hM, c1, s1, m_M_thrown, Option.bind_some, zbo_1, show ¬ (1 : Int32) = 0 by decide, if_false, if_true, hv0]
          · refine ⟨C z 3, upd mv 0 2, mu, ?_, Or.inr (Or.inr (Or.inr (Or.inr (Or.inr (Or.inr (Or.inr (Or.inr (Or.inr (Or.inr (Or.inr (Or.inr (⟨hxz, ez, ex, ?_⟩))))))))))))⟩
            · rw [ez]
              show Rel n t kd dc fa pv y (cst C z 3 (C z 3)) _ mu
              rw [cself]; exact rel 2
            · have hM := P_move_ref a1 hx hz a4 p8 hr5 hr8 (by omega) hbh
              have hsp : m_N_spell (nI S) (C x 0) (C x 1) (C z 3) = some (0, C z 3) := by
                unfold m_N_spell
                rw [cc3, if_neg (nI_nle (by omega) (by omega)), zbo_0]
              simp only [m_L_move_u, m_Pu_move, m_T_takeField_TN, C_ex a1 hx a3, C_ex a1 hz a3, p1, hsp, hM, m_M_thrown, Option.bind_some, zbo_0, if_true, pk_us]
        · obtain ⟨S2, o1, o2, o3, o4, o5, o6, o7, o8, o9⟩ := FT_HD qx
          have hM := P_move_txt a1 hx hz a4 p8 (Or.inl (by rw [o8]; decide))
          obtain ⟨v2, w, c1, c2, c3, c4⟩ := P_chars_T (show x < 8 by omega) o3 (by rw [o8]; decide) o4 (upd mv 0 0)
          obtain ⟨u3, s1, s2, s3, s4⟩ := txt_store (show z < 8 by omega) qz (u2 := zset mu 18 w) (fun r t1 t2 => zset_n _ _ t2) c2 (by omega)
          have hv0 : v2 0 = 0 := by rw [c3 0 (by decide) (by decide) (by decide), pk_us]
          have hrel : ∀ b' : Nat → Int32, (∀ k, k < S → b' k = if k < S2 then C x 3 k else 32) → Rel n t kd dc fa pv y (cst C z (2 * kd z + 1) b') v2 u3 := by
            intro b' f2
            refine Rel_st h (by rw [c3 1 (by decide) (by decide) (by decide), pk_un (by decide)]) (by rw [c3 3 (by decide) (by decide) (by decide), pk_un (by decide)]) hz s2 s3 ?_
            rw [ez]
            intro S' hS' hS25 j hj
            have hSS : S' = S := by
              have hS'' : C z 2 1 = nI S' := hS'
              rw [p1] at hS''
              exact ((nI_eq (by omega) (by omega)).mp hS'').symm
            rw [s4 S' hS' hS25 j hj, f2 j (by omega), zset_s]
            by_cases c : j < S2
            · rw [if_pos c, if_pos c, c4 j c, o9 j c]
            · rw [if_neg c, if_neg c]
          by_cases hxz : x = z
          · subst hxz
            have hSS : S2 = S := by
              rw [p1] at o1
              exact ((nI_eq (by omega) (by omega)).mp o1).symm
            obtain ⟨b', f1, f2⟩ := C_spell_TT (v := C x 2) (b := C x 3) p1 p3
            refine ⟨b', v2, u3, hrel b' (fun k hk => by rw [f2 k hk, if_pos (by omega)]), Or.inr (Or.inr (Or.inr (Or.inr (Or.inl ⟨rfl, ez, ?_⟩))))⟩
            simp only [m_L_move_T, m_P_move_T, m_T_takeField_T, C_ex a1 hx a3, p1, f1, hM, c1, s1, m_M_thrown, Option.bind_some, zbo_1, show ¬ (1 : Int32) = 0 by decide, if_false, if_true, hv0]
          · obtain ⟨b', f1, f2⟩ := C_spell_T (v := C x 2) (b := C x 3) o1 o3 (L := S) p3 (C z 3)
            refine ⟨b', v2, u3, hrel b' f2, Or.inr (Or.inr (Or.inr (Or.inr (Or.inr (Or.inr (Or.inl ⟨hxz, ez, ex, ?_⟩))))))⟩
            simp only [m_L_move_TT, m_P_move_TT, m_T_takeField_TT, C_ex a1 hx a3, C_ex a1 hz a3, p1, f1, hM, c1, s1, m_M_thrown, Option.bind_some, zbo_1, show ¬ (1 : Int32) = 0 by decide, if_false, if_true, hv0]
        · obtain ⟨S2, o1, o2, o3, o4, o5, o6, o7, o8, o9⟩ := FE_HD qx
          have hM := P_move_txt a1 hx hz a4 p8 (Or.inl (by rw [o8]; decide))
          obtain ⟨v2, w, c1, c2, c3, c4⟩ := P_chars_T (show x < 8 by omega) o3 (by rw [o8]; decide) o4 (upd mv 0 0)
          obtain ⟨u3, s1, s2, s3, s4⟩ := txt_store (show z < 8 by omega) qz (u2 := zset mu 18 w) (fun r t1 t2 => zset_n _ _ t2) c2 (by omega)
          have hv0 : v2 0 = 0 := by rw [c3 0 (by decide) (by decide) (by decide), pk_us]
          have hrel : ∀ b' : Nat → Int32, (∀ k, k < S → b' k = if k < S2 then C x 5 k else 32) → Rel n t kd dc fa pv y (cst C z (2 * kd z + 1) b') v2 u3 := by
            intro b' f2
            refine Rel_st h (by rw [c3 1 (by decide) (by decide) (by decide), pk_un (by decide)]) (by rw [c3 3 (by decide) (by decide) (by decide), pk_un (by decide)]) hz s2 s3 ?_
            rw [ez]
            intro S' hS' hS25 j hj
            have hSS : S' = S := by
              have hS'' : C z 2 1 = nI S' := hS'
              rw [p1] at hS''
              exact ((nI_eq (by omega) (by omega)).mp hS'').symm
            rw [s4 S' hS' hS25 j hj, f2 j (by omega), zset_s]
            by_cases c : j < S2
            · rw [if_pos c, if_pos c, c4 j c, o9 j c]
            · rw [if_neg c, if_neg c]
          have hxz : x ≠ z := fun q => by rw [q, ez] at ex; exact absurd ex (by decide)
          obtain ⟨b', f1, f2⟩ := C_spell_E (v := C x 4) (b := C x 5) (rw := C x 6) (pw := C x 7) o1 o3 (L := S) p3 (C z 3)
          refine ⟨b', v2, u3, hrel b' f2, Or.inr (Or.inr (Or.inr (Or.inr (Or.inr (Or.inr (Or.inr (Or.inl ⟨hxz, ez, ex, ?_⟩)))))))⟩
          simp only [m_L_move_TE, m_P_move_TE, m_T_takeField_TE, C_ex a1 hx a3, C_ex a1 hz a3, p1, f1, hM, c1, s1, m_M_thrown, Option.bind_some, zbo_1, show ¬ (1 : Int32) = 0 by decide, if_false, if_true, hv0]
      · -- the one that takes is of kind 2
        obtain ⟨S, p1, p2, p3, p4, p5, p6, p7, p8, p9⟩ := FE_HD qz
        have hM := P_move_num a1 hx hz a4 (show ¬ mu 5 z = 1 by rw [p8]; decide)
        rcases d2 with ⟨ex, qx⟩ | ⟨ex, qx⟩ | ⟨ex, qx⟩
        · obtain ⟨V, s, v', u', e1, e0, e2, e3, e4, e5, e6⟩ := FN_take (show x < 8 by omega) qx (upd mv 0 0)
          have qz' := FE_ext qz (kp_17 e5) (b' := C z 5) (fun S' hS' hS25 j hj => by
            rw [p1] at hS'
            have := (nI_eq (by omega) (by omega)).mp hS'
            rw [e5 16 (by decide), p9 j (by omega)])
          obtain ⟨b', u2, t1, t2, t3, t4⟩ := FE_store (show z < 8 by omega) qz' e3 (C z 5)
          have hv0 : v' 0 = 0 := by rw [e4 0 (by decide) (by decide), pk_us]
          have hrel : Rel n t kd dc fa pv y (cst C z (2 * kd z + 1) b') v' u2 := by
            refine Rel_st h (by rw [e4 1 (by decide) (by decide), pk_un (by decide)]) (by rw [e4 3 (by decide) (by decide), pk_un (by decide)]) hz (fun r w1 w2 w3 => by rw [t3.1 r w1 w3, e5 r w2]) (fun i hi => by rw [t3.2 i hi, e5 16 (by decide)]) ?_
            rw [ez]; exact t4
          have hxz : x ≠ z := fun q => by rw [q, ez] at ex; exact absurd ex (by decide)
          refine ⟨b', v', u2, hrel, Or.inr (Or.inr (Or.inr (Or.inr (Or.inr (Or.inr (Or.inr (Or.inr (Or.inr (Or.inl ⟨hxz, ez, ex, ?_⟩)))))))))⟩
          simp only [m_L_move_EN, m_P_move_EN, m_F_takeField_EN, C_ex a1 hx a3, C_ex a1 hz a3, e1, e0, t1, hM, e2, t2, m_M_thrown, Option.bind_some, zbo_1, show ¬ (1 : Int32) = 0 by decide, if_false, if_true, hv0]
        · obtain ⟨V, s, v', u', e1, e0, e2, e3, e4, e5, e6⟩ := FT_take (show x < 8 by omega) qx (upd mv 0 0)
          have qz' := FE_ext qz (kp_17 e5) (b' := C z 5) (fun S' hS' hS25 j hj => by
            rw [p1] at hS'
            have := (nI_eq (by omega) (by omega)).mp hS'
            rw [e5 16 (by decide), p9 j (by omega)])
          obtain ⟨b', u2, t1, t2, t3, t4⟩ := FE_store (show z < 8 by omega) qz' e3 (C z 5)
          have hv0 : v' 0 = 0 := by rw [e4 0 (by decide) (by decide), pk_us]
          have hrel : Rel n t kd dc fa pv y (cst C z (2 * kd z + 1) b') v' u2 := by
            refine Rel_st h (by rw [e4 1 (by decide) (by decide), pk_un (by decide)]) (by rw [e4 3 (by decide) (by decide), pk_un (by decide)]) hz (fun r w1 w2 w3 => by rw [t3.1 r w1 w3, e5 r w2]) (fun i hi => by rw [t3.2 i hi, e5 16 (by decide)]) ?_
            rw [ez]; exact t4
          have hxz : x ≠ z := fun q => by rw [q, ez] at ex; exact absurd ex (by decide)
          refine ⟨b', v', u2, hrel, Or.inr (Or.inr (Or.inr (Or.inr (Or.inr (Or.inr (Or.inr (Or.inr (Or.inr (Or.inr (Or.inl ⟨hxz, ez, ex, ?_⟩))))))))))⟩
          simp only [m_L_move_ET, m_P_move_ET, m_F_takeField_ET, C_ex a1 hx a3, C_ex a1 hz a3, e1, e0, t1, hM, e2, t2, m_M_thrown, Option.bind_some, zbo_1, show ¬ (1 : Int32) = 0 by decide, if_false, if_true, hv0]
        · obtain ⟨V, s, v', u', e1, e0, e2, e3, e4, e5, e6⟩ := FE_take (show x < 8 by omega) qx (upd mv 0 0)
          have qz' := FE_ext qz (kp_17 e5) (b' := C z 5) (fun S' hS' hS25 j hj => by
            rw [p1] at hS'
            have := (nI_eq (by omega) (by omega)).mp hS'
            rw [e5 16 (by decide), p9 j (by omega)])
          obtain ⟨b', u2, t1, t2, t3, t4⟩ := FE_store (show z < 8 by omega) qz' e3 (C z 5)
          have hv0 : v' 0 = 0 := by rw [e4 0 (by decide) (by decide), pk_us]
          have hrel : Rel n t kd dc fa pv y (cst C z (2 * kd z + 1) b') v' u2 := by
            refine Rel_st h (by rw [e4 1 (by decide) (by decide), pk_un (by decide)]) (by rw [e4 3 (by decide) (by decide), pk_un (by decide)]) hz (fun r w1 w2 w3 => by rw [t3.1 r w1 w3, e5 r w2]) (fun i hi => by rw [t3.2 i hi, e5 16 (by decide)]) ?_
            rw [ez]; exact t4
          by_cases hxz : x = z
          · subst hxz
            refine ⟨b', v', u2, hrel, Or.inr (Or.inr (Or.inr (Or.inr (Or.inr (Or.inr (Or.inr (Or.inr (Or.inl ⟨rfl, ez, ?_⟩))))))))⟩
            simp only [m_L_move_E, m_P_move_E, m_F_takeField_E, C_ex a1 hx a3, e1, e0, t1, hM, e2, t2, m_M_thrown, Option.bind_some, zbo_1, show ¬ (1 : Int32) = 0 by decide, if_false, if_true, hv0]
          · refine ⟨b', v', u2, hrel, Or.inr (Or.inr (Or.inr (Or.inr (Or.inr (Or.inr (Or.inr (Or.inr (Or.inr (Or.inr (Or.inr (Or.inl ⟨hxz, ez, ex, ?_⟩)))))))))))⟩
            simp only [m_L_move_EE, m_P_move_EE, m_F_takeField_EE, C_ex a1 hx a3, C_ex a1 hz a3, e1, e0, t1, hM, e2, t2, m_M_thrown, Option.bind_some, zbo_1, show ¬ (1 : Int32) = 0 by decide, if_false, if_true, hv0]
    · left
      refine ⟨fa x (2 * kd x), upd mv 0 1, mu, by rw [nI_clamp (by omega)]; exact (a9 x hx).1, ?_, rel 1⟩
      simp only [m_L_move_n2, m_Px2_move, C_ex a1 hx a3, C_ex0 hw a3, P_move_n a4 mu (Or.inr ⟨P_isF a1 hx a4 mu, P_isF0 hw a4 mu⟩), m_M_thrown, Option.bind_some, pk_us, if_true]
  · left
    refine ⟨upd mv 0 1, mu, ?_, rel 1⟩
    simp only [m_L_move_n, m_Px_move, C_ex0 hf a3, P_move_n a4 mu (Or.inl (P_isF0 hf a4 mu)), m_M_thrown, Option.bind_some, pk_us, if_true]
