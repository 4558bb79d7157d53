/-! declare: both. -/
theorem C_use {v b : Nat → Int32} {a before behind nines low : Nat} (h : cN v a before behind nines low) (hn : nines ≤ 12) (w : Int32) :
    (w = 0 ∧ m_N_takesUsage w v b = some (1, upd (upd v 7 0) 1 (nI nines)) ∧ cU (upd (upd v 7 0) 1 (nI nines)) false a before behind nines low) ∨
    (w = 1 ∧ m_N_takesUsage w v b = some (1, upd (upd v 7 1) 1 (nI (nines / 2 + 1))) ∧ cU (upd (upd v 7 1) 1 (nI (nines / 2 + 1))) true a before behind nines low) ∨
    (w ≠ 0 ∧ w ≠ 1 ∧ ∃ v', m_N_takesUsage w v b = some (0, v')) := by
  obtain ⟨c2, c3, c4, c5, c6⟩ := h
  have h7 : ∀ q : Int32, upd v 7 q 7 = q := fun q => pk_us
  have h5 : ∀ q : Int32, upd v 7 q 5 = nI nines := fun q => by rw [pk_un (by decide)]; exact c5
  have hN : ∀ (q z : Int32), cN (upd (upd v 7 q) 1 z) a before behind nines low := by
    intro q z
    refine ⟨?_, ?_, ?_, ?_, ?_⟩ <;> rw [pk_un (by decide), pk_un (by decide)] <;> assumption
  by_cases w1 : w = 1
  · right; left
    refine ⟨w1, ?_, hN _ _, pk_us, ?_⟩
    · simp only [m_N_takesUsage, m_N_takesUsage_11, m_N_takesUsage_37, m_N_takesUsage_49, w1, if_true, zbo_1, h7, h5, show ¬ (1 : Int32) = 0 by decide, if_false, nI_div2 (show nines < 2 ^ 31 by omega), nI_1]
    · rw [pk_un (by decide), pk_us]; rfl
  · by_cases w0 : w = 0
    · left
      refine ⟨w0, ?_, hN _ _, pk_us, ?_⟩
      · simp only [m_N_takesUsage, m_N_takesUsage_11, m_N_takesUsage_37, m_N_takesUsage_49, w0, if_true, zbo_1, zbo_0, h7, h5, show ¬ (0 : Int32) = 1 by decide, if_false]
      · rw [pk_un (by decide), pk_us]; rfl
    · right; right
      refine ⟨w0, w1, ?_⟩
      simp only [m_N_takesUsage, m_N_takesUsage_11, m_N_takesUsage_37, w0, w1, zbo_0, h7, if_true, if_false]
      exact ⟨_, rfl⟩
/-- the eight cells of a place -/
def c8f (a0 a1 a2 a3 a4 a5 a6 a7 : Nat → Int32) : Nat → Nat → Int32 := fun q => match q with
  | 0 => a0
  | 1 => a1
  | 2 => a2
  | 3 => a3
  | 4 => a4
  | 5 => a5
  | 6 => a6
  | _ => a7
def pst (C : Nat → Nat → Nat → Int32) (x : Nat) (c : Nat → Nat → Int32) : Nat → Nat → Nat → Int32 := fun k => if k = x then c else C k
theorem pst_s (C : Nat → Nat → Nat → Int32) (x : Nat) (c : Nat → Nat → Int32) : pst C x c x = c := if_pos rfl
theorem pst_n (C : Nat → Nat → Nat → Int32) {x k : Nat} (c : Nat → Nat → Int32) (h : k ≠ x) : pst C x c k = C k := if_neg h
theorem kp_tr {x : Nat} {u u' u'' : Nat → Nat → Int32} (h1 : kp x u u') (h2 : kp x u' u'') : kp x u u'' := ⟨fun r hr => (h2.1 r hr).trans (h1.1 r hr), fun j hj => ⟨(h2.2 j hj).1.trans (h1.2 j hj).1, (h2.2 j hj).2.trans (h1.2 j hj).2⟩⟩
theorem kp_DF {x : Nat} (hx : x < 8) {u u' : Nat → Nat → Int32} (h : DF u u') : kp x u u' := ⟨fun r hr => h.2 r x (by omega) (by omega) (Or.inl (by omega)), fun j hj => ⟨h.1 3 _ (Or.inl rfl) (by omega), h.1 4 _ (Or.inr rfl) (by omega)⟩⟩
theorem kp_st {z x : Nat} {u u' : Nat → Nat → Int32} (h : stx x u u') : kp z u u' := ⟨fun r hr => by rw [h.1 r (by omega) (by omega)], fun j _ => by rw [h.1 3 (by decide) (by decide), h.1 4 (by decide) (by decide)]; exact ⟨rfl, rfl⟩⟩
/-- nothing new is declared: the place that was tried may have changed -/
theorem Rel_no {n t : Nat} {kd : Nat → Nat} {dc : Nat → Option Nat} {fa : Nat → Nat → Nat} {pv pv' y : Nat → Int32} {C : Nat → Nat → Nat → Int32} {mv mv' : Nat → Int32} {mu mu' : Nat → Nat → Int32} (h : Rel n t kd dc fa pv y C mv mu) (hn : n < 8) (hd : DF mu mu') (p1 : pv' 1 = nI 0) (p7 : pv' 7 = pv 7) (m1 : mv' 1 = nI 0) (m3 : mv' 3 = mv 3) (c : Nat → Nat → Int32) (hc : c 2 2 = 0 ∧ c 2 3 = 0 ∧ c 2 4 = 0) : Rel n 0 kd dc fa pv' y (pst C n c) mv' mu' := by
  obtain ⟨a1, a2, a3, a4, a5, a6, a7, a8, a9⟩ := h
  refine ⟨a1, by omega, by rw [p7]; exact a3, by rw [m3]; exact a4, p1, m1, by rw [hd.row (Or.inl rfl)]; exact a7, fun x hx => ?_, fun x hx => ⟨(a9 x hx).1, ?_⟩⟩
  · by_cases e : x = n
    · rw [e, pst_s]; exact hc
    · rw [pst_n _ _ e]; exact a8 x hx
  · rw [pst_n _ _ (by omega)]
    exact FR_ext (a9 x hx).2 (kp_DF (by omega) hd) (fun j _ => by rw [hd.row (Or.inr (Or.inl rfl))])
/-- a new field -/
theorem Rel_new {n t : Nat} {kd : Nat → Nat} {dc : Nat → Option Nat} {fa : Nat → Nat → Nat} {pv pv' y : Nat → Int32} {C : Nat → Nat → Nat → Int32} {mv mv' : Nat → Int32} {mu mu' : Nat → Nat → Int32} (h : Rel n t kd dc fa pv y C mv mu) (hn : n < 8) (p1 : pv' 1 = nI 0) (p7 : pv' 7 = nI (n + 1)) (m1 : mv' 1 = nI 0) (m3 : mv' 3 = nI (n + 1)) (u1 : mu' 1 = mu 1) (hk : ∀ z, z < n → kp z mu mu' ∧ ∀ j, j < 32 → mu' 16 (32 * z + j) = mu 16 (32 * z + j)) (k : Nat) (c : Nat → Nat → Int32) (hc : c 2 2 = 0 ∧ c 2 3 = 0 ∧ c 2 4 = 0) (hF : FR n k c mu') : Rel (n + 1) 0 (fun z => if z = n then k else kd z) (va_up dc n (some (fa n (2 * k)))) fa pv' y (pst C n c) mv' mu' := by
  obtain ⟨a1, a2, a3, a4, a5, a6, a7, a8, a9⟩ := h
  refine ⟨by omega, by omega, p7, m3, p1, m1, by rw [u1]; exact a7, fun x hx => ?_, fun x hx => ?_⟩
  · by_cases e : x = n
    · rw [e, pst_s]; exact hc
    · rw [pst_n _ _ e]; exact a8 x hx
  · by_cases e : x = n
    · subst e
      have hk : (fun z => if z = x then k else kd z) x = k := if_pos rfl
      rw [pst_s, hk]
      exact ⟨if_pos rfl, hF⟩
    · have hk' : (fun z => if z = n then k else kd z) x = kd x := if_neg e
      rw [pst_n _ _ e, hk']
      exact ⟨by rw [show va_up dc n (some (fa n (2 * k))) x = dc x from if_neg e]; exact (a9 x (by omega)).1, FR_ext (a9 x (by omega)).2 (hk x (by omega)).1 (hk x (by omega)).2⟩
theorem NR_0 {v : Nat → Int32} {u : Nat → Nat → Int32} (h20 : v 20 = 0) (h21 : v 21 = 0) (hu : ∀ j, j < 48 → u 17 j = 0) : NR 0 0 v u := by
  refine ⟨by omega, h20, Or.inl h21, fun j hj => ?_, fun q => absurd rfl q⟩
  rw [hu j hj]
  have : dgz (0 : Int64).toInt.natAbs (j : Int) = 0 := by
    rw [dgz_n, show (0 : Int64).toInt.natAbs = 0 from by decide, Nat.zero_div]
  rw [this]; rfl
/-- the reference, refusing -/
theorem P_decl_no {n : Nat} (hn : n < 8) {mv : Nat → Int32} (h3 : mv 3 = nI n) {mu u' : Nat → Nat → Int32} {b : Int32} (hr : m_M_reads (upd mv 0 0) mu = some (b, u')) {w : Int32} (hb : b = 0 ∨ (b = 1 ∧ w ≠ 0 ∧ (w ≠ 1 ∨ u' 5 8 ≠ 0))) : m_M_declare w mv mu = some (0, upd (upd (upd mv 0 0) 1 0) 0 2, u') := by
  have h8 : ¬ nI n = 8 := fun q => by have := (nI_eq (b := 8) (by omega) (by decide)).mp q; omega
  have h55 : m_M_declare_55 w (upd mv 0 0) u' = some (0, upd (upd (upd mv 0 0) 1 0) 0 2, u') := by
    simp only [m_M_declare_55, m_M_declare_56, m_M_declare_73, if_true, P_fails2, Option.bind_some, show ¬ (1 : Int32) = 0 by decide, if_false]
  unfold m_M_declare m_M_declare_15
  rw [h3, if_neg h8, P_fails0, Option.bind_some, if_pos rfl]
  show (m_M_reads (upd mv 0 0) mu).bind _ = _
  rw [hr, Option.bind_some]
  rcases hb with rfl | ⟨rfl, w0, hw⟩
  · rw [if_pos rfl]; exact h55
  · rw [if_neg (show ¬ (1 : Int32) = 0 by decide), if_neg w0]
    by_cases w1 : w = 1
    · rw [if_pos w1, zix8]
      rcases hw with q | q
      · exact absurd w1 q
      · rw [if_neg (show ¬ u' 5 (8 : Int32).toNatClampNeg = 0 by rw [c8]; exact q)]; exact h55
    · rw [if_neg w1]; exact h55
/-- .. taking it -/
theorem P_decl_yes {n : Nat} (hn : n < 8) {mv : Nat → Int32} (h3 : mv 3 = nI n) {mu u' : Nat → Nat → Int32} (hr : m_M_reads (upd mv 0 0) mu = some (1, u')) {w : Int32} (hw : w = 0 ∨ (w = 1 ∧ u' 5 8 = 0)) : m_M_declare w mv mu = m_M_declare_51 w (upd mv 0 0) u' := by
  have h8 : ¬ nI n = 8 := fun q => by have := (nI_eq (b := 8) (by omega) (by decide)).mp q; omega
  unfold m_M_declare m_M_declare_15
  rw [h3, if_neg h8, P_fails0, Option.bind_some, if_pos rfl]
  show (m_M_reads (upd mv 0 0) mu).bind _ = _
  rw [hr, Option.bind_some, if_neg (show ¬ (1 : Int32) = 0 by decide)]
  rcases hw with rfl | ⟨rfl, hw⟩
  · rw [if_pos rfl]
  · rw [if_neg (show ¬ (1 : Int32) = 0 by decide), if_pos rfl, zix8, if_pos (show u' 5 (8 : Int32).toNatClampNeg = 0 by rw [c8]; exact hw)]
theorem call_declare {n t : Nat} {kd : Nat → Nat} {dc : Nat → Option Nat} {fa : Nat → Nat → Nat} {pv y : Nat → Int32} {C : Nat → Nat → Nat → Int32} {mv : Nat → Int32} {mu : Nat → Nat → Int32} (h : Rel n t kd dc fa pv y C mv mu) (xs : Nat → Int32) {L : Nat} {x4 : Int32} (ov : Nat → Int64) (sv sr : Nat → Int32) (nf tf ef : Nat → Option Nat) (h1 : vp_in (x4 + 1) L) :
    (n = 8 ∧ ∃ mv' mu', m_F_L_declare_s xs L x4 pv ov mv mu = some (mv', mu') ∧ Rel n t kd dc fa pv y C mv' mu') ∨
    (n < 8 ∧ (pv 7).toNatClampNeg = n ∧ ((∃ pv' sv' sr' mv' mu', m_F_L_declare_i xs L x4 pv y sv sr ov mv mu = some (pv', sv', sr', mv', mu') ∧ Rel n 0 kd dc fa pv' y C mv' mu') ∨
      (∃ pv' sv' sr' vn vt v rw pw mv' mu', m_F_L_declare_i2 xs L x4 pv y sv sr nf tf ef dc (C n 0) (C n 1) (C n 2) (C n 3) (C n 4) (C n 5) (C n 6) (C n 7) ov mv mu = some (pv', sv', sr', vn, vt, v, rw, pw, mv', mu') ∧ Rel n 0 kd dc fa pv' y (pst C n (c8f vn (C n 1) vt (C n 3) v (C n 5) rw pw)) mv' mu') ∨
      (∃ pv' sv' sr' dc' vn bn vt v rw pw ov' mv' mu', m_F_L_declare_N xs L x4 pv y sv sr nf tf ef dc (C n 0) (C n 1) (C n 2) (C n 3) (C n 4) (C n 5) (C n 6) (C n 7) ov mv mu (fa n 0) = some (pv', sv', sr', dc', vn, bn, vt, v, rw, pw, ov', mv', mu') ∧ Rel (n + 1) 0 (fun z => if z = n then 0 else kd z) dc' fa pv' y (pst C n (c8f vn bn vt (C n 3) v (C n 5) rw pw)) mv' mu') ∨
      (∃ pv' sv' sr' dc' vn vt bt v rw pw ov' mv' mu', m_F_L_declare_T xs L x4 pv y sv sr nf tf ef dc (C n 0) (C n 1) (C n 2) (C n 3) (C n 4) (C n 5) (C n 6) (C n 7) ov mv mu (fa n 2) = some (pv', sv', sr', dc', vn, vt, bt, v, rw, pw, ov', mv', mu') ∧ Rel (n + 1) 0 (fun z => if z = n then 1 else kd z) dc' fa pv' y (pst C n (c8f vn (C n 1) vt bt v (C n 5) rw pw)) mv' mu') ∨
      (∃ pv' sv' sr' dc' vn vt v b rw pw ov' mv' mu', m_F_L_declare_E xs L x4 pv y sv sr nf tf ef dc (C n 0) (C n 1) (C n 2) (C n 3) (C n 4) (C n 5) (C n 6) (C n 7) ov mv mu (fa n 4) = some (pv', sv', sr', dc', vn, vt, v, b, rw, pw, ov', mv', mu') ∧ Rel (n + 1) 0 (fun z => if z = n then 2 else kd z) dc' fa pv' y (pst C n (c8f vn (C n 1) vt (C n 3) v b rw pw)) mv' mu'))) := by
  have h' := h
  obtain ⟨a1, a2, a3, a4, a5, a6, a7, a8, a9⟩ := h'
  unfold m_F_L_declare_s m_F_L_declare_i m_F_L_declare_i2 m_F_L_declare_N m_F_L_declare_T m_F_L_declare_E
  simp only [zix_in h1]
  generalize xs (x4 + 1).toNatClampNeg = w
  rcases Nat.lt_or_ge n 8 with hn | hn
  · right
    refine ⟨hn, by rw [a3, nI_clamp (by omega)], ?_⟩
    have hp8 : pv 7 < 8 := by rw [a3]; exact nI_lt (b := 8) hn (by decide)
    have hp7 : upd pv 1 0 7 = nI n := by rw [pk_un (by decide)]; exact a3
    have hv1 : (upd mv 0 0) 1 = nI t := by rw [pk_un (by decide)]; exact a6
    obtain ⟨b, u', hr, hD, hcase⟩ := pic_both (u := mu) a2 hv1 sv sr (C n 0) (C n 1) (C n 2) (C n 3) (C n 4) (C n 5) (C n 6) (C n 7)
    rw [a7] at hcase
    have z8 : ∀ {α : Type} (K : Option α), zix (nI n) 8 K = K := fun K => zix_ok hn (by decide)
    have m1 : (upd (upd (upd mv 0 0) 1 0) 0 2) 1 = nI 0 := by rw [pk_un (by decide), pk_us]; rfl
    have m3 : (upd (upd (upd mv 0 0) 1 0) 0 2) 3 = mv 3 := by rw [pk_un (by decide), pk_un (by decide), pk_un (by decide)]
    have hp1 : (upd pv 1 0) 1 = nI 0 := by rw [pk_us]; rfl
    have hp77 : (upd pv 1 0) 7 = pv 7 := pk_un (by decide)
    have tt := a8 n hn
    -- the ways of refusal
    have no2 : ∀ (sv' sr' vn' vt' v' rw' pw' : Nat → Int32), m_S_expand (nI t) sv sr y = some (1, sv', sr') → m_P_fitting_0 (nI n) w (upd pv 1 0) sv' sr' nf tf ef (C n 0) (C n 1) (C n 2) (C n 3) (C n 4) (C n 5) (C n 6) (C n 7) = some (vn', vt', v', rw', pw') → (vt' 2 = 0 ∧ vt' 3 = 0 ∧ vt' 4 = 0) → m_M_declare w mv mu = some (0, upd (upd (upd mv 0 0) 1 0) 0 2, u') →
        ∃ pv' sv' sr' vn vt v rw pw mv' mu', ((m_L_declare_i2 w pv y sv sr nf tf ef dc (C n 0) (C n 1) (C n 2) (C n 3) (C n 4) (C n 5) (C n 6) (C n 7)).bind fun q2 => (m_M_declare w mv mu).bind fun q4 => (m_M_thrown q4.2.1 q4.2.2).bind fun q5 => if q5 = q2.1 then if q2.1 = 0 then zix 0 1 (if lg_cmp (ov (0 : Int32).toNatClampNeg) (q4.1.toInt64) = 0 then some (q2.2.1, q2.2.2.1, q2.2.2.2.1, q2.2.2.2.2.1, q2.2.2.2.2.2.1, q2.2.2.2.2.2.2.1, q2.2.2.2.2.2.2.2.1, q2.2.2.2.2.2.2.2.2, q4.2.1, q4.2.2) else none) else some (q2.2.1, q2.2.2.1, q2.2.2.2.1, q2.2.2.2.2.1, q2.2.2.2.2.2.1, q2.2.2.2.2.2.2.1, q2.2.2.2.2.2.2.2.1, q2.2.2.2.2.2.2.2.2, q4.2.1, q4.2.2) else none) = some (pv', sv', sr', vn, vt, v, rw, pw, mv', mu') ∧ Rel n 0 kd dc fa pv' y (pst C n (c8f vn (C n 1) vt (C n 3) v (C n 5) rw pw)) mv' mu' := by
      intro sv' sr' vn' vt' v' rw' pw' he hf ht hM
      refine ⟨upd pv 1 0, sv', sr', vn', vt', v', rw', pw', upd (upd (upd mv 0 0) 1 0) 0 2, u', ?_, Rel_no h hn hD hp1 hp77 m1 m3 _ ht⟩
      simp only [m_L_declare_i2, m_Pi2_declare, m_Pi2_declare_57, if_pos hp8, a5, he, hp7, hf, hM, m_M_thrown, Option.bind_some, show ¬ (1 : Int32) = 0 by decide, if_false, pk_us, if_true, show ¬ (2 : Int32) = 0 by decide]
    -- the reference's way to the bytes
    have hnew : ∀ (hrd : m_M_reads (upd mv 0 0) mu = some (1, u')) (hw : w = 0 ∨ (w = 1 ∧ u' 5 8 = 0)), ∃ u2 g, CP u' u2 n w (if w = 1 then u' 15 8 / 2 + 1 else u' 15 8) ∧ (∀ j, j < 48 → g j = 0) ∧ m_M_declare w mv mu = (if u2 5 n = 1 then (m_M_storeText (nI n) (upd (upd (upd (upd (upd (upd (upd mv 0 0) 1 0) 0 0) 3 (nI (n + 1))) 23 0) 20 0) 21 0) (zset u2 17 g)).bind (fun q38 => (some (nI n, upd (upd (upd (upd (upd (upd (upd mv 0 0) 1 0) 0 0) 3 (nI (n + 1))) 23 0) 20 0) 21 0, q38))) else (m_M_storeNumber (nI n) (upd (upd (upd (upd (upd (upd (upd mv 0 0) 1 0) 0 0) 3 (nI (n + 1))) 23 0) 20 0) 21 0) (zset u2 17 g)).bind (fun q37 => (some (nI n, upd (upd (upd (upd (upd (upd (upd mv 0 0) 1 0) 0 0) 3 (nI (n + 1))) 23 0) 20 0) 21 0, q37)))) := by
      intro hrd hw
      obtain ⟨u2, hCP, e2⟩ := P_lay hn w (v := upd mv 0 0) (by rw [pk_un (by decide)]; exact a4) u'
      obtain ⟨g, e3, hg⟩ := P_nothing (upd (upd (upd (upd (upd mv 0 0) 1 0) 0 0) 3 (nI (n + 1))) 23 0) u2
      refine ⟨u2, g, hCP, hg, ?_⟩
      rw [P_decl_yes hn a4 hrd hw, e2, e3, Option.bind_some]
      show (if zset u2 17 g 5 n = 1 then _ else _) = _
      rw [zset_n _ _ (show (5 : Nat) ≠ 17 by decide)]
    generalize hvv : upd (upd (upd (upd (upd (upd (upd mv 0 0) 1 0) 0 0) 3 (nI (n + 1))) 23 0) 20 0) 21 0 = vv at hnew
    have vv0 : vv 0 = 0 := by rw [← hvv, pk_un (by decide), pk_un (by decide), pk_un (by decide), pk_un (by decide), pk_us]
    have vv1 : vv 1 = nI 0 := by rw [← hvv, pk_un (by decide), pk_un (by decide), pk_un (by decide), pk_un (by decide), pk_un (by decide), pk_us]; rfl
    have vv3 : vv 3 = nI (n + 1) := by rw [← hvv, pk_un (by decide), pk_un (by decide), pk_un (by decide), pk_us]
    have vv20 : vv 20 = 0 := by rw [← hvv, pk_un (by decide), pk_us]
    have vv21 : vv 21 = 0 := by rw [← hvv, pk_us]
    have vv23 : vv 23 = nI 0 := by rw [← hvv, pk_un (by decide), pk_un (by decide), pk_us]; rfl
    have hpn7 : upd pv 1 0 7 + 1 = nI (n + 1) := by rw [hp7, nI_1]
    have pvn : ∀ q : Nat → Int32, q = upd (upd pv 1 0) 7 (nI (n + 1)) → q 1 = nI 0 ∧ q 7 = nI (n + 1) ∧ q 7 - 1 = nI n := by
      intro q hq
      rw [hq]
      exact ⟨by rw [pk_un (by decide), pk_us]; rfl, pk_us, by rw [pk_us, nI_pred]⟩
    -- what has changed of the others
    have hoth : ∀ (u2 : Nat → Nat → Int32) (g : Nat → Int32) (w len : Int32) (u3 : Nat → Nat → Int32), CP u' u2 n w len → stx n (zset u2 17 g) u3 → u3 1 = mu 1 ∧ ∀ z, z < n → kp z mu u3 ∧ ∀ j, j < 32 → u3 16 (32 * z + j) = mu 16 (32 * z + j) := by
      intro u2 g w len u3 hCP hst
      obtain ⟨-, -, -, -, k5, k6, k7⟩ := hCP
      refine ⟨by rw [hst.1 1 (by decide) (by decide), zset_n _ _ (by decide), k6, hD.row (Or.inl rfl)], fun z hz => ⟨?_, fun j hj => ?_⟩⟩
      · exact kp_tr (kp_tr (kp_tr (kp_DF (by omega) hD) (k5 z (by omega) (by omega))) (kp_17 (fun r hr => zset_n _ _ hr))) (kp_st hst)
      · rw [hst.2 _ (by omega), zset_n _ _ (by decide), k7, hD.row (Or.inr (Or.inl rfl))]
    rcases hcase with ⟨hb0, hq⟩ | ⟨hb1, sv', sr', N, hN0, hN24, he, hq⟩
    · -- no picture
      have hM := P_decl_no hn a4 hr (w := w) (Or.inl hb0)
      rcases hq with ⟨sv', sr', he⟩ | ⟨sv', sr', vn', xx, ve', rw', pw', he, hN, hT, hE⟩
      · left
        refine ⟨upd pv 1 0, sv', sr', upd (upd (upd mv 0 0) 1 0) 0 2, u', ?_, ?_⟩
        · simp only [m_L_declare_i, m_Pi_declare, m_Pi_declare_57, if_pos hp8, a5, he, hM, m_M_thrown, Option.bind_some, if_true, pk_us, show ¬ (2 : Int32) = 0 by decide, if_false]
        · have := Rel_no h hn hD hp1 hp77 m1 m3 (C n) tt
          have e : pst C n (C n) = C := by
            funext k
            by_cases c : k = n
            · rw [c, pst_s]
            · rw [pst_n _ _ c]
          rw [e] at this
          exact this
      · right; left
        by_cases w0 : w = 0
        · refine no2 sv' sr' vn' (upd (C n 2) 1 xx) ve' rw' pw' he ?_ ⟨by rw [pk_un (by decide)]; exact tt.1, by rw [pk_un (by decide)]; exact tt.2.1, by rw [pk_un (by decide)]; exact tt.2.2⟩ hM
          simp only [m_P_fitting_0, z8, hN, hT, hE, Option.bind_some, if_true, w0]
        · refine no2 sv' sr' vn' (C n 2) (C n 4) (C n 6) (C n 7) he ?_ tt hM
          simp only [m_P_fitting_0, z8, hN, Option.bind_some, if_true, w0, if_false]
    · rw [hb1] at hr
      rcases hq with ⟨f, a, before, behind, nines, low, vn', ha, hNF, hle, hN, hcN, hrN, h15⟩ | ⟨vn', hN, hT, hrT, h15⟩ | ⟨vn', xx, hN, hT, ve', g, pw', fl, pt, hE, hEOK, hefl, hpw, hrE, h15⟩
      · -- a number
        have hd := NF_nfd hNF ha hN24 hle
        have hd' := hd
        obtain ⟨-, ha1, hn0, hcc, hl, hbh, hbf, hlb, -⟩ := hd'
        obtain ⟨r2, r3, r4, r5, r7, r8, r9, r10⟩ := hrN
        have good : ∀ (pk : Bool) (vU : Nat → Int32), (w = 0 ∧ pk = false ∨ w = 1 ∧ pk = true) → m_N_takesUsage w vn' (C n 1) = some (1, vU) → cU vU pk a before behind nines low → ∃ pv' sv' sr' dc' vn bn vt v rw pw ov' mv' mu', ((m_L_declare_N w pv y sv sr nf tf ef dc (C n 0) (C n 1) (C n 2) (C n 3) (C n 4) (C n 5) (C n 6) (C n 7) ov (fa n 0)).bind fun q2 => (m_M_declare w mv mu).bind fun q4 => (m_M_thrown q4.2.1 q4.2.2).bind fun q5 => if q5 = q2.1 then if q2.1 = 0 then zix 0 1 (if lg_cmp (q2.2.2.2.2.2.2.2.2.2.2.2 (0 : Int32).toNatClampNeg) (q4.1.toInt64) = 0 then some (q2.2.1, q2.2.2.1, q2.2.2.2.1, q2.2.2.2.2.1, q2.2.2.2.2.2.1, q2.2.2.2.2.2.2.1, q2.2.2.2.2.2.2.2.1, q2.2.2.2.2.2.2.2.2.1, q2.2.2.2.2.2.2.2.2.2.1, q2.2.2.2.2.2.2.2.2.2.2.1, q2.2.2.2.2.2.2.2.2.2.2.2, q4.2.1, q4.2.2) else none) else some (q2.2.1, q2.2.2.1, q2.2.2.2.1, q2.2.2.2.2.1, q2.2.2.2.2.2.1, q2.2.2.2.2.2.2.1, q2.2.2.2.2.2.2.2.1, q2.2.2.2.2.2.2.2.2.1, q2.2.2.2.2.2.2.2.2.2.1, q2.2.2.2.2.2.2.2.2.2.2.1, q2.2.2.2.2.2.2.2.2.2.2.2, q4.2.1, q4.2.2) else none) = some (pv', sv', sr', dc', vn, bn, vt, v, rw, pw, ov', mv', mu') ∧ Rel (n + 1) 0 (fun z => if z = n then 0 else kd z) dc' fa pv' y (pst C n (c8f vn bn vt (C n 3) v (C n 5) rw pw)) mv' mu' := by
          intro pk vU hwp hU hcU
          have hw1 : w = 0 ∨ (w = 1 ∧ u' 5 8 = 0) := by rcases hwp with q | q; exact Or.inl q.1; exact Or.inr ⟨q.1, r5⟩
          obtain ⟨u2, g, hCP, hg, eM⟩ := hnew hr hw1
          have hCP' := hCP
          obtain ⟨k1, ⟨s2, s5, s7, s8, s9, s10, s11, s12, s13, s14⟩, s6, s15, k5, k6, k7⟩ := hCP'
          have hrU : rU (zset u2 17 g) n pk f N a before behind nines low := by
            refine ⟨⟨?_, fun j hj => ?_, fun j hj => ?_, ?_, ?_, ?_, ?_, ?_⟩, ?_, ?_⟩
            · rw [zset_n _ _ (by decide), s2]; exact r2
            · rw [zset_n _ _ (by decide), (k1 j (by omega)).1]; exact r3 j hj
            · rw [zset_n _ _ (by decide), (k1 j (by omega)).2]; exact r4 j hj
            · rw [zset_n _ _ (by decide), s5]; exact r5
            · rw [zset_n _ _ (by decide), s7]; exact r7
            · rw [zset_n _ _ (by decide), s8]; exact r8
            · rw [zset_n _ _ (by decide), s9, r9]
              rcases (show a = 0 ∨ a = 1 by omega) with rfl | rfl
              · exact vpb0
              · exact vpb1
            · rw [zset_n _ _ (by decide), s10]; exact r10
            · rw [zset_n _ _ (by decide), s6]
              rcases hwp with ⟨rfl, rfl⟩ | ⟨rfl, rfl⟩ <;> rfl
            · rw [zset_n _ _ (by decide), s15, h15]
              rcases hwp with ⟨rfl, rfl⟩ | ⟨rfl, rfl⟩
              · rw [if_neg (by decide)]; rfl
              · rw [if_pos rfl, nI_div2 (by omega), nI_1]; rfl
          obtain ⟨b', u3, t1, t2, t3, t4⟩ := store_N hn hrU hd (NR_0 vv20 vv21 (fun j hj => by rw [zset_s]; exact hg j hj)) hcU (C n 1)
          have hM : m_M_declare w mv mu = some (nI n, vv, u3) := by
            rw [eM, if_neg (show ¬ u2 5 n = 1 by rw [s5, r5]; decide), t2]; rfl
          obtain ⟨o1, o2⟩ := hoth u2 g _ _ u3 hCP t3
          obtain ⟨p1, p2, p3⟩ := pvn (upd (upd pv 1 0) 7 (nI (n + 1))) rfl
          refine ⟨upd (upd pv 1 0) 7 (nI (n + 1)), sv', sr', va_up dc n (some (fa n 0)), vU, b', C n 2, C n 4, C n 6, C n 7, vp_updL ov (0 : Int32).toNatClampNeg (nI n).toInt64, vv, u3, ?_, ?_⟩
          · have hfit : m_P_fitting_N (nI n) w (upd pv 1 0) sv' sr' nf tf ef (C n 0) (C n 1) (C n 2) (C n 3) (C n 4) (C n 5) (C n 6) (C n 7) = some (vU, C n 2, C n 4, C n 6, C n 7) := by
              simp only [m_P_fitting_N, z8, hN, hU, Option.bind_some, show ¬ (1 : Int32) = 0 by decide, if_false]
            have hem : m_F_empty_N vU (C n 1) = some b' := by
              unfold m_F_empty_N
              rw [show m_N_takeNumber 0 0 vU (C n 1) = some (1, b') from t1]; rfl
            simp only [m_L_declare_N, m_P_declare_N, m_P_declare_N_57, if_pos hp8, a5, he, hfit, hem, hp7, nI_1, z8, p3, nI_clamp (show n < 2 ^ 31 by omega), hM, m_M_thrown, Option.bind_some, show ¬ (1 : Int32) = 0 by decide, if_false, zix_in vp01, vv0, if_true, vpu, lgc0]
          · exact Rel_new h hn p1 p2 vv1 vv3 o1 o2 0 _ tt (Or.inl ⟨rfl, pk, f, N, a, before, behind, nines, low, hcU, by
              obtain ⟨⟨w2, w3, w4, w5, w7, w8, w9, w10⟩, w6, w15⟩ := hrU
              refine ⟨⟨?_, ?_, ?_, ?_, ?_, ?_, ?_, ?_⟩, ?_, ?_⟩ <;> rw [t3.1 _ (by decide) (by decide)] <;> assumption, hd, t4⟩)
        rcases C_use (b := C n 1) hcN (by omega) w with ⟨w0, hU, hcU⟩ | ⟨w1, hU, hcU⟩ | ⟨w0, w1, vU, hU⟩
        · right; right; left
          exact good false _ (Or.inl ⟨w0, rfl⟩) hU hcU
        · right; right; left
          exact good true _ (Or.inr ⟨w1, rfl⟩) hU hcU
        · right; left
          have hM := P_decl_no hn a4 hr (w := w) (Or.inr ⟨rfl, w0, Or.inl w1⟩)
          refine no2 sv' sr' vU (C n 2) (C n 4) (C n 6) (C n 7) he ?_ tt hM
          simp only [m_P_fitting_0, z8, hN, hU, Option.bind_some, show ¬ (1 : Int32) = 0 by decide, if_false, if_true]
      · -- a text
        obtain ⟨r2, r5, r7, r8, r9⟩ := hrT
        have tt' : (upd (C n 2) 1 (nI N)) 2 = 0 ∧ (upd (C n 2) 1 (nI N)) 3 = 0 ∧ (upd (C n 2) 1 (nI N)) 4 = 0 := ⟨by rw [pk_un (by decide)]; exact tt.1, by rw [pk_un (by decide)]; exact tt.2.1, by rw [pk_un (by decide)]; exact tt.2.2⟩
        by_cases w0 : w = 0
        · right; right; right; left
          obtain ⟨u2, g, hCP, hg, eM⟩ := hnew hr (Or.inl w0)
          have hCP' := hCP
          obtain ⟨k1, ⟨s2, s5, s7, s8, s9, s10, s11, s12, s13, s14⟩, s6, s15, k5, k6, k7⟩ := hCP'
          rw [w0, if_neg (by decide), h15] at s15
          obtain ⟨ww, ew, q1, q2⟩ := P_storeText hn (L := N) (c := 0) (by omega) (by omega) (u := zset u2 17 g) (by rw [zset_n _ _ (by decide)]; exact s15) vv23
          obtain ⟨b', eb, hb'⟩ := C_empty_T (v := upd (C n 2) 1 (nI N)) (b := C n 3) pk_us hN24
          have hst : stx n (zset u2 17 g) (zset (zset u2 17 g) 16 ww) := ⟨fun r e1 e2 => zset_n _ _ e1, fun i hi => by rw [zset_s, q2 i hi]⟩
          have hM : m_M_declare w mv mu = some (nI n, vv, zset (zset u2 17 g) 16 ww) := by
            rw [eM, if_pos (show u2 5 n = 1 by rw [s5, r5]), ew]; rfl
          obtain ⟨o1, o2⟩ := hoth u2 g _ _ _ hCP hst
          obtain ⟨p1, p2, p3⟩ := pvn (upd (upd pv 1 0) 7 (nI (n + 1))) rfl
          refine ⟨upd (upd pv 1 0) 7 (nI (n + 1)), sv', sr', va_up dc n (some (fa n 2)), vn', upd (C n 2) 1 (nI N), b', C n 4, C n 6, C n 7, vp_updL ov (0 : Int32).toNatClampNeg (nI n).toInt64, vv, zset (zset u2 17 g) 16 ww, ?_, ?_⟩
          · have hfit : m_P_fitting_T (nI n) w (upd pv 1 0) sv' sr' nf tf ef (C n 0) (C n 1) (C n 2) (C n 3) (C n 4) (C n 5) (C n 6) (C n 7) = some (vn', upd (C n 2) 1 (nI N), C n 4, C n 6, C n 7) := by
              simp only [m_P_fitting_T, z8, hN, hT, Option.bind_some, w0, if_true, show ¬ (1 : Int32) = 0 by decide, if_false]
            simp only [m_L_declare_T, m_P_declare_T, m_P_declare_T_57, if_pos hp8, a5, he, hfit, eb, hp7, nI_1, z8, p3, nI_clamp (show n < 2 ^ 31 by omega), hM, m_M_thrown, Option.bind_some, show ¬ (1 : Int32) = 0 by decide, if_false, zix_in vp01, vv0, if_true, vpu, lgc0]
          · refine Rel_new h hn p1 p2 vv1 vv3 o1 o2 1 _ tt' (Or.inr (Or.inl ⟨rfl, N, hN0, hN24, pk_us, tt'.1, tt'.2.1, tt'.2.2, ⟨?_, ?_, ?_, ?_, ?_⟩, ?_, fun j hj => ?_⟩))
            · rw [zset_n _ _ (by decide), zset_n _ _ (by decide), s2]; exact r2
            · rw [zset_n _ _ (by decide), zset_n _ _ (by decide), s5]; exact r5
            · rw [zset_n _ _ (by decide), zset_n _ _ (by decide), s7]; exact r7
            · rw [zset_n _ _ (by decide), zset_n _ _ (by decide), s8]; exact r8
            · rw [zset_n _ _ (by decide), zset_n _ _ (by decide), s9, r9]; exact vpb0
            · rw [zset_n _ _ (by decide), zset_n _ _ (by decide)]; exact s15
            · rw [zset_s, q1 j hj, if_neg (by omega)]
              exact hb' j hj
        · right; left
          have hM := P_decl_no hn a4 hr (w := w) (Or.inr ⟨rfl, w0, Or.inr (by rw [r5]; decide)⟩)
          refine no2 sv' sr' vn' (C n 2) (C n 4) (C n 6) (C n 7) he ?_ tt hM
          simp only [m_P_fitting_0, z8, hN, Option.bind_some, if_true, w0, if_false]
      · -- an edited one
        have r5 : u' 5 8 = 2 := hrE.2.2.2.1
        have tt' : (upd (C n 2) 1 xx) 2 = 0 ∧ (upd (C n 2) 1 xx) 3 = 0 ∧ (upd (C n 2) 1 xx) 4 = 0 := ⟨by rw [pk_un (by decide)]; exact tt.1, by rw [pk_un (by decide)]; exact tt.2.1, by rw [pk_un (by decide)]; exact tt.2.2⟩
        by_cases w0 : w = 0
        · right; right; right; right
          obtain ⟨u2, g', hCP, hg, eM⟩ := hnew hr (Or.inl w0)
          have hCP' := hCP
          obtain ⟨k1, ⟨s2, s5, s7, s8, s9, s10, s11, s12, s13, s14⟩, s6, s15, k5, k6, k7⟩ := hCP'
          rw [w0, if_neg (by decide), h15] at s15
          obtain ⟨A, B, M, F, T, D, RR, sg, before, behind, hX, hcC, hcR⟩ := pic_EX hEOK hN0 hN24
          have hEC := hcC ve' (C n 7) hefl
          rw [← hpw] at hEC
          have hE8 := hcR u' 8 (by omega) hrE h15
          have hER : ER (zset u2 17 g') n g N A B M fl D RR sg before behind := by
            obtain ⟨w2, w3, w4, w5, w7, w8, w9, w11, w12, w13, w14, w15⟩ := hE8
            refine ⟨?_, fun j hj => ?_, fun j hj => ?_, ?_, ?_, ?_, ?_, ?_, ?_, ?_, fun j hj => ?_, ?_⟩
            · rw [zset_n _ _ (by decide), s2]; exact w2
            · rw [zset_n _ _ (by decide), (k1 j (by omega)).1]; exact w3 j hj
            · rw [zset_n _ _ (by decide), (k1 j (by omega)).2]; exact w4 j hj
            · rw [zset_n _ _ (by decide), s5]; exact w5
            · rw [zset_n _ _ (by decide), s7]; exact w7
            · rw [zset_n _ _ (by decide), s8]; exact w8
            · rw [zset_n _ _ (by decide), s9, w9]
              have := hX.2.2.2
              rcases (show sg = 0 ∨ sg = 1 by omega) with rfl | rfl
              · exact vpb0
              · exact vpb1
            · rw [zset_n _ _ (by decide), s11]; exact w11
            · rw [zset_n _ _ (by decide), s12]; exact w12
            · rw [zset_n _ _ (by decide), s13]; exact w13
            · rw [zset_n _ _ (by decide), s14]; exact w14 j hj
            · rw [zset_n _ _ (by decide)]; exact s15
          obtain ⟨b', u3, t1, t2, t3, t4⟩ := store_E hn hX hER hEC (NR_0 vv20 vv21 (fun j hj => by rw [zset_s]; exact hg j hj)) (C n 5)
          have hM : m_M_declare w mv mu = some (nI n, vv, u3) := by
            rw [eM, if_neg (show ¬ u2 5 n = 1 by rw [s5, r5]; decide), t2]; rfl
          obtain ⟨o1, o2⟩ := hoth u2 g' _ _ u3 hCP t3
          obtain ⟨p1, p2, p3⟩ := pvn (upd (upd pv 1 0) 7 (nI (n + 1))) rfl
          refine ⟨upd (upd pv 1 0) 7 (nI (n + 1)), sv', sr', va_up dc n (some (fa n 4)), vn', upd (C n 2) 1 xx, ve', b', g, pw', vp_updL ov (0 : Int32).toNatClampNeg (nI n).toInt64, vv, u3, ?_, ?_⟩
          · have hfit : m_P_fitting_E (nI n) w (upd pv 1 0) sv' sr' nf tf ef (C n 0) (C n 1) (C n 2) (C n 3) (C n 4) (C n 5) (C n 6) (C n 7) = some (vn', upd (C n 2) 1 xx, ve', g, pw') := by
              simp only [m_P_fitting_E, z8, hN, hT, hE, Option.bind_some, w0, if_true, show ¬ (1 : Int32) = 0 by decide, if_false]
            have hem : m_F_empty_E ve' (C n 5) g pw' = some b' := by
              unfold m_F_empty_E
              rw [show m_E_takeNumber 0 0 ve' (C n 5) g pw' = some (1, b') from t1]; rfl
            simp only [m_L_declare_E, m_P_declare_E, m_P_declare_E_57, if_pos hp8, a5, he, hfit, hem, hp7, nI_1, z8, p3, nI_clamp (show n < 2 ^ 31 by omega), hM, m_M_thrown, Option.bind_some, show ¬ (1 : Int32) = 0 by decide, if_false, zix_in vp01, vv0, if_true, vpu, lgc0]
          · exact Rel_new h hn p1 p2 vv1 vv3 o1 o2 2 _ tt' (Or.inr (Or.inr ⟨rfl, N, A, B, M, F, fl, T, D, RR, sg, before, behind, hX, hEC, by
              obtain ⟨w2, w3, w4, w5, w7, w8, w9, w11, w12, w13, w14, w15⟩ := hER
              refine ⟨?_, ?_, ?_, ?_, ?_, ?_, ?_, ?_, ?_, ?_, ?_, ?_⟩ <;> rw [t3.1 _ (by decide) (by decide)] <;> assumption, t4⟩))
        · right; left
          have hM := P_decl_no hn a4 hr (w := w) (Or.inr ⟨rfl, w0, Or.inr (by rw [r5]; decide)⟩)
          refine no2 sv' sr' vn' (C n 2) (C n 4) (C n 6) (C n 7) he ?_ tt hM
          simp only [m_P_fitting_0, z8, hN, Option.bind_some, if_true, w0, if_false]
  · left
    obtain rfl : n = 8 := by omega
    refine ⟨rfl, upd mv 0 1, mu, ?_, Rel_sc h (pk_un (by decide)) (pk_un (by decide)) (fun _ _ _ => rfl)⟩
    have hp8 : ¬ pv 7 < 8 := by rw [a3]; decide
    simp only [m_L_declare_s, m_Ps_declare, if_neg hp8, m_M_declare, m_M_declare_15, a4, show nI 8 = 8 from rfl, if_true, P_fails1, m_M_thrown, Option.bind_some, show ¬ (1 : Int32) = 0 by decide, if_false, pk_us]
