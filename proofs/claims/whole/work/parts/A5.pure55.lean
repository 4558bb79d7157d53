/-! The calls, each with its ways: type, clear, fields, look, get, set. -/
theorem zix_in {α : Type} {i : Int32} {n : Nat} {K : Option α} (h : vp_in i n) : zix i n K = K := if_pos h
theorem vp01 : vp_in 0 1 := by unfold vp_in; decide
theorem call_type {n t : Nat} {kd : Nat → Nat} {dc : Nat → Option Nat} {fa : Nat → Nat → Nat} {pv y : Nat → Int32} {C : Nat → Nat → Nat → Int32} {mv : Nat → Int32} {mu : Nat → Nat → Int32} (h : Rel n t kd dc fa pv y C mv mu) (xs : Nat → Int32) {L : Nat} {x4 : Int32} (ov : Nat → Int64) (h1 : vp_in (x4 + 1) L) : ∃ t' pv' y' mv' mu', m_F_P_type xs L x4 pv y ov mv mu = some (pv', y', mv', mu') ∧ Rel n t' kd dc fa pv' y' C mv' mu' := by
  obtain ⟨a1, a2, a3, a4, a5, a6, a7, a8, a9⟩ := h
  unfold m_F_P_type m_P_type m_M_type
  simp only [zix_in h1, pk_un (show (1 : Nat) ≠ 0 by decide), a5, a6]
  rcases Nat.lt_or_ge t 24 with c | c
  · rw [if_pos (show nI t < 24 from nI_lt (b := 24) c (by decide)), zix_ok c (by decide), zbo_1, Option.bind_some, if_neg (show ¬ nI t = 24 from fun q => by have := (nI_eq (b := 24) (by omega) (by decide)).mp q; omega), zix_ok c (by decide), zbo_1, Option.bind_some, if_pos rfl, nI_clamp (by omega), zau_nI _ _ _ _ (by omega), nI_1]
    refine ⟨t + 1, upd pv 1 (nI (t + 1)), upd y t (xs (x4 + 1).toNatClampNeg), upd (upd mv 0 0) 1 (nI (t + 1)), zset mu 1 (upd (mu 1) t (xs (x4 + 1).toNatClampNeg)), rfl, a1, by omega, by rw [pk_un (by decide)]; exact a3, by rw [pk_un (by decide), pk_un (by decide)]; exact a4, pk_us, pk_us, by rw [zset_s, a7], a8, fun x hx => ⟨(a9 x hx).1, FR_ext (a9 x hx).2 ⟨fun r hr => by rw [zset_n _ _ (by omega)], fun j _ => by rw [zset_n _ _ (by decide), zset_n _ _ (by decide)]; exact ⟨rfl, rfl⟩⟩ (fun j _ => by rw [zset_n _ _ (by decide)])⟩⟩
  · obtain rfl : t = 24 := by omega
    rw [if_neg (show ¬ nI 24 < 24 by decide), zbo_0, Option.bind_some, if_pos (show nI 24 = 24 from rfl), zbo_0, Option.bind_some, if_pos rfl]
    exact ⟨24, pv, y, upd mv 0 0, mu, rfl, a1, by omega, a3, by rw [pk_un (by decide)]; exact a4, a5, by rw [pk_un (by decide)]; exact a6, a7, a8, a9⟩
theorem call_clear {n t : Nat} {kd : Nat → Nat} {dc : Nat → Option Nat} {fa : Nat → Nat → Nat} {pv y : Nat → Int32} {C : Nat → Nat → Nat → Int32} {mv : Nat → Int32} {mu : Nat → Nat → Int32} (h : Rel n t kd dc fa pv y C mv mu) (xs : Nat → Int32) {L : Nat} {x4 : Int32} (ov : Nat → Int64) : ∃ pv' mv', m_F_P_clear xs L x4 pv ov mv mu = some (pv', mv') ∧ Rel 0 t kd dc fa pv' y C mv' mu := by
  obtain ⟨a1, a2, a3, a4, a5, a6, a7, a8, a9⟩ := h
  unfold m_F_P_clear m_P_clear m_M_clear
  exact ⟨_, _, rfl, by omega, a2, pk_us, pk_us, by rw [pk_un (by decide)]; exact a5, by rw [pk_un (by decide), pk_un (by decide)]; exact a6, a7, a8, fun x hx => by omega⟩
theorem call_fields {n t : Nat} {kd : Nat → Nat} {dc : Nat → Option Nat} {fa : Nat → Nat → Nat} {pv y : Nat → Int32} {C : Nat → Nat → Nat → Int32} {mv : Nat → Int32} {mu : Nat → Nat → Int32} (h : Rel n t kd dc fa pv y C mv mu) (xs : Nat → Int32) {L : Nat} {x4 : Int32} (ov : Nat → Int64) : ∃ mv', m_F_P_fields xs L x4 pv ov mv mu = some mv' ∧ Rel n t kd dc fa pv y C mv' mu := by
  have h' := h
  obtain ⟨a1, a2, a3, a4, a5, a6, a7, a8, a9⟩ := h'
  unfold m_F_P_fields m_P_fields m_M_fields
  refine ⟨upd mv 0 0, ?_, Rel_sc h (pk_un (by decide)) (pk_un (by decide)) (fun _ _ _ => rfl)⟩
  rw [Option.bind_some, Option.bind_some, if_pos (by rw [pk_un (by decide), a3, a4])]
/-- the answer of look, by what -/
def lkv (k v1 v2 v3 v4 w : Int32) : Int32 := if w = 0 then k else if w = 1 then v1 else if w = 2 then v2 else if w = 3 then v3 else if v4 = 0 then 0 else 1
theorem what_cases (w : Int32) : (w = 0 ∨ w = 1 ∨ w = 2 ∨ w = 3 ∨ w = 4) ∨ (w < 0 ∨ (¬ w < 0 ∧ ¬ w ≤ 4)) := by
  by_cases c : w < 0
  · exact Or.inr (Or.inl c)
  · obtain ⟨j, hj, rfl⟩ := nI_of c
    rcases Nat.lt_or_ge 4 j with q | q
    · exact Or.inr (Or.inr ⟨c, nI_ge (a := 4) q hj⟩)
    · left
      rcases (show j = 0 ∨ j = 1 ∨ j = 2 ∨ j = 3 ∨ j = 4 by omega) with rfl | rfl | rfl | rfl | rfl <;> decide
theorem P_look {n x : Nat} (hn : n ≤ 8) (hx : x < n) {mv : Nat → Int32} (h3 : mv 3 = nI n) (mu : Nat → Nat → Int32) {w : Int32} (hw : w = 0 ∨ w = 1 ∨ w = 2 ∨ w = 3 ∨ w = 4) : m_M_look (nI x) w mv mu = some (lkv (mu 5 x) (mu 15 x) (mu 7 x) (mu 8 x) (mu 9 x) w, upd mv 0 0) := by
  have hw0 : ¬ w < 0 ∧ w ≤ 4 := by rcases hw with rfl | rfl | rfl | rfl | rfl <;> decide
  unfold m_M_look m_M_look_13 m_M_look_25 m_M_look_30 lkv
  rw [P_isF hn hx h3, Option.bind_some, if_neg (show ¬ (1 : Int32) = 0 by decide), if_neg hw0.1, if_pos hw0.2, P_fails0, Option.bind_some]
  simp only [zix_ok (show x < 9 by omega) (show 9 < 2 ^ 31 by decide), nI_clamp (show x < 2 ^ 31 by omega), if_true]
  repeat' split
  all_goals rfl
theorem P_look_i {n x : Nat} (hn : n ≤ 8) (hx : x < n) {mv : Nat → Int32} (h3 : mv 3 = nI n) (mu : Nat → Nat → Int32) {w : Int32} (hw : w < 0 ∨ (¬ w < 0 ∧ ¬ w ≤ 4)) : m_M_look (nI x) w mv mu = some (0, upd mv 0 2) := by
  unfold m_M_look m_M_look_13 m_M_look_25 m_M_look_30
  rw [P_isF hn hx h3, Option.bind_some, if_neg (show ¬ (1 : Int32) = 0 by decide), P_fails2, Option.bind_some]
  rcases hw with q | ⟨q1, q2⟩
  · rw [if_pos q]; rfl
  · rw [if_neg q1, if_neg q2]; rfl
theorem P_look_n {n : Nat} {a : Int32} (ha : a < 0 ∨ (¬ a < 0 ∧ nI n ≤ a)) {mv : Nat → Int32} (h3 : mv 3 = nI n) (mu : Nat → Nat → Int32) (w : Int32) : m_M_look a w mv mu = some (0, upd mv 0 1) := by
  unfold m_M_look m_M_look_13 m_M_look_25 m_M_look_30
  rw [P_isF0 ha h3, Option.bind_some, if_pos rfl, P_fails1, P_fails1, Option.bind_some]
  split
  · rfl
  · split <;> rfl
theorem call_look {n t : Nat} {kd : Nat → Nat} {dc : Nat → Option Nat} {fa : Nat → Nat → Nat} {pv y : Nat → Int32} {C : Nat → Nat → Nat → Int32} {mv : Nat → Int32} {mu : Nat → Nat → Int32} (h : Rel n t kd dc fa pv y C mv mu) (xs : Nat → Int32) {L : Nat} {x4 : Int32} (ov : Nat → Int64) (h1 : vp_in (x4 + 1) L) (h2 : vp_in (x4 + 2) L) :
    (∃ mv', m_F_L_look_n xs L x4 pv dc ov mv mu = some mv' ∧ Rel n t kd dc fa pv y C mv' mu) ∨
    (∃ aF mv', dc (xs (x4 + 1).toNatClampNeg).toNatClampNeg = some aF ∧ m_F_L_look_i xs L x4 pv dc ov mv mu = some mv' ∧ Rel n t kd dc fa pv y C mv' mu) ∨
    ∃ x, x < n ∧ x < 8 ∧ ∃ ov' mv', dc (xs (x4 + 1).toNatClampNeg).toNatClampNeg = some (fa x (2 * kd x)) ∧ Rel n t kd dc fa pv y C mv' mu ∧
      ((kd x = 0 ∧ m_F_L_look_N xs L x4 pv dc (C x 0) (C x 1) ov mv mu = some (ov', mv')) ∨ (kd x = 1 ∧ m_F_L_look_T xs L x4 pv dc (C x 2) (C x 3) ov mv mu = some (ov', mv')) ∨ (kd x = 2 ∧ m_F_L_look_E xs L x4 pv dc (C x 4) (C x 5) (C x 6) (C x 7) ov mv mu = some (ov', mv'))) := by
  have h' := h
  obtain ⟨a1, a2, a3, a4, a5, a6, a7, a8, a9⟩ := h'
  have rel : ∀ r, Rel n t kd dc fa pv y C (upd mv 0 r) mu := fun r => Rel_sc h (pk_un (by decide)) (pk_un (by decide)) (fun _ _ _ => rfl)
  unfold m_F_L_look_n m_F_L_look_i m_F_L_look_N m_F_L_look_T m_F_L_look_E
  simp only [zix_in h1, zix_in h2]
  generalize xs (x4 + 1).toNatClampNeg = f
  generalize xs (x4 + 2).toNatClampNeg = w
  rcases fld_cases a1 f with ⟨x, hx, rfl⟩ | hf
  · rcases what_cases w with hw | hw
    · right; right
      obtain ⟨d1, d2⟩ := a9 x hx
      refine ⟨x, hx, by omega, vp_updL ov (0 : Int32).toNatClampNeg (lkv (mu 5 x) (mu 15 x) (mu 7 x) (mu 8 x) (mu 9 x) w).toInt64, upd mv 0 0, by rw [nI_clamp (by omega)]; exact d1, rel 0, ?_⟩
      have hM := P_look a1 hx a4 mu hw
      have hval : ∀ (k S : Nat) (v b : Nat → Int32), HD k x S v b mu → lkv (nI k) (v 1) (v 2) (v 3) (v 4) w = lkv (mu 5 x) (mu 15 x) (mu 7 x) (mu 8 x) (mu 9 x) w := by
        intro k S v b ⟨q1, q2, q3, q4, q5, q6, q7, q8, q9⟩
        rw [q1, q4, q5, q6, q7, q8]
      have hw4 : w = 0 ∨ w = 1 ∨ w = 2 ∨ w = 3 ∨ w = 4 := hw
      rcases d2 with ⟨e, q⟩ | ⟨e, q⟩ | ⟨e, q⟩
      · left
        obtain ⟨S, hH⟩ := FN_HD q
        refine ⟨e, ?_⟩
        have hP : m_P_look_N (nI x) w pv dc (C x 0) (C x 1) = some (lkv (mu 5 x) (mu 15 x) (mu 7 x) (mu 8 x) (mu 9 x) w) := by
          rw [← hval _ _ _ _ hH]
          unfold m_P_look_N m_N_kind lkv
          rw [C_ex a1 hx a3, Option.bind_some, Option.bind_some]
          rcases hw4 with rfl | rfl | rfl | rfl | rfl
          · rfl
          · rfl
          · rfl
          · rfl
          · simp only [show ¬ (4 : Int32) = 0 by decide, show ¬ (4 : Int32) = 1 by decide, show ¬ (4 : Int32) = 2 by decide, show ¬ (4 : Int32) = 3 by decide, if_false, if_true]
            split <;> rfl
        simp only [m_L_look_N, hP, hM, m_M_thrown, Option.bind_some, zix_in vp01, pk_us, vpu, lgc0, if_true]
      · right; left
        obtain ⟨S, hH⟩ := FT_HD q
        refine ⟨e, ?_⟩
        have hP : m_P_look_T (nI x) w pv dc (C x 2) (C x 3) = some (lkv (mu 5 x) (mu 15 x) (mu 7 x) (mu 8 x) (mu 9 x) w) := by
          rw [← hval _ _ _ _ hH]
          unfold m_P_look_T m_T_kind lkv
          rw [C_ex a1 hx a3, Option.bind_some, Option.bind_some]
          rcases hw4 with rfl | rfl | rfl | rfl | rfl
          · rfl
          · rfl
          · rfl
          · rfl
          · simp only [show ¬ (4 : Int32) = 0 by decide, show ¬ (4 : Int32) = 1 by decide, show ¬ (4 : Int32) = 2 by decide, show ¬ (4 : Int32) = 3 by decide, if_false, if_true]
            split <;> rfl
        simp only [m_L_look_T, hP, hM, m_M_thrown, Option.bind_some, zix_in vp01, pk_us, vpu, lgc0, if_true]
      · right; right
        obtain ⟨S, hH⟩ := FE_HD q
        refine ⟨e, ?_⟩
        have hP : m_P_look_E (nI x) w pv dc (C x 4) (C x 5) (C x 6) (C x 7) = some (lkv (mu 5 x) (mu 15 x) (mu 7 x) (mu 8 x) (mu 9 x) w) := by
          rw [← hval _ _ _ _ hH]
          unfold m_P_look_E m_E_kind lkv
          rw [C_ex a1 hx a3, Option.bind_some, Option.bind_some]
          rcases hw4 with rfl | rfl | rfl | rfl | rfl
          · rfl
          · rfl
          · rfl
          · rfl
          · simp only [show ¬ (4 : Int32) = 0 by decide, show ¬ (4 : Int32) = 1 by decide, show ¬ (4 : Int32) = 2 by decide, show ¬ (4 : Int32) = 3 by decide, if_false, if_true]
            split <;> rfl
        simp only [m_L_look_E, hP, hM, m_M_thrown, Option.bind_some, zix_in vp01, pk_us, vpu, lgc0, if_true]
    · right; left
      refine ⟨fa x (2 * kd x), upd mv 0 2, by rw [nI_clamp (by omega)]; exact (a9 x hx).1, ?_, rel 2⟩
      have hne : ¬ w = 0 ∧ ¬ w = 1 ∧ ¬ w = 2 ∧ ¬ w = 3 ∧ ¬ w = 4 := by
        refine ⟨?_, ?_, ?_, ?_, ?_⟩ <;> · rintro rfl; revert hw; decide
      simp only [m_L_look_i, m_Pi_look, m_M_thrown, C_ex a1 hx a3, Option.bind_some, if_neg hne.1, if_neg hne.2.1, if_neg hne.2.2.1, if_neg hne.2.2.2.1, if_neg hne.2.2.2.2, P_look_i a1 hx a4 mu hw, pk_us, if_true, show ¬ (2 : Int32) = 0 by decide, if_false]
  · left
    refine ⟨upd mv 0 1, ?_, rel 1⟩
    simp only [m_L_look_n, m_Px_look, m_M_thrown, C_ex0 hf a3, Option.bind_some, P_look_n hf a4, pk_us, if_true, show ¬ (1 : Int32) = 0 by decide, if_false]
