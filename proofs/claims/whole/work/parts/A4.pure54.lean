/-! The states of both, related. -/
def FN (x : Nat) (v b : Nat → Int32) (u : Nat → Nat → Int32) : Prop := ∃ (pk : Bool) (f : Nat → Int32) (N a before behind n low : Nat), cU v pk a before behind n low ∧ rU u x pk f N a before behind n low ∧ nfd f N a before behind n low ∧ ∀ j, j < fsz pk n → b j = u 16 (32 * x + j)
def FT (x : Nat) (v b : Nat → Int32) (u : Nat → Nat → Int32) : Prop := ∃ N : Nat, 0 < N ∧ N ≤ 24 ∧ v 1 = nI N ∧ v 2 = 0 ∧ v 3 = 0 ∧ v 4 = 0 ∧ rT u x N ∧ u 15 x = nI N ∧ ∀ j, j < N → b j = u 16 (32 * x + j)
def FE (x : Nat) (v b g pw : Nat → Int32) (u : Nat → Nat → Int32) : Prop := ∃ (N A B M F : Nat) (fl : Int32) (T : Bool) (D : Nat → Bool) (R sg before behind : Nat), EX g N A B M F fl T D R sg before behind ∧ EC v pw g N A B M F fl T D sg before behind ∧ ER u x g N A B M fl D R sg before behind ∧ ∀ j, j < wsm g N 0 → b j = u 16 (32 * x + j)
def FR (x k : Nat) (C : Nat → Nat → Int32) (u : Nat → Nat → Int32) : Prop := (k = 0 ∧ FN x (C 0) (C 1) u) ∨ (k = 1 ∧ FT x (C 2) (C 3) u) ∨ (k = 2 ∧ FE x (C 4) (C 5) (C 6) (C 7) u)
/-- class and reference, related: n fields, t characters typed, kd the kinds -/
def Rel (n t : Nat) (kd : Nat → Nat) (dc : Nat → Option Nat) (fa : Nat → Nat → Nat) (pv y : Nat → Int32) (C : Nat → Nat → Nat → Int32) (mv : Nat → Int32) (mu : Nat → Nat → Int32) : Prop :=
  n ≤ 8 ∧ t ≤ 24 ∧ pv 7 = nI n ∧ mv 3 = nI n ∧ pv 1 = nI t ∧ mv 1 = nI t ∧ mu 1 = y ∧ (∀ x, x < 8 → C x 2 2 = 0 ∧ C x 2 3 = 0 ∧ C x 2 4 = 0) ∧ ∀ x, x < n → dc x = some (fa x (2 * kd x)) ∧ FR x (kd x) (C x) mu
/-- what a place shows to all calls -/
def HD (k x S : Nat) (v b : Nat → Int32) (u : Nat → Nat → Int32) : Prop := v 1 = nI S ∧ 0 < S ∧ S ≤ 25 ∧ u 15 x = nI S ∧ v 2 = u 7 x ∧ v 3 = u 8 x ∧ v 4 = u 9 x ∧ u 5 x = nI k ∧ ∀ j, j < S → b j = u 16 (32 * x + j)
/-- a place's picture is kept -/
def kp (x : Nat) (u u' : Nat → Nat → Int32) : Prop := (∀ r, r = 2 ∨ (5 ≤ r ∧ r ≤ 15) → u' r x = u r x) ∧ ∀ j, j < 24 → u' 3 (24 * x + j) = u 3 (24 * x + j) ∧ u' 4 (24 * x + j) = u 4 (24 * x + j)
theorem FN_HD {x : Nat} {v b : Nat → Int32} {u : Nat → Nat → Int32} (h : FN x v b u) : ∃ S, HD 0 x S v b u := by
  obtain ⟨pk, f, N, a, before, behind, n, low, ⟨⟨c2, c3, c4, c5, c6⟩, c1, c7⟩, ⟨⟨r2, r3, r4, r5, r7, r8, r9, r10⟩, r6, r15⟩, ⟨hN, ha, h0, hc, hl, hbh, hbf, hlb, -⟩, hb⟩ := h
  have hfs := fsz_le pk h0
  exact ⟨fsz pk n, c1, by omega, by omega, r15, by rw [c2, r7], by rw [c3, r8], by rw [c4, r9], r5, hb⟩
theorem FT_HD {x : Nat} {v b : Nat → Int32} {u : Nat → Nat → Int32} (h : FT x v b u) : ∃ S, HD 1 x S v b u := by
  obtain ⟨N, h0, hN, c1, c2, c3, c4, ⟨r2, r5, r7, r8, r9⟩, r15, hb⟩ := h
  exact ⟨N, c1, h0, by omega, r15, by rw [c2, r7], by rw [c3, r8], by rw [c4, r9], r5, hb⟩
theorem FE_HD {x : Nat} {v b g pw : Nat → Int32} {u : Nat → Nat → Int32} (h : FE x v b g pw u) : ∃ S, HD 2 x S v b u := by
  obtain ⟨N, A, B, M, F, fl, T, D, R, sg, before, behind, hX, ⟨c1, c2, c3, c4, c8, c9, c10, c11, c13, c14, c15, cp⟩, ⟨r2, r3, r4, r5, r7, r8, r9, r11, r12, r13, r14, r15⟩, hb⟩ := h
  have hsz := EG_size hX.1
  have hpos := hsz.2.2.2
  exact ⟨wsm g N 0, c1, by omega, hsz.2.2.1, r15, by rw [c2, r7], by rw [c3, r8], by rw [c4, r9], r5, hb⟩
theorem FN_ext {x : Nat} {v b b' : Nat → Int32} {u u' : Nat → Nat → Int32} (h : FN x v b u) (hk : kp x u u') (hb' : ∀ S, v 1 = nI S → S ≤ 25 → ∀ j, j < S → b' j = u' 16 (32 * x + j)) : FN x v b' u' := by
  obtain ⟨pk, f, N, a, before, behind, n, low, hC, ⟨⟨r2, r3, r4, r5, r7, r8, r9, r10⟩, r6, r15⟩, hd, hb⟩ := h
  have hd' := hd
  obtain ⟨hN, ha, h0, hc, hl, hbh, hbf, hlb, -⟩ := hd'
  have hfs := fsz_le pk h0
  refine ⟨pk, f, N, a, before, behind, n, low, hC, ⟨⟨?_, fun j hj => ?_, fun j hj => ?_, ?_, ?_, ?_, ?_, ?_⟩, ?_, ?_⟩, hd, hb' _ hC.2.1 (by omega)⟩
  · rw [hk.1 2 (by decide)]; exact r2
  · rw [(hk.2 j (by omega)).1]; exact r3 j hj
  · rw [(hk.2 j (by omega)).2]; exact r4 j hj
  all_goals rw [hk.1 _ (by decide)]; assumption
theorem FT_ext {x : Nat} {v b b' : Nat → Int32} {u u' : Nat → Nat → Int32} (h : FT x v b u) (hk : kp x u u') (hb' : ∀ S, v 1 = nI S → S ≤ 25 → ∀ j, j < S → b' j = u' 16 (32 * x + j)) : FT x v b' u' := by
  obtain ⟨N, h0, hN, c1, c2, c3, c4, ⟨r2, r5, r7, r8, r9⟩, r15, hb⟩ := h
  refine ⟨N, h0, hN, c1, c2, c3, c4, ⟨?_, ?_, ?_, ?_, ?_⟩, ?_, hb' N c1 (by omega)⟩
  all_goals rw [hk.1 _ (by decide)]; assumption
theorem FE_ext {x : Nat} {v b b' g pw : Nat → Int32} {u u' : Nat → Nat → Int32} (h : FE x v b g pw u) (hk : kp x u u') (hb' : ∀ S, v 1 = nI S → S ≤ 25 → ∀ j, j < S → b' j = u' 16 (32 * x + j)) : FE x v b' g pw u' := by
  obtain ⟨N, A, B, M, F, fl, T, D, R, sg, before, behind, hX, hC, ⟨r2, r3, r4, r5, r7, r8, r9, r11, r12, r13, r14, r15⟩, hb⟩ := h
  have hsz := EG_size hX.1
  have hN : N ≤ 24 := hX.1.1.2.1
  refine ⟨N, A, B, M, F, fl, T, D, R, sg, before, behind, hX, hC, ⟨?_, fun j hj => ?_, fun j hj => ?_, ?_, ?_, ?_, ?_, ?_, ?_, ?_, fun j hj => ?_, ?_⟩, hb' _ hC.1 hsz.2.2.1⟩
  · rw [hk.1 2 (by decide)]; exact r2
  · rw [(hk.2 j (by omega)).1]; exact r3 j hj
  · rw [(hk.2 j (by omega)).2]; exact r4 j hj
  · rw [hk.1 _ (by decide)]; assumption
  · rw [hk.1 _ (by decide)]; assumption
  · rw [hk.1 _ (by decide)]; assumption
  · rw [hk.1 _ (by decide)]; assumption
  · rw [hk.1 _ (by decide)]; assumption
  · rw [hk.1 _ (by decide)]; assumption
  · rw [hk.1 _ (by decide)]; assumption
  · rw [hk.1 _ (by decide)]; exact r14 j hj
  · rw [hk.1 _ (by decide)]; assumption
theorem FR_ext {x k : Nat} {C : Nat → Nat → Int32} {u u' : Nat → Nat → Int32} (h : FR x k C u) (hk : kp x u u') (hb : ∀ j, j < 32 → u' 16 (32 * x + j) = u 16 (32 * x + j)) : FR x k C u' := by
  have step : ∀ (k S : Nat) (v b : Nat → Int32), HD k x S v b u → ∀ S, v 1 = nI S → S ≤ 25 → ∀ j, j < S → b j = u' 16 (32 * x + j) := by
    intro k S v b hH S' hS' hS25 j hj
    obtain ⟨h1, h2, h3, h4, h5, h6, h7, h8, h9⟩ := hH
    have : S' = S := by
      rw [h1] at hS'
      exact ((nI_eq (by omega) (by omega)).mp hS').symm
    rw [hb j (by omega), h9 j (by omega)]
  rcases h with ⟨rfl, h⟩ | ⟨rfl, h⟩ | ⟨rfl, h⟩
  · obtain ⟨S, hH⟩ := FN_HD h
    exact Or.inl ⟨rfl, FN_ext h hk (step _ _ _ _ hH)⟩
  · obtain ⟨S, hH⟩ := FT_HD h
    exact Or.inr (Or.inl ⟨rfl, FT_ext h hk (step _ _ _ _ hH)⟩)
  · obtain ⟨S, hH⟩ := FE_HD h
    exact Or.inr (Or.inr ⟨rfl, FE_ext h hk (step _ _ _ _ hH)⟩)
/-- one cell of the pool is another -/
def cst (C : Nat → Nat → Nat → Int32) (x r : Nat) (b : Nat → Int32) : Nat → Nat → Nat → Int32 := fun k q => if k = x ∧ q = r then b else C k q
theorem cst_s (C : Nat → Nat → Nat → Int32) (x r : Nat) (b : Nat → Int32) : cst C x r b x r = b := if_pos ⟨rfl, rfl⟩
theorem cst_q (C : Nat → Nat → Nat → Int32) {x r k q : Nat} (b : Nat → Int32) (h : q ≠ r) : cst C x r b k q = C k q := if_neg (fun z => h z.2)
theorem cst_k (C : Nat → Nat → Nat → Int32) {x r k : Nat} (b : Nat → Int32) (h : k ≠ x) : cst C x r b k = C k := by
  funext q
  exact if_neg (fun z => h z.1)
/-- only scratch has changed in the reference -/
theorem Rel_sc {n t : Nat} {kd : Nat → Nat} {dc : Nat → Option Nat} {fa : Nat → Nat → Nat} {pv y : Nat → Int32} {C : Nat → Nat → Nat → Int32} {mv mv' : Nat → Int32} {mu mu' : Nat → Nat → Int32} (h : Rel n t kd dc fa pv y C mv mu) (h1 : mv' 1 = mv 1) (h3 : mv' 3 = mv 3) (hu : ∀ r, r ≠ 17 → r ≠ 18 → mu' r = mu r) : Rel n t kd dc fa pv y C mv' mu' := by
  obtain ⟨a1, a2, a3, a4, a5, a6, a7, a8, a9⟩ := h
  refine ⟨a1, a2, a3, by rw [h3]; exact a4, a5, by rw [h1]; exact a6, by rw [hu 1 (by decide) (by decide)]; exact a7, a8, fun x hx => ⟨(a9 x hx).1, FR_ext (a9 x hx).2 ⟨fun r hr => by rw [hu r (by omega) (by omega)], fun j _ => by rw [hu 3 (by decide) (by decide), hu 4 (by decide) (by decide)]; exact ⟨rfl, rfl⟩⟩ (fun j _ => by rw [hu 16 (by decide) (by decide)])⟩⟩
/-- the bytes of one place have changed: r is the cell of its bytes -/
theorem Rel_st {n t : Nat} {kd : Nat → Nat} {dc : Nat → Option Nat} {fa : Nat → Nat → Nat} {pv y : Nat → Int32} {C : Nat → Nat → Nat → Int32} {mv mv' : Nat → Int32} {mu mu' : Nat → Nat → Int32} (h : Rel n t kd dc fa pv y C mv mu) (h1 : mv' 1 = mv 1) (h3 : mv' 3 = mv 3) {x : Nat} (hx : x < n) {b' : Nat → Int32} (hu : ∀ r, r ≠ 16 → r ≠ 17 → r ≠ 18 → mu' r = mu r) (ho : ∀ i, i < 32 * x ∨ 32 * x + 32 ≤ i → mu' 16 i = mu 16 i) (hb : ∀ S, C x (2 * kd x) 1 = nI S → S ≤ 25 → ∀ j, j < S → b' j = mu' 16 (32 * x + j)) : Rel n t kd dc fa pv y (cst C x (2 * kd x + 1) b') mv' mu' := by
  obtain ⟨a1, a2, a3, a4, a5, a6, a7, a8, a9⟩ := h
  have hkp : ∀ z, kp z mu mu' := fun z => ⟨fun r hr => by rw [hu r (by omega) (by omega) (by omega)], fun j _ => by rw [hu 3 (by decide) (by decide) (by decide), hu 4 (by decide) (by decide) (by decide)]; exact ⟨rfl, rfl⟩⟩
  refine ⟨a1, a2, a3, by rw [h3]; exact a4, a5, by rw [h1]; exact a6, by rw [hu 1 (by decide) (by decide) (by decide)]; exact a7, fun z hz => ?_, fun z hz => ⟨(a9 z hz).1, ?_⟩⟩
  · by_cases c : z = x
    · subst c
      have : (2 : Nat) ≠ 2 * kd z + 1 := by omega
      rw [cst_q _ _ this]; exact a8 z hz
    · rw [cst_k _ _ c]; exact a8 z hz
  · by_cases c : z = x
    · subst c
      rcases (a9 z hz).2 with ⟨e, q⟩ | ⟨e, q⟩ | ⟨e, q⟩
      · rw [e] at hb ⊢
        refine Or.inl ⟨rfl, ?_⟩
        rw [cst_q _ _ (by decide), cst_s]
        exact FN_ext q (hkp z) hb
      · rw [e] at hb ⊢
        refine Or.inr (Or.inl ⟨rfl, ?_⟩)
        rw [cst_q _ _ (by decide), cst_s]
        exact FT_ext q (hkp z) hb
      · rw [e] at hb ⊢
        refine Or.inr (Or.inr ⟨rfl, ?_⟩)
        show FE z (cst C z 5 b' z 4) (cst C z 5 b' z 5) (cst C z 5 b' z 6) (cst C z 5 b' z 7) mu'
        rw [cst_s, cst_q (q := 4) _ _ (by decide), cst_q (q := 6) _ _ (by decide), cst_q (q := 7) _ _ (by decide)]
        exact FE_ext q (hkp z) hb
    · rw [cst_k _ _ c]
      exact FR_ext (a9 z hz).2 (hkp z) (fun j hj => ho _ (by omega))
theorem P_f26 (u : Nat → Nat → Int32) (v : Nat → Int32) {t : Int32} (h : ¬ t ≤ 0) : m_M_fails_26 u t v = some (1, upd v 0 t) := by
  unfold m_M_fails_26
  rw [pk_us, if_neg h, zbo_1]
theorem P_fails0 (v : Nat → Int32) (u : Nat → Nat → Int32) : m_M_fails 0 0 0 v u = some (0, upd v 0 0) := by
  unfold m_M_fails m_M_fails_26
  rw [pk_us, zbo_0, zbo_1]; rfl
theorem P_fails1 (b c : Int32) (v : Nat → Int32) (u : Nat → Nat → Int32) : m_M_fails 1 b c v u = some (1, upd v 0 1) := by
  unfold m_M_fails
  rw [if_neg (show ¬ (1 : Int32) = 0 by decide), P_f26 u v (by decide)]
theorem P_fails2 (c : Int32) (v : Nat → Int32) (u : Nat → Nat → Int32) : m_M_fails 0 1 c v u = some (1, upd v 0 2) := by
  unfold m_M_fails
  rw [if_pos (show (0 : Int32) = 0 from rfl), if_neg (show ¬ (1 : Int32) = 0 by decide), P_f26 u v (by decide)]
theorem P_fails3 (v : Nat → Int32) (u : Nat → Nat → Int32) : m_M_fails 0 0 1 v u = some (1, upd v 0 3) := by
  unfold m_M_fails
  rw [if_pos (show (0 : Int32) = 0 from rfl), if_pos (show (0 : Int32) = 0 from rfl), if_neg (show ¬ (1 : Int32) = 0 by decide), P_f26 u v (by decide)]
/-- is there such a field -/
theorem fld_cases {n : Nat} (hn : n ≤ 8) (a : Int32) : (∃ x, x < n ∧ a = nI x) ∨ (a < 0 ∨ (¬ a < 0 ∧ nI n ≤ a)) := by
  by_cases c : a < 0
  · exact Or.inr (Or.inl c)
  · obtain ⟨j, hj, rfl⟩ := nI_of c
    rcases Nat.lt_or_ge j n with q | q
    · exact Or.inl ⟨j, q, rfl⟩
    · exact Or.inr (Or.inr ⟨c, nI_le q hj⟩)
theorem P_isF {n x : Nat} (hn : n ≤ 8) (hx : x < n) {mv : Nat → Int32} (h3 : mv 3 = nI n) (mu : Nat → Nat → Int32) : m_M_isField (nI x) mv mu = some 1 := by
  unfold m_M_isField
  rw [if_neg (nI_pos (by omega)), h3, if_neg (nI_ge hx (by omega)), zbo_1]
theorem P_isF0 {n : Nat} {a : Int32} (ha : a < 0 ∨ (¬ a < 0 ∧ nI n ≤ a)) {mv : Nat → Int32} (h3 : mv 3 = nI n) (mu : Nat → Nat → Int32) : m_M_isField a mv mu = some 0 := by
  unfold m_M_isField
  rw [h3, zbo_0]
  rcases ha with q | ⟨q1, q2⟩
  · rw [if_pos q]
  · rw [if_neg q1, if_pos q2]
theorem C_ex {n x : Nat} (hn : n ≤ 8) (hx : x < n) {pv : Nat → Int32} (h7 : pv 7 = nI n) (dc : Nat → Option Nat) : m_P_existing (nI x) pv dc = some () := by
  unfold m_P_existing m_P_existing_22
  rw [if_neg (nI_pos (by omega)), h7, if_pos (nI_lt hx (by omega)), zix_ok (by omega) (by decide)]
theorem C_ex0 {n : Nat} {a : Int32} (ha : a < 0 ∨ (¬ a < 0 ∧ nI n ≤ a)) {pv : Nat → Int32} (h7 : pv 7 = nI n) (dc : Nat → Option Nat) : m_Px_existing a pv dc = some () := by
  unfold m_Px_existing m_Px_existing_12 m_Px_existing_22
  rw [h7]
  rcases ha with q | ⟨q1, q2⟩
  · rw [if_pos q]
  · rw [if_neg q1, if_neg (by rw [Int32.not_lt]; exact q2)]
theorem lgc0 (x : Int64) : lg_cmp x x = 0 := by
  unfold lg_cmp
  rw [if_neg (by rw [gt_iff_lt]; exact Int64.lt_irrefl), if_pos rfl]
theorem vpu (ov : Nat → Int64) (x : Int64) : vp_updL ov (0 : Int32).toNatClampNeg x (0 : Int32).toNatClampNeg = x := if_pos rfl
