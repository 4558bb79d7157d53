theorem zix8 {α : Type} {K : Option α} : zix 8 9 K = K := zix_ok (k := 8) (by decide) (by decide)
theorem zau8 (u : Nat → Nat → Int32) (j : Nat) (x : Int32) : zau u j 8 x = zset u j (upd (u j) 8 x) := zau_nI u j 8 x (by decide)
theorem vpb0 : vp_nar .boolean 0 = 0 := by decide
theorem vpb1 : vp_nar .boolean 1 = 1 := by decide
/-- what the reference keeps of a number's picture -/
def nsto (u u' : Nat → Nat → Int32) (f : Nat → Int32) (N a before behind nines low : Nat) : Prop :=
  DF u u' ∧ u' 2 = u 2 ∧ u' 3 = u 3 ∧ u' 5 8 = 0 ∧ u' 9 8 = nI a ∧ u' 10 8 = nI low ∧ u' 7 8 = nI before ∧ u' 8 8 = nI behind ∧ u' 15 8 = nI nines ∧ ∀ k, k < N → u' 4 (192 + k) = if f k = 57 then nI (nines + low - cnt f 57 0 k) else 0
theorem DF.row4 (u : Nat → Nat → Int32) (g f : Nat → Int32) (R k n : Nat) (hg : g = u 4) : DF u (zset u 4 (dput g f R k n)) := by
  subst hg
  refine ⟨fun b i hb hi => ?_, fun b i hb3 hb4 hi => ?_⟩
  · by_cases e : b = 4
    · subst e
      rw [zset_s]; unfold dput; rw [if_neg (by omega)]
    · rw [zset_n _ _ e]
  · rw [zset_n _ _ hb4]
theorem P_fin {N nines low : Nat} {f : Nat → Int32} {v : Nat → Int32} {u u0 : Nat → Nat → Int32} {a before behind : Nat} (hN : N ≤ 24) (hn : nines ≤ 24) (hlow : low ≤ 24) (hc : cnt f 57 0 N ≤ nines + low)
    (h0 : DF u0 u) (h2 : u 2 = u0 2) (h3 : u 3 = u0 3) (hf : ∀ j, u0 3 (192 + j) = f j) (k5 : u 5 8 = 0) (k9 : u 9 8 = nI a) (k10 : u 10 8 = nI low) (k7 : u 7 8 = nI before) :
    ∃ u', m_M_isNumber_407 v (nI N) (nI nines) (nI behind) 8 u = some (1, u') ∧ nsto u0 u' f N a before behind nines low := by
  have e10 : (zset (zset u 8 (upd (u 8) 8 (nI behind))) 15 (upd ((zset u 8 (upd (u 8) 8 (nI behind))) 15) 8 (nI nines))) 10 8 = nI low := by
    rw [zset_n _ _ (by decide), zset_n _ _ (by decide)]; exact k10
  refine ⟨zset (zset (zset u 8 (upd (u 8) 8 (nI behind))) 15 (upd ((zset u 8 (upd (u 8) 8 (nI behind))) 15) 8 (nI nines))) 4 (dput ((zset (zset u 8 (upd (u 8) 8 (nI behind))) 15 (upd ((zset u 8 (upd (u 8) 8 (nI behind))) 15) 8 (nI nines))) 4) f (nines + low) 0 N), ?_, ?_⟩
  · unfold m_M_isNumber_407
    rw [zix8, zix8, zix8, zau8, zau8, c8, e10, nI_add]
    have := P_dig_l (N := N) (R := nines + low) hN (by omega) v f N 0 64 (zset (zset u 8 (upd (u 8) 8 (nI behind))) 15 (upd ((zset u 8 (upd (u 8) 8 (nI behind))) 15) 8 (nI nines))) (by omega) (by omega) (by intro j; rw [zset_n _ _ (by decide), zset_n _ _ (by decide), h3]; exact hf j) hc
    exact this
  · have d1 : DF u0 (zset u 8 (upd (u 8) 8 (nI behind))) := h0.tr (DF.at8 u 8 _ (by decide) (by decide) (by decide))
    have d2 := d1.tr (DF.at8 (zset u 8 (upd (u 8) 8 (nI behind))) 15 (nI nines) (by decide) (by decide) (by decide))
    refine ⟨d2.tr (DF.row4 _ _ _ _ _ _ rfl), ?_, ?_, ?_, ?_, ?_, ?_, ?_, ?_, ?_⟩
    · rw [zset_n _ _ (by decide), zset_n _ _ (by decide), zset_n _ _ (by decide)]; exact h2
    · rw [zset_n _ _ (by decide), zset_n _ _ (by decide), zset_n _ _ (by decide)]; exact h3
    · rw [zset_n _ _ (by decide), zset_n _ _ (by decide), zset_n _ _ (by decide)]; exact k5
    · rw [zset_n _ _ (by decide), zset_n _ _ (by decide), zset_n _ _ (by decide)]; exact k9
    · rw [zset_n _ _ (by decide), zset_n _ _ (by decide), zset_n _ _ (by decide)]; exact k10
    · rw [zset_n _ _ (by decide), zset_n _ _ (by decide), zset_n _ _ (by decide)]; exact k7
    · rw [zset_n _ _ (by decide), zset_n _ _ (by decide), zset_s]; exact pk_us
    · rw [zset_n _ _ (by decide), zset_s]; exact pk_us
    · intro k hk
      rw [zset_s]
      unfold dput
      rw [if_pos (show 192 + 0 ≤ 192 + k ∧ 192 + k < 192 + 0 + N by omega), show 192 + k - 192 = k by omega]
/-- where the reference keeps it: low, before, behind by the kind of picture -/
theorem P_keep {N nines ps a bf : Nat} {x6 x9 : Int32} {f : Nat → Int32} {v : Nat → Int32} {u : Nat → Nat → Int32} (hN : N ≤ 24) (hn : nines ≤ 24) (hps : ps ≤ 24) (ha : a = 0 ∨ a = 1) (h9 : x9 = 0 ∨ x9 = 1) (hf : ∀ j, u 3 (192 + j) = f j) (hc : cnt f 57 0 N ≤ nines)
    (hbf : ps = 0 → ((x6 = -1 ∧ bf = nines) ∨ ∃ vp, x6 = nI vp ∧ a ≤ vp ∧ vp < 1000 ∧ bf = vp - a ∧ bf ≤ nines)) :
    ∃ u', m_M_isNumber_282 v (nI N) (nI a) (nI nines) (nI ps) x6 x9 u = some (1, u') ∧ nsto u u' f N a (if ps = 0 then bf else if x9 = 0 then nines + ps else 0) (if ps = 0 then nines - bf else if x9 = 0 then 0 else nines + ps) nines (if ps = 0 then 0 else if x9 = 0 then ps else 0) := by
  have g5 : DF u (zset u 5 (upd (u 5) 8 0)) := DF.at8 u 5 0 (by decide) (by decide) (by decide)
  have e282 : ∃ u2, m_M_isNumber_282 v (nI N) (nI a) (nI nines) (nI ps) x6 x9 u = (if nI ps ≤ 0 then m_M_isNumber_328 v (nI N) (nI a) (nI nines) (nI ps) x6 x9 8 u2 else (if x9 = 0 then m_M_isNumber_329 v (nI N) (nI a) (nI nines) (nI ps) x6 x9 (nI ps) 8 u2 else m_M_isNumber_328 v (nI N) (nI a) (nI nines) (nI ps) x6 x9 8 u2)) ∧ DF u u2 ∧ u2 2 = u 2 ∧ u2 3 = u 3 ∧ u2 5 8 = 0 ∧ u2 9 8 = nI a := by
    have fin : ∀ t0 : Int32, DF u (zset (zset u 5 (upd (u 5) 8 0)) 9 (upd ((zset u 5 (upd (u 5) 8 0)) 9) 8 t0)) ∧ (zset (zset u 5 (upd (u 5) 8 0)) 9 (upd ((zset u 5 (upd (u 5) 8 0)) 9) 8 t0)) 2 = u 2 ∧ (zset (zset u 5 (upd (u 5) 8 0)) 9 (upd ((zset u 5 (upd (u 5) 8 0)) 9) 8 t0)) 3 = u 3 ∧ (zset (zset u 5 (upd (u 5) 8 0)) 9 (upd ((zset u 5 (upd (u 5) 8 0)) 9) 8 t0)) 5 8 = 0 ∧ (zset (zset u 5 (upd (u 5) 8 0)) 9 (upd ((zset u 5 (upd (u 5) 8 0)) 9) 8 t0)) 9 8 = t0 := by
      intro t0
      refine ⟨g5.tr (DF.at8 _ 9 t0 (by decide) (by decide) (by decide)), ?_, ?_, ?_, ?_⟩
      · rw [zset_n _ _ (by decide), zset_n _ _ (by decide)]
      · rw [zset_n _ _ (by decide), zset_n _ _ (by decide)]
      · rw [zset_n _ _ (by decide), zset_s]; exact pk_us
      · rw [zset_s]; exact pk_us
    unfold m_M_isNumber_282 m_M_isNumber_306
    rcases ha with rfl | rfl
    · refine ⟨_, ?_, fin 0⟩
      rw [zix8, if_neg (by decide), zix8, zau8, zau8, vpb0]
    · refine ⟨_, ?_, fin 1⟩
      rw [zix8, if_pos (by decide), zix8, zau8, zau8, vpb1]
  obtain ⟨u2, e, d2, r2, r3, r5, r9⟩ := e282
  rw [e]
  have d3 : ∀ low : Nat, DF u (zset u2 10 (upd (u2 10) 8 (nI low))) ∧ (zset u2 10 (upd (u2 10) 8 (nI low))) 2 = u 2 ∧ (zset u2 10 (upd (u2 10) 8 (nI low))) 3 = u 3 ∧ (zset u2 10 (upd (u2 10) 8 (nI low))) 5 8 = 0 ∧ (zset u2 10 (upd (u2 10) 8 (nI low))) 9 8 = nI a ∧ (zset u2 10 (upd (u2 10) 8 (nI low))) 10 8 = nI low := by
    intro low
    refine ⟨d2.tr (DF.at8 u2 10 _ (by decide) (by decide) (by decide)), ?_, ?_, ?_, ?_, ?_⟩
    · rw [zset_n _ _ (by decide)]; exact r2
    · rw [zset_n _ _ (by decide)]; exact r3
    · rw [zset_n _ _ (by decide)]; exact r5
    · rw [zset_n _ _ (by decide)]; exact r9
    · rw [zset_s]; exact pk_us
  have last : ∀ (low before behind : Nat), low ≤ 24 → cnt f 57 0 N ≤ nines + low → ∃ u', m_M_isNumber_407 v (nI N) (nI nines) (nI behind) 8 (zset (zset u2 10 (upd (u2 10) 8 (nI low))) 7 (upd ((zset u2 10 (upd (u2 10) 8 (nI low))) 7) 8 (nI before))) = some (1, u') ∧ nsto u u' f N a before behind nines low := by
    intro low before behind hl hc2
    obtain ⟨q1, q2, q3, q4, q5, q6⟩ := d3 low
    refine P_fin hN hn hl hc2 (q1.tr (DF.at8 _ 7 _ (by decide) (by decide) (by decide))) ?_ ?_ hf ?_ ?_ ?_ ?_
    · rw [zset_n _ _ (by decide)]; exact q2
    · rw [zset_n _ _ (by decide)]; exact q3
    · rw [zset_n _ _ (by decide)]; exact q4
    · rw [zset_n _ _ (by decide)]; exact q5
    · rw [zset_n _ _ (by decide)]; exact q6
    · rw [zset_s]; exact pk_us
  by_cases hp : ps = 0
  · subst hp
    rw [if_pos (by decide)]
    simp only [if_true]
    obtain ⟨u', w1, w2⟩ := last 0 bf (nines - bf) (by omega) (by omega)
    refine ⟨u', ?_, w2⟩
    unfold m_M_isNumber_328 m_M_isNumber_329 m_M_isNumber_370
    rw [show (0 : Int32) = nI 0 from rfl]
    rw [zix8, if_pos rfl]
    have hle : bf ≤ nines := by rcases hbf rfl with ⟨-, h⟩ | ⟨vp, -, -, -, -, h⟩ <;> omega
    have e2 : nI nines - (zset (zset u2 10 (upd (u2 10) 8 (nI 0))) 7 (upd ((zset u2 10 (upd (u2 10) 8 (nI 0))) 7) 8 (nI bf))) 7 8 = nI (nines - bf) := by
      rw [zset_s, pk_us, pk_sub hle]
    rcases hbf rfl with ⟨g1, g2⟩ | ⟨vp, g1, g2, g3, g4, g5⟩
    · rw [if_neg (by rw [g1]; decide), zix8, if_pos rfl, zix8, zau8, zau8, c8]
      rw [g2] at w1 e2
      rw [e2]; exact w1
    · rw [if_pos (by rw [g1]; exact nI_le (by omega) (by omega)), zix8, if_pos rfl, zix8, zau8, zau8, c8]
      rw [g1, pk_sub g2, ← g4, e2]; exact w1
  · rw [if_neg (nI_nle (by omega) (by omega))]
    simp only [if_neg hp]
    have hp0 : ¬ nI ps = 0 := nI_ne0 (by omega) (by omega)
    rcases h9 with rfl | rfl
    · simp only [if_true]
      obtain ⟨u', w1, w2⟩ := last ps (nines + ps) 0 (by omega) (by omega)
      refine ⟨u', ?_, w2⟩
      unfold m_M_isNumber_329 m_M_isNumber_370
      rw [zix8, if_neg hp0, if_pos rfl, zix8, if_neg hp0, if_pos rfl, zau8, zau8, nI_add]
      exact w1
    · simp only [if_neg (show ¬ (1 : Int32) = 0 by decide)]
      obtain ⟨u', w1, w2⟩ := last 0 0 (nines + ps) (by omega) (by omega)
      refine ⟨u', ?_, w2⟩
      unfold m_M_isNumber_328 m_M_isNumber_329 m_M_isNumber_370
      rw [zix8, if_neg hp0, if_neg (by decide), zix8, if_neg hp0, if_neg (by decide), zau8, zau8, nI_add]
      exact w1
