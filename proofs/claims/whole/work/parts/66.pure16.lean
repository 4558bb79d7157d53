theorem nEnd_1 {v : Nat → Int32} {N a c9 c8 : Nat} {vo : Option Nat} {u : Nat → Nat → Int32} (hw : ∀ w, vo = some w → w < 1000) (ha : a ≤ 24) (h8 : c8 ≤ 24) :
    nEnd v (nI N) (nI a) (nI c9) (nI c8) (vx vo) 1 u = if (vo = none ∨ vo = some a ∨ vo = some (a + c8)) then m_M_isNumber_282 v (nI N) (nI a) (nI c9) (nI c8) (vx vo) 1 u else some (0, u) := by
  unfold nEnd
  cases vo with
  | none => rw [if_pos (show vx none < 0 by decide), if_pos (Or.inl rfl)]
  | some w =>
    have := hw w rfl
    rw [show vx (some w) = nI w from rfl]
    rw [if_neg (show ¬ nI w < 0 from nI_pos (by omega)), if_neg (by decide), nI_add]
    by_cases h1 : w = a
    · rw [if_pos (show nI w = nI a by rw [h1]), if_pos (Or.inr (Or.inl (by rw [h1])))]
    · rw [if_neg (show ¬ nI w = nI a from fun e => h1 ((nI_eq (by omega) (by omega)).mp e))]
      by_cases h2 : w = a + c8
      · rw [if_pos (show nI w = nI (a + c8) by rw [h2]), if_pos (Or.inr (Or.inr (by rw [h2])))]
      · rw [if_neg (show ¬ nI w = nI (a + c8) from fun e => h2 ((nI_eq (by omega) (by omega)).mp e)), if_neg]
        rintro (e | e | e)
        · cases e
        · cases e; exact h1 rfl
        · cases e; exact h2 rfl
theorem nEnd_0 {v : Nat → Int32} {N a c9 c8 : Nat} {vo : Option Nat} {u : Nat → Nat → Int32} (hw : ∀ w, vo = some w → w < 1000) (ha : a ≤ 24) (h9 : c9 ≤ 24) (hN : N ≤ 24) (h0 : 0 < N) :
    nEnd v (nI N) (nI a) (nI c9) (nI c8) (vx vo) 0 u = if (vo = none ∨ vo = some (a + c9) ∨ vo = some (N - 1)) then m_M_isNumber_282 v (nI N) (nI a) (nI c9) (nI c8) (vx vo) 0 u else some (0, u) := by
  unfold nEnd
  cases vo with
  | none => rw [if_pos (show vx none < 0 by decide), if_pos (Or.inl rfl)]
  | some w =>
    have := hw w rfl
    rw [show vx (some w) = nI w from rfl]
    rw [if_neg (show ¬ nI w < 0 from nI_pos (by omega)), if_pos rfl, nI_add, show nI N - 1 = nI (N - 1) from pk_sub (b := 1) h0]
    by_cases h1 : w = a + c9
    · rw [if_pos (show nI w = nI (a + c9) by rw [h1]), if_pos (Or.inr (Or.inl (by rw [h1])))]
    · rw [if_neg (show ¬ nI w = nI (a + c9) from fun e => h1 ((nI_eq (by omega) (by omega)).mp e))]
      by_cases h2 : w = N - 1
      · rw [if_pos (show nI w = nI (N - 1) by rw [h2]), if_pos (Or.inr (Or.inr (by rw [h2])))]
      · rw [if_neg (show ¬ nI w = nI (N - 1) from fun e => h2 ((nI_eq (by omega) (by omega)).mp e)), if_neg]
        rintro (e | e | e)
        · cases e
        · cases e; exact h1 rfl
        · cases e; exact h2 rfl
theorem P_num25 {v f : Nat → Int32} {u : Nat → Nat → Int32} {N a : Nat} (hN : N ≤ 24) (h0 : 0 < N) (ha : a ≤ N) (ha01 : a = 0 ∨ a = 1) (hf : ∀ j, u 3 (192 + j) = f j) (hc0 : cnt f 57 0 N = cnt f 57 a (N - a)) :
    (∃ before behind nines low u', NF f N a before behind nines low ∧ before + behind ≤ 12 ∧ m_M_isNumber_25 v (nI N) (nI a) u = some (1, u') ∧ nsto u u' f N a before behind nines low) ∨
    ((∀ before behind nines low, NF f N a before behind nines low → 12 < before + behind) ∧ m_M_isNumber_25 v (nI N) (nI a) u = some (0, u)) := by
  have hfun : (fun j => u 3 (192 + j)) = f := funext hf
  obtain ⟨c9, e9⟩ : ∃ c, cnt f 57 a (N - a) = c := ⟨_, rfl⟩
  obtain ⟨c8, e8⟩ : ∃ c, cnt f 80 a (N - a) = c := ⟨_, rfl⟩
  obtain ⟨cv, ev⟩ : ∃ c, cnt f 86 a (N - a) = c := ⟨_, rfl⟩
  have l9 := cnt_le f 57 (N - a) a
  have l8 := cnt_le f 80 (N - a) a
  have lv := cnt_le f 86 (N - a) a
  obtain ⟨l3, h3⟩ := cnt_3 (f := f) (N - a) a
  rw [show a + (N - a) = N by omega] at h3
  rw [e9] at l9 hc0
  rw [e8] at l8
  rw [ev] at lv
  rw [e9, e8, ev] at l3 h3
  unfold m_M_isNumber_25
  rw [P_countOf ha hN, P_countOf ha hN, P_countOf ha hN, hfun, e9, e8, ev]
  simp only [Option.bind_some, nI_add, zbo_0, pk_sub ha]
  by_cases s1 : c9 + c8 + cv = N - a
  · rw [if_pos (by rw [s1])]
    by_cases s2 : c9 = 0
    · rw [if_pos (by rw [s2]; rfl)]
      exact Or.inr ⟨fun b b2 n l h => by have := NF_cnt h; omega, rfl⟩
    · rw [if_neg (nI_ne0 (by omega) (by omega))]
      by_cases s3 : 1 < cv
      · rw [if_pos (show (1 : Int32) < nI cv from nI_lt (a := 1) s3 (by omega))]
        exact Or.inr ⟨fun b b2 n l h => by have := NF_cnt h; omega, rfl⟩
      · rw [if_neg (show ¬ (1 : Int32) < nI cv from nI_nlt (a := 1) (by omega) (by decide))]
        by_cases s4 : c9 + c8 ≤ 12
        · rw [if_pos (show nI (c9 + c8) ≤ 12 from nI_le (b := 12) s4 (by decide))]
          rw [P_firstOf ha hN, P_firstOf ha hN, P_firstOf ha hN, hfun]
          simp only [Option.bind_some]
          have h3 := h3 s1
          obtain ⟨vo, hvo, hvx, hvn⟩ : ∃ vo, VO f N a vo ∧ fstI f 86 a (N - a) = vx vo ∧ vn vo = cv := by
            rcases fst_some (f := f) (x := 86) (N - a) a with ⟨g1, g2⟩ | ⟨k, g1, g2, g3, g4, g5⟩
            · refine ⟨none, Or.inl ⟨rfl, fun j k1 k2 => g2 j k1 (by omega)⟩, g1, ?_⟩
              rw [← ev]; exact (cnt_no (N - a) a g2).symm
            · refine ⟨some k, Or.inr ⟨k, rfl, g1, by omega, g4, fun j k1 k2 k3 => cnt_one (x := 86) (n := N - a) (a := a) (by omega) ⟨k1, by omega⟩ ⟨g1, g2⟩ k3 g4⟩, g3, ?_⟩
              have := cnt_pos (x := 86) (n := N - a) g1 g2 g4
              show 1 = cv; omega
          rw [hvx]
          by_cases s5 : c8 = 0
          · rw [if_pos (show nI c8 ≤ 0 by rw [s5]; decide)]
            unfold m_M_isNumber_135 m_M_isNumber_136
            rw [if_pos (show nI c8 ≤ 0 by rw [s5]; decide)]
            have hnf := U_fwd ha h3 hvo (c9 := c9) (by omega) (by omega) (fun j k1 k2 => cnt_z (by rw [e8, s5]) j k1 (by omega))
            obtain ⟨u', hu, hs⟩ := P_keep (N := N) (nines := c9) (ps := c8) (a := a) (bf := bfv a c9 vo) (x6 := vx vo) (x9 := 0) (v := v) (u := u) hN (by omega) (by omega) ha01 (Or.inl rfl) hf (by omega) (fun _ => by
              rcases hvo with ⟨rfl, g⟩ | ⟨w, rfl, g1, g2, g3, g4⟩
              · exact Or.inl ⟨rfl, rfl⟩
              · have : 1 = cv := hvn
                exact Or.inr ⟨w, rfl, g1, by omega, rfl, by show w - a ≤ c9; omega⟩)
            simp only [if_pos s5] at hs
            obtain ⟨-, -, q3, -, -, q6, -⟩ := NF_cnt hnf
            refine Or.inl ⟨_, _, _, _, u', hnf, ?_, hu, hs⟩
            rcases hvo with ⟨rfl, g⟩ | ⟨w, rfl, g1, g2, g3, g4⟩
            · show c9 + (c9 - c9) ≤ 12; omega
            · have : 1 = cv := hvn
              show (w - a) + (c9 - (w - a)) ≤ 12; omega
          · rw [if_neg (nI_nle (by omega) (by omega))]
            obtain ⟨kp, p1, p2, p3, p4, p5⟩ : ∃ k, a ≤ k ∧ k < N ∧ fstI f 80 a (N - a) = nI k ∧ f k = 80 ∧ ∀ j, a ≤ j → j < k → ¬ f j = 80 := by
              rcases fst_some (f := f) (x := 80) (N - a) a with ⟨g1, g2⟩ | ⟨k, g1, g2, g3, g4, g5⟩
              · exact absurd (e8.symm.trans (cnt_no (N - a) a g2)) s5
              · exact ⟨k, g1, by omega, g3, g4, g5⟩
            obtain ⟨kn, n1, n2, n3, n4, n5⟩ : ∃ k, a ≤ k ∧ k < N ∧ fstI f 57 a (N - a) = nI k ∧ f k = 57 ∧ ∀ j, a ≤ j → j < k → ¬ f j = 57 := by
              rcases fst_some (f := f) (x := 57) (N - a) a with ⟨g1, g2⟩ | ⟨k, g1, g2, g3, g4, g5⟩
              · exact absurd (e9.symm.trans (cnt_no (N - a) a g2)) s2
              · exact ⟨k, g1, by omega, g3, g4, g5⟩
            rw [p3, n3]
            have hz : (0 : Int32) = nI 0 := rfl
            by_cases s6 : kn ≤ kp
            · rw [if_pos (nI_le s6 (by omega))]
              unfold m_M_isNumber_135 m_M_isNumber_136 m_M_isNumber_154
              rw [if_neg (nI_nle (by omega) (by omega)), if_pos rfl]
              have hr := P_rank_l (v := v) (f := f) (u := u) (N := N) (first := c9) (x2 := nI a) (x3 := nI c9) (x4 := nI c8) (x6 := vx vo) false hN (by omega) hf (N - a) a 0 64 (by omega) (by omega) (by omega)
              simp only [Bool.false_eq_true, if_false] at hr
              rw [hz]
              rw [hz] at hr
              rw [hr, ← hz, nEnd_0 (hvo.lt hN) (by omega) (by omega) hN h0]
              by_cases s7 : chk f (vx vo) false c9 (N - a) a 0 = true
              · rw [if_pos s7]
                by_cases s8 : (vo = none ∨ vo = some (a + c9) ∨ vo = some (N - 1))
                · rw [if_pos s8]
                  have hnf := H_fwd (c9 := c9) (c8 := c8) hN ha h3 hvo (by omega) (by omega) (by omega) s7 s8
                  obtain ⟨u', hu, hs⟩ := P_keep (N := N) (nines := c9) (ps := c8) (a := a) (bf := 0) (x6 := vx vo) (x9 := 0) (v := v) (u := u) hN (by omega) (by omega) ha01 (Or.inl rfl) hf (by omega) (fun h => absurd h s5)
                  simp only [if_neg s5, if_true] at hs
                  exact Or.inl ⟨_, _, _, _, u', hnf, by omega, hu, hs⟩
                · rw [if_neg s8]
                  refine Or.inr ⟨fun b b2 n l h => ?_, rfl⟩
                  have q := NF_cnt h
                  have e : n = c9 := by omega
                  rw [e] at h
                  exact absurd (H_bwd hN h hvo p1 p2 p4 p5 n1 n2 n4 s6).2 s8
              · rw [if_neg s7]
                refine Or.inr ⟨fun b b2 n l h => ?_, rfl⟩
                have q := NF_cnt h
                have e : n = c9 := by omega
                rw [e] at h
                exact absurd (H_bwd hN h hvo p1 p2 p4 p5 n1 n2 n4 s6).1 s7
            · rw [if_neg (nI_ge (by omega) (by omega))]
              unfold m_M_isNumber_136 m_M_isNumber_154
              rw [if_neg (nI_nle (by omega) (by omega)), if_neg (by decide)]
              have hr := P_rank_l (v := v) (f := f) (u := u) (N := N) (first := c8) (x2 := nI a) (x3 := nI c9) (x4 := nI c8) (x6 := vx vo) true hN (by omega) hf (N - a) a 0 64 (by omega) (by omega) (by omega)
              simp only [if_true] at hr
              rw [hz]
              rw [hr, nEnd_1 (hvo.lt hN) (by omega) (by omega)]
              by_cases s7 : chk f (vx vo) true c8 (N - a) a 0 = true
              · rw [if_pos s7]
                by_cases s8 : (vo = none ∨ vo = some a ∨ vo = some (a + c8))
                · rw [if_pos s8]
                  have hnf := B_fwd (c9 := c9) (c8 := c8) hN ha h3 hvo (by omega) (by omega) (by omega) s7 s8
                  obtain ⟨u', hu, hs⟩ := P_keep (N := N) (nines := c9) (ps := c8) (a := a) (bf := 0) (x6 := vx vo) (x9 := 1) (v := v) (u := u) hN (by omega) (by omega) ha01 (Or.inr rfl) hf (by omega) (fun h => absurd h s5)
                  simp only [if_neg s5, if_neg (show ¬ (1 : Int32) = 0 by decide)] at hs
                  exact Or.inl ⟨_, _, _, _, u', hnf, by omega, hu, hs⟩
                · rw [if_neg s8]
                  refine Or.inr ⟨fun b b2 n l h => ?_, rfl⟩
                  exact absurd (B_bwd hN h hvo e8 p1 p2 p4 n1 n2 n5 (by omega)).2 s8
              · rw [if_neg s7]
                refine Or.inr ⟨fun b b2 n l h => ?_, rfl⟩
                exact absurd (B_bwd hN h hvo e8 p1 p2 p4 n1 n2 n5 (by omega)).1 s7
        · rw [if_neg (show ¬ nI (c9 + c8) ≤ 12 from nI_ge (a := 12) (by omega) (by omega))]
          exact Or.inr ⟨fun b b2 n l h => by have := NF_cnt h; omega, rfl⟩
  · rw [if_neg (fun e => s1 ((nI_eq (by omega) (by omega)).mp e))]
    exact Or.inr ⟨fun b b2 n l h => by have := NF_cnt h; omega, rfl⟩
/-- the reference's numbers are the eight forms with at most 12 digits -/
theorem P_isNumber {v f : Nat → Int32} {u : Nat → Nat → Int32} {N : Nat} (hN : N ≤ 24) (h0 : 0 < N) (hf : ∀ j, u 3 (192 + j) = f j) (h2 : u 2 8 = nI N) :
    (∃ before behind nines low u', NF f N (if f 0 = 83 then 1 else 0) before behind nines low ∧ before + behind ≤ 12 ∧ m_M_isNumber v u = some (1, u') ∧ nsto u u' f N (if f 0 = 83 then 1 else 0) before behind nines low) ∨
    ((∀ before behind nines low, NF f N (if f 0 = 83 then 1 else 0) before behind nines low → 12 < before + behind) ∧ m_M_isNumber v u = some (0, u)) := by
  unfold m_M_isNumber
  rw [zix8, c8, h2, show (8 : Int32) = nI 8 from rfl, show (0 : Int32) = nI 0 from rfl, P_sym (by omega) (by omega)]
  simp only [Option.bind_some]
  rw [show 24 * 8 + 0 = 192 + 0 by omega, hf 0]
  by_cases h : f 0 = 83
  · simp only [if_pos h]
    refine P_num25 hN h0 (by omega) (Or.inr rfl) hf ?_
    rw [show N = (N - 1) + 1 by omega]
    simp only [cnt]
    rw [if_neg (by rw [h]; decide)]
    simp
  · simp only [if_neg h]
    exact P_num25 hN h0 (by omega) (Or.inl rfl) hf rfl
