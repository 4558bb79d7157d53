theorem dcn_mono {D E : Nat → Bool} : ∀ (n k : Nat), dcn (fun j => D j && E j) n k ≤ dcn D n k := by
  intro n
  induction n with
  | zero => intro k; exact Nat.le_refl _
  | succ n ih =>
    intro k
    have := ih (k + 1)
    rw [dcn_s, dcn_s]
    cases D k
    · simp only [Bool.false_and, Bool.false_eq_true, if_false]; omega
    · cases E k
      · simp only [Bool.and_false, Bool.false_eq_true, if_false, if_true]; omega
      · simp only [Bool.and_true, if_true]; omega
theorem dcn_0 {D : Nat → Bool} : ∀ (n k : Nat), (∀ j, k ≤ j → j < k + n → D j = false) → dcn D n k = 0 := by
  intro n
  induction n with
  | zero => intro k _; rfl
  | succ n ih =>
    intro k h
    rw [dcn_s, h k (Nat.le_refl _) (by omega), ih (k + 1) (fun j j1 j2 => h j (by omega) (by omega))]
    rfl
theorem dcn_in {P : Nat → Bool} {a e N : Nat} (hae : a ≤ e) (heN : e ≤ N) : dcn (fun k => decide (a ≤ k ∧ k < e) && P k) N 0 = dcn P (e - a) a := by
  rw [show N = a + ((e - a) + (N - e)) by omega, dcn_app, dcn_app, Nat.zero_add, dcn_0 a 0 (fun j j1 j2 => by rw [decide_eq_false (fun z => by omega), Bool.false_and])]
  rw [dcn_0 (N - e) (a + (e - a)) (fun j j1 j2 => by rw [decide_eq_false (fun z => by omega), Bool.false_and])]
  rw [dcn_ext (D' := P) (e - a) a (fun j j1 j2 => by rw [decide_eq_true (show a ≤ j ∧ j < e by omega), Bool.true_and])]
  omega
theorem dcn_tot {f : Nat → Int32} {fl : Int32} {fF : Nat} (h57 : fl ≠ 57) (hfF : flo fl = true → f fF = fl) : ∀ (n k : Nat), dcn (eD f fl fF) n k + (if flo fl = true ∧ k ≤ fF ∧ fF < k + n ∧ f fF = fl then 1 else 0) = cnt f 57 k n + (if fl = 0 then 0 else cnt f fl k n) := by
  intro n
  induction n with
  | zero => intro k; rw [if_neg (fun z => by omega)]; by_cases h : fl = 0; rw [if_pos h]; rfl; rw [if_neg h]; rfl
  | succ n ih =>
    intro k
    have hi := ih (k + 1)
    rw [dcn_s, cnt_s, cnt_s]
    have hflo : flo fl = true → fl ≠ 0 := by rintro z rfl; rw [flo_0] at z; cases z
    by_cases h0 : fl = 0
    · have nf : ¬ flo fl = true := fun z => hflo z h0
      rw [if_neg (fun z => nf z.1), if_pos h0] at hi
      rw [if_neg (show ¬ (flo fl = true ∧ k ≤ fF ∧ fF < k + (n + 1) ∧ f fF = fl) from fun z => nf z.1), if_pos h0]
      by_cases g : f k = 57
      · rw [if_pos (show eD f fl fF k = true from decide_eq_true ⟨fun z => nf z.1, Or.inl g⟩), if_pos g]; omega
      · rw [if_neg (show ¬ eD f fl fF k = true from fun z => by
          rcases (of_decide_eq_true z).2 with y | y
          · exact g y
          · exact y.1 h0), if_neg g]; omega
    · rw [if_neg h0] at hi ⊢
      by_cases g : f k = 57
      · have gn : ¬ f k = fl := fun z => h57 (z.symm.trans g)
        rw [if_pos g, if_neg gn]
        by_cases hF : flo fl = true ∧ k = fF
        · exact absurd (hF.2 ▸ hfF hF.1) gn
        · rw [if_pos (show eD f fl fF k = true from decide_eq_true ⟨hF, Or.inl g⟩)]
          by_cases z : flo fl = true ∧ k + 1 ≤ fF ∧ fF < k + 1 + n ∧ f fF = fl
          · rw [if_pos z] at hi
            rw [if_pos ⟨z.1, by omega, by omega, z.2.2.2⟩]; omega
          · rw [if_neg z] at hi
            rw [if_neg (fun y => z ⟨y.1, by
              have : k ≠ fF := fun q => hF ⟨y.1, q⟩
              omega, by omega, y.2.2.2⟩)]; omega
      · rw [if_neg g]
        by_cases gl : f k = fl
        · rw [if_pos gl]
          by_cases hF : flo fl = true ∧ k = fF
          · rw [if_neg (show ¬ eD f fl fF k = true from fun z => (of_decide_eq_true z).1 hF), if_pos (show flo fl = true ∧ k ≤ fF ∧ fF < k + (n + 1) ∧ f fF = fl from ⟨hF.1, by omega, by omega, by rw [← hF.2]; exact gl⟩)]
            rw [if_neg (fun y => by omega)] at hi
            omega
          · rw [if_pos (show eD f fl fF k = true from decide_eq_true ⟨hF, Or.inr ⟨h0, gl⟩⟩)]
            by_cases z : flo fl = true ∧ k + 1 ≤ fF ∧ fF < k + 1 + n ∧ f fF = fl
            · rw [if_pos z] at hi
              rw [if_pos ⟨z.1, by omega, by omega, z.2.2.2⟩]; omega
            · rw [if_neg z] at hi
              rw [if_neg (fun y => z ⟨y.1, by
                have : k ≠ fF := fun q => hF ⟨y.1, q⟩
                omega, by omega, y.2.2.2⟩)]; omega
        · rw [if_neg gl, if_neg (show ¬ eD f fl fF k = true from fun z => by
            rcases (of_decide_eq_true z).2 with y | y
            · exact g y
            · exact gl y.2)]
          by_cases z : flo fl = true ∧ k + 1 ≤ fF ∧ fF < k + 1 + n ∧ f fF = fl
          · rw [if_pos z] at hi
            rw [if_pos ⟨z.1, by omega, by omega, z.2.2.2⟩]; omega
          · rw [if_neg z] at hi
            rw [if_neg (fun y => z ⟨y.1, by
              have : k ≠ fF := fun q => gl (by rw [q]; exact y.2.2.2)
              omega, by omega, y.2.2.2⟩)]; omega
theorem P_E372 {v f : Nat → Int32} {N R : Nat} {fl : Int32} {pt : Option Nat} (h0 : 0 < N) (hN : N ≤ 24) (hb : bdy f (eB f N - eA f N) (eA f N) 0 none = some (fl, pt)) (hR : R ≤ 24) : ∀ (n k fuel r late len : Nat) (u : Nat → Nat → Int32), k + n = N → n < fuel → (∀ j, u 3 (192 + j) = f j) → u 14 8 = vx pt → u 15 8 = nI len → dcn (dal f N fl) n k ≤ r → late + dcn (dal f N fl) n k ≤ R →
    ∃ u', m_M_isEdited_372 v fuel (nI N) (nI (eB f N)) (nI (eA f N)) fl (nI R) (nI r) (nI late) (fst1 f N fl k) (nI k) u = some (1, u') ∧
      (∀ a i, a ≠ 4 → a ≠ 15 → a ≠ 7 → a ≠ 8 → u' a i = u a i) ∧ (∀ i, i < 192 + k → u' 4 i = u 4 i) ∧ (∀ j, k ≤ j → j < N → u' 4 (192 + j) = if dal f N fl j then nI (r - dcn (dal f N fl) (j - k) k) else 0) ∧
      u' 15 8 = nI (len + wsm f n k) ∧ (∀ i, i ≠ 8 → u' 15 i = u 15 i ∧ u' 7 i = u 7 i ∧ u' 8 i = u 8 i) ∧
      u' 7 8 = nI (R - (late + dcn (fun j => dal f N fl j && decide (pt.getD (eB f N) < j)) n k)) ∧ u' 8 8 = nI (late + dcn (fun j => dal f N fl j && decide (pt.getD (eB f N) < j)) n k) := by
  intro n
  induction n with
  | zero =>
    intro k fuel r late len u hk hfu hf h14 h15 hr hl
    obtain ⟨fuel, rfl⟩ : ∃ z, fuel = z + 1 := ⟨fuel - 1, by omega⟩
    have hl : late ≤ R := hl
    refine ⟨zset (zset u 7 (upd (u 7) 8 (nI (R - late)))) 8 (upd (u 8) 8 (nI late)), ?_, ?_, ?_, ?_, ?_, ?_, ?_, ?_⟩
    · show m_M_isEdited_372b v _ (nI N) _ _ fl (nI R) (nI r) (nI late) _ (nI k) u = _
      unfold m_M_isEdited_372b
      rw [if_pos (nI_le (by omega) (by omega)), zix8, zix8, zbo_1, zau8, zau8, pk_sub hl, zset_n (j := 7) (k := 8) u _ (by decide)]
    · intro a i a4 a15 a7 a8
      rw [zset_n _ _ a8, zset_n _ _ a7]
    · intro i _
      rw [zset_n _ _ (by decide), zset_n _ _ (by decide)]
    · intro j j1 j2; omega
    · rw [zset_n _ _ (by decide), zset_n _ _ (by decide)]; exact h15
    · intro i hi
      refine ⟨?_, ?_, ?_⟩
      · rw [zset_n _ _ (by decide), zset_n _ _ (by decide)]
      · rw [zset_n _ _ (by decide), zset_s, pk_un hi]
      · rw [zset_s, pk_un hi]
    · rw [zset_n _ _ (by decide), zset_s, pk_us]; rfl
    · rw [zset_s, pk_us]; rfl
  | succ n ih =>
    intro k fuel r late len u hk hfu hf h14 h15 hr hl
    obtain ⟨fuel, rfl⟩ : ∃ z, fuel = z + 1 := ⟨fuel - 1, by omega⟩
    rw [dcn_s] at hr hl
    have hstep := P_E372s (v := v) (u := u) (r := r) (late := late) (len := len) (k := k) (fuel := fuel) (x10 := nI R) h0 hN hb hf (by omega) (fun z => by rw [if_pos z] at hr; omega) h14 h15
    rw [hstep]
    have hlt : (if (dal f N fl k && decide (pt.getD (eB f N) < k)) = true then 1 else 0) ≤ (if dal f N fl k = true then 1 else 0) := by
      cases dal f N fl k
      · simp
      · simp only [Bool.true_and, if_true]; split <;> omega
    obtain ⟨u', e1, e2, e3, e4, e5, e6, e7, e8⟩ := ih (k + 1) fuel (r - (if dal f N fl k then 1 else 0)) (late + (if (dal f N fl k && decide (pt.getD (eB f N) < k)) = true then 1 else 0)) (len + wd (f k)) (zset (zset u 4 (upd (u 4) (192 + k) (if dal f N fl k then nI r else 0))) 15 (upd (u 15) 8 (nI (len + wd (f k))))) (by omega) (by omega)
      (by intro j; rw [zset_n _ _ (by decide), zset_n _ _ (by decide)]; exact hf j) (by rw [zset_n _ _ (by decide), zset_n _ _ (by decide)]; exact h14) (by rw [zset_s, pk_us]) (by omega) (by omega)
    refine ⟨u', e1, ?_, ?_, ?_, ?_, ?_, ?_, ?_⟩
    · intro a i a4 a15 a7 a8
      rw [e2 a i a4 a15 a7 a8, zset_n _ _ a15, zset_n _ _ a4]
    · intro i hi
      rw [e3 i (by omega), zset_n _ _ (by decide), zset_s, pk_un (by omega)]
    · intro j j1 j2
      by_cases hj : j = k
      · subst hj
        rw [e3 (192 + j) (by omega), zset_n _ _ (by decide), zset_s, pk_us, Nat.sub_self]
        rfl
      · rw [e4 j (by omega) j2, show j - k = (j - (k + 1)) + 1 by omega, dcn_s]
        by_cases z : dal f N fl j = true
        · rw [if_pos z, if_pos z, Nat.sub_sub]
        · rw [if_neg z, if_neg z]
    · rw [e5, wsm_s, Nat.add_assoc]
    · intro i hi
      obtain ⟨z1, z2, z3⟩ := e6 i hi
      refine ⟨?_, ?_, ?_⟩
      · rw [z1, zset_s, pk_un hi]
      · rw [z2, zset_n _ _ (by decide), zset_n _ _ (by decide)]
      · rw [z3, zset_n _ _ (by decide), zset_n _ _ (by decide)]
    · rw [e7, dcn_s, Nat.add_assoc]
    · rw [e8, dcn_s, Nat.add_assoc]
