theorem P_E465 {v f : Nat → Int32} {u : Nat → Nat → Int32} {N e m k r late len : Nat} {pt : Option Nat} {x1 x2 x3 x7 x10 x13 : Int32} (is : Bool) (rec : Int32 → Int32 → Int32 → Int32 → Int32 → Int32 → Int32 → Int32 → Int32 → (Nat → Nat → Int32) → Option (Int32 × (Nat → Nat → Int32)))
    (hk : k < 24) (hm : m = pt.getD e) (hpt : ∀ w, pt = some w → w < 1000) (he : e ≤ 24) (hke : is = true → k < e) (hr : is = true → 1 ≤ r) (h14 : u 14 8 = vx pt) (h15 : u 15 8 = nI len) :
    m_M_isEdited_465 v rec x1 x2 x3 x7 x10 (nI r) (nI late) x13 (nI k) (f k) (if is then 1 else 0) u =
    rec x1 x2 x3 x7 x10 (nI (r - (if is then 1 else 0))) (nI (late + (if (is && decide (m < k)) = true then 1 else 0))) x13 (nI (k + 1)) (zset (zset u 4 (upd (u 4) (192 + k) (if is then nI r else 0))) 15 (upd (u 15) 8 (nI (len + wd (f k))))) := by
  have h536 : ∀ (w : Nat → Nat → Int32) (t0 : Nat) (x11 : Int32), w 15 8 = nI len → m_M_isEdited_536 v rec x1 x2 x3 x7 x10 x11 x13 (nI k) (f k) (nI t0) (nI late) w = rec x1 x2 x3 x7 x10 x11 (nI (late + t0)) x13 (nI (k + 1)) (zset w 15 (upd (w 15) 8 (nI (len + wd (f k))))) := by
    intro w t0 x11 hw
    unfold m_M_isEdited_536
    rw [zix8, P_width]
    simp only [Option.bind_some]
    rw [zix8, zau8, c8, hw, nI_add, nI_add, nI_1]
  have e192 : (192 : Int32) + nI k = nI (192 + k) := nI_add 192 k
  unfold m_M_isEdited_465 m_M_isEdited_486
  rw [e192]
  cases is
  · simp only [Bool.false_eq_true, if_false, if_true, Bool.false_and]
    rw [zix_ok (by omega) (by decide)]
    unfold m_M_isEdited_499 m_M_isEdited_535
    rw [if_pos rfl, zau_nI _ _ _ _ (by omega), show (0 : Int32) = nI 0 from rfl, h536 _ 0 _ (by rw [zset_n _ _ (by decide)]; exact h15), pk_sub (Nat.zero_le _), zset_n _ _ (by decide)]
  · simp only [if_true, show ¬ (1 : Int32) = 0 by decide, if_false, Bool.true_and]
    rw [zix_ok (by omega) (by decide)]
    unfold m_M_isEdited_499 m_M_isEdited_535
    rw [if_neg (by decide), zix8, zix8, zau_nI _ _ _ _ (by omega), c8, zset_n _ _ (by decide), h14, show (1 : Int32) = nI 1 from rfl, pk_sub (hr rfl)]
    have hw15 : (zset u 4 (upd (u 4) (192 + k) (nI r))) 15 8 = nI len := by rw [zset_n _ _ (by decide)]; exact h15
    cases pt with
    | none =>
      have : ¬ m < k := by rw [hm]; have := hke rfl; show ¬ e < k; omega
      rw [if_pos (show vx none < 0 by decide), decide_eq_false this, show (0 : Int32) = nI 0 from rfl, h536 _ 0 _ hw15, zset_n _ _ (by decide)]
      rfl
    | some w =>
      have hw := hpt w rfl
      have hmw : m = w := hm
      rw [if_neg (show ¬ vx (some w) < 0 from nI_pos (by omega)), hmw]
      by_cases g : w < k
      · rw [if_neg (show ¬ nI k ≤ vx (some w) from nI_ge g (by omega)), decide_eq_true g, h536 _ 1 _ hw15, zset_n _ _ (by decide)]
        rfl
      · rw [if_pos (show nI k ≤ vx (some w) from nI_le (by omega) (by omega)), decide_eq_false g, show (0 : Int32) = nI 0 from rfl, h536 _ 0 _ hw15, zset_n _ _ (by decide)]
        rfl
/-- the digits among all symbols -/
def dal (f : Nat → Int32) (N : Nat) (fl : Int32) (k : Nat) : Bool := decide (eA f N ≤ k ∧ k < eB f N) && edg f N fl k
/-- the flag that no fill has been seen -/
def fst1 (f : Nat → Int32) (N : Nat) (fl : Int32) (k : Nat) : Int32 := if flo fl = true ∧ k ≤ eF f N fl then 1 else 0
theorem P_E372s {v f : Nat → Int32} {u : Nat → Nat → Int32} {N r late len k fuel : Nat} {x10 fl : Int32} {pt : Option Nat} (h0 : 0 < N) (hN : N ≤ 24) (hb : bdy f (eB f N - eA f N) (eA f N) 0 none = some (fl, pt)) (hf : ∀ j, u 3 (192 + j) = f j) (hk : k < N) (hr : dal f N fl k = true → 1 ≤ r) (h14 : u 14 8 = vx pt) (h15 : u 15 8 = nI len) :
    m_M_isEdited_372 v (fuel + 1) (nI N) (nI (eB f N)) (nI (eA f N)) fl x10 (nI r) (nI late) (fst1 f N fl k) (nI k) u =
    m_M_isEdited_372 v fuel (nI N) (nI (eB f N)) (nI (eA f N)) fl x10 (nI (r - (if dal f N fl k then 1 else 0))) (nI (late + (if (dal f N fl k && decide (pt.getD (eB f N) < k)) = true then 1 else 0))) (fst1 f N fl (k + 1)) (nI (k + 1)) (zset (zset u 4 (upd (u 4) (192 + k) (if dal f N fl k then nI r else 0))) 15 (upd (u 15) 8 (nI (len + wd (f k))))) := by
  have hA := eA_le f N
  have hB := eB_le f N
  obtain ⟨b1, b2, b3, b4, b5, b6⟩ := EB_facts hb
  have hflo : flo fl = true → fl ≠ 0 := by rintro z rfl; rw [flo_0] at z; cases z
  have hfl57 : flo fl = true → ¬ fl = 57 := by rintro z rfl; exact absurd z (by decide)
  have h465 := fun (is : Bool) (x13 : Int32) (hke : is = true → k < eB f N) (hri : is = true → 1 ≤ r) => P_E465 (v := v) (f := f) (u := u) (N := N) (x1 := nI N) (x2 := nI (eB f N)) (x3 := nI (eA f N)) (x7 := fl) (x10 := x10) (x13 := x13) (late := late) is (m_M_isEdited_372 v fuel) (show k < 24 by omega) rfl (fun w hw => by have := b2 w hw; omega) (show eB f N ≤ 24 by omega) hke hri h14 h15
  show m_M_isEdited_372b v (m_M_isEdited_372 v fuel) (nI N) (nI (eB f N)) (nI (eA f N)) fl x10 (nI r) (nI late) (fst1 f N fl k) (nI k) u = _
  unfold m_M_isEdited_372b
  have hsy := P_sym (f := 8) (k := k) (by omega) (by omega) v u
  rw [show 24 * 8 + k = 192 + k by omega, hf k] at hsy
  rw [if_neg (nI_ge hk (by omega)), show (8 : Int32) = nI 8 from rfl, hsy]
  simp only [Option.bind_some]
  -- not in the body or no digit or fill
  have out : dal f N fl k = false → fst1 f N fl k = fst1 f N fl (k + 1) → m_M_isEdited_423 v (m_M_isEdited_372 v fuel) (nI N) (nI (eB f N)) (nI (eA f N)) fl x10 (nI r) (nI late) (fst1 f N fl k) (nI k) (f k) u =
      m_M_isEdited_372 v fuel (nI N) (nI (eB f N)) (nI (eA f N)) fl x10 (nI (r - (if dal f N fl k then 1 else 0))) (nI (late + (if (dal f N fl k && decide (pt.getD (eB f N) < k)) = true then 1 else 0))) (fst1 f N fl (k + 1)) (nI (k + 1)) (zset (zset u 4 (upd (u 4) (192 + k) (if dal f N fl k then nI r else 0))) 15 (upd (u 15) 8 (nI (len + wd (f k))))) := by
    intro d1 d2
    unfold m_M_isEdited_423 m_M_isEdited_424 m_M_isEdited_447 m_M_isEdited_448
    rw [if_pos rfl, if_pos rfl, d2]
    have := h465 false (fst1 f N fl (k + 1)) (fun z => by cases z) (fun z => by cases z)
    rw [d1]
    exact this
  have inn : eA f N ≤ k → k < eB f N → (f k = 57 ∨ (fl ≠ 0 ∧ f k = fl)) → m_M_isEdited_419 v (m_M_isEdited_372 v fuel) (nI N) (nI (eB f N)) (nI (eA f N)) fl x10 (nI r) (nI late) (fst1 f N fl k) (nI k) (f k) u =
      m_M_isEdited_372 v fuel (nI N) (nI (eB f N)) (nI (eA f N)) fl x10 (nI (r - (if dal f N fl k then 1 else 0))) (nI (late + (if (dal f N fl k && decide (pt.getD (eB f N) < k)) = true then 1 else 0))) (fst1 f N fl (k + 1)) (nI (k + 1)) (zset (zset u 4 (upd (u 4) (192 + k) (if dal f N fl k then nI r else 0))) 15 (upd (u 15) 8 (nI (len + wd (f k))))) := by
    intro k1 k2 hin
    unfold m_M_isEdited_419 m_M_isEdited_424 m_M_isEdited_447 m_M_isEdited_443 m_M_isEdited_448
    rw [if_neg (by decide)]
    simp only [show ¬ (1 : Int32) = 0 by decide, if_false]
    by_cases g1 : flo fl = true ∧ k ≤ eF f N fl
    · have hx : fst1 f N fl k = 1 := if_pos g1
      obtain ⟨-, q2, q3, q4, q5⟩ := eF_is hN (b3 (hflo g1.1)).2
      rw [hx, if_neg (by decide)]
      by_cases g2 : f k = fl
      · have hkF : k = eF f N fl := by
          rcases Nat.lt_or_ge k (eF f N fl) with z | z
          · exact absurd g2 (q5 k k1 z)
          · omega
        have hd : dal f N fl k = false := by
          unfold dal edg
          rw [show eD f fl (eF f N fl) k = false from decide_eq_false (fun z => z.1 ⟨g1.1, hkF⟩), Bool.and_false]
        have hx2 : fst1 f N fl (k + 1) = 0 := if_neg (fun z => by omega)
        rw [if_pos g2, if_pos g2, hd, hx2]
        exact h465 false 0 (fun z => by cases z) (fun z => by cases z)
      · have h57 : f k = 57 := by
          rcases hin with z | z
          · exact z
          · exact absurd z.2 g2
        have hkF : k ≠ eF f N fl := fun z => by rw [z] at g2; exact g2 q4
        have hd : dal f N fl k = true := by
          unfold dal edg
          rw [decide_eq_true (show eA f N ≤ k ∧ k < eB f N from ⟨k1, k2⟩), Bool.true_and]
          exact decide_eq_true ⟨fun z => hkF z.2, hin⟩
        have hx2 : fst1 f N fl (k + 1) = 1 := if_pos ⟨g1.1, by omega⟩
        rw [if_neg g2, if_neg g2, hd, hx2]
        exact h465 true 1 (fun _ => k2) (fun _ => hr hd)
    · have hx : fst1 f N fl k = 0 := if_neg g1
      have hx2 : fst1 f N fl (k + 1) = 0 := if_neg (fun z => g1 ⟨z.1, by omega⟩)
      have hd : dal f N fl k = true := by
        unfold dal edg
        rw [decide_eq_true (show eA f N ≤ k ∧ k < eB f N from ⟨k1, k2⟩), Bool.true_and]
        exact decide_eq_true ⟨fun z => g1 ⟨z.1, by omega⟩, hin⟩
      rw [hx, if_pos rfl, hd, hx2]
      have := h465 true 0 (fun _ => k2) (fun _ => hr hd)
      by_cases g2 : f k = fl
      · rw [if_pos g2]; exact this
      · rw [if_neg g2]; exact this
  by_cases c1 : k < eA f N
  · rw [if_pos (nI_lt c1 (by omega))]
    refine out (by unfold dal; rw [decide_eq_false (fun z => by omega), Bool.false_and]) ?_
    unfold fst1
    by_cases g : flo fl = true
    · obtain ⟨-, q2, -⟩ := eF_is hN (b3 (hflo g)).2
      rw [if_pos ⟨g, by omega⟩, if_pos ⟨g, by omega⟩]
    · rw [if_neg (fun z => g z.1), if_neg (fun z => g z.1)]
  · rw [if_neg (nI_nlt (by omega) (by omega))]
    by_cases c2 : k < eB f N
    · rw [if_neg (nI_ge c2 (by omega))]
      by_cases c3 : f k = 57
      · rw [if_pos c3]; exact inn (by omega) c2 (Or.inl c3)
      · rw [if_neg c3]
        by_cases c4 : fl = 0
        · rw [if_pos c4]
          refine out ?_ ?_
          · unfold dal edg
            rw [show eD f fl (eF f N fl) k = false from decide_eq_false (fun z => by
              rcases z.2 with y | y
              · exact c3 y
              · exact y.1 c4), Bool.and_false]
          · unfold fst1
            rw [if_neg (fun z => hflo z.1 c4), if_neg (fun z => hflo z.1 c4)]
        · rw [if_neg c4]
          by_cases c5 : f k = fl
          · rw [if_pos c5]; exact inn (by omega) c2 (Or.inr ⟨c4, c5⟩)
          · rw [if_neg c5]
            refine out ?_ ?_
            · unfold dal edg
              rw [show eD f fl (eF f N fl) k = false from decide_eq_false (fun z => by
                rcases z.2 with y | y
                · exact c3 y
                · exact c5 y.2), Bool.and_false]
            · unfold fst1
              by_cases g : flo fl = true
              · obtain ⟨-, -, -, q4, -⟩ := eF_is hN (b3 c4).2
                have : k ≠ eF f N fl := fun z => by rw [z] at c5; exact c5 q4
                by_cases g2 : k ≤ eF f N fl
                · rw [if_pos ⟨g, g2⟩, if_pos ⟨g, by omega⟩]
                · rw [if_neg (fun z => g2 z.2), if_neg (fun z => by omega)]
              · rw [if_neg (fun z => g z.1), if_neg (fun z => g z.1)]
    · rw [if_pos (nI_le (by omega) (by omega))]
      refine out (by unfold dal; rw [decide_eq_false (fun z => by omega), Bool.false_and]) ?_
      unfold fst1
      by_cases g : flo fl = true
      · obtain ⟨-, -, q3, -⟩ := eF_is hN (b3 (hflo g)).2
        rw [if_neg (fun z => by omega), if_neg (fun z => by omega)]
      · rw [if_neg (fun z => g z.1), if_neg (fun z => g z.1)]
