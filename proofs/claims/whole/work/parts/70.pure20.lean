theorem C_csym {v b rw pw : Nat → Int32} {k : Nat} (hk : k < 24) : m_E_countSymbol (nI k) v b rw pw =
    if iF (rw k) = true then m_E_countSymbol_124 b rw pw (nI k) v else if rw k = 46 ∨ rw k = 86 then m_E_countSymbol_130 b rw pw (nI k) v
    else if rw k = 57 then some (1, upd v 14 (v 14 + 1)) else if iI (rw k) = true then some (1, v) else some (0, v) := by
  unfold m_E_countSymbol
  rw [zix_ok hk (by decide), nI_clamp (by omega)]
  simp only [zbo_0, zbo_1]
  generalize rw k = x
  by_cases h1 : x = 36
  · subst h1; rfl
  by_cases h2 : x = 42
  · subst h2; rfl
  by_cases h3 : x = 43
  · subst h3; rfl
  by_cases h4 : x = 44
  · subst h4; rfl
  by_cases h5 : x = 45
  · subst h5; rfl
  by_cases h6 : x = 46
  · subst h6; rfl
  by_cases h7 : x = 47
  · subst h7; rfl
  by_cases h8 : x = 48
  · subst h8; rfl
  by_cases h9 : x = 57
  · subst h9; rfl
  by_cases h10 : x = 66
  · subst h10; rfl
  by_cases h11 : x = 86
  · subst h11; rfl
  by_cases h12 : x = 90
  · subst h12; rfl
  rw [if_neg h1, if_neg h2, if_neg h3, if_neg h4, if_neg h5, if_neg h6, if_neg h7, if_neg h8, if_neg h9, if_neg h10, if_neg h11, if_neg h12]
  rw [if_neg (show ¬ iF x = true from fun e => by have := of_decide_eq_true e; simp [h1, h2, h3, h5, h12] at this), if_neg (show ¬ (x = 46 ∨ x = 86) by simp [h6, h11]), if_neg h9, if_neg (show ¬ iI x = true from fun e => by have := of_decide_eq_true e; simp [h4, h7, h8, h10] at this)]
theorem C_fill0 {v b rw pw : Nat → Int32} {k : Nat} (hk : k < 24) (h : v 12 = 0) : m_E_countSymbol_124 b rw pw (nI k) v = some (1, upd (upd (upd v 11 (rw k)) 13 (nI k)) 12 1) := by
  unfold m_E_countSymbol_124 m_E_countFill m_E_countFill_22
  rw [if_pos h, zix_ok hk (by decide), nI_clamp (by omega), zix_ok hk (by decide)]
  have e1 : (upd (upd v 11 (rw k)) 13 (nI k)) 12 = 0 := by rw [pk_un (by decide), pk_un (by decide)]; exact h
  rw [e1]
  have e2 : (upd (upd (upd v 11 (rw k)) 13 (nI k)) 12 (0 + 1)) 11 = rw k := by rw [pk_un (by decide), pk_un (by decide), pk_us]
  rw [e2, if_pos rfl, zbo_1]
  simp only [Option.bind_some]
  rw [zbo_1]
  rfl
theorem C_fill1 {v b rw pw : Nat → Int32} {k : Nat} (hk : k < 24) (h : ¬ v 12 = 0) : m_E_countSymbol_124 b rw pw (nI k) v = some (if rw k = v 11 then 1 else 0, upd v 12 (v 12 + 1)) := by
  unfold m_E_countSymbol_124 m_E_countFill m_E_countFill_22
  rw [if_neg h, zix_ok hk (by decide), nI_clamp (by omega), pk_un (by decide)]
  by_cases g : rw k = v 11
  · rw [if_pos g, if_pos g, zbo_1]
    simp only [Option.bind_some]
    rw [zbo_1]
  · rw [if_neg g, if_neg g, zbo_0]
    simp only [Option.bind_some]
    rw [zbo_0]
theorem C_cb0 {b rw pw : Nat → Int32} {e : Nat} (he : e ≤ 24) : ∀ (n k fuel : Nat) (v : Nat → Int32), k + n = e → n < fuel → v 10 = nI e → m_E_countBody_38 b rw pw fuel 0 (nI k) v = some (0, v) := by
  intro n
  induction n with
  | zero =>
    intro k fuel v hk hf h10
    obtain ⟨fuel, rfl⟩ : ∃ z, fuel = z + 1 := ⟨fuel - 1, by omega⟩
    show m_E_countBody_38b b rw pw _ 0 (nI k) v = _
    unfold m_E_countBody_38b
    rw [h10, if_pos (nI_le (by omega) (by omega)), zbo_0]
  | succ n ih =>
    intro k fuel v hk hf h10
    obtain ⟨fuel, rfl⟩ : ∃ z, fuel = z + 1 := ⟨fuel - 1, by omega⟩
    show m_E_countBody_38b b rw pw (m_E_countBody_38 b rw pw fuel) 0 (nI k) v = _
    unfold m_E_countBody_38b m_E_countBody_62 m_E_countBody_63
    rw [h10, if_neg (nI_ge (by omega) (by omega)), if_pos rfl, nI_1]
    exact ih (k + 1) fuel v (by omega) (by omega) h10
/-- what the class has counted of a body -/
def cbr (f v v' : Nat → Int32) (k n e cF c9 : Nat) (fl : Int32) (q : Int32 × Option Nat) : Prop :=
  (∀ j, j ≠ 11 → j ≠ 12 → j ≠ 13 → j ≠ 14 → j ≠ 15 → v' j = v j) ∧ v' 11 = (if q.1 = 0 then -1 else q.1) ∧ v' 12 = nI (if q.1 = 0 then 0 else cF + cnt f q.1 k n) ∧
  v' 13 = (if fl = 0 ∧ q.1 ≠ 0 then fstI f q.1 k n else v 13) ∧ v' 14 = nI (c9 + cnt f 57 k n) ∧ v' 15 = nI (q.2.getD e)
theorem C_cb_l {b rw pw : Nat → Int32} {e : Nat} (he : e ≤ 24) : ∀ (n k fuel : Nat) (v : Nat → Int32) (fl : Int32) (pt : Option Nat) (c9 cF : Nat), k + n = e → n < fuel → v 10 = nI e → v 11 = (if fl = 0 then -1 else fl) → v 12 = nI cF → (fl = 0 ↔ cF = 0) → cF ≤ k → c9 ≤ k → v 14 = nI c9 → v 15 = nI (pt.getD e) → (∀ w, pt = some w → w < k) → (fl ≠ 0 → iF fl = true) →
    (match bdy rw n k fl pt with
     | some q => ∃ v', m_E_countBody_38 b rw pw fuel 1 (nI k) v = some (1, v') ∧ cbr rw v v' k n e cF c9 fl q
     | none => ∃ v', m_E_countBody_38 b rw pw fuel 1 (nI k) v = some (0, v')) := by
  intro n
  induction n with
  | zero =>
    intro k fuel v fl pt c9 cF hk hf h10 h11 h12 hfc hcF hc9 h14 h15 hw hif
    obtain ⟨fuel, rfl⟩ : ∃ z, fuel = z + 1 := ⟨fuel - 1, by omega⟩
    refine ⟨v, ?_, fun _ _ _ _ _ _ => rfl, h11, ?_, ?_, h14, h15⟩
    · show m_E_countBody_38b b rw pw _ 1 (nI k) v = _
      unfold m_E_countBody_38b
      rw [h10, if_pos (nI_le (by omega) (by omega)), zbo_1]
    · rw [h12]
      by_cases h : fl = 0
      · rw [if_pos h, hfc.mp h]
      · rw [if_neg h]; rfl
    · rw [if_neg (fun z => z.2 z.1)]
  | succ n ih =>
    intro k fuel v fl pt c9 cF hk hf h10 h11 h12 hfc hcF hc9 h14 h15 hw hif
    obtain ⟨fuel, rfl⟩ : ∃ z, fuel = z + 1 := ⟨fuel - 1, by omega⟩
    have hA : m_E_countBody_38 b rw pw (fuel + 1) 1 (nI k) v = (m_E_countSymbol (nI k) v b rw pw).bind (fun q4 => (if q4.1 = 0 then m_E_countBody_38 b rw pw fuel 0 (nI (k + 1)) q4.2 else m_E_countBody_38 b rw pw fuel 1 (nI (k + 1)) q4.2)) := by
      show m_E_countBody_38b b rw pw (m_E_countBody_38 b rw pw fuel) 1 (nI k) v = _
      unfold m_E_countBody_38b m_E_countBody_62 m_E_countBody_63
      rw [h10, if_neg (nI_ge (by omega) (by omega)), if_neg (by decide), nI_1]
    have hno : ∀ v', m_E_countSymbol (nI k) v b rw pw = some (0, v') → v' 10 = nI e → ∃ v', m_E_countBody_38 b rw pw (fuel + 1) 1 (nI k) v = some (0, v') := by
      intro v' h1 h2
      refine ⟨v', ?_⟩
      rw [hA, h1]
      simp only [Option.bind_some, if_true]
      exact C_cb0 he n (k + 1) fuel v' (by omega) (by omega) h2
    have hyes : ∀ v', m_E_countSymbol (nI k) v b rw pw = some (1, v') → m_E_countBody_38 b rw pw (fuel + 1) 1 (nI k) v = m_E_countBody_38 b rw pw fuel 1 (nI (k + 1)) v' := by
      intro v' h1
      rw [hA, h1]
      simp only [Option.bind_some, show ¬ (1 : Int32) = 0 by decide, if_false]
    have hC := C_csym (v := v) (b := b) (rw := rw) (pw := pw) (k := k) (by omega)
    unfold bdy
    by_cases h1 : iF (rw k) = true
    · have hne := iF_ne h1
      rw [if_pos h1] at hC
      simp only [if_pos h1]
      by_cases h2 : fl = 0
      · have c0 := hfc.mp h2
        have z12 : v 12 = 0 := by rw [h12, c0]; rfl
        rw [C_fill0 (by omega) z12] at hC
        have hy := hyes _ hC
        have hi := ih (k + 1) fuel (upd (upd (upd v 11 (rw k)) 13 (nI k)) 12 1) (rw k) pt c9 1 (by omega) (by omega)
          (by rw [pk_un (by decide), pk_un (by decide), pk_un (by decide)]; exact h10)
          (by rw [pk_un (by decide), pk_un (by decide), pk_us, if_neg hne.1])
          pk_us ⟨fun z => absurd z hne.1, fun z => absurd z (by decide)⟩ (by omega) (by omega)
          (by rw [pk_un (by decide), pk_un (by decide), pk_un (by decide)]; exact h14)
          (by rw [pk_un (by decide), pk_un (by decide), pk_un (by decide)]; exact h15)
          (fun w z => by have := hw w z; omega) (fun _ => h1)
        simp only [if_pos (show fl = 0 ∨ fl = rw k from Or.inl h2)]
        rw [hy]
        cases hq : bdy rw n (k + 1) (rw k) pt with
        | none => rw [hq] at hi; exact hi
        | some q =>
          rw [hq] at hi
          obtain ⟨v', e1, g0, g1, g2, g3, g4, g5⟩ := hi
          obtain ⟨q1, -⟩ := bdy_fl _ _ _ _ _ hq
          have q1 := q1 hne.1
          refine ⟨v', e1, fun j j1 j2 j3 j4 j5 => ?_, g1, ?_, ?_, ?_, g5⟩
          · rw [g0 j j1 j2 j3 j4 j5, pk_un j2, pk_un j3, pk_un j1]
          · rw [g2, q1, if_neg hne.1, if_neg hne.1, cnt_s, if_pos rfl, c0, Nat.zero_add]
          · rw [g3, if_neg (fun z => hne.1 z.1), pk_un (by decide), pk_us, if_pos ⟨h2, by rw [q1]; exact hne.1⟩, q1]
            show _ = if rw k = rw k then nI k else _
            rw [if_pos rfl]
          · rw [g4, cnt_s, if_neg hne.2.1, Nat.zero_add]
      · have c0 : cF ≠ 0 := fun z => h2 (hfc.mpr z)
        have z12 : ¬ v 12 = 0 := by rw [h12]; exact nI_ne0 (by omega) (by omega)
        rw [C_fill1 (by omega) z12, h11, if_neg h2] at hC
        by_cases h3 : fl = rw k
        · rw [if_pos h3.symm, h12, nI_1] at hC
          have hy := hyes _ hC
          have hi := ih (k + 1) fuel (upd v 12 (nI (cF + 1))) (rw k) pt c9 (cF + 1) (by omega) (by omega)
            (by rw [pk_un (by decide)]; exact h10)
            (by rw [pk_un (by decide), h11, if_neg h2, if_neg hne.1, h3])
            pk_us ⟨fun z => absurd z hne.1, fun z => absurd z (by omega)⟩ (by omega) (by omega)
            (by rw [pk_un (by decide)]; exact h14)
            (by rw [pk_un (by decide)]; exact h15)
            (fun w z => by have := hw w z; omega) (fun _ => h1)
          simp only [if_pos (show fl = 0 ∨ fl = rw k from Or.inr h3)]
          rw [hy]
          cases hq : bdy rw n (k + 1) (rw k) pt with
          | none => rw [hq] at hi; exact hi
          | some q =>
            rw [hq] at hi
            obtain ⟨v', e1, g0, g1, g2, g3, g4, g5⟩ := hi
            obtain ⟨q1, -⟩ := bdy_fl _ _ _ _ _ hq
            have q1 := q1 hne.1
            refine ⟨v', e1, fun j j1 j2 j3 j4 j5 => ?_, g1, ?_, ?_, ?_, g5⟩
            · rw [g0 j j1 j2 j3 j4 j5, pk_un j2]
            · rw [g2, q1, if_neg hne.1, if_neg hne.1, cnt_s, if_pos rfl, Nat.add_assoc]
            · rw [g3, if_neg (fun z => hne.1 z.1), pk_un (by decide), if_neg (fun z => h2 z.1)]
            · rw [g4, cnt_s, if_neg hne.2.1, Nat.zero_add]
        · rw [if_neg (fun z => h3 z.symm)] at hC
          simp only [if_neg (show ¬ (fl = 0 ∨ fl = rw k) by simp [h2, h3])]
          exact hno _ hC (by rw [pk_un (by decide)]; exact h10)
    · rw [if_neg h1] at hC
      simp only [if_neg h1]
      have hfst : ∀ q : Int32 × Option Nat, (fl = 0 → q.1 ≠ 0 → iF q.1 = true) → (fl = 0 ∧ q.1 ≠ 0) → fstI rw q.1 k (n + 1) = fstI rw q.1 (k + 1) n := by
        intro q g z
        show (if rw k = q.1 then nI k else fstI rw q.1 (k + 1) n) = _
        rw [if_neg]
        intro y
        rw [y] at h1
        exact h1 (g z.1 z.2)
      have hcn : ∀ q : Int32 × Option Nat, (fl ≠ 0 → q.1 = fl) → (fl = 0 → q.1 ≠ 0 → iF q.1 = true) → q.1 ≠ 0 → cnt rw q.1 k (n + 1) = cnt rw q.1 (k + 1) n := by
        intro q g1 g3 z
        rw [cnt_s, if_neg, Nat.zero_add]
        intro y
        rw [y] at h1
        by_cases hz : fl = 0
        · exact h1 (g3 hz z)
        · exact h1 (by rw [g1 hz]; exact hif hz)
      have fin : ∀ (w : Nat → Int32) (pt' : Option Nat) (d9 : Nat), (∀ j, j ≠ 14 → j ≠ 15 → w j = v j) → w 14 = nI (c9 + d9) → w 15 = nI (pt'.getD e) → (∀ x, pt' = some x → x < k + 1) → d9 = (if rw k = 57 then 1 else 0) → m_E_countSymbol (nI k) v b rw pw = some (1, w) →
          (match bdy rw n (k + 1) fl pt' with
           | some q => ∃ v', m_E_countBody_38 b rw pw (fuel + 1) 1 (nI k) v = some (1, v') ∧ cbr rw v v' k (n + 1) e cF c9 fl q
           | none => ∃ v', m_E_countBody_38 b rw pw (fuel + 1) 1 (nI k) v = some (0, v')) := by
        intro w pt' d9 hj w14 w15 hp hd hC
        have hd1 : d9 ≤ 1 := by rw [hd]; split <;> omega
        have hi := ih (k + 1) fuel w fl pt' (c9 + d9) cF (by omega) (by omega) ((hj 10 (by decide) (by decide)).trans h10) ((hj 11 (by decide) (by decide)).trans h11) ((hj 12 (by decide) (by decide)).trans h12) hfc (by omega) (by omega) w14 w15 hp hif
        rw [hyes _ hC]
        cases hq : bdy rw n (k + 1) fl pt' with
        | none => rw [hq] at hi; exact hi
        | some q =>
          rw [hq] at hi
          obtain ⟨v', e1, g0, g1, g2, g3, g4, g5⟩ := hi
          obtain ⟨q1, q2⟩ := bdy_fl _ _ _ _ _ hq
          refine ⟨v', e1, fun j j1 j2 j3 j4 j5 => ?_, g1, ?_, ?_, ?_, g5⟩
          · rw [g0 j j1 j2 j3 j4 j5, hj j j4 j5]
          · rw [g2]
            by_cases z : q.1 = 0
            · rw [if_pos z, if_pos z]
            · rw [if_neg z, if_neg z, hcn q q1 q2 z]
          · rw [g3]
            by_cases z : fl = 0 ∧ q.1 ≠ 0
            · rw [if_pos z, if_pos z, hfst q q2 z]
            · rw [if_neg z, if_neg z, hj 13 (by decide) (by decide)]
          · rw [g4, cnt_s, hd, Nat.add_assoc]
      by_cases h2 : rw k = 46 ∨ rw k = 86
      · simp only [if_pos h2] at hC ⊢
        have h57 : ¬ rw k = 57 := by
          rcases h2 with h2 | h2 <;> rw [h2] <;> decide
        unfold m_E_countSymbol_130 m_E_countSymbol_146 at hC
        rw [h15, h10] at hC
        cases pt with
        | none =>
          rw [if_pos (show nI (Option.getD (none : Option Nat) e) = nI e from rfl), zbo_1] at hC
          simp only [if_true]
          exact fin _ (some k) 0 (fun j _ j5 => pk_un j5) (by rw [pk_un (by decide)]; exact h14) pk_us (fun x z => by cases z; omega) (by rw [if_neg h57]) hC
        | some w =>
          have := hw w rfl
          rw [if_neg (show ¬ nI (Option.getD (some w) e) = nI e from fun z => by have := (nI_eq (by show w < _; omega) (by omega)).mp z; simp at this; omega), zbo_0] at hC
          simp only [if_neg (show ¬ (some w = (none : Option Nat)) by simp)]
          exact hno _ hC (by rw [pk_un (by decide)]; exact h10)
      · simp only [if_neg h2] at hC ⊢
        by_cases h3 : rw k = 57
        · simp only [if_pos h3] at hC
          simp only [if_pos (show rw k = 57 ∨ iI (rw k) = true from Or.inl h3)]
          exact fin _ pt 1 (fun j j4 _ => pk_un j4) (by rw [pk_us, h14, nI_1]) (by rw [pk_un (by decide)]; exact h15) (fun x z => by have := hw x z; omega) (by rw [if_pos h3]) hC
        · simp only [if_neg h3] at hC
          by_cases h4 : iI (rw k) = true
          · simp only [if_pos h4] at hC
            simp only [if_pos (show rw k = 57 ∨ iI (rw k) = true from Or.inr h4)]
            exact fin v pt 0 (fun j _ _ => rfl) h14 h15 (fun x z => by have := hw x z; omega) (by rw [if_neg h3]) hC
          · simp only [if_neg h4] at hC
            simp only [if_neg (show ¬ (rw k = 57 ∨ iI (rw k) = true) by simp [h3, h4])]
            exact hno v hC h10
theorem C_countBody {v b rw pw : Nat → Int32} {a e : Nat} (hae : a ≤ e) (he : e ≤ 24) (h9 : v 9 = nI a) (h10 : v 10 = nI e) :
    (match bdy rw (e - a) a 0 none with
     | some q => ∃ v', m_E_countBody v b rw pw = some (1, v') ∧ (∀ j, j ≠ 11 → j ≠ 12 → j ≠ 13 → j ≠ 14 → j ≠ 15 → v' j = v j) ∧ v' 11 = (if q.1 = 0 then -1 else q.1) ∧ v' 12 = nI (if q.1 = 0 then 0 else cnt rw q.1 a (e - a)) ∧
       v' 13 = (if q.1 ≠ 0 then fstI rw q.1 a (e - a) else nI e) ∧ v' 14 = nI (cnt rw 57 a (e - a)) ∧ v' 15 = nI (q.2.getD e)
     | none => ∃ v', m_E_countBody v b rw pw = some (0, v')) := by
  have k10 : (upd (upd v 11 (-1)) 12 0) 10 = nI e := by rw [pk_un (by decide), pk_un (by decide)]; exact h10
  have k10' : (upd (upd (upd (upd v 11 (-1)) 12 0) 13 (nI e)) 14 0) 10 = nI e := by rw [pk_un (by decide), pk_un (by decide)]; exact k10
  have hm : m_E_countBody v b rw pw = m_E_countBody_38 b rw pw 64 1 (nI a) (upd (upd (upd (upd (upd v 11 (-1)) 12 0) 13 (nI e)) 14 0) 15 (nI e)) := by
    unfold m_E_countBody m_E_countBody_31
    rw [k10, k10']
    rw [show (upd (upd (upd (upd (upd v 11 (-1)) 12 0) 13 (nI e)) 14 0) 15 (nI e)) 9 = nI a by rw [pk_un (by decide), pk_un (by decide), pk_un (by decide), pk_un (by decide), pk_un (by decide)]; exact h9]
  have h := C_cb_l (b := b) (rw := rw) (pw := pw) he (e - a) a 64 (upd (upd (upd (upd (upd v 11 (-1)) 12 0) 13 (nI e)) 14 0) 15 (nI e)) 0 none 0 0 (by omega) (by omega)
    (by rw [pk_un (by decide)]; exact k10') (by rw [pk_un (by decide), pk_un (by decide), pk_un (by decide), pk_un (by decide), pk_us, if_pos rfl]) (by rw [pk_un (by decide), pk_un (by decide), pk_un (by decide), pk_us]; rfl) ⟨fun _ => rfl, fun _ => rfl⟩ (by omega) (by omega)
    (by rw [pk_un (by decide), pk_us]; rfl) pk_us (fun w z => by cases z) (fun z => absurd rfl z)
  rw [hm]
  cases hq : bdy rw (e - a) a 0 none with
  | none => rw [hq] at h; exact h
  | some q =>
    rw [hq] at h
    obtain ⟨v', e1, g0, g1, g2, g3, g4, g5⟩ := h
    refine ⟨v', e1, fun j j1 j2 j3 j4 j5 => ?_, g1, ?_, ?_, ?_, g5⟩
    · rw [g0 j j1 j2 j3 j4 j5, pk_un j5, pk_un j4, pk_un j3, pk_un j2, pk_un j1]
    · rw [g2, Nat.zero_add]
    · rw [g3]
      by_cases z : q.1 = 0
      · rw [if_neg (fun y => y.2 z), if_neg (fun y => y z), pk_un (by decide), pk_un (by decide), pk_us]
      · rw [if_pos ⟨rfl, z⟩, if_pos z]
    · rw [g4, Nat.zero_add]
