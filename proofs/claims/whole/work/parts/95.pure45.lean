/-- the digits of an edited picture -/
def EDg (g : Nat → Int32) (N A B F : Nat) (fl : Int32) (D : Nat → Bool) (R : Nat) : Prop :=
  (∀ j, D j = true ↔ (A ≤ j ∧ j < B) ∧ ¬ (flo fl = true ∧ j = F) ∧ (g j = 57 ∨ (fl ≠ 0 ∧ g j = fl))) ∧ dcn D N 0 = R ∧ 1 ≤ R ∧ R ≤ 12
/-- what the class keeps -/
def EC (v pw : Nat → Int32) (g : Nat → Int32) (N A B M F : Nat) (fl : Int32) (T : Bool) (D : Nat → Bool) (sg before behind : Nat) : Prop :=
  v 1 = nI (wsm g N 0) ∧ v 2 = nI before ∧ v 3 = nI behind ∧ v 4 = nI sg ∧ v 8 = (if T = true then g (N - 1) else -1) ∧ v 9 = nI A ∧ v 10 = nI B ∧ v 11 = (if fl = 0 then -1 else fl) ∧ v 13 = nI F ∧ v 14 = nI (cnt g 57 A (B - A)) ∧ v 15 = nI M ∧
  (∀ j, A ≤ j → j < B → if D j = true then (pw j).toInt = (before : Int) - 1 - dcn D j 0 else pw j = 99)
/-- what the reference keeps -/
def ER (u : Nat → Nat → Int32) (x : Nat) (g : Nat → Int32) (N A B M : Nat) (fl : Int32) (D : Nat → Bool) (R sg before behind : Nat) : Prop :=
  u 2 x = nI N ∧ (∀ j, j < N → u 3 (24 * x + j) = g j) ∧ (∀ j, j < N → u 4 (24 * x + j) = if D j = true then nI (R - dcn D j 0) else 0) ∧ u 5 x = 2 ∧ u 7 x = nI before ∧ u 8 x = nI behind ∧ u 9 x = nI sg ∧ u 11 x = fl ∧ u 12 x = nI A ∧ u 13 x = nI B ∧
  (∀ j, j < B → (nI j = u 14 x ↔ j = M)) ∧ u 15 x = nI (wsm g N 0)
/-- all of an edited field's picture -/
def EX (g : Nat → Int32) (N A B M F : Nat) (fl : Int32) (T : Bool) (D : Nat → Bool) (R sg before behind : Nat) : Prop := EG g N A B M F fl T ∧ EDg g N A B F fl D R ∧ R = before + behind ∧ sg ≤ 1
theorem dal_dcn {g : Nat → Int32} {N : Nat} {fl : Int32} : ∀ j, eA g N ≤ j → j ≤ eB g N → dcn (dal g N fl) j 0 = dcn (edg g N fl) (j - eA g N) (eA g N) := by
  intro j h1 h2
  have e := dcn_app (dal g N fl) (eA g N) (j - eA g N) 0
  rw [show eA g N + (j - eA g N) = j by omega, Nat.zero_add] at e
  rw [e, dcn_0 (D := dal g N fl) (eA g N) 0 (fun i _ i2 => by unfold dal; rw [decide_eq_false (by omega)]; rfl), Nat.zero_add]
  apply dcn_ext
  intro i i1 i2
  unfold dal
  rw [decide_eq_true (show eA g N ≤ i ∧ i < eB g N by omega)]; rfl
theorem pic_EX {g : Nat → Int32} {N : Nat} {fl : Int32} {pt : Option Nat} (h : EOK g N fl pt) (h0 : 0 < N) (hN : N ≤ 24) : ∃ A B M F T D R sg before behind, EX g N A B M F fl T D R sg before behind ∧ (∀ v pw0, efl g N fl pt v → EC v (pwF pw0 (edg g N fl) (v 2) (eA g N) (eB g N - eA g N)) g N A B M F fl T D sg before behind) ∧ ∀ u x, x ≤ 8 → rE u x g N fl pt → u 15 x = nI (wsm g N 0) → ER u x g N A B M fl D R sg before behind := by
  have hE := EOK_EG h h0 hN
  have h' := h
  obtain ⟨hb, -, -, hO, h1, h12⟩ := h'
  have hA := eA_le g N
  have hB := eB_le g N
  obtain ⟨f1, f2, f3, f4, f5, f6⟩ := EB_facts hb
  have hsz := (EG_size hE).1
  have hflo : flo fl = true → fl ≠ 0 := fun q z => by rw [z, flo_0] at q; exact absurd q (by decide)
  have hR : dcn (dal g N fl) N 0 = dcn (edg g N fl) (eB g N - eA g N) (eA g N) := dcn_in (P := edg g N fl) hA.2 hB
  have hsp := dcn_split (D := edg g N fl) (m := pt.getD (eB g N)) (eB g N - eA g N) (eA g N) (fun j j1 j2 j3 => edg_m hb j j1 (by omega) j3)
  refine ⟨eA g N, eB g N, pt.getD (eB g N), (if fl = 0 then eB g N else eF g N fl), tr g N, dal g N fl, dcn (edg g N fl) (eB g N - eA g N) (eA g N), (if tr g N = true ∨ ld g N = true ∨ fl = 43 ∨ fl = 45 then 1 else 0), _, _, ⟨hE, ⟨?_, hR, h1, h12⟩, hsp, by split <;> omega⟩, ?_, ?_⟩
  · intro j
    unfold dal edg eD
    rw [Bool.and_eq_true, decide_eq_true_iff, decide_eq_true_iff]
    have : (flo fl = true ∧ j = eF g N fl) ↔ (flo fl = true ∧ j = (if fl = 0 then eB g N else eF g N fl)) := by
      constructor
      · intro ⟨q1, q2⟩; exact ⟨q1, by rw [if_neg (hflo q1)]; exact q2⟩
      · intro ⟨q1, q2⟩; rw [if_neg (hflo q1)] at q2; exact ⟨q1, q2⟩
    rw [this]
  · intro v pw0 hv
    obtain ⟨v1, v2, v3, v4, v7, v8, v9, v10, v11, v13, v14, v15⟩ := hv
    refine ⟨?_, v2, v3, ?_, v8, v9, v10, v11, ?_, v14, v15, ?_⟩
    · rw [v1, hsz]
      have e1 : hid g N pt = hdn g (eB g N) (pt.getD (eB g N)) := rfl
      have e2 : (lts g N = true) ↔ (tr g N = true ∧ (g (N - 1) = 67 ∨ g (N - 1) = 68)) := by
        unfold lts tr
        rw [decide_eq_true_iff, decide_eq_true_iff]
        constructor
        · intro q; exact ⟨by rcases q with q | q; exact Or.inl q; exact Or.inr (Or.inl q), q⟩
        · intro q; exact q.2
      rw [e1]
      by_cases c : lts g N = true
      · rw [if_pos c, if_pos (e2.mp c)]
      · rw [if_neg c, if_neg (fun q => c (e2.mpr q))]
    · rw [v4]
      split <;> rfl
    · rw [v13]
      by_cases c : fl = 0
      · rw [if_neg (fun q => q c), if_pos c]
      · rw [if_pos c, if_neg c]
        exact (eF_is hN (f3 c).2).1
    · intro j j1 j2
      have hd : dal g N fl j = edg g N fl j := by unfold dal; rw [decide_eq_true (show eA g N ≤ j ∧ j < eB g N by omega)]; rfl
      unfold pwF
      rw [if_pos (show eA g N ≤ j ∧ j < eA g N + (eB g N - eA g N) by omega), hd, dal_dcn j j1 (by omega)]
      by_cases c : edg g N fl j = true
      · rw [if_pos c, if_pos c, v2]
        have l1 := dcn_le (fun j => edg g N fl j && decide (j < pt.getD (eB g N))) (eB g N - eA g N) (eA g N)
        have l2 := dcn_le (edg g N fl) (j - eA g N) (eA g N)
        rw [i32s (by rw [nI_toInt (by omega), nI_toInt (by omega)]; omega) (by rw [nI_toInt (by omega), nI_toInt (by omega)]; omega), nI_toInt (by omega), nI_toInt (by omega)]
        omega
      · rw [if_neg c, if_neg c]
  · intro u x hx hr h15
    obtain ⟨k1, k2, k3, k4, k5, k6, k7, k8, k9, k10, k11⟩ := hr
    refine ⟨k1, k2, ?_, k4, k5, k6, ?_, k8, k9, k10, ?_, h15⟩
    · intro j hj
      rw [k3 j hj]
    · rw [k7]
      split <;> rfl
    · intro j hj
      rw [k11, vx_eq (fun w hw => by have := (f2 w hw).2.1; omega) (by omega)]
      cases pt with
      | none =>
        constructor
        · intro q; cases q
        · intro q
          have q : j = eB g N := q
          omega
      | some w =>
        constructor
        · intro q; cases q; rfl
        · intro q
          have q : j = w := q
          rw [q]
/-- the digit that stands at a symbol -/
def dE (V : Int64) (s : Nat) (D : Nat → Bool) (before : Nat) (j : Nat) : Nat := if D j = true then nD V s ((before : Int) - 1 - dcn D j 0) else 0
theorem dE_le (V : Int64) (s : Nat) (D : Nat → Bool) (before : Nat) (j : Nat) : dE V s D before j ≤ 9 := by
  unfold dE
  split
  · exact nD_le _ _ _
  · omega
theorem dcn_lt {D : Nat → Bool} {j N : Nat} (hj : j < N) (h : D j = true) : dcn D j 0 < dcn D N 0 := by
  obtain ⟨m, rfl⟩ : ∃ m, N = j + (m + 1) := ⟨N - j - 1, by omega⟩
  rw [dcn_app D j (m + 1) 0, Nat.zero_add, dcn_s, if_pos h]
  omega
theorem P_dE {u : Nat → Nat → Int32} {x : Nat} (hx : x < 8) {g : Nat → Int32} {N A B M F : Nat} {fl : Int32} {T : Bool} {D : Nat → Bool} {R sg before behind : Nat} (hX : EX g N A B M F fl T D R sg before behind) (hU : ER u x g N A B M fl D R sg before behind) {V : Int64} {s : Nat} {v : Nat → Int32} (h : NR V s v u) {j : Nat} (hj : j < N) : m_M_digitFor (nI x) (nI j) v u = some (nI (dE V s D before j)) := by
  obtain ⟨hG, ⟨hD, hDR, hR1, hR2⟩, hR, -⟩ := hX
  obtain ⟨r2, r3, r4, r5, r7, r8, -⟩ := hU
  have hN : N ≤ 24 := hG.1.2.1
  unfold dE
  by_cases c : D j = true
  · have := dcn_lt hj c
    rw [hDR] at this
    rw [P_digitFor hx (by omega) h r8 (by omega) (rank := R - dcn D j 0) (by rw [r4 j hj, if_pos c]) (by omega), if_pos c, if_neg (by omega)]
    congr 3
    omega
  · rw [P_digitFor hx (by omega) h r8 (by omega) (rank := 0) (by rw [r4 j hj, if_neg c]; rfl) (by omega), if_neg c, if_pos rfl]
theorem C_dE {pw v' : Nat → Int32} {g : Nat → Int32} {N A B M F : Nat} {fl : Int32} {T : Bool} {D : Nat → Bool} {R sg before behind : Nat} (hX : EX g N A B M F fl T D R sg before behind) (hC : EC v' pw g N A B M F fl T D sg before behind) {V : Int64} {s : Nat} (hs : s ≤ 12) {j : Nat} (h1 : A ≤ j) (h2 : j < B) : (pw j = 99 ↔ D j = false) ∧ (D j = true → m_P_digitAt V (nI s) (pw j) = some (nI (dE V s D before j))) := by
  obtain ⟨hG, ⟨hD, hDR, hR1, hR2⟩, hR, -⟩ := hX
  have hp := hC.2.2.2.2.2.2.2.2.2.2.2 j h1 h2
  have hN : N ≤ 24 := hG.1.2.1
  have hBN : B ≤ N := hG.1.2.2.2.2.1
  by_cases c : D j = true
  · rw [if_pos c] at hp
    have hl := dcn_lt (show j < N by omega) c
    rw [hDR] at hl
    refine ⟨⟨fun q => ?_, fun q => by rw [c] at q; exact absurd q (by decide)⟩, fun _ => ?_⟩
    · rw [q, show (99 : Int32).toInt = 99 by decide] at hp
      omega
    · rw [C_digitAt (by omega) (by rw [hp]; omega) (by rw [hp]; omega), hp]
      unfold dE nD
      rw [if_pos c]
  · have c' : D j = false := by cases q : D j; rfl; exact absurd q c
    rw [if_neg c] at hp
    exact ⟨⟨fun _ => c', fun _ => hp⟩, fun q => absurd q c⟩
theorem C_more {pw v' : Nat → Int32} {g : Nat → Int32} {N A B M F : Nat} {fl : Int32} {T : Bool} {D : Nat → Bool} {R sg before behind : Nat} (hX : EX g N A B M F fl T D R sg before behind) (hC : EC v' pw g N A B M F fl T D sg before behind) {V : Int64} {s : Nat} (hs : s ≤ 12) {j : Nat} (h1 : A ≤ j) (h2 : j < B) (b rw : Nat → Int32) : m_E_standsForMore (nI j) V (nI s) v' b rw pw = some (if dE V s D before j = 0 then 0 else 1) := by
  obtain ⟨c1, c2⟩ := C_dE hX hC (V := V) hs h1 h2
  have hN : N ≤ 24 := hX.1.1.2.1
  have hBN : B ≤ N := hX.1.1.2.2.2.2.1
  unfold m_E_standsForMore
  rw [zix_ok (by omega) (by decide), zix_ok (by omega) (by decide), nI_clamp (by omega), zbo_0, zbo_1]
  by_cases c : D j = true
  · rw [if_neg (fun q => by rw [c1.mp q] at c; exact absurd c (by decide)), c2 c, Option.bind_some]
    have h9 := dE_le V s D before j
    by_cases e : dE V s D before j = 0
    · rw [if_pos e, e]; rfl
    · rw [if_neg e, if_neg (nI_ne0 (by omega) (by omega))]
  · have c' : D j = false := by cases q : D j; rfl; exact absurd q c
    rw [if_pos (c1.mpr c')]
    unfold dE
    rw [if_neg c, if_pos rfl]
