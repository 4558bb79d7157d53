theorem EX_any {g : Nat → Int32} {N A B M F : Nat} {fl : Int32} {T : Bool} {D : Nat → Bool} {R sg before behind : Nat} (hX : EX g N A B M F fl T D R sg before behind) (V : Int64) (s : Nat) : anz (dE V s D before) 0 N = anz (dE V s D before) A (B - A) := by
  obtain ⟨hG, ⟨hD, -⟩, -⟩ := hX
  obtain ⟨⟨h0, hN, hAM, hMB, hBN, hB⟩, -⟩ := hG
  have h : anz (dE V s D before) 0 N = true ↔ anz (dE V s D before) A (B - A) = true := by
    rw [anz_iff, anz_iff]
    constructor
    · intro ⟨j, _, h2, h3⟩
      by_cases c : D j = true
      · have := ((hD j).mp c).1
        exact ⟨j, this.1, by omega, h3⟩
      · exfalso
        apply h3
        unfold dE
        rw [if_neg c]
    · intro ⟨j, h1, h2, h3⟩
      exact ⟨j, by omega, by omega, h3⟩
  cases q : anz (dE V s D before) 0 N <;> cases q2 : anz (dE V s D before) A (B - A)
  · rfl
  · rw [q, q2] at h; exact absurd (h.mpr rfl) (by decide)
  · rw [q, q2] at h; exact absurd (h.mp rfl) (by decide)
  · rfl
def eemp (g : Nat → Int32) (A B : Nat) (any : Bool) : Bool := decide (cnt g 57 A (B - A) = 0) && !any
/-- the reference edits -/
theorem P_edit {u : Nat → Nat → Int32} {x : Nat} (hx : x < 8) {g : Nat → Int32} {N A B M F : Nat} {fl : Int32} {T : Bool} {D : Nat → Bool} {R sg before behind : Nat} (hX : EX g N A B M F fl T D R sg before behind) (hU : ER u x g N A B M fl D R sg before behind) {V : Int64} {s : Nat} {v : Nat → Int32} (h : NR V s v u) :
    ∃ w : Nat → Int32, m_M_storeNumber (nI x) v u = some (zset u 16 w) ∧ (∀ j, j < N → (0 < wd (g j) → w (32 * x + wsm g j 0) = ech g D (dE V s D before) fl F (ze g M (dE V s D before) (B - F) F) (cneg V sg (anz (dE V s D before) A (B - A))) (eemp g A B (anz (dE V s D before) A (B - A))) j) ∧ (wd (g j) = 2 → w (32 * x + wsm g j 0 + 1) = ec2 g fl (cneg V sg (anz (dE V s D before) A (B - A))) (eemp g A B (anz (dE V s D before) A (B - A))) j)) ∧ ∀ i, i < 32 * x ∨ 32 * x + wsm g N 0 ≤ i → w i = u 16 i := by
  have hX' := hX
  have hU' := hU
  have hany := EX_any hX V s
  obtain ⟨hG, ⟨hD, hDR, hR1, hR2⟩, hR, hsg⟩ := hX'
  obtain ⟨r2, r3, r4, r5, r7, r8, r9, r11, r12, r13, r14, r15⟩ := hU'
  have hG' := hG
  obtain ⟨⟨h0, hN, hAM, hMB, hBN, hB⟩, e2, e3, e4, e5, e6, e7, e8⟩ := hG'
  have hbel := P_isBelow hx hN r2 (D := dE V s D before) (fun k hk => P_dE hx hX hU h hk) (dE_le V s D before)
  rw [hany, r9] at hbel
  have ha0 : (nI sg = 0) ↔ sg = 0 := nI_eq (b := 0) (by omega) (by decide)
  have hneg : (if v 21 = 0 then (0 : Int32) else if anz (dE V s D before) A (B - A) = false then 0 else if nI sg = 0 then 0 else 1) = (if cneg V sg (anz (dE V s D before) A (B - A)) = true then 1 else 0) := by
    unfold cneg
    cases q : anz (dE V s D before) A (B - A)
    · simp
    · obtain ⟨i, _, i2, i3⟩ := (anz_iff _ _).mp q
      have i4 : nD V s ((before : Int) - 1 - dcn D i 0) ≠ 0 := by
        unfold dE at i3
        by_cases c : D i = true
        · rw [if_pos c] at i3; exact i3
        · rw [if_neg c] at i3; exact absurd rfl i3
      have hg := NR_neg h i4
      by_cases c : sg = 0
      · simp [c, nI_0]
      · have : ¬ nI sg = 0 := fun e => c (ha0.mp e)
        by_cases e : v 21 = 0
        · simp [e, hg.mpr e]
        · have : ¬ 0 ≤ lg_cmp V 0 := fun z => e (hg.mp z)
          simp [c, e, this, ha0]
  rw [hneg] at hbel
  generalize hnn : cneg V sg (anz (dE V s D before) A (B - A)) = neg at hbel ⊢
  have hfl := P_flags hx hX hU h (if neg = true then 1 else 0) (B - A) A 64 false true (by omega) (by omega)
  have hemp : (decide (fl ≠ 0) && !(false || decide (0 < cnt g 57 A (B - A))) && (true && !anz (dE V s D before) A (B - A))) = eemp g A B (anz (dE V s D before) A (B - A)) := by
    unfold eemp
    by_cases c : fl = 0
    · obtain ⟨j, j1, j2, j3⟩ := e8 c
      have hp : 0 < cnt g 57 A (B - A) := cnt_pos j1 (by omega) j3
      have : ¬ cnt g 57 A (B - A) = 0 := by omega
      simp [c, this]
    · by_cases c2 : cnt g 57 A (B - A) = 0
      · simp [c, c2]
      · have : 0 < cnt g 57 A (B - A) := by omega
        simp [c2, this]
  rw [hemp] at hfl
  generalize eemp g A B (anz (dE V s D before) A (B - A)) = emp at hfl ⊢
  obtain ⟨bg, b1, b2, b3⟩ := P_fdig hx hG hU v
  obtain ⟨z1, z2, z3⟩ := ze_le g M (dE V s D before) (B - F) F
  have hF : F ≤ B := by
    by_cases c : fl = 0
    · rw [e7 c]; omega
    · have := e6 c; omega
  obtain ⟨en, hen, hz0, hz1, h103⟩ : ∃ en, en ≤ 24 ∧ (fl = 0 → bg = en ∧ ze g M (dE V s D before) (B - F) F ≤ F) ∧ (fl ≠ 0 → bg = F ∧ en = ze g M (dE V s D before) (B - F) F) ∧ m_M_edit_103 v (nI x) (if neg = true then 1 else 0) (if emp = true then 1 else 0) u = m_M_edit_133 v (nI x) (if neg = true then 1 else 0) (if emp = true then 1 else 0) (nI bg) (nI en) u := by
    by_cases c : fl = 0
    · refine ⟨bg, by omega, fun _ => ⟨rfl, by rw [e7 c] at *; rw [Nat.sub_self] at *; omega⟩, fun q => absurd c q, ?_⟩
      unfold m_M_edit_103
      rw [b2, Option.bind_some, zix_ok (show x < 9 by omega) (by decide), nI_clamp (by omega), r11, if_pos c]
    · have hbF := b3 c
      refine ⟨ze g M (dE V s D before) (B - F) F, by omega, fun q => absurd q c, fun _ => ⟨hbF, rfl⟩, ?_⟩
      unfold m_M_edit_103
      rw [b2, Option.bind_some, zix_ok (show x < 9 by omega) (by decide), nI_clamp (by omega), r11, if_neg c]
      unfold m_M_zoneEnd
      rw [hbF, P_zone hx hX hU h (B - F) F 64 (by omega) (by omega), Option.bind_some]
  obtain ⟨w, ew, w1, w2⟩ := P_walk hx hX hU h neg emp (bg := bg) (en := en) (Z := ze g M (dE V s D before) (B - F) F) (by omega) hen hz0 hz1 N 0 64 u (by omega) (by omega) (fun _ _ => rfl)
  refine ⟨w, ?_, fun j hj => w1 j (by omega) hj, w2⟩
  unfold m_M_storeNumber
  rw [zix_ok (show x < 9 by omega) (by decide), nI_clamp (by omega), r5, if_pos rfl]
  unfold m_M_edit
  rw [hbel, Option.bind_some, zix_ok (show x < 9 by omega) (by decide), nI_clamp (by omega), r12, show m_M_edit_19 v 64 (nI x) (if neg = true then 1 else 0) 0 1 (nI A) u = _ from hfl, h103]
  unfold m_M_edit_133 m_M_edit_168 m_M_edit_173
  simp only [zix_ok (show x < 9 by omega) (show 9 < 2 ^ 31 by decide), nI_clamp (show x < 2 ^ 31 by omega), r11, n32']
  have hq : m_M_edit_184 v 64 (nI x) (if neg = true then 1 else 0) (if emp = true then 1 else 0) (nI bg) (nI en) (if flo fl = true then 1 else 0) (nI (32 * x)) 0 u = some (zset u 16 w) := ew
  have fin : ∀ t : Int32, t = (if flo fl = true then 1 else 0) → (m_M_edit_184 v 64 (nI x) (if neg = true then 1 else 0) (if emp = true then 1 else 0) (nI bg) (nI en) t (nI (32 * x)) 0 u).bind (fun q31 => some q31) = some (zset u 16 w) := by
    intro t ht
    rw [ht, hq]; rfl
  by_cases c1 : fl = 43
  · rw [if_pos c1]; exact fin 1 (by rw [c1]; rfl)
  · rw [if_neg c1]
    by_cases c2 : fl = 45
    · rw [if_pos c2]; exact fin 1 (by rw [c2]; rfl)
    · rw [if_neg c2]
      by_cases c3 : fl = 36
      · rw [if_pos c3]; exact fin 1 (by rw [c3]; rfl)
      · rw [if_neg c3]
        refine fin 0 ?_
        rw [if_neg]
        intro q
        rcases of_decide_eq_true q with z | z | z
        · exact c1 z
        · exact c2 z
        · exact c3 z
