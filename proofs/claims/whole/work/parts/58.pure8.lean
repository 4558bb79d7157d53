/-- what a number field has of its picture; other slots as they were -/
def nfld (v v' : Nat → Int32) (before behind nines : Nat) (low : Int32) : Prop := v' 2 = nI before ∧ v' 3 = nI behind ∧ v' 5 = nI nines ∧ v' 6 = low ∧ ∀ j, j ≠ 2 → j ≠ 3 → j ≠ 5 → j ≠ 6 → v' j = v j
def uP (f : Nat → Int32) (c s : Nat) : Nat := runE f 57 s (c - s)
def uF (f : Nat → Int32) (c s : Nat) : Nat := if uP f c s < c ∧ f (uP f c s) = 86 then uP f c s + 1 else uP f c s
def uE (f : Nat → Int32) (c s : Nat) : Nat := runE f 57 (uF f c s) (c - uF f c s)
theorem uP_le {f : Nat → Int32} {c s : Nat} (h : s ≤ c) : s ≤ uP f c s ∧ uP f c s ≤ c := by
  obtain ⟨a, b, -⟩ := runE_le f 57 (c - s) s
  exact ⟨a, by unfold uP; omega⟩
theorem uF_le {f : Nat → Int32} {c s : Nat} (h : s ≤ c) : uP f c s ≤ uF f c s ∧ uF f c s ≤ c := by
  have := uP_le (f := f) h
  unfold uF
  split
  · rename_i h1; omega
  · omega
theorem uE_le {f : Nat → Int32} {c s : Nat} (h : s ≤ c) : uF f c s ≤ uE f c s ∧ uE f c s ≤ c := by
  obtain ⟨a, b, -⟩ := runE_le f 57 (c - uF f c s) (uF f c s)
  have := uF_le (f := f) h
  exact ⟨a, by unfold uE; omega⟩
theorem sym_is {f : Nat → Int32} {c k : Nat} {x : Int32} (hx : x ≠ -1) : ((if k < c then f k else -1) = x) ↔ (k < c ∧ f k = x) := by
  by_cases h : k < c
  · rw [if_pos h]; simp [h]
  · rw [if_neg h]; simp [h]; exact fun e => hx e.symm
theorem C_unscaled {v b sv sr : Nat → Int32} {c s : Nat} (hc : sv 1 = nI c) (hc24 : c ≤ 24) (hs : s ≤ c) :
    ∃ v', m_N_fitsUnscaled (nI s) v b sv sr = some (if 0 < (uP sr c s - s) + (uE sr c s - uF sr c s) ∧ uE sr c s = c then 1 else 0, v') ∧ nfld v v' (uP sr c s - s) (uE sr c s - uF sr c s) ((uP sr c s - s) + (uE sr c s - uF sr c s)) (0 - nI (uE sr c s - uF sr c s)) := by
  have h1 := uP_le (f := sr) hs
  have h2 := uF_le (f := sr) hs
  have h3 := uE_le (f := sr) hs
  have key : ∀ t0, t0 = uF sr c s → m_N_fitsUnscaled_25 b sv sr (nI s) (nI (uP sr c s)) (nI t0) v = some (if 0 < (uP sr c s - s) + (uE sr c s - uF sr c s) ∧ uE sr c s = c then 1 else 0, upd (upd (upd (upd v 2 (nI (uP sr c s - s))) 3 (nI (uE sr c s - uF sr c s))) 5 (nI ((uP sr c s - s) + (uE sr c s - uF sr c s)))) 6 (0 - nI (uE sr c s - uF sr c s))) := by
    intro t0 ht0
    subst ht0
    unfold m_N_fitsUnscaled_25
    rw [C_runEnd hc hc24 h2.2]
    simp only [Option.bind_some]
    rw [show runE sr 57 (uF sr c s) (c - uF sr c s) = uE sr c s from rfl, pk_sub h1.1, pk_sub h3.1]
    unfold m_N_fitsUnscaled_75
    simp only [upd, if_true, Nat.reduceEqDiff, if_false, nI_add, hc]
    by_cases h : 0 < (uP sr c s - s) + (uE sr c s - uF sr c s)
    · rw [if_neg (nI_nle h (by omega))]
      by_cases h4 : uE sr c s = c
      · rw [if_pos (by rw [h4]), if_pos ⟨h, h4⟩, zbo_1]
      · rw [if_neg (fun e => h4 ((nI_eq (by omega) (by omega)).mp e)), if_neg (fun e => h4 e.2), zbo_0]
    · rw [if_pos (by rw [show (uP sr c s - s) + (uE sr c s - uF sr c s) = 0 by omega]; decide), if_neg (fun e => h e.1), zbo_0]
  refine ⟨upd (upd (upd (upd v 2 (nI (uP sr c s - s))) 3 (nI (uE sr c s - uF sr c s))) 5 (nI ((uP sr c s - s) + (uE sr c s - uF sr c s)))) 6 (0 - nI (uE sr c s - uF sr c s)), ?_, ?_⟩
  · unfold m_N_fitsUnscaled
    rw [C_runEnd hc hc24 hs]
    simp only [Option.bind_some]
    rw [show runE sr 57 s (c - s) = uP sr c s from rfl, C_symAt hc hc24 (by omega)]
    simp only [Option.bind_some]
    by_cases hv : uP sr c s < c ∧ sr (uP sr c s) = 86
    · rw [if_pos ((sym_is (by decide)).mpr hv), nI_1]
      exact key _ (by unfold uF; rw [if_pos hv])
    · rw [if_neg (mt (sym_is (by decide)).mp hv)]
      exact key _ (by unfold uF; rw [if_neg hv])
  · refine ⟨?_, ?_, ?_, ?_, fun j h2 h3 h5 h6 => ?_⟩ <;> simp [upd, *]
def bV (f : Nat → Int32) (c s : Nat) : Bool := decide (s < c ∧ f s = 86)
def bS (f : Nat → Int32) (c s : Nat) : Nat := if bV f c s then s + 1 else s
def bD (f : Nat → Int32) (c s : Nat) : Nat := runE f 80 (bS f c s) (c - bS f c s)
def bK (f : Nat → Int32) (c s : Nat) : Nat := if ¬ bV f c s = true ∧ bD f c s < c ∧ f (bD f c s) = 86 then bD f c s + 1 else bD f c s
def bE (f : Nat → Int32) (c s : Nat) : Nat := runE f 57 (bK f c s) (c - bK f c s)
theorem bS_le {f : Nat → Int32} {c s : Nat} (h : s ≤ c) : s ≤ bS f c s ∧ bS f c s ≤ c := by
  unfold bS bV
  by_cases h1 : s < c ∧ f s = 86
  · simp [h1]; omega
  · simp [h1]; omega
theorem bD_le {f : Nat → Int32} {c s : Nat} (h : s ≤ c) : bS f c s ≤ bD f c s ∧ bD f c s ≤ c := by
  have := bS_le (f := f) h
  obtain ⟨a, b, -⟩ := runE_le f 80 (c - bS f c s) (bS f c s)
  exact ⟨a, by unfold bD; omega⟩
theorem bK_le {f : Nat → Int32} {c s : Nat} (h : s ≤ c) : bD f c s ≤ bK f c s ∧ bK f c s ≤ c := by
  have := bD_le (f := f) h
  unfold bK
  split
  · rename_i h1; omega
  · omega
theorem bE_le {f : Nat → Int32} {c s : Nat} (h : s ≤ c) : bK f c s ≤ bE f c s ∧ bE f c s ≤ c := by
  have := bK_le (f := f) h
  obtain ⟨a, b, -⟩ := runE_le f 57 (c - bK f c s) (bK f c s)
  exact ⟨a, by unfold bE; omega⟩
theorem C_before {v b sv sr : Nat → Int32} {c s : Nat} (hc : sv 1 = nI c) (hc24 : c ≤ 24) (hs : s ≤ c) :
    ∃ v', m_N_fitsScaledBefore (nI s) v b sv sr = some (if bS sr c s < bD sr c s ∧ bK sr c s < bE sr c s ∧ bE sr c s = c then 1 else 0, v') ∧ nfld v v' 0 ((bD sr c s - bS sr c s) + (bE sr c s - bK sr c s)) (bE sr c s - bK sr c s) (0 - nI ((bD sr c s - bS sr c s) + (bE sr c s - bK sr c s))) := by
  have h1 := bS_le (f := sr) hs
  have h2 := bD_le (f := sr) hs
  have h3 := bK_le (f := sr) hs
  have h4 := bE_le (f := sr) hs
  have k75 : m_N_fitsScaledBefore_75 b sv sr (nI (bS sr c s)) (nI (bD sr c s)) (nI (bK sr c s)) v = some (if bS sr c s < bD sr c s ∧ bK sr c s < bE sr c s ∧ bE sr c s = c then 1 else 0, upd (upd (upd (upd v 5 (nI (bE sr c s - bK sr c s))) 2 0) 3 (nI ((bD sr c s - bS sr c s) + (bE sr c s - bK sr c s)))) 6 (0 - nI ((bD sr c s - bS sr c s) + (bE sr c s - bK sr c s)))) := by
    unfold m_N_fitsScaledBefore_75
    rw [C_runEnd hc hc24 h3.2]
    simp only [Option.bind_some]
    rw [show runE sr 57 (bK sr c s) (c - bK sr c s) = bE sr c s from rfl, pk_sub h2.1, pk_sub h4.1]
    unfold m_N_fitsScaledBefore_124
    simp only [upd, if_true, Nat.reduceEqDiff, if_false, nI_add, hc]
    by_cases g1 : bS sr c s < bD sr c s
    · rw [if_neg (nI_ge g1 (by omega))]
      by_cases g2 : bK sr c s < bE sr c s
      · rw [if_neg (nI_nle (by omega) (by omega))]
        by_cases g3 : bE sr c s = c
        · rw [if_pos (by rw [g3]), if_pos ⟨g1, g2, g3⟩, zbo_1]
        · rw [if_neg (fun e => g3 ((nI_eq (by omega) (by omega)).mp e)), if_neg (fun e => g3 e.2.2), zbo_0]
      · rw [if_pos (by rw [show bE sr c s - bK sr c s = 0 by omega]; decide), if_neg (fun e => g2 e.2.1), zbo_0]
    · rw [if_pos (nI_le (by omega) (by omega)), if_neg (fun e => g1 e.1), zbo_0]
  refine ⟨upd (upd (upd (upd v 5 (nI (bE sr c s - bK sr c s))) 2 0) 3 (nI ((bD sr c s - bS sr c s) + (bE sr c s - bK sr c s)))) 6 (0 - nI ((bD sr c s - bS sr c s) + (bE sr c s - bK sr c s))), ?_, ?_⟩
  · unfold m_N_fitsScaledBefore
    rw [C_symAt hc hc24 (by omega)]
    simp only [Option.bind_some]
    have k27 : ∀ x3 : Int32, (x3 = 0 ↔ ¬ bV sr c s = true) → m_N_fitsScaledBefore_27 b sv sr x3 (nI (bS sr c s)) v = m_N_fitsScaledBefore_75 b sv sr (nI (bS sr c s)) (nI (bD sr c s)) (nI (bK sr c s)) v := by
      intro x3 hx
      unfold m_N_fitsScaledBefore_27
      rw [C_runEnd hc hc24 h1.2]
      simp only [Option.bind_some]
      rw [show runE sr 80 (bS sr c s) (c - bS sr c s) = bD sr c s from rfl]
      unfold m_N_fitsScaledBefore_58 m_N_fitsScaledBefore_59
      by_cases g : x3 = 0
      · rw [if_pos g, C_symAt hc hc24 (by omega)]
        simp only [Option.bind_some]
        by_cases g2 : bD sr c s < c ∧ sr (bD sr c s) = 86
        · rw [if_pos ((sym_is (by decide)).mpr g2), if_neg (by decide), nI_1]
          rw [show bK sr c s = bD sr c s + 1 by unfold bK; rw [if_pos ⟨hx.mp g, g2⟩]]
        · rw [if_neg (mt (sym_is (by decide)).mp g2), if_pos trivial]
          rw [show bK sr c s = bD sr c s by unfold bK; rw [if_neg (fun e => g2 e.2)]]
      · rw [if_neg g, if_pos rfl]
        rw [show bK sr c s = bD sr c s by unfold bK; rw [if_neg (fun e => g (hx.mpr e.1))]]
    by_cases hv : s < c ∧ sr s = 86
    · have eV : bV sr c s = true := by unfold bV; simp [hv]
      rw [if_pos ((sym_is (by decide)).mpr hv)]
      unfold m_N_fitsScaledBefore_15
      rw [if_neg (by decide), nI_1, ← k75, ← k27 1 (by simp [eV])]
      rw [show bS sr c s = s + 1 by unfold bS; rw [if_pos eV]]
    · have eV : ¬ bV sr c s = true := by unfold bV; simp [hv]
      rw [if_neg (mt (sym_is (by decide)).mp hv)]
      unfold m_N_fitsScaledBefore_15
      rw [if_pos rfl, ← k75, ← k27 0 (by simp [eV])]
      rw [show bS sr c s = s by unfold bS; rw [if_neg eV]]
  · refine ⟨?_, ?_, ?_, ?_, fun j h2 h3 h5 h6 => ?_⟩ <;> simp [upd, nI_0, *]
