def hV (f : Nat → Int32) (c s : Nat) : Bool := decide (uP f c s < c ∧ f (uP f c s) = 86)
def hS (f : Nat → Int32) (c s : Nat) : Nat := if hV f c s then uP f c s + 1 else uP f c s
def hD (f : Nat → Int32) (c s : Nat) : Nat := runE f 80 (hS f c s) (c - hS f c s)
def hE (f : Nat → Int32) (c s : Nat) : Nat := if ¬ hV f c s = true ∧ hD f c s < c ∧ f (hD f c s) = 86 then hD f c s + 1 else hD f c s
theorem hS_le {f : Nat → Int32} {c s : Nat} (h : s ≤ c) : uP f c s ≤ hS f c s ∧ hS f c s ≤ c := by
  have := uP_le (f := f) h
  unfold hS hV
  by_cases h1 : uP f c s < c ∧ f (uP f c s) = 86
  · simp [h1]; omega
  · simp [h1]; omega
theorem hD_le {f : Nat → Int32} {c s : Nat} (h : s ≤ c) : hS f c s ≤ hD f c s ∧ hD f c s ≤ c := by
  have := hS_le (f := f) h
  obtain ⟨a, b, -⟩ := runE_le f 80 (c - hS f c s) (hS f c s)
  exact ⟨a, by unfold hD; omega⟩
theorem hE_le {f : Nat → Int32} {c s : Nat} (h : s ≤ c) : hD f c s ≤ hE f c s ∧ hE f c s ≤ c := by
  have := hD_le (f := f) h
  unfold hE
  split
  · rename_i h1; omega
  · omega
theorem C_behind {v b sv sr : Nat → Int32} {c s : Nat} (hc : sv 1 = nI c) (hc24 : c ≤ 24) (hs : s ≤ c) :
    ∃ v', m_N_fitsScaledBehind (nI s) v b sv sr = some (if hS sr c s < hD sr c s ∧ s < uP sr c s ∧ hE sr c s = c then 1 else 0, v') ∧ nfld v v' ((uP sr c s - s) + (hD sr c s - hS sr c s)) 0 (uP sr c s - s) (nI (hD sr c s - hS sr c s)) := by
  have h0 := uP_le (f := sr) hs
  have h1 := hS_le (f := sr) hs
  have h2 := hD_le (f := sr) hs
  have h3 := hE_le (f := sr) hs
  have k86 : m_N_fitsScaledBehind_86 b sv sr (nI s) (nI (uP sr c s)) (nI (hS sr c s)) (nI (hD sr c s)) (nI (hE sr c s)) v = some (if hS sr c s < hD sr c s ∧ s < uP sr c s ∧ hE sr c s = c then 1 else 0, upd (upd (upd (upd v 5 (nI (uP sr c s - s))) 6 (nI (hD sr c s - hS sr c s))) 2 (nI ((uP sr c s - s) + (hD sr c s - hS sr c s)))) 3 0) := by
    unfold m_N_fitsScaledBehind_86
    rw [pk_sub h0.1, pk_sub h2.1]
    simp only [upd, if_true, Nat.reduceEqDiff, if_false, nI_add, hc]
    by_cases g1 : hS sr c s < hD sr c s
    · rw [if_neg (nI_nle (by omega) (by omega))]
      by_cases g2 : s < uP sr c s
      · rw [if_neg (nI_nle (by omega) (by omega))]
        by_cases g3 : hE sr c s = c
        · rw [if_pos (by rw [g3]), if_pos ⟨g1, g2, g3⟩, zbo_1]
        · rw [if_neg (fun e => g3 ((nI_eq (by omega) (by omega)).mp e)), if_neg (fun e => g3 e.2.2), zbo_0]
      · rw [if_pos (by rw [show uP sr c s - s = 0 by omega]; decide), if_neg (fun e => g2 e.2.1), zbo_0]
    · rw [if_pos (by rw [show hD sr c s - hS sr c s = 0 by omega]; decide), if_neg (fun e => g1 e.1), zbo_0]
  refine ⟨upd (upd (upd (upd v 5 (nI (uP sr c s - s))) 6 (nI (hD sr c s - hS sr c s))) 2 (nI ((uP sr c s - s) + (hD sr c s - hS sr c s)))) 3 0, ?_, ?_⟩
  · unfold m_N_fitsScaledBehind
    rw [C_runEnd hc hc24 hs]
    simp only [Option.bind_some]
    rw [show runE sr 57 s (c - s) = uP sr c s from rfl, C_symAt hc hc24 (by omega)]
    simp only [Option.bind_some]
    have k37 : ∀ x4 : Int32, (x4 = 0 ↔ ¬ hV sr c s = true) → m_N_fitsScaledBehind_37 b sv sr (nI s) (nI (uP sr c s)) x4 (nI (hS sr c s)) v = m_N_fitsScaledBehind_86 b sv sr (nI s) (nI (uP sr c s)) (nI (hS sr c s)) (nI (hD sr c s)) (nI (hE sr c s)) v := by
      intro x4 hx
      unfold m_N_fitsScaledBehind_37
      rw [C_runEnd hc hc24 h1.2]
      simp only [Option.bind_some]
      rw [show runE sr 80 (hS sr c s) (c - hS sr c s) = hD sr c s from rfl]
      unfold m_N_fitsScaledBehind_69 m_N_fitsScaledBehind_70
      by_cases g : x4 = 0
      · rw [if_pos g, C_symAt hc hc24 (by omega)]
        simp only [Option.bind_some]
        by_cases g2 : hD sr c s < c ∧ sr (hD sr c s) = 86
        · rw [if_pos ((sym_is (by decide)).mpr g2), if_neg (by decide), nI_1]
          rw [show hE sr c s = hD sr c s + 1 by unfold hE; rw [if_pos ⟨hx.mp g, g2⟩]]
        · rw [if_neg (mt (sym_is (by decide)).mp g2), if_pos trivial]
          rw [show hE sr c s = hD sr c s by unfold hE; rw [if_neg (fun e => g2 e.2)]]
      · rw [if_neg g, if_pos rfl]
        rw [show hE sr c s = hD sr c s by unfold hE; rw [if_neg (fun e => g (hx.mpr e.1))]]
    by_cases hv : uP sr c s < c ∧ sr (uP sr c s) = 86
    · have eV : hV sr c s = true := by unfold hV; simp [hv]
      rw [if_pos ((sym_is (by decide)).mpr hv)]
      unfold m_N_fitsScaledBehind_23
      rw [if_neg (by decide), nI_1, ← k86, ← k37 1 (by simp [eV])]
      rw [show hS sr c s = uP sr c s + 1 by unfold hS; rw [if_pos eV]]
    · have eV : ¬ hV sr c s = true := by unfold hV; simp [hv]
      rw [if_neg (mt (sym_is (by decide)).mp hv)]
      unfold m_N_fitsScaledBehind_23
      rw [if_pos rfl, ← k86, ← k37 0 (by simp [eV])]
      rw [show hS sr c s = uP sr c s by unfold hS; rw [if_neg eV]]
  · refine ⟨?_, ?_, ?_, ?_, fun j h2 h3 h5 h6 => ?_⟩ <;> simp [upd, nI_0, *]
/-- is it a number's picture: before, behind, nines, the lowest power -/
def nPic (f : Nat → Int32) (c s : Nat) : Option (Nat × Nat × Nat × Int32) :=
  if 0 < (uP f c s - s) + (uE f c s - uF f c s) ∧ uE f c s = c then some (uP f c s - s, uE f c s - uF f c s, (uP f c s - s) + (uE f c s - uF f c s), 0 - nI (uE f c s - uF f c s))
  else if bS f c s < bD f c s ∧ bK f c s < bE f c s ∧ bE f c s = c then some (0, (bD f c s - bS f c s) + (bE f c s - bK f c s), bE f c s - bK f c s, 0 - nI ((bD f c s - bS f c s) + (bE f c s - bK f c s)))
  else if hS f c s < hD f c s ∧ s < uP f c s ∧ hE f c s = c then some ((uP f c s - s) + (hD f c s - hS f c s), 0, uP f c s - s, nI (hD f c s - hS f c s))
  else none
theorem nfld_tr {v v' v'' : Nat → Int32} {a b c a2 b2 c2 : Nat} {l l2 : Int32} (h1 : nfld v v' a b c l) (h2 : nfld v' v'' a2 b2 c2 l2) : nfld v v'' a2 b2 c2 l2 :=
  ⟨h2.1, h2.2.1, h2.2.2.1, h2.2.2.2.1, fun j k2 k3 k5 k6 => (h2.2.2.2.2 j k2 k3 k5 k6).trans (h1.2.2.2.2 j k2 k3 k5 k6)⟩
theorem C_fits {v b sv sr : Nat → Int32} {c : Nat} (hc : sv 1 = nI c) (hc24 : c ≤ 24) (hc0 : 0 < c) :
    ∃ v' before behind nines low, nfld (upd v 4 (if sr 0 = 83 then 1 else 0)) v' before behind nines low ∧
      ((nPic sr c (if sr 0 = 83 then 1 else 0) = some (before, behind, nines, low) ∧ before ≤ 24 ∧ behind ≤ 24 ∧ m_N_fits v b sv sr = some (if before + behind ≤ 12 then 1 else 0, v')) ∨
       (nPic sr c (if sr 0 = 83 then 1 else 0) = none ∧ m_N_fits v b sv sr = some (0, v'))) := by
  have key : ∀ (s : Nat) (w : Nat → Int32), s ≤ c → ∃ v' before behind nines low, nfld w v' before behind nines low ∧ ((nPic sr c s = some (before, behind, nines, low) ∧ before ≤ 24 ∧ behind ≤ 24 ∧ m_N_fits_31 b sv sr (nI s) w = some (if before + behind ≤ 12 then 1 else 0, v')) ∨ (nPic sr c s = none ∧ m_N_fits_31 b sv sr (nI s) w = some (0, v'))) := by
    intro s w hs
    have q1 := uP_le (f := sr) hs
    have q2 := uF_le (f := sr) hs
    have q3 := uE_le (f := sr) hs
    have q4 := bS_le (f := sr) hs
    have q5 := bD_le (f := sr) hs
    have q6 := bK_le (f := sr) hs
    have q7 := bE_le (f := sr) hs
    have q8 := hS_le (f := sr) hs
    have q9 := hD_le (f := sr) hs
    obtain ⟨v1, e1, n1⟩ := C_unscaled (v := w) (b := b) hc hc24 hs
    obtain ⟨v2, e2, n2⟩ := C_before (v := v1) (b := b) hc hc24 hs
    obtain ⟨v3, e3, n3⟩ := C_behind (v := v2) (b := b) hc hc24 hs
    have k64 : ∀ (x : Nat → Int32) (bf bh : Nat), bf ≤ 24 → bh ≤ 24 → x 2 = nI bf → x 3 = nI bh → m_N_fits_59 b sv sr x = some (if bf + bh ≤ 12 then 1 else 0, x) := by
      intro x bf bh l1 l2 h1 h2
      unfold m_N_fits_59 m_N_fits_64
      rw [if_neg (by decide), h1, h2, nI_add, show (12 : Int32) = nI 12 from rfl]
      by_cases h : bf + bh ≤ 12
      · rw [if_neg (nI_nlt h (by decide)), if_pos h, zbo_1]
      · rw [if_pos (nI_lt (by omega) (by omega)), if_neg h, zbo_0]
    unfold m_N_fits_31 nPic
    rw [e1]
    simp only [Option.bind_some]
    by_cases g1 : 0 < (uP sr c s - s) + (uE sr c s - uF sr c s) ∧ uE sr c s = c
    · refine ⟨v1, _, _, _, _, n1, Or.inl ⟨if_pos g1, by omega, by omega, ?_⟩⟩
      rw [if_pos g1, if_neg (by decide)]
      exact k64 v1 _ _ (by omega) (by omega) n1.1 n1.2.1
    · rw [if_neg g1, if_neg g1, if_pos rfl, e2]
      simp only [Option.bind_some]
      by_cases g2 : bS sr c s < bD sr c s ∧ bK sr c s < bE sr c s ∧ bE sr c s = c
      · refine ⟨v2, _, _, _, _, nfld_tr n1 n2, Or.inl ⟨if_pos g2, by omega, by omega, ?_⟩⟩
        rw [if_pos g2, if_neg (by decide)]
        exact k64 v2 _ _ (by omega) (by omega) n2.1 n2.2.1
      · rw [if_neg g2, if_neg g2, if_pos rfl, e3]
        simp only [Option.bind_some]
        by_cases g3 : hS sr c s < hD sr c s ∧ s < uP sr c s ∧ hE sr c s = c
        · refine ⟨v3, _, _, _, _, nfld_tr (nfld_tr n1 n2) n3, Or.inl ⟨if_pos g3, by omega, by omega, ?_⟩⟩
          rw [if_pos g3, if_neg (by decide)]
          exact k64 v3 _ _ (by omega) (by omega) n3.1 n3.2.1
        · refine ⟨v3, _, _, _, _, nfld_tr (nfld_tr n1 n2) n3, Or.inr ⟨if_neg g3, ?_⟩⟩
          rw [if_neg g3, if_pos rfl]
          unfold m_N_fits_64
          rw [if_pos rfl, zbo_0]
  have h0 := C_symAt (sr := sr) (k := 0) hc hc24 (by decide)
  rw [if_pos hc0, show nI 0 = (0 : Int32) from rfl] at h0
  by_cases hS83 : sr 0 = 83
  · obtain ⟨v', bf, bh, nn, lw, a1, a2⟩ := key 1 (upd v 4 1) (by omega)
    refine ⟨v', bf, bh, nn, lw, by rw [if_pos hS83]; exact a1, ?_⟩
    rw [if_pos hS83]
    have e : m_N_fits v b sv sr = m_N_fits_31 b sv sr (nI 1) (upd v 4 1) := by
      unfold m_N_fits m_N_fits_16
      rw [h0]
      simp only [Option.bind_some]
      rw [if_pos hS83, zbo_1, if_neg (by rw [pk_us]; decide)]
      rfl
    rw [e]; exact a2
  · obtain ⟨v', bf, bh, nn, lw, a1, a2⟩ := key 0 (upd v 4 0) (by omega)
    refine ⟨v', bf, bh, nn, lw, by rw [if_neg hS83]; exact a1, ?_⟩
    rw [if_neg hS83]
    have e : m_N_fits v b sv sr = m_N_fits_31 b sv sr (nI 0) (upd v 4 0) := by
      unfold m_N_fits m_N_fits_16
      rw [h0]
      simp only [Option.bind_some]
      rw [if_neg hS83, zbo_0, if_pos pk_us]
      rfl
    rw [e]; exact a2
