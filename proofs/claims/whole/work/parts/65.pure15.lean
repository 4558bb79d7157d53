def vn (vo : Option Nat) : Nat := match vo with
  | none => 0
  | some _ => 1
/-- where the only V stands -/
def VO (f : Nat → Int32) (N a : Nat) (vo : Option Nat) : Prop :=
  (vo = none ∧ ∀ j, a ≤ j → j < N → ¬ f j = 86) ∨ ∃ w, vo = some w ∧ a ≤ w ∧ w < N ∧ f w = 86 ∧ ∀ j, a ≤ j → j < N → f j = 86 → j = w
theorem VO.lt {f : Nat → Int32} {N a : Nat} {vo : Option Nat} (h : VO f N a vo) (hN : N ≤ 24) : ∀ w, vo = some w → w < 1000 := by
  intro w e
  rcases h with ⟨h, -⟩ | ⟨w', h, -, h2, -⟩
  · rw [h] at e; cases e
  · rw [h] at e; cases e; omega
theorem VO.none {f : Nat → Int32} {N a : Nat} {vo : Option Nat} (h : VO f N a vo) (h2 : ∀ j, a ≤ j → j < N → ¬ f j = 86) : vo = none := by
  rcases h with ⟨h, -⟩ | ⟨w, -, h3, h4, h5, -⟩
  · exact h
  · exact absurd h5 (h2 w h3 h4)
theorem VO.some {f : Nat → Int32} {N a w : Nat} {vo : Option Nat} (h : VO f N a vo) (h1 : a ≤ w) (h2 : w < N) (h3 : f w = 86) : vo = some w := by
  rcases h with ⟨-, h⟩ | ⟨w', h, -, -, -, h5⟩
  · exact absurd h3 (h w h1 h2)
  · rw [h, h5 w h1 h2 h3]
theorem vin_0 {w k j : Nat} (h : j ≤ w) : vin (some w) k j = 0 := by unfold vin; simp only []; rw [if_neg (by omega)]
theorem vin_1 {w k j : Nat} (h1 : k ≤ w) (h2 : w < j) : vin (some w) k j = 1 := by unfold vin; simp only []; rw [if_pos (by omega)]
def bfv (a c9 : Nat) (vo : Option Nat) : Nat := match vo with
  | none => c9
  | some w => w - a
theorem U_fwd {f : Nat → Int32} {N a c9 : Nat} {vo : Option Nat} (ha : a ≤ N) (h3 : ∀ j, a ≤ j → j < N → f j = 57 ∨ f j = 80 ∨ f j = 86) (hv : VO f N a vo) (hs : c9 + vn vo = N - a) (h9 : 0 < c9) (h8 : ∀ j, a ≤ j → j < N → ¬ f j = 80) :
    NF f N a (bfv a c9 vo) (c9 - bfv a c9 vo) c9 0 := by
  rcases hv with ⟨rfl, h⟩ | ⟨w, rfl, h1, h2, h5, h6⟩
  · have hs : c9 + 0 = N - a := hs
    exact Or.inl ⟨by omega, fun j g1 g2 => by rcases h3 j g1 g2 with e | e | e; exact e; exact absurd e (h8 j g1 g2); exact absurd e (h j g1 g2), by show c9 = _; omega, by show c9 - c9 = _; omega, by omega, rfl⟩
  · have hs : c9 + 1 = N - a := hs
    have k : ∀ j, a ≤ j → j < N → j ≠ w → f j = 57 := fun j g1 g2 g3 => by
      rcases h3 j g1 g2 with e | e | e
      · exact e
      · exact absurd e (h8 j g1 g2)
      · exact absurd (h6 j g1 g2 e) g3
    exact Or.inr (Or.inl ⟨w, h1, h2, fun j g1 g2 => k j g1 (by omega) (by omega), h5, fun j g1 g2 => k j (by omega) g2 (by omega), by omega, rfl, by show c9 - (w - a) = _; omega, by omega, rfl⟩)
theorem B_fwd {f : Nat → Int32} {N a c9 c8 : Nat} {vo : Option Nat} (hN : N ≤ 24) (ha : a ≤ N) (h3 : ∀ j, a ≤ j → j < N → f j = 57 ∨ f j = 80 ∨ f j = 86) (hv : VO f N a vo) (hs : c9 + c8 + vn vo = N - a) (h9 : 0 < c9) (h8 : 0 < c8)
    (hc : chk f (vx vo) true c8 (N - a) a 0 = true) (hp : vo = none ∨ vo = some a ∨ vo = some (a + c8)) : NF f N a 0 (c9 + c8) c9 0 := by
  have hc := (chk_iff (hv.lt hN) (N - a) a 0 (by omega)).mp hc
  rw [show a + (N - a) = N by omega] at hc
  rcases hp with rfl | rfl | rfl
  · have hs : c9 + c8 + 0 = N - a := hs
    have hn : ∀ j, a ≤ j → j < N → ¬ f j = 86 := by
      rcases hv with ⟨-, h⟩ | ⟨w, h, -⟩
      · exact h
      · cases h
    have k1 : ∀ j, a ≤ j → j < N → (f j = 80 ↔ j - a < c8) := fun j g1 g2 => by
      have := hc j g1 g2 (fun e => by cases e)
      rw [show vin Option.none a j = 0 from rfl] at this
      simp only [iff_true] at this
      rw [this]; omega
    refine Or.inr (Or.inr (Or.inl ⟨a + c8, by omega, by omega, fun j g1 g2 => (k1 j g1 (by omega)).mpr (by omega), fun j g1 g2 => ?_, rfl, by omega, by omega, rfl⟩))
    rcases h3 j (by omega) g2 with e | e | e
    · exact e
    · have := (k1 j (by omega) g2).mp e; omega
    · exact absurd e (hn j (by omega) g2)
  · have hs : c9 + c8 + 1 = N - a := hs
    obtain ⟨e86, hu⟩ : f a = 86 ∧ ∀ j, a ≤ j → j < N → f j = 86 → j = a := by
      rcases hv with ⟨h, -⟩ | ⟨w, h, h1, h2, h5, h6⟩
      · cases h
      · cases h; exact ⟨h5, h6⟩
    have k1 : ∀ j, a < j → j < N → (f j = 80 ↔ j - a - 1 < c8) := fun j g1 g2 => by
      have := hc j (by omega) g2 (fun e => by cases e; omega)
      rw [vin_1 (Nat.le_refl _) g1] at this
      simp only [iff_true] at this
      rw [this]; omega
    refine Or.inr (Or.inr (Or.inr (Or.inl ⟨a + 1 + c8, by omega, by omega, e86, fun j g1 g2 => (k1 j (by omega) (by omega)).mpr (by omega), fun j g1 g2 => ?_, rfl, by omega, by omega, rfl⟩)))
    rcases h3 j (by omega) g2 with e | e | e
    · exact e
    · have := (k1 j (by omega) g2).mp e; omega
    · have := hu j (by omega) g2 e; omega
  · have hs : c9 + c8 + 1 = N - a := hs
    obtain ⟨e86, hu⟩ : f (a + c8) = 86 ∧ ∀ j, a ≤ j → j < N → f j = 86 → j = a + c8 := by
      rcases hv with ⟨h, -⟩ | ⟨w, h, h1, h2, h5, h6⟩
      · cases h
      · cases h; exact ⟨h5, h6⟩
    have k1 : ∀ j, a ≤ j → j < a + c8 → (f j = 80) := fun j g1 g2 => by
      have := hc j (by omega) (by omega) (fun e => by cases e; omega)
      rw [vin_0 (by omega)] at this
      simp only [iff_true] at this
      rw [this]; omega
    have k2 : ∀ j, a + c8 < j → j < N → ¬ (f j = 80) := fun j g1 g2 => by
      have := hc j (by omega) (by omega) (fun e => by cases e; omega)
      rw [vin_1 (by omega) g1] at this
      simp only [iff_true] at this
      rw [this]; omega
    refine Or.inr (Or.inr (Or.inr (Or.inr (Or.inl ⟨a + c8, by omega, by omega, k1, e86, fun j g1 g2 => ?_, rfl, by omega, by omega, rfl⟩))))
    rcases h3 j (by omega) g2 with e | e | e
    · exact e
    · exact absurd e (k2 j (by omega) g2)
    · have := hu j (by omega) g2 e; omega
theorem H_fwd {f : Nat → Int32} {N a c9 c8 : Nat} {vo : Option Nat} (hN : N ≤ 24) (ha : a ≤ N) (h3 : ∀ j, a ≤ j → j < N → f j = 57 ∨ f j = 80 ∨ f j = 86) (hv : VO f N a vo) (hs : c9 + c8 + vn vo = N - a) (h9 : 0 < c9) (h8 : 0 < c8)
    (hc : chk f (vx vo) false c9 (N - a) a 0 = true) (hp : vo = none ∨ vo = some (a + c9) ∨ vo = some (N - 1)) : NF f N a (c9 + c8) 0 c9 c8 := by
  have hc := (chk_iff (hv.lt hN) (N - a) a 0 (by omega)).mp hc
  rw [show a + (N - a) = N by omega] at hc
  rcases hp with rfl | rfl | rfl
  · have hs : c9 + c8 + 0 = N - a := hs
    have hn : ∀ j, a ≤ j → j < N → ¬ f j = 86 := by
      rcases hv with ⟨-, h⟩ | ⟨w, h, -⟩
      · exact h
      · cases h
    have k1 : ∀ j, a ≤ j → j < N → (f j = 80 ↔ ¬ (j - a < c9)) := fun j g1 g2 => by
      have := hc j g1 g2 (fun e => by cases e)
      rw [show vin Option.none a j = 0 from rfl] at this
      simp only [Bool.false_eq_true, iff_false] at this
      rw [this]; omega
    refine Or.inr (Or.inr (Or.inr (Or.inr (Or.inr (Or.inl ⟨a + c9, by omega, by omega, fun j g1 g2 => ?_, fun j g1 g2 => (k1 j (by omega) (by omega)).mpr (by omega), by omega, rfl, by omega, by omega⟩)))))
    rcases h3 j (by omega) (by omega) with e | e | e
    · exact e
    · have := (k1 j (by omega) (by omega)).mp e; omega
    · exact absurd e (hn j (by omega) (by omega))
  · have hs : c9 + c8 + 1 = N - a := hs
    obtain ⟨e86, hu⟩ : f (a + c9) = 86 ∧ ∀ j, a ≤ j → j < N → f j = 86 → j = a + c9 := by
      rcases hv with ⟨h, -⟩ | ⟨w, h, h1, h2, h5, h6⟩
      · cases h
      · cases h; exact ⟨h5, h6⟩
    have k1 : ∀ j, a ≤ j → j < a + c9 → ¬ (f j = 80) := fun j g1 g2 => by
      have := hc j (by omega) (by omega) (fun e => by cases e; omega)
      rw [vin_0 (by omega)] at this
      simp only [Bool.false_eq_true, iff_false] at this
      rw [this]; omega
    have k2 : ∀ j, a + c9 < j → j < N → (f j = 80) := fun j g1 g2 => by
      have := hc j (by omega) (by omega) (fun e => by cases e; omega)
      rw [vin_1 (by omega) g1] at this
      simp only [Bool.false_eq_true, iff_false] at this
      rw [this]; omega
    refine Or.inr (Or.inr (Or.inr (Or.inr (Or.inr (Or.inr (Or.inl ⟨a + c9, by omega, by omega, fun j g1 g2 => ?_, e86, fun j g1 g2 => k2 j (by omega) g2, by omega, rfl, by omega, by omega⟩))))))
    rcases h3 j (by omega) (by omega) with e | e | e
    · exact e
    · exact absurd e (k1 j (by omega) g2)
    · have := hu j (by omega) (by omega) e; omega
  · have hs : c9 + c8 + 1 = N - a := hs
    obtain ⟨e86, hu⟩ : f (N - 1) = 86 ∧ ∀ j, a ≤ j → j < N → f j = 86 → j = N - 1 := by
      rcases hv with ⟨h, -⟩ | ⟨w, h, h1, h2, h5, h6⟩
      · cases h
      · cases h; exact ⟨h5, h6⟩
    have k1 : ∀ j, a ≤ j → j < N - 1 → (f j = 80 ↔ ¬ (j - a < c9)) := fun j g1 g2 => by
      have := hc j (by omega) (by omega) (fun e => by cases e; omega)
      rw [vin_0 (by omega)] at this
      simp only [Bool.false_eq_true, iff_false] at this
      rw [this]; omega
    refine Or.inr (Or.inr (Or.inr (Or.inr (Or.inr (Or.inr (Or.inr ⟨a + c9, by omega, by omega, fun j g1 g2 => ?_, fun j g1 g2 => (k1 j (by omega) (by omega)).mpr (by omega), e86, by omega, rfl, by omega, by omega⟩))))))
    rcases h3 j (by omega) (by omega) with e | e | e
    · exact e
    · have := (k1 j (by omega) (by omega)).mp e; omega
    · have := hu j (by omega) (by omega) e; omega
theorem s80_57 {x : Int32} (h1 : x = 80) (h2 : x = 57) : False := by rw [h1] at h2; exact absurd h2 (by decide)
theorem s86_57 {x : Int32} (h1 : x = 86) (h2 : x = 57) : False := by rw [h1] at h2; exact absurd h2 (by decide)
theorem s86_80 {x : Int32} (h1 : x = 86) (h2 : x = 80) : False := by rw [h1] at h2; exact absurd h2 (by decide)
/-- a picture whose P stand first passes the ranks -/
theorem B_bwd {f : Nat → Int32} {N a c8 before behind nines low kp kn : Nat} {vo : Option Nat} (hN : N ≤ 24) (h : NF f N a before behind nines low) (hv : VO f N a vo) (e8 : cnt f 80 a (N - a) = c8)
    (p1 : a ≤ kp) (p2 : kp < N) (p3 : f kp = 80) (n1 : a ≤ kn) (n2 : kn < N) (n4 : ∀ j, a ≤ j → j < kn → ¬ f j = 57) (hpn : kp < kn) :
    chk f (vx vo) true c8 (N - a) a 0 = true ∧ (vo = none ∨ vo = some a ∨ vo = some (a + c8)) := by
  obtain ⟨q1, q2, q3, q4, q5, q6, q7⟩ := NF_cnt h
  have iff := chk_iff (f := f) (pf := true) (first := c8) (hv.lt hN) (N - a) a 0 (by omega)
  rw [show a + (N - a) = N by omega] at iff
  rw [iff]
  rcases h with ⟨h1, h2, -⟩ | ⟨p, h1, h2, h3, h4, h5, -⟩ | ⟨d, h1, h2, h3, h4, z1, z2, z3, z4⟩ | ⟨d, h1, h2, h3, h4, h5, z1, z2, z3, z4⟩ | ⟨d, h1, h2, h3, h4, h5, z1, z2, z3, z4⟩ | ⟨k, h1, h2, h3, -⟩ | ⟨k, h1, h2, h3, -⟩ | ⟨k, h1, h2, h3, -⟩
  · exact absurd (h2 kp p1 p2) (fun e => s80_57 p3 e)
  · rcases Nat.lt_trichotomy kp p with g | g | g
    · exact absurd (h3 kp p1 g) (fun e => s80_57 p3 e)
    · rw [g] at p3; exact absurd p3 (fun e => s86_80 h4 e)
    · exact absurd (h5 kp (by omega) p2) (fun e => s80_57 p3 e)
  · have e : vo = none := hv.none (fun j g1 g2 e => by
      by_cases g : j < d
      · exact s86_80 e (h3 j g1 g)
      · exact s86_57 e (h4 j (by omega) g2))
    refine ⟨fun j g1 g2 g3 => ?_, Or.inl e⟩
    rw [e, show vin Option.none a j = 0 from rfl]
    simp only [iff_true]
    by_cases g : j < d
    · exact ⟨fun _ => by omega, fun _ => h3 j g1 g⟩
    · exact ⟨fun x => absurd (h4 j (by omega) g2) (fun y => s80_57 x y), fun x => by omega⟩
  · have e : vo = some a := hv.some (Nat.le_refl _) q7 h3
    refine ⟨fun j g1 g2 g3 => ?_, Or.inr (Or.inl e)⟩
    have hja : j ≠ a := fun x => g3 (by rw [e, x])
    rw [e, vin_1 (Nat.le_refl _) (by omega)]
    simp only [iff_true]
    by_cases g : j < d
    · exact ⟨fun _ => by omega, fun _ => h4 j (by omega) g⟩
    · exact ⟨fun x => absurd (h5 j (by omega) g2) (fun y => s80_57 x y), fun x => by omega⟩
  · have e : vo = some d := hv.some (by omega) (by omega) h4
    refine ⟨fun j g1 g2 g3 => ?_, Or.inr (Or.inr (by rw [e]; congr 1; omega))⟩
    have hja : j ≠ d := fun x => g3 (by rw [e, x])
    rw [e]
    simp only [iff_true]
    by_cases g : j < d
    · rw [vin_0 (by omega)]
      exact ⟨fun _ => by omega, fun _ => h3 j (by omega) g⟩
    · rw [vin_1 (by omega) (by omega)]
      exact ⟨fun x => absurd (h5 j (by omega) g2) (fun y => s80_57 x y), fun x => by omega⟩
  · exact absurd (h3 a (Nat.le_refl _) h1) (n4 a (Nat.le_refl _) (by omega))
  · exact absurd (h3 a (Nat.le_refl _) h1) (n4 a (Nat.le_refl _) (by omega))
  · exact absurd (h3 a (Nat.le_refl _) h1) (n4 a (Nat.le_refl _) (by omega))
theorem H_bwd {f : Nat → Int32} {N a before behind nines low kp kn : Nat} {vo : Option Nat} (hN : N ≤ 24) (h : NF f N a before behind nines low) (hv : VO f N a vo)
    (p1 : a ≤ kp) (p2 : kp < N) (p3 : f kp = 80) (p4 : ∀ j, a ≤ j → j < kp → ¬ f j = 80) (n1 : a ≤ kn) (n2 : kn < N) (n3 : f kn = 57) (hpn : kn ≤ kp) :
    chk f (vx vo) false nines (N - a) a 0 = true ∧ (vo = none ∨ vo = some (a + nines) ∨ vo = some (N - 1)) := by
  obtain ⟨q1, q2, q3, q4, q5, q6, q7⟩ := NF_cnt h
  have iff := chk_iff (f := f) (pf := false) (first := nines) (hv.lt hN) (N - a) a 0 (by omega)
  rw [show a + (N - a) = N by omega] at iff
  rw [iff]
  have hne : kn ≠ kp := fun e => by rw [e] at n3; exact s80_57 p3 n3
  rcases h with ⟨h1, h2, -⟩ | ⟨p, h1, h2, h3, h4, h5, -⟩ | ⟨d, h1, h2, h3, h4, z1, z2, z3, z4⟩ | ⟨d, h1, h2, h3, h4, h5, z1, z2, z3, z4⟩ | ⟨d, h1, h2, h3, h4, h5, z1, z2, z3, z4⟩ | ⟨k, h1, h2, h3, h4, z1, z2, z3, z4⟩ | ⟨k, h1, h2, h3, h4, h5, z1, z2, z3, z4⟩ | ⟨k, h1, h2, h3, h4, h5, z1, z2, z3, z4⟩
  · exact absurd (h2 kp p1 p2) (fun e => s80_57 p3 e)
  · rcases Nat.lt_trichotomy kp p with g | g | g
    · exact absurd (h3 kp p1 g) (fun e => s80_57 p3 e)
    · rw [g] at p3; exact absurd p3 (fun e => s86_80 h4 e)
    · exact absurd (h5 kp (by omega) p2) (fun e => s80_57 p3 e)
  · exact absurd (h3 a (Nat.le_refl _) h1) (p4 a (Nat.le_refl _) (by omega))
  · have : ¬ a + 1 < kp := fun g => absurd (h4 (a + 1) (by omega) h1) (p4 (a + 1) (by omega) g)
    have e : kn = a := by omega
    rw [e] at n3
    exact absurd n3 (fun y => s86_57 h3 y)
  · exact absurd (h3 a (Nat.le_refl _) h1) (p4 a (Nat.le_refl _) (by omega))
  · have e : vo = none := hv.none (fun j g1 g2 e => by
      by_cases g : j < k
      · exact s86_57 e (h3 j g1 g)
      · exact s86_80 e (h4 j (by omega) g2))
    refine ⟨fun j g1 g2 g3 => ?_, Or.inl e⟩
    rw [e, show vin Option.none a j = 0 from rfl]
    simp only [Bool.false_eq_true, iff_false]
    by_cases g : j < k
    · exact ⟨fun x => absurd (h3 j g1 g) (fun y => s80_57 x y), fun x => by omega⟩
    · exact ⟨fun _ => by omega, fun _ => h4 j (by omega) g2⟩
  · have e : vo = some k := hv.some (by omega) (by omega) h4
    refine ⟨fun j g1 g2 g3 => ?_, Or.inr (Or.inl (by rw [e]; congr 1; omega))⟩
    have hja : j ≠ k := fun x => g3 (by rw [e, x])
    rw [e]
    simp only [Bool.false_eq_true, iff_false]
    by_cases g : j < k
    · rw [vin_0 (by omega)]
      exact ⟨fun x => absurd (h3 j g1 g) (fun y => s80_57 x y), fun x => by omega⟩
    · rw [vin_1 (by omega) (by omega)]
      exact ⟨fun _ => by omega, fun _ => h5 j (by omega) g2⟩
  · have e : vo = some (N - 1) := hv.some (by omega) (by omega) h5
    refine ⟨fun j g1 g2 g3 => ?_, Or.inr (Or.inr e)⟩
    have hja : j ≠ N - 1 := fun x => g3 (by rw [e, x])
    rw [e, vin_0 (by omega)]
    simp only [Bool.false_eq_true, iff_false]
    by_cases g : j < k
    · exact ⟨fun x => absurd (h3 j g1 g) (fun y => s80_57 x y), fun x => by omega⟩
    · exact ⟨fun _ => by omega, fun _ => h4 j (by omega) (by omega)⟩
