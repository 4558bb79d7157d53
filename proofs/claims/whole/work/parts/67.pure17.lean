theorem cnt_s (f : Nat → Int32) (x : Int32) (a n : Nat) : cnt f x a (n + 1) = (if f a = x then 1 else 0) + cnt f x (a + 1) n := rfl
theorem cnt_d3 {f : Nat → Int32} {x y z : Int32} (h1 : x ≠ y) (h2 : y ≠ z) (h3 : x ≠ z) : ∀ (n a : Nat), cnt f x a n + cnt f y a n + cnt f z a n ≤ n := by
  intro n
  induction n with
  | zero => intro a; exact Nat.le_refl _
  | succ n ih =>
    intro a
    have := ih (a + 1)
    rw [cnt_s, cnt_s, cnt_s]
    by_cases e1 : f a = x
    · rw [if_pos e1, if_neg (fun e => h1 (e1.symm.trans e)), if_neg (fun e => h3 (e1.symm.trans e))]; omega
    · by_cases e2 : f a = y
      · rw [if_neg e1, if_pos e2, if_neg (fun e => h2 (e2.symm.trans e))]; omega
      · rw [if_neg e1, if_neg e2]; split <;> omega
theorem C_Tfits_l {b sv sr : Nat → Int32} {c : Nat} (hc : sv 1 = nI c) (hc24 : c ≤ 24) : ∀ (n k x2 fuel : Nat) (v : Nat → Int32), k + n = c → n < fuel → x2 ≤ 1 →
    m_T_fits_4 b sv sr fuel (nI x2) (nI k) v = if cnt sr 88 k n + cnt sr 65 k n + cnt sr 57 k n = n then some (if x2 = 0 ∧ cnt sr 88 k n + cnt sr 65 k n = 0 then 0 else 1, upd v 1 (nI c)) else some (0, v) := by
  intro n
  induction n with
  | zero =>
    intro k x2 fuel v hk hf hx
    obtain ⟨fuel, rfl⟩ : ∃ z, fuel = z + 1 := ⟨fuel - 1, by omega⟩
    show m_T_fits_4b b sv sr _ (nI x2) (nI k) v = _
    unfold m_T_fits_4b
    rw [hc, if_pos (nI_le (by omega) (by omega)), if_pos (show cnt sr 88 k 0 + cnt sr 65 k 0 + cnt sr 57 k 0 = 0 from rfl)]
    rcases (show x2 = 0 ∨ x2 = 1 by omega) with rfl | rfl
    · rw [if_pos ⟨rfl, rfl⟩]; exact zbo_0
    · rw [if_neg (fun h => absurd h.1 (by decide))]; exact zbo_1
  | succ n ih =>
    intro k x2 fuel v hk hf hx
    obtain ⟨fuel, rfl⟩ : ∃ z, fuel = z + 1 := ⟨fuel - 1, by omega⟩
    show m_T_fits_4b b sv sr (m_T_fits_4 b sv sr fuel) (nI x2) (nI k) v = _
    unfold m_T_fits_4b m_T_fits_34 m_T_fits_48
    rw [hc, if_neg (nI_ge (by omega) (by omega)), zix_ok (by omega) (by decide), nI_clamp (by omega), nI_1]
    have hle := cnt_d3 (f := sr) (x := 88) (y := 65) (z := 57) (by decide) (by decide) (by decide) n (k + 1)
    have i1 := ih (k + 1) 1 fuel v (by omega) (by omega) (by omega)
    have i2 := ih (k + 1) x2 fuel v (by omega) (by omega) hx
    rw [cnt_s, cnt_s, cnt_s]
    by_cases e1 : sr k = 88
    · rw [if_pos e1, if_pos e1, if_neg (show ¬ sr k = 65 from fun e => absurd (e1.symm.trans e) (by decide)), if_neg (show ¬ sr k = 57 from fun e => absurd (e1.symm.trans e) (by decide))]
      rw [show (1 : Int32) = nI 1 from rfl, i1, show nI 1 = (1 : Int32) from rfl]
      by_cases g : cnt sr 88 (k + 1) n + cnt sr 65 (k + 1) n + cnt sr 57 (k + 1) n = n
      · rw [if_pos g, if_pos (show 1 + cnt sr 88 (k + 1) n + (0 + cnt sr 65 (k + 1) n) + (0 + cnt sr 57 (k + 1) n) = n + 1 by omega), if_neg (show ¬ (1 = 0 ∧ cnt sr 88 (k + 1) n + cnt sr 65 (k + 1) n = 0) from fun h => absurd h.1 (by decide)), if_neg (show ¬ (x2 = 0 ∧ 1 + cnt sr 88 (k + 1) n + (0 + cnt sr 65 (k + 1) n) = 0) from fun h => by omega)]
      · rw [if_neg g, if_neg (show ¬ 1 + cnt sr 88 (k + 1) n + (0 + cnt sr 65 (k + 1) n) + (0 + cnt sr 57 (k + 1) n) = n + 1 by omega)]
    · rw [if_neg e1, if_neg e1]
      by_cases e2 : sr k = 65
      · rw [if_pos e2, if_pos e2, if_neg (show ¬ sr k = 57 from fun e => absurd (e2.symm.trans e) (by decide))]
        rw [show (1 : Int32) = nI 1 from rfl, i1, show nI 1 = (1 : Int32) from rfl]
        by_cases g : cnt sr 88 (k + 1) n + cnt sr 65 (k + 1) n + cnt sr 57 (k + 1) n = n
        · rw [if_pos g, if_pos (show 0 + cnt sr 88 (k + 1) n + (1 + cnt sr 65 (k + 1) n) + (0 + cnt sr 57 (k + 1) n) = n + 1 by omega), if_neg (show ¬ (1 = 0 ∧ cnt sr 88 (k + 1) n + cnt sr 65 (k + 1) n = 0) from fun h => absurd h.1 (by decide)), if_neg (show ¬ (x2 = 0 ∧ 0 + cnt sr 88 (k + 1) n + (1 + cnt sr 65 (k + 1) n) = 0) from fun h => by omega)]
        · rw [if_neg g, if_neg (show ¬ 0 + cnt sr 88 (k + 1) n + (1 + cnt sr 65 (k + 1) n) + (0 + cnt sr 57 (k + 1) n) = n + 1 by omega)]
      · rw [if_neg e2, if_neg e2]
        by_cases e3 : sr k = 57
        · rw [if_pos e3, if_pos e3, i2]
          by_cases g : cnt sr 88 (k + 1) n + cnt sr 65 (k + 1) n + cnt sr 57 (k + 1) n = n
          · rw [if_pos g, if_pos (show 0 + cnt sr 88 (k + 1) n + (0 + cnt sr 65 (k + 1) n) + (1 + cnt sr 57 (k + 1) n) = n + 1 by omega), Nat.zero_add, Nat.zero_add]
          · rw [if_neg g, if_neg (show ¬ 0 + cnt sr 88 (k + 1) n + (0 + cnt sr 65 (k + 1) n) + (1 + cnt sr 57 (k + 1) n) = n + 1 by omega)]
        · rw [if_neg e3, if_neg e3, zbo_0, if_neg (show ¬ 0 + cnt sr 88 (k + 1) n + (0 + cnt sr 65 (k + 1) n) + (0 + cnt sr 57 (k + 1) n) = n + 1 by omega)]
/-- a text's picture -/
def TP (f : Nat → Int32) (N : Nat) : Prop := 0 < cnt f 88 0 N + cnt f 65 0 N ∧ cnt f 88 0 N + cnt f 65 0 N + cnt f 57 0 N = N
theorem C_Tfits {v b sv sr : Nat → Int32} {c : Nat} (hc : sv 1 = nI c) (hc24 : c ≤ 24) :
    (TP sr c ∧ m_T_fits v b sv sr = some (1, upd v 1 (nI c))) ∨ (¬ TP sr c ∧ ∃ x, m_T_fits v b sv sr = some (0, upd v 1 x)) := by
  have h := C_Tfits_l (b := b) (sr := sr) hc hc24 c 0 0 64 v (by omega) (by omega) (by omega)
  have h' : m_T_fits v b sv sr = _ := h
  by_cases g : cnt sr 88 0 c + cnt sr 65 0 c + cnt sr 57 0 c = c
  · rw [if_pos g] at h'
    by_cases g2 : cnt sr 88 0 c + cnt sr 65 0 c = 0
    · rw [if_pos ⟨rfl, g2⟩] at h'
      exact Or.inr ⟨fun t => by have := t.1; omega, _, h'⟩
    · rw [if_neg (fun t => g2 t.2)] at h'
      exact Or.inl ⟨⟨by omega, g⟩, h'⟩
  · rw [if_neg g] at h'
    refine Or.inr ⟨fun t => g t.2, v 1, ?_⟩
    rw [h']
    have : upd v 1 (v 1) = v := by
      funext j
      by_cases e : j = 1
      · subst e; exact pk_us
      · exact pk_un e
    rw [this]
/-- what the reference keeps of a text's picture -/
def tsto (u u' : Nat → Nat → Int32) (N : Nat) : Prop :=
  DF u u' ∧ u' 2 = u 2 ∧ u' 3 = u 3 ∧ u' 5 8 = 1 ∧ u' 9 8 = 0 ∧ u' 7 8 = 0 ∧ u' 8 8 = 0 ∧ u' 15 8 = nI N
theorem P_isText {v f : Nat → Int32} {u : Nat → Nat → Int32} {N : Nat} (hN : N ≤ 24) (hf : ∀ j, u 3 (192 + j) = f j) (h2 : u 2 8 = nI N) :
    (TP f N ∧ ∃ u', m_M_isText v u = some (1, u') ∧ tsto u u' N) ∨ (¬ TP f N ∧ m_M_isText v u = some (0, u)) := by
  have hfun : (fun j => u 3 (192 + j)) = f := funext hf
  have hle := cnt_d3 (f := f) (x := 88) (y := 65) (z := 57) (by decide) (by decide) (by decide) N 0
  have pc : ∀ x, m_M_countOf x 0 (nI N) v u = some (nI (cnt f x 0 N)) := fun x => by
    have := P_countOf (Nat.zero_le N) hN x v u
    rw [hfun] at this
    exact this
  unfold m_M_isText
  rw [zix8, c8, h2, pc, pc, pc]
  simp only [Option.bind_some, nI_add]
  by_cases g : cnt f 88 0 N + cnt f 65 0 N = 0
  · rw [if_pos (by rw [g]; rfl)]
    exact Or.inr ⟨fun t => by have := t.1; omega, zbo_0⟩
  · rw [if_neg (nI_ne0 (by omega) (by omega))]
    by_cases g2 : cnt f 88 0 N + cnt f 65 0 N + cnt f 57 0 N = N
    · rw [if_pos (by rw [g2])]
      rw [zix8, zix8, zix8, zix8, zix8, zbo_1]
      refine Or.inl ⟨⟨by omega, g2⟩, _, rfl, ?_⟩
      · rw [zau8, zau8, zau8, zau8, zau8, vpb0]
        have d1 := DF.at8 u 5 1 (by decide) (by decide) (by decide)
        have d2 := d1.tr (DF.at8 _ 9 0 (by decide) (by decide) (by decide))
        have d3 := d2.tr (DF.at8 _ 7 0 (by decide) (by decide) (by decide))
        have d4 := d3.tr (DF.at8 _ 8 0 (by decide) (by decide) (by decide))
        have d5 := d4.tr (DF.at8 _ 15 (nI N) (by decide) (by decide) (by decide))
        refine ⟨d5, ?_, ?_, ?_, ?_, ?_, ?_, ?_⟩
        · rw [zset_n _ _ (by decide), zset_n _ _ (by decide), zset_n _ _ (by decide), zset_n _ _ (by decide), zset_n _ _ (by decide)]
        · rw [zset_n _ _ (by decide), zset_n _ _ (by decide), zset_n _ _ (by decide), zset_n _ _ (by decide), zset_n _ _ (by decide)]
        · rw [zset_n _ _ (by decide), zset_n _ _ (by decide), zset_n _ _ (by decide), zset_n _ _ (by decide), zset_s]; exact pk_us
        · rw [zset_n _ _ (by decide), zset_n _ _ (by decide), zset_n _ _ (by decide), zset_s]; exact pk_us
        · rw [zset_n _ _ (by decide), zset_n _ _ (by decide), zset_s]; exact pk_us
        · rw [zset_n _ _ (by decide), zset_s]; exact pk_us
        · rw [zset_s]; exact pk_us
    · rw [if_neg (fun e => g2 ((nI_eq (by omega) (by omega)).mp e))]
      exact Or.inr ⟨fun t => g2 t.2, zbo_0⟩
