/-- what the reference may write while it reads a picture: its draft -/
def DF (u u' : Nat → Nat → Int32) : Prop := (∀ a i, (a = 3 ∨ a = 4) → i < 192 → u' a i = u a i) ∧ (∀ a i, a ≠ 3 → a ≠ 4 → (i ≠ 8 ∨ a = 1 ∨ a = 16 ∨ a = 17 ∨ a = 18) → u' a i = u a i)
theorem DF.rf (u : Nat → Nat → Int32) : DF u u := ⟨fun _ _ _ _ => rfl, fun _ _ _ _ _ => rfl⟩
theorem DF.tr {u u' u'' : Nat → Nat → Int32} (h1 : DF u u') (h2 : DF u' u'') : DF u u'' :=
  ⟨fun a i ha hi => (h2.1 a i ha hi).trans (h1.1 a i ha hi), fun a i h3 h4 hi => (h2.2 a i h3 h4 hi).trans (h1.2 a i h3 h4 hi)⟩
theorem DF.row {u u' : Nat → Nat → Int32} (h : DF u u') {a : Nat} (ha : a = 1 ∨ a = 16 ∨ a = 17 ∨ a = 18) : u' a = u a := by
  funext i
  exact h.2 a i (by omega) (by omega) (Or.inr (by omega))
theorem DF.at8 (u : Nat → Nat → Int32) (a : Nat) (x : Int32) (h3 : a ≠ 3) (h4 : a ≠ 4) (h : a ≠ 1 ∧ a ≠ 16 ∧ a ≠ 17 ∧ a ≠ 18) : DF u (zset u a (upd (u a) 8 x)) := by
  refine ⟨fun b i hb hi => ?_, fun b i hb3 hb4 hi => ?_⟩
  · rw [zset_n _ _ (by omega)]
  · by_cases e : b = a
    · subst e
      rw [zset_s]; exact pk_un (by omega)
    · rw [zset_n _ _ e]
theorem mrow_DF (u : Nat → Nat → Int32) (c k : Nat) (s : Int32) : DF u (mrow u c k s) := by
  refine ⟨fun b i hb hi => ?_, fun b i hb3 hb4 hi => ?_⟩
  · unfold mrow
    rw [zset_n _ _ (by omega)]
    rcases hb with rfl | rfl
    · rw [zset_s]; unfold rput; rw [if_neg (by omega)]
    · rw [zset_n _ _ (by omega)]
  · unfold mrow
    by_cases e : b = 2
    · subst e
      rw [zset_s]; exact pk_un (by omega)
    · rw [zset_n _ _ e, zset_n _ _ hb3]
theorem mrow_c (u : Nat → Nat → Int32) (c k : Nat) (s : Int32) : mrow u c k s 2 8 = nI (c + k) := by
  unfold mrow; rw [zset_s]; exact pk_us
theorem mrow_r (u : Nat → Nat → Int32) (c k : Nat) (s : Int32) : (fun j => mrow u c k s 3 (192 + j)) = rput (fun j => u 3 (192 + j)) c k s := by
  funext j
  unfold mrow
  rw [zset_n _ _ (by decide), zset_s]
  unfold rput
  by_cases h : c ≤ j ∧ j < c + k
  · rw [if_pos (by omega), if_pos h]
  · rw [if_neg (by omega), if_neg h]
/-- the symbols of a text, all of them legal -/
def exL (y : Nat → Int32) (t : Nat) : Nat → Nat → Nat → (Nat → Int32) → Nat × (Nat → Int32) → Prop
  | 0, _, c, row, q => q = (c, row)
  | n + 1, p, c, row, q => (p < t ∧ (lg (y p) ∧ 1 ≤ (tokT y t p).1 ∧ c + (tokT y t p).1 ≤ 24) ∧ exL y t n (tokT y t p).2 (c + (tokT y t p).1) (rput row c (tokT y t p).1 (y p)) q) ∨ (¬ p < t ∧ q = (c, row))
theorem exL_end {y : Nat → Int32} {t p c : Nat} {row : Nat → Int32} (h : ¬ p < t) : ∀ n, exL y t n p c row (c, row) := by
  intro n
  cases n with
  | zero => rfl
  | succ n => exact Or.inr ⟨h, rfl⟩
theorem exS_end {y : Nat → Int32} {t p c : Nat} {row : Nat → Int32} (h : ¬ p < t) : ∀ n, exS y t n p c row = some (c, row) := by
  intro n
  cases n with
  | zero => rfl
  | succ n => exact if_neg h
theorem P_expands_l {v : Nat → Int32} {t : Nat} (ht : t ≤ 24) (ht0 : 0 < t) (hv : v 1 = nI t) : ∀ (n p c fuel : Nat) (u : Nat → Nat → Int32), t ≤ p + n → p ≤ t → n < fuel → u 2 8 = nI c → c ≤ 24 →
    ∃ b u', m_M_expands_10 v fuel (nI p) u = some (b, u') ∧ DF u u' ∧ ((b = 1 ∧ ∃ c', c' ≤ 24 ∧ u' 2 8 = nI c' ∧ exL (u 1) t n p c (fun j => u 3 (192 + j)) (c', fun j => u' 3 (192 + j))) ∨ (b = 0 ∧ ∀ q, ¬ exL (u 1) t n p c (fun j => u 3 (192 + j)) q)) := by
  intro n
  induction n with
  | zero =>
    intro p c fuel u hn hp hf hc hc24
    obtain ⟨fuel, rfl⟩ : ∃ z, fuel = z + 1 := ⟨fuel - 1, by omega⟩
    refine ⟨1, u, ?_, DF.rf u, Or.inl ⟨rfl, c, hc24, hc, rfl⟩⟩
    show m_M_expands_10b v _ (nI p) u = _
    unfold m_M_expands_10b
    rw [hv, if_pos (nI_le (by omega) (by omega)), if_neg (nI_nle (by omega) (by omega)), zbo_1]
  | succ n ih =>
    intro p c fuel u hn hp hf hc hc24
    by_cases hpt : p < t
    · obtain ⟨fuel, rfl⟩ : ∃ z, fuel = z + 1 := ⟨fuel - 1, by omega⟩
      have hs := P_step ht hv hpt hc hc24 (m_M_expands_10 v fuel)
      have hrun : m_M_expands_10 v (fuel + 1) (nI p) u = m_M_expands_10b v (m_M_expands_10 v fuel) (nI p) u := rfl
      rw [hrun]
      by_cases hk : lg (u 1 p) ∧ 1 ≤ (tokT (u 1) t p).1 ∧ c + (tokT (u 1) t p).1 ≤ 24
      · obtain ⟨g1, g2⟩ := tok_next hpt hk.2.1
        rw [hs.1 hk]
        have hdf := mrow_DF u c (tokT (u 1) t p).1 (u 1 p)
        have h1 : mrow u c (tokT (u 1) t p).1 (u 1 p) 1 = u 1 := hdf.row (Or.inl rfl)
        obtain ⟨b, u', k1, k2, k3⟩ := ih (tokT (u 1) t p).2 (c + (tokT (u 1) t p).1) fuel (mrow u c (tokT (u 1) t p).1 (u 1 p)) (by omega) g2 (by omega) (mrow_c _ _ _ _) hk.2.2
        refine ⟨b, u', k1, hdf.tr k2, ?_⟩
        rw [h1, mrow_r] at k3
        rcases k3 with ⟨rfl, c', l1, l2, l3⟩ | ⟨rfl, l3⟩
        · exact Or.inl ⟨rfl, c', l1, l2, Or.inl ⟨hpt, hk, l3⟩⟩
        · refine Or.inr ⟨rfl, fun q hq => ?_⟩
          rcases hq with ⟨-, -, hq⟩ | ⟨hq, -⟩
          · exact l3 q hq
          · exact hq hpt
      · rw [hs.2 hk]
        refine ⟨0, u, rfl, DF.rf u, Or.inr ⟨rfl, fun q hq => ?_⟩⟩
        rcases hq with ⟨-, hq, -⟩ | ⟨hq, -⟩
        · exact hk hq
        · exact hq hpt
    · obtain ⟨fuel, rfl⟩ : ∃ z, fuel = z + 1 := ⟨fuel - 1, by omega⟩
      refine ⟨1, u, ?_, DF.rf u, Or.inl ⟨rfl, c, hc24, hc, exL_end hpt _⟩⟩
      show m_M_expands_10b v _ (nI p) u = _
      unfold m_M_expands_10b
      rw [hv, if_pos (nI_le (by omega) (by omega)), if_neg (nI_nle (by omega) (by omega)), zbo_1]
/-- a legal expansion is the class's, its row all legal -/
theorem exL_exS {y : Nat → Int32} {t : Nat} : ∀ (n p c : Nat) (row : Nat → Int32) (q : Nat × (Nat → Int32)), exL y t n p c row q → (∀ j, j < c → lg (row j)) → exS y t n p c row = some q ∧ (∀ j, j < q.1 → lg (q.2 j)) ∧ c ≤ q.1 ∧ (0 < n → p < t → c < q.1) := by
  intro n
  induction n with
  | zero => intro p c row q h hl; obtain rfl := h; exact ⟨rfl, hl, Nat.le_refl _, fun h => absurd h (by decide)⟩
  | succ n ih =>
    intro p c row q h hl
    rcases h with ⟨hp, hk, h⟩ | ⟨hp, rfl⟩
    · obtain ⟨e1, e2, e3, -⟩ := ih _ _ _ q h (by
        intro j hj
        unfold rput
        by_cases hc : c ≤ j ∧ j < c + (tokT y t p).1
        · rw [if_pos hc]; exact hk.1
        · rw [if_neg hc]; exact hl j (by omega))
      refine ⟨?_, e2, by omega, fun _ _ => by omega⟩
      show (if p < t then _ else _) = _
      rw [if_pos hp, if_pos hk.2, e1]
    · exact ⟨if_neg hp, hl, Nat.le_refl _, fun _ h => absurd h hp⟩
/-- where no legal expansion is, the class has none either, or one with a character that is no symbol -/
theorem exL_not {y : Nat → Int32} {t : Nat} : ∀ (n p c : Nat) (row : Nat → Int32), (∀ q, ¬ exL y t n p c row q) → (∀ q, exS y t n p c row = some q → ∃ j, j < q.1 ∧ ¬ lg (q.2 j)) := by
  have keep : ∀ (n p c : Nat) (row : Nat → Int32) (q : Nat × (Nat → Int32)), exS y t n p c row = some q → c ≤ q.1 ∧ ∀ j, j < c → q.2 j = row j := by
    intro n
    induction n with
    | zero => intro p c row q h; cases h; exact ⟨Nat.le_refl _, fun _ _ => rfl⟩
    | succ n ih =>
      intro p c row q h
      by_cases hp : p < t
      · have h : (if p < t then (if 1 ≤ (tokT y t p).1 ∧ c + (tokT y t p).1 ≤ 24 then exS y t n (tokT y t p).2 (c + (tokT y t p).1) (rput row c (tokT y t p).1 (y p)) else none) else some (c, row)) = some q := h
        rw [if_pos hp] at h
        by_cases hk : 1 ≤ (tokT y t p).1 ∧ c + (tokT y t p).1 ≤ 24
        · rw [if_pos hk] at h
          obtain ⟨g1, g2⟩ := ih _ _ _ q h
          exact ⟨by omega, fun j hj => by rw [g2 j (by omega)]; unfold rput; rw [if_neg (by omega)]⟩
        · rw [if_neg hk] at h; cases h
      · rw [exS_end hp] at h; cases h; exact ⟨Nat.le_refl _, fun _ _ => rfl⟩
  intro n
  induction n with
  | zero => intro p c row h q _; exact absurd rfl (h (c, row))
  | succ n ih =>
    intro p c row h q hq
    by_cases hp : p < t
    · have hq' : (if p < t then (if 1 ≤ (tokT y t p).1 ∧ c + (tokT y t p).1 ≤ 24 then exS y t n (tokT y t p).2 (c + (tokT y t p).1) (rput row c (tokT y t p).1 (y p)) else none) else some (c, row)) = some q := hq
      rw [if_pos hp] at hq'
      by_cases hk : 1 ≤ (tokT y t p).1 ∧ c + (tokT y t p).1 ≤ 24
      · rw [if_pos hk] at hq'
        by_cases hg : lg (y p)
        · exact ih _ _ _ (fun q2 h2 => h q2 (Or.inl ⟨hp, ⟨hg, hk⟩, h2⟩)) q hq'
        · obtain ⟨g1, g2⟩ := keep _ _ _ _ q hq'
          refine ⟨c, by omega, ?_⟩
          rw [g2 c (by omega)]
          unfold rput
          rw [if_pos (by omega)]
          exact hg
      · rw [if_neg hk] at hq'; cases hq'
    · exact absurd (exL_end hp _) (h (c, row))
