theorem C_E117 {b sv sr v rw pw : Nat → Int32} {t1 : Int32} {t0 bf bh : Nat} (h2 : v 2 = nI bf) (h3 : v 3 = nI bh) (hbf : bf ≤ 24) (hbh : bh ≤ 24) :
    m_E_fits_117 b sv sr (nI t0) t1 v rw pw = some (if 1 ≤ bf + bh ∧ bf + bh ≤ 12 then 1 else 0, upd v 1 (t1 + nI t0), rw, pw) := by
  unfold m_E_fits_117
  rw [pk_un (by decide), pk_un (by decide), h2, h3, nI_add]
  by_cases g1 : 1 ≤ bf + bh
  · rw [if_neg (show ¬ nI (bf + bh) < 1 from nI_nlt (b := 1) g1 (by omega))]
    by_cases g2 : bf + bh ≤ 12
    · rw [if_neg (show ¬ 12 < nI (bf + bh) from nI_nlt (a := 12) g2 (by decide)), zbo_1, if_pos ⟨g1, g2⟩]
    · rw [if_pos (show 12 < nI (bf + bh) from nI_lt (a := 12) (by omega) (by omega)), zbo_0, if_neg (fun z => g2 z.2)]
  · rw [if_pos (show nI (bf + bh) < 1 from nI_lt (b := 1) (by omega) (by decide)), zbo_0, if_neg (fun z => g1 z.1)]
theorem C_E84 {b sv sr v rw pw : Nat → Int32} {N e m bf bh : Nat} (t : Bool) (hc : sv 1 = nI N) (h0 : 0 < N) (hN : N ≤ 24) (he : e ≤ N) (hm : m ≤ e) (h10 : v 10 = nI e) (h15 : v 15 = nI m) (h8 : v 8 = (if tr rw N then rw (N - 1) else -1)) (h2 : v 2 = nI bf) (h3 : v 3 = nI bh) (hbf : bf ≤ 24) (hbh : bh ≤ 24) :
    m_E_fits_84 b sv sr (if t then 1 else 0) v rw pw = some (if 1 ≤ bf + bh ∧ bf + bh ≤ 12 then 1 else 0, upd (upd v 4 (if t then 1 else 0)) 1 (nI (N - (if decide (m < e ∧ rw m = 86) = true then 1 else 0) + (if lts rw N = true then 1 else 0))), rw, pw) := by
  have hz : m_E_fits_84 b sv sr (if t then 1 else 0) v rw pw = (m_E_hasHiddenPoint (upd v 4 (if t then 1 else 0)) b rw pw).bind (fun q15 => (if q15 = 0 then m_E_fits_104 b sv sr 0 (sv 1) (upd v 4 (if t then 1 else 0)) rw pw else m_E_fits_104 b sv sr 1 (sv 1) (upd v 4 (if t then 1 else 0)) rw pw)) := by
    unfold m_E_fits_84
    cases t
    · exact zbo_0
    · exact zbo_1
  rw [hz, C_hidden (by omega) hm (by rw [pk_un (by decide)]; exact h10) (by rw [pk_un (by decide)]; exact h15)]
  simp only [Option.bind_some]
  have h104 : ∀ d : Nat, d ≤ 1 → m_E_fits_104 b sv sr (nI d) (sv 1) (upd v 4 (if t then 1 else 0)) rw pw = some (if 1 ≤ bf + bh ∧ bf + bh ≤ 12 then 1 else 0, upd (upd v 4 (if t then 1 else 0)) 1 (nI (N - d + (if lts rw N = true then 1 else 0))), rw, pw) := by
    intro d hd
    unfold m_E_fits_104
    rw [C_letter (by rw [pk_un (by decide)]; exact h8), hc, pk_sub (by omega)]
    simp only [Option.bind_some]
    by_cases g : lts rw N = true
    · rw [if_pos g, if_pos g, if_neg (by decide), show (1 : Int32) = nI 1 from rfl, C_E117 (by rw [pk_un (by decide)]; exact h2) (by rw [pk_un (by decide)]; exact h3) hbf hbh, nI_add]
      rfl
    · rw [if_neg g, if_neg g, if_pos rfl, show (0 : Int32) = nI 0 from rfl, C_E117 (by rw [pk_un (by decide)]; exact h2) (by rw [pk_un (by decide)]; exact h3) hbf hbh, nI_add]
      rfl
  by_cases g : decide (m < e ∧ rw m = 86) = true
  · rw [if_pos g, if_pos g, if_neg (by decide)]; exact h104 1 (by omega)
  · rw [if_neg g, if_neg g, if_pos rfl]; exact h104 0 (by omega)
theorem C_Efits {v b rw0 pw sv sr : Nat → Int32} {N : Nat} (hc : sv 1 = nI N) (h0 : 0 < N) (hN : N ≤ 24) :
    (∃ fl pt v' pw', EOK (va_cpy sr rw0 0 0 N) N fl pt ∧ m_E_fits v b rw0 pw sv sr = some (1, v', va_cpy sr rw0 0 0 N, pw') ∧ efl (va_cpy sr rw0 0 0 N) N fl pt v' ∧ pw' = pwF pw (edg (va_cpy sr rw0 0 0 N) N fl) (v' 2) (eA (va_cpy sr rw0 0 0 N) N) (eB (va_cpy sr rw0 0 0 N) N - eA (va_cpy sr rw0 0 0 N) N)) ∨
    ((∀ fl pt, ¬ EOK (va_cpy sr rw0 0 0 N) N fl pt) ∧ ∃ v' pw', m_E_fits v b rw0 pw sv sr = some (0, v', va_cpy sr rw0 0 0 N, pw')) := by
  unfold m_E_fits
  rw [hc, nI_clamp (by omega), zcp_ok hN (by decide)]
  generalize va_cpy sr rw0 0 0 N = f
  have hA := eA_le f N
  have hB := eB_le f N
  obtain ⟨v1, e1, a7, a8, a9, a10, -⟩ := C_takeApart (v := v) (b := b) (rw := f) (pw := pw) h0 hN
  rw [e1]
  simp only [Option.bind_some]
  have hcb := C_countBody (b := b) (rw := f) (pw := pw) hA.2 (by omega) a9 a10
  cases hq : bdy f (eB f N - eA f N) (eA f N) 0 none with
  | none =>
    rw [hq] at hcb
    obtain ⟨v2, e2⟩ := hcb
    rw [e2]
    simp only [Option.bind_some, if_true, zbo_0]
    exact Or.inr ⟨fun fl pt z => (by have := z.1; rw [hq] at this; cases this), _, _, rfl⟩
  | some q =>
    obtain ⟨fl, pt⟩ := q
    rw [hq] at hcb
    obtain ⟨v2, e2, c0, c11, c12, c13, c14, c15⟩ := hcb
    simp only [] at c11 c12 c13 c15
    rw [e2]
    simp only [Option.bind_some, show ¬ (1 : Int32) = 0 by decide, if_false, zbo_0]
    have uniq : ∀ fl' pt', EOK f N fl' pt' → fl' = fl ∧ pt' = pt := by
      intro fl' pt' z
      have := z.1
      rw [hq] at this
      cases this
      exact ⟨rfl, rfl⟩
    obtain ⟨f1, f2, f3, f4, f5, f6⟩ := EB_facts hq
    have b7 := (c0 7 (by decide) (by decide) (by decide) (by decide) (by decide)).trans a7
    have b8 := (c0 8 (by decide) (by decide) (by decide) (by decide) (by decide)).trans a8
    have b9 := (c0 9 (by decide) (by decide) (by decide) (by decide) (by decide)).trans a9
    have b10 := (c0 10 (by decide) (by decide) (by decide) (by decide) (by decide)).trans a10
    rcases C_signs (b := b) (rw := f) (pw := pw) b7 b8 c11 with ⟨g1, g2⟩ | ⟨g1, g2⟩
    · rw [g2]
      simp only [Option.bind_some, show ¬ (1 : Int32) = 0 by decide, if_false]
      have hfs : ((fl ≠ 0 → OR f (eA f N) (eB f N) (pt.getD (eB f N)) fl ∧ ¬ (flo fl = true ∧ cnt f fl (eA f N) (eB f N - eA f N) < 2)) ∧ m_E_fillsStandRight v2 b f pw = some 1) ∨ (¬ (fl ≠ 0 → OR f (eA f N) (eB f N) (pt.getD (eB f N)) fl ∧ ¬ (flo fl = true ∧ cnt f fl (eA f N) (eB f N - eA f N) < 2)) ∧ m_E_fillsStandRight v2 b f pw = some 0) := by
        by_cases z : fl = 0
        · rw [if_pos z] at c12
          exact Or.inl ⟨fun y => absurd z y, C_fsr0 c12⟩
        · rw [if_neg z] at c11 c12
          rw [if_pos z] at c13
          rcases C_fsr (b := b) (rw := f) (pw := pw) hA.2 (by omega) f4 b9 b10 c11 c12 (f3 z).2 c13 c14 c15 (fun y => (f6 y).1) with ⟨k1, k2⟩ | ⟨k1, k2⟩
          · exact Or.inl ⟨fun _ => k1, k2⟩
          · exact Or.inr ⟨fun y => k1 (y z), k2⟩
      rcases hfs with ⟨h1, h2⟩ | ⟨h1, h2⟩
      · rw [h2]
        simp only [Option.bind_some, show ¬ (1 : Int32) = 0 by decide, if_false]
        have hfF : eF f N fl < 1000 := by
          by_cases z : fl = 0
          · unfold eF
            rcases fst_some (f := f) (x := fl) (eB f N - eA f N) (eA f N) with ⟨y1, -⟩ | ⟨k, y1, y2, y3, -⟩
            · rw [y1]; decide
            · rw [y3, nI_clamp (by omega)]; omega
          · have := (eF_is hN (f3 z).2).2.2.1; omega
        have k13 : flo fl = true → v2 13 = nI (eF f N fl) := by
          intro z
          have hz : fl ≠ 0 := by rintro rfl; rw [flo_0] at z; cases z
          rw [c13, if_pos hz, (eF_is hN (f3 hz).2).1]
        obtain ⟨v3, p1, p2, p3, p4⟩ := C_placeDigits (b := b) (rw := f) (pw := pw) (fF := eF f N fl) hA.2 (by omega) f4 hfF b9 b10 c11 k13 c15 f1
        rw [p1]
        simp only [Option.bind_some]
        have d7 := (p4 7 (by decide) (by decide)).trans b7
        have d8 := (p4 8 (by decide) (by decide)).trans b8
        have d11 := (p4 11 (by decide) (by decide)).trans c11
        have d10 := (p4 10 (by decide) (by decide)).trans b10
        have d15 := (p4 15 (by decide) (by decide)).trans c15
        have l1 := dcn_le (fun j => eD f fl (eF f N fl) j && decide (j < pt.getD (eB f N))) (eB f N - eA f N) (eA f N)
        have l2 := dcn_le (fun j => eD f fl (eF f N fl) j && decide (pt.getD (eB f N) < j)) (eB f N - eA f N) (eA f N)
        have hsum := dcn_split (D := edg f N fl) (m := pt.getD (eB f N)) (eB f N - eA f N) (eA f N) (fun j j1 j2 => edg_m hq j j1 (by omega))
        have h84 := fun t : Bool => C_E84 (b := b) (sv := sv) (sr := sr) (pw := pwF pw (eD f fl (eF f N fl)) (v3 2) (eA f N) (eB f N - eA f N)) t hc h0 hN hB f4 d10 d15 d8 p2 p3 (by omega) (by omega)
        have hA84 : (if v3 7 = -1 then if v3 8 = -1 then (m_E_isSign (v3 11)).bind (fun q25 => if q25 = 0 then m_E_fits_84 b sv sr 0 v3 f (pwF pw (eD f fl (eF f N fl)) (v3 2) (eA f N) (eB f N - eA f N)) else m_E_fits_79 b sv sr v3 f (pwF pw (eD f fl (eF f N fl)) (v3 2) (eA f N) (eB f N - eA f N))) else m_E_fits_79 b sv sr v3 f (pwF pw (eD f fl (eF f N fl)) (v3 2) (eA f N) (eB f N - eA f N)) else m_E_fits_79 b sv sr v3 f (pwF pw (eD f fl (eF f N fl)) (v3 2) (eA f N) (eB f N - eA f N))) = m_E_fits_84 b sv sr (if decide (tr f N = true ∨ ld f N = true ∨ fl = 43 ∨ fl = 45) = true then 1 else 0) v3 f (pwF pw (eD f fl (eF f N fl)) (v3 2) (eA f N) (eB f N - eA f N)) := by
          unfold m_E_fits_79
          have q7 : (v3 7 = -1) ↔ ld f N = false := by rw [d7]; exact ld_ne
          have q8 : (v3 8 = -1) ↔ tr f N = false := by rw [d8]; exact tr_ne
          cases hl : ld f N
          · rw [if_pos (q7.mpr hl)]
            cases ht : tr f N
            · rw [if_pos (q8.mpr ht), C_isSign, d11]
              simp only [Option.bind_some]
              by_cases g : fl = 43 ∨ fl = 45
              · rw [if_pos (fl_sign.mpr g), if_neg (by decide), if_pos (by simp [g])]
              · rw [if_neg (fun z => g (fl_sign.mp z)), if_pos rfl, if_neg (by simp [g])]
            · rw [if_neg (fun z => by have := q8.mp z; rw [ht] at this; cases this), if_pos (by simp)]
          · rw [if_neg (fun z => by have := q7.mp z; rw [hl] at this; cases this), if_pos (by simp)]
        rw [hA84, h84]
        by_cases hd : 1 ≤ dcn (edg f N fl) (eB f N - eA f N) (eA f N) ∧ dcn (edg f N fl) (eB f N - eA f N) (eA f N) ≤ 12
        · rw [if_pos (show 1 ≤ dcn (fun j => eD f fl (eF f N fl) j && decide (j < pt.getD (eB f N))) (eB f N - eA f N) (eA f N) + dcn (fun j => eD f fl (eF f N fl) j && decide (pt.getD (eB f N) < j)) (eB f N - eA f N) (eA f N) ∧ dcn (fun j => eD f fl (eF f N fl) j && decide (j < pt.getD (eB f N))) (eB f N - eA f N) (eA f N) + dcn (fun j => eD f fl (eF f N fl) j && decide (pt.getD (eB f N) < j)) (eB f N - eA f N) (eA f N) ≤ 12 from by rw [hsum] at hd; exact hd)]
          refine Or.inl ⟨fl, pt, _, _, ⟨hq, g1.1, g1.2, h1, hd⟩, rfl, ⟨pk_us, ?_, ?_, ?_, ?_, ?_, ?_, ?_, ?_, ?_, ?_, ?_⟩, ?_⟩
          · rw [pk_un (by decide), pk_un (by decide)]; exact p2
          · rw [pk_un (by decide), pk_un (by decide)]; exact p3
          · rw [pk_un (by decide), pk_us]
            by_cases z : tr f N = true ∨ ld f N = true ∨ fl = 43 ∨ fl = 45
            · rw [if_pos (decide_eq_true z), if_pos z]
            · rw [if_neg (by rw [decide_eq_false z]; decide), if_neg z]
          · rw [pk_un (by decide), pk_un (by decide)]; exact d7
          · rw [pk_un (by decide), pk_un (by decide)]; exact d8
          · rw [pk_un (by decide), pk_un (by decide)]; exact (p4 9 (by decide) (by decide)).trans b9
          · rw [pk_un (by decide), pk_un (by decide)]; exact d10
          · rw [pk_un (by decide), pk_un (by decide)]; exact d11
          · rw [pk_un (by decide), pk_un (by decide)]; exact (p4 13 (by decide) (by decide)).trans c13
          · rw [pk_un (by decide), pk_un (by decide)]; exact (p4 14 (by decide) (by decide)).trans c14
          · rw [pk_un (by decide), pk_un (by decide)]; exact d15
          · rw [pk_un (by decide), pk_un (by decide)]; rfl
        · rw [if_neg (show ¬ (1 ≤ dcn (fun j => eD f fl (eF f N fl) j && decide (j < pt.getD (eB f N))) (eB f N - eA f N) (eA f N) + dcn (fun j => eD f fl (eF f N fl) j && decide (pt.getD (eB f N) < j)) (eB f N - eA f N) (eA f N) ∧ dcn (fun j => eD f fl (eF f N fl) j && decide (j < pt.getD (eB f N))) (eB f N - eA f N) (eA f N) + dcn (fun j => eD f fl (eF f N fl) j && decide (pt.getD (eB f N) < j)) (eB f N - eA f N) (eA f N) ≤ 12) from by rw [hsum] at hd; exact hd)]
          refine Or.inr ⟨fun fl' pt' z => ?_, _, _, rfl⟩
          obtain ⟨y1, y2⟩ := uniq _ _ z
          subst y1 y2
          exact hd z.2.2.2.2
      · rw [h2]
        simp only [Option.bind_some, if_true]
        refine Or.inr ⟨fun fl' pt' z => ?_, _, _, rfl⟩
        obtain ⟨y1, y2⟩ := uniq _ _ z
        subst y1 y2
        exact h1 z.2.2.2.1
    · rw [g2]
      simp only [Option.bind_some, if_true]
      refine Or.inr ⟨fun fl' pt' z => ?_, _, _, rfl⟩
      obtain ⟨y1, y2⟩ := uniq _ _ z
      subst y1 y2
      exact g1 ⟨z.2.1, z.2.2.1⟩
