/-- a number's picture in the reference, at place x -/
def rN (u : Nat → Nat → Int32) (x : Nat) (f : Nat → Int32) (N a before behind nines low : Nat) : Prop :=
  u 2 x = nI N ∧ (∀ j, j < N → u 3 (24 * x + j) = f j) ∧ (∀ j, j < N → u 4 (24 * x + j) = if f j = 57 then nI (nines + low - cnt f 57 0 j) else 0) ∧ u 5 x = 0 ∧ u 7 x = nI before ∧ u 8 x = nI behind ∧ u 9 x = nI a ∧ u 10 x = nI low
/-- a text's -/
def rT (u : Nat → Nat → Int32) (x N : Nat) : Prop := u 2 x = nI N ∧ u 5 x = 1 ∧ u 7 x = 0 ∧ u 8 x = 0 ∧ u 9 x = 0
/-- an edited one's -/
def rE (u : Nat → Nat → Int32) (x : Nat) (f : Nat → Int32) (N : Nat) (fl : Int32) (pt : Option Nat) : Prop :=
  u 2 x = nI N ∧ (∀ j, j < N → u 3 (24 * x + j) = f j) ∧ (∀ j, j < N → u 4 (24 * x + j) = if dal f N fl j then nI (dcn (edg f N fl) (eB f N - eA f N) (eA f N) - dcn (dal f N fl) j 0) else 0) ∧ u 5 x = 2 ∧
  u 7 x = nI (dcn (fun j => edg f N fl j && decide (j < pt.getD (eB f N))) (eB f N - eA f N) (eA f N)) ∧
  u 8 x = nI (dcn (fun j => edg f N fl j && decide (pt.getD (eB f N) < j)) (eB f N - eA f N) (eA f N)) ∧
  u 9 x = (if tr f N = true ∨ ld f N = true ∨ fl = 43 ∨ fl = 45 then 1 else 0) ∧ u 11 x = fl ∧ u 12 x = nI (eA f N) ∧ u 13 x = nI (eB f N) ∧ u 14 x = vx pt
/-- a number's picture in the class -/
def cN (v : Nat → Int32) (a before behind nines low : Nat) : Prop := v 2 = nI before ∧ v 3 = nI behind ∧ v 4 = nI a ∧ v 5 = nI nines ∧ v 6 = (if low = 0 then 0 - nI behind else nI low)
theorem rE_ext {u : Nat → Nat → Int32} {x : Nat} {f g : Nat → Int32} {N : Nat} {fl : Int32} {pt : Option Nat} (h : agr f g N) (h0 : 0 < N) (k : rE u x f N fl pt) : rE u x g N fl pt := by
  have hA := eA_le g N
  have hB := eB_le g N
  obtain ⟨k1, k2, k3, k4, k5, k6, k7, k8, k9, k10, k11⟩ := k
  have hdal : ∀ j, j < N → dal f N fl j = dal g N fl j := fun j hj => by unfold dal; rw [agr_eA h h0, agr_eB h h0, agr_edg h h0 fl hj]
  rw [agr_eA h h0, agr_eB h h0, agr_dcn h h0 fl _ (by omega)] at k5 k6
  rw [agr_tr h h0, agr_ld h h0] at k7
  rw [agr_eA h h0] at k9
  rw [agr_eB h h0] at k10
  refine ⟨k1, fun j hj => by rw [k2 j hj]; exact h j hj, fun j hj => ?_, k4, k5, k6, k7, k8, k9, k10, k11⟩
  rw [k3 j hj, hdal j hj, agr_eA h h0, agr_eB h h0, agr_dcn1 h h0 fl (by omega), dcn_ext j 0 (fun i _ i2 => hdal i (by omega))]
theorem pic_both {v : Nat → Int32} {u : Nat → Nat → Int32} {t : Nat} (ht : t ≤ 24) (hv : v 1 = nI t) (sv sr vn bn vt bt ve be rw pw : Nat → Int32) :
    ∃ b u', m_M_reads v u = some (b, u') ∧ DF u u' ∧
      ((b = 0 ∧ ((∃ sv' sr', m_S_expand (nI t) sv sr (u 1) = some (0, sv', sr')) ∨
          ∃ sv' sr' vn' x ve' rw' pw', m_S_expand (nI t) sv sr (u 1) = some (1, sv', sr') ∧ m_N_fits vn bn sv' sr' = some (0, vn') ∧ m_T_fits vt bt sv' sr' = some (0, upd vt 1 x) ∧ m_E_fits ve be rw pw sv' sr' = some (0, ve', rw', pw'))) ∨
       (b = 1 ∧ ∃ sv' sr' N, 0 < N ∧ N ≤ 24 ∧ m_S_expand (nI t) sv sr (u 1) = some (1, sv', sr') ∧
          ((∃ f a before behind nines low vn', a = (if f 0 = 83 then 1 else 0) ∧ NF f N a before behind nines low ∧ before + behind ≤ 12 ∧ m_N_fits vn bn sv' sr' = some (1, vn') ∧ cN vn' a before behind nines low ∧ rN u' 8 f N a before behind nines low ∧ u' 15 8 = nI nines) ∨
           (∃ vn', m_N_fits vn bn sv' sr' = some (0, vn') ∧ m_T_fits vt bt sv' sr' = some (1, upd vt 1 (nI N)) ∧ rT u' 8 N ∧ u' 15 8 = nI N) ∨
           (∃ vn' x, m_N_fits vn bn sv' sr' = some (0, vn') ∧ m_T_fits vt bt sv' sr' = some (0, upd vt 1 x) ∧ ∃ ve' g pw' fl pt, m_E_fits ve be rw pw sv' sr' = some (1, ve', g, pw') ∧ EOK g N fl pt ∧ efl g N fl pt ve' ∧ pw' = pwF pw (edg g N fl) (ve' 2) (eA g N) (eB g N - eA g N) ∧ rE u' 8 g N fl pt ∧ u' 15 8 = nI (wsm g N 0))))) := by
  obtain ⟨b, u1, e1, d1, h⟩ := expand_both (u := u) ht hv sv sr
  rcases h with ⟨rfl, c, sv', sr', c0, c24, u28, hrow, hsv, hexp⟩ | ⟨rfl, h⟩
  · -- both have expanded it
    have hf : ∀ j, u1 3 (192 + j) = (fun j => u1 3 (192 + j)) j := fun _ => rfl
    generalize hfd : (fun j => u1 3 (192 + j)) = f at hf
    have hag : agr f sr' c := fun j hj => by rw [← hf j]; exact (hrow j hj).2
    have hrd : m_M_reads v u = (m_M_isNumber v u1).bind (fun q4 => (if q4.1 = 0 then (m_M_isText v q4.2).bind (fun q7 => (if q7.1 = 0 then (m_M_isEdited v q7.2).bind (fun q9 => (if q9.1 = 0 then some (0, q9.2) else some (1, q9.2))) else some (1, q7.2))) else some (1, q4.2))) := by
      unfold m_M_reads m_M_reads_28
      rw [e1]
      simp only [Option.bind_some, show ¬ (1 : Int32) = 0 by decide, if_false, zbo_0, zbo_1]
    have ha : (if sr' 0 = 83 then 1 else 0) = (if f 0 = 83 then 1 else 0) := by rw [hag 0 c0]
    have hrow8 : ∀ (w : Nat → Nat → Int32), w 3 = u1 3 → ∀ j, j < c → w 3 (24 * 8 + j) = f j := by
      intro w hw j _
      rw [hw, show 24 * 8 + j = 192 + j by omega]; exact hf j
    obtain ⟨vn', b', h', n', l', hfl, hfit⟩ := C_fits (v := vn) (b := bn) (sr := sr') hsv c24 c0
    rw [ha] at hfit
    rw [show sr' 0 = f 0 from (hag 0 c0).symm] at hfl
    obtain ⟨a, hadef⟩ : ∃ a : Nat, a = (if f 0 = 83 then 1 else 0) := ⟨_, rfl⟩
    have ha01 : a ≤ c := by rw [hadef]; split <;> omega
    rcases P_isNumber (v := v) (f := f) c24 c0 hf u28 with ⟨before, behind, nines, low, u2, n1, n2, n3, n4⟩ | ⟨n1, n3⟩
    · -- a number
      rw [n3] at hrd
      simp only [Option.bind_some, show ¬ (1 : Int32) = 0 by decide, if_false] at hrd
      obtain ⟨q1, q2, q3, q4, q5, q6, q7, q8, q9, q10⟩ := n4
      refine ⟨1, u2, hrd, d1.tr q1, Or.inr ⟨rfl, sv', sr', c, c0, c24, hexp, Or.inl ?_⟩⟩
      rw [← hadef] at hfit n1
      rcases hfit with ⟨p1, p2, p3, p4⟩ | ⟨p1, p4⟩
      · obtain ⟨lw, z1, z2⟩ := nPic_NF ha01 p1
        obtain ⟨rfl, rfl, rfl, rfl⟩ := NF_uniq n1 (agr_NF (agr_sym hag) z1)
        rw [if_pos n2] at p4
        refine ⟨f, a, before, behind, nines, low, vn', hadef, n1, n2, p4, ⟨hfl.1, hfl.2.1, ?_, hfl.2.2.1, ?_⟩, ⟨?_, ?_, ?_, q4, q7, q8, ?_, q6⟩, q9⟩
        · rw [hfl.2.2.2.2 4 (by decide) (by decide) (by decide) (by decide), pk_us, hadef]
          by_cases z : f 0 = 83
          · rw [if_pos z, if_pos z]; rfl
          · rw [if_neg z, if_neg z]; rfl
        · rw [hfl.2.2.2.1, z2]
        · rw [q2]; exact u28
        · exact hrow8 u2 q3
        · intro j hj
          rw [show 24 * 8 + j = 192 + j by omega]; exact q10 j hj
        · rw [q5, hadef]
      · exact absurd p1 (NF_nPic ha01 (agr_NF hag n1))
    · -- no number
      rw [n3] at hrd
      simp only [Option.bind_some, if_true] at hrd
      have hN0 : m_N_fits vn bn sv' sr' = some (0, vn') := by
        rw [← hadef] at hfit n1
        rcases hfit with ⟨p1, p2, p3, p4⟩ | ⟨p1, p4⟩
        · obtain ⟨lw, z1, z2⟩ := nPic_NF ha01 p1
          have := n1 _ _ _ _ (agr_NF (agr_sym hag) z1)
          rw [if_neg (by omega)] at p4
          exact p4
        · exact p4
      rcases P_isText (v := v) (f := f) c24 hf u28 with ⟨t1, u2, t2, t3⟩ | ⟨t1, t2⟩
      · rw [t2] at hrd
        simp only [Option.bind_some, show ¬ (1 : Int32) = 0 by decide, if_false] at hrd
        obtain ⟨q1, q2, q3, q4, q5, q6, q7, q8⟩ := t3
        refine ⟨1, u2, hrd, d1.tr q1, Or.inr ⟨rfl, sv', sr', c, c0, c24, hexp, Or.inr (Or.inl ⟨vn', hN0, ?_, ⟨by rw [q2]; exact u28, q4, q6, q7, q5⟩, q8⟩)⟩⟩
        rcases C_Tfits (v := vt) (b := bt) (sr := sr') hsv c24 with ⟨-, k⟩ | ⟨k, -⟩
        · exact k
        · exact absurd ((agr_TP hag).mp t1) k
      · rw [t2] at hrd
        simp only [Option.bind_some, if_true] at hrd
        obtain ⟨x, hT0⟩ : ∃ x, m_T_fits vt bt sv' sr' = some (0, upd vt 1 x) := by
          rcases C_Tfits (v := vt) (b := bt) (sr := sr') hsv c24 with ⟨k, -⟩ | ⟨-, k⟩
          · exact absurd ((agr_TP hag).mpr k) t1
          · exact k
        have hag2 : agr f (va_cpy sr' rw 0 0 c) c := fun j hj => by
          rw [hag j hj, pk_cpy_in (by omega) (by omega)]
          congr 1; omega
        rcases P_isEdited (v := v) (f := f) c0 c24 hf u28 with ⟨fl, pt, u2, k1, k2, k3⟩ | ⟨k1, u2, k2, k3⟩
        · rw [k2] at hrd
          simp only [Option.bind_some, show ¬ (1 : Int32) = 0 by decide, if_false] at hrd
          obtain ⟨q1, q2, q3, q4, q5, q6, q7, q8, q9, q10, q11, q12, q13⟩ := k3
          refine ⟨1, u2, hrd, d1.tr q1, Or.inr ⟨rfl, sv', sr', c, c0, c24, hexp, Or.inr (Or.inr ⟨vn', x, hN0, hT0, ?_⟩)⟩⟩
          rcases C_Efits (v := ve) (b := be) (rw0 := rw) (pw := pw) (sr := sr') hsv c0 c24 with ⟨fl', pt', ve', pw', m1, m2, m3, m4⟩ | ⟨m1, -⟩
          · have hE := agr_EOK (agr_sym hag2) c0 m1
            have : fl' = fl ∧ pt' = pt := by
              have h1 := k1.1
              have h2 := hE.1
              rw [h1] at h2
              cases h2
              exact ⟨rfl, rfl⟩
            obtain ⟨rfl, rfl⟩ := this
            have hw : wsm f c 0 = wsm (va_cpy sr' rw 0 0 c) c 0 := by
              have : ∀ (n k : Nat), k + n ≤ c → wsm f n k = wsm (va_cpy sr' rw 0 0 c) n k := by
                intro n
                induction n with
                | zero => intro k _; rfl
                | succ n ih => intro k hk; rw [wsm_s, wsm_s, hag2 k (by omega), ih (k + 1) (by omega)]
              exact this c 0 (by omega)
            refine ⟨ve', _, pw', fl', pt', m2, m1, m3, m4, rE_ext hag2 c0 ⟨?_, ?_, ?_, q4, q6, q7, q5, q8, q9, q10, q11⟩, by rw [q12, hw]⟩
            · rw [q2]; exact u28
            · exact hrow8 u2 q3
            · intro j hj
              rw [show 24 * 8 + j = 192 + j by omega]; exact q13 j hj
          · exact absurd (agr_EOK hag2 c0 k1) (m1 fl pt)
        · rw [k2] at hrd
          simp only [Option.bind_some, if_true] at hrd
          refine ⟨0, u2, hrd, d1.tr k3, Or.inl ⟨rfl, Or.inr ?_⟩⟩
          rcases C_Efits (v := ve) (b := be) (rw0 := rw) (pw := pw) (sr := sr') hsv c0 c24 with ⟨fl', pt', ve', pw', m1, m2, m3, m4⟩ | ⟨m1, ve', pw', m2⟩
          · exact absurd (agr_EOK (agr_sym hag2) c0 m1) (k1 fl' pt')
          · exact ⟨sv', sr', vn', x, ve', _, pw', hexp, hN0, hT0, m2⟩
  · have hrd : m_M_reads v u = some (0, u1) := by
      unfold m_M_reads
      rw [e1]
      simp only [Option.bind_some, if_true, zbo_0]
    refine ⟨0, u1, hrd, d1, Or.inl ⟨rfl, ?_⟩⟩
    rcases h with ⟨sv', sr', h⟩ | ⟨c, sv', sr', c0, c24, hsv, ⟨j, hj, hnl⟩, hexp⟩
    · exact Or.inl ⟨sv', sr', h⟩
    · right
      obtain ⟨vn', b', h', n', l', hfl, hfit⟩ := C_fits (v := vn) (b := bn) (sr := sr') hsv c24 c0
      have hN0 : m_N_fits vn bn sv' sr' = some (0, vn') := by
        rcases hfit with ⟨p1, p2, p3, p4⟩ | ⟨p1, p4⟩
        · obtain ⟨lw, z1, z2⟩ := nPic_NF (by split <;> omega) p1
          exact absurd (NF_lg z1 j hj) hnl
        · exact p4
      obtain ⟨x, hT0⟩ : ∃ x, m_T_fits vt bt sv' sr' = some (0, upd vt 1 x) := by
        rcases C_Tfits (v := vt) (b := bt) (sr := sr') hsv c24 with ⟨k, -⟩ | ⟨-, k⟩
        · exact absurd (TP_lg k j hj) hnl
        · exact k
      rcases C_Efits (v := ve) (b := be) (rw0 := rw) (pw := pw) (sr := sr') hsv c0 c24 with ⟨fl', pt', ve', pw', m1, m2, m3, m4⟩ | ⟨m1, ve', pw', m2⟩
      · have := EOK_lg m1 j hj
        rw [pk_cpy_in (by omega) (by omega), show 0 + (j - 0) = j by omega] at this
        exact absurd this hnl
      · exact ⟨sv', sr', vn', x, ve', _, pw', hexp, hN0, hT0, m2⟩
