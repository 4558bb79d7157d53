/-- what the reference keeps of an edited picture -/
def esto (u u' : Nat → Nat → Int32) (f : Nat → Int32) (N : Nat) (fl : Int32) (pt : Option Nat) : Prop :=
  DF u u' ∧ u' 2 = u 2 ∧ u' 3 = u 3 ∧ u' 5 8 = 2 ∧ u' 9 8 = (if tr f N = true ∨ ld f N = true ∨ fl = 43 ∨ fl = 45 then 1 else 0) ∧
  u' 7 8 = nI (dcn (fun j => edg f N fl j && decide (j < pt.getD (eB f N))) (eB f N - eA f N) (eA f N)) ∧
  u' 8 8 = nI (dcn (fun j => edg f N fl j && decide (pt.getD (eB f N) < j)) (eB f N - eA f N) (eA f N)) ∧
  u' 11 8 = fl ∧ u' 12 8 = nI (eA f N) ∧ u' 13 8 = nI (eB f N) ∧ u' 14 8 = vx pt ∧ u' 15 8 = nI (wsm f N 0) ∧
  ∀ k, k < N → u' 4 (192 + k) = if dal f N fl k then nI (dcn (edg f N fl) (eB f N - eA f N) (eA f N) - dcn (dal f N fl) k 0) else 0
theorem bset_facts (u : Nat → Nat → Int32) (a e : Nat) (q : Int32 × Option Nat) : DF u (bset u a e q) ∧ (bset u a e q) 2 = u 2 ∧ (bset u a e q) 3 = u 3 ∧ (bset u a e q) 4 = u 4 ∧ (bset u a e q) 11 8 = q.1 ∧ (bset u a e q) 14 8 = vx q.2 ∧ (bset u a e q) 12 8 = nI a ∧ (bset u a e q) 13 8 = nI e := by
  unfold bset
  refine ⟨?_, ?_, ?_, ?_, ?_, ?_, ?_, ?_⟩
  · have d1 := DF.at8 u 11 q.1 (by decide) (by decide) (by decide)
    have d2 := d1.tr (DF.at8 _ 14 (vx q.2) (by decide) (by decide) (by decide))
    rw [zset_n (j := 11) (k := 14) u _ (by decide)] at d2
    have d3 := d2.tr (DF.at8 _ 12 (nI a) (by decide) (by decide) (by decide))
    rw [zset_n (j := 14) (k := 12) _ _ (by decide), zset_n (j := 11) (k := 12) u _ (by decide)] at d3
    have d4 := d3.tr (DF.at8 _ 13 (nI e) (by decide) (by decide) (by decide))
    rw [zset_n (j := 12) (k := 13) _ _ (by decide), zset_n (j := 14) (k := 13) _ _ (by decide), zset_n (j := 11) (k := 13) u _ (by decide)] at d4
    exact d4
  · rw [zset_n _ _ (by decide), zset_n _ _ (by decide), zset_n _ _ (by decide), zset_n _ _ (by decide)]
  · rw [zset_n _ _ (by decide), zset_n _ _ (by decide), zset_n _ _ (by decide), zset_n _ _ (by decide)]
  · rw [zset_n _ _ (by decide), zset_n _ _ (by decide), zset_n _ _ (by decide), zset_n _ _ (by decide)]
  · rw [zset_n _ _ (by decide), zset_n _ _ (by decide), zset_n _ _ (by decide), zset_s, pk_us]
  · rw [zset_n _ _ (by decide), zset_n _ _ (by decide), zset_s, pk_us]
  · rw [zset_n _ _ (by decide), zset_s, pk_us]
  · rw [zset_s, pk_us]
theorem P_E349 {v f : Nat → Int32} {u0 u : Nat → Nat → Int32} {N : Nat} {fl : Int32} {pt : Option Nat} (t : Bool) (h0 : 0 < N) (hN : N ≤ 24) (hb : bdy f (eB f N - eA f N) (eA f N) 0 none = some (fl, pt)) (hf : ∀ j, u0 3 (192 + j) = f j)
    (ht : t = decide (tr f N = true ∨ ld f N = true ∨ fl = 43 ∨ fl = 45))
    (hD : DF u0 u) (h2 : u 2 = u0 2) (h3 : u 3 = u0 3) (h5 : u 5 8 = 2) (h11 : u 11 8 = fl) (h12 : u 12 8 = nI (eA f N)) (h13 : u 13 8 = nI (eB f N)) (h14 : u 14 8 = vx pt) (hR : dcn (edg f N fl) (eB f N - eA f N) (eA f N) ≤ 24) :
    ∃ u', m_M_isEdited_349 v (nI N) (nI (eB f N)) (nI (eA f N)) fl (if flo fl = true then 1 else 0) (nI (dcn (edg f N fl) (eB f N - eA f N) (eA f N))) (if t then 1 else 0) 8 u = some (1, u') ∧ esto u0 u' f N fl pt := by
  have hA := eA_le f N
  have hB := eB_le f N
  have hdal : dcn (dal f N fl) N 0 = dcn (edg f N fl) (eB f N - eA f N) (eA f N) := dcn_in hA.2 hB
  have hdal2 : dcn (fun j => dal f N fl j && decide (pt.getD (eB f N) < j)) N 0 = dcn (fun j => edg f N fl j && decide (pt.getD (eB f N) < j)) (eB f N - eA f N) (eA f N) := by
    rw [← dcn_in (P := fun j => edg f N fl j && decide (pt.getD (eB f N) < j)) hA.2 hB]
    exact dcn_ext _ _ (fun j _ _ => by unfold dal; rw [Bool.and_assoc])
  have hsum := dcn_split (D := edg f N fl) (m := pt.getD (eB f N)) (eB f N - eA f N) (eA f N) (fun j j1 j2 => edg_m hb j j1 (by omega))
  have hfs : fst1 f N fl 0 = (if flo fl = true then 1 else 0) := by
    unfold fst1
    by_cases g : flo fl = true
    · rw [if_pos ⟨g, Nat.zero_le _⟩, if_pos g]
    · rw [if_neg (fun z => g z.1), if_neg g]
  have hnar : vp_nar .boolean (if t then 1 else 0) = (if t then 1 else 0) := by cases t; exact vpb0; exact vpb1
  have dW : DF u0 (zset (zset u 9 (upd (u 9) 8 (if t then 1 else 0))) 15 (upd ((zset u 9 (upd (u 9) 8 (if t then 1 else 0))) 15) 8 0)) := (hD.tr (DF.at8 u 9 _ (by decide) (by decide) (by decide))).tr (DF.at8 _ 15 _ (by decide) (by decide) (by decide))
  unfold m_M_isEdited_349
  rw [zix8, zix8, zau8, zau8, hnar]
  obtain ⟨u', e1, e2, e3, e4, e5, e6, e7, e8⟩ := P_E372 (v := v) (f := f) (R := dcn (edg f N fl) (eB f N - eA f N) (eA f N)) h0 hN hb hR N 0 64 (dcn (edg f N fl) (eB f N - eA f N) (eA f N)) 0 0 (zset (zset u 9 (upd (u 9) 8 (if t then 1 else 0))) 15 (upd ((zset u 9 (upd (u 9) 8 (if t then 1 else 0))) 15) 8 0)) (by omega) (by omega)
    (by intro j; rw [zset_n _ _ (by decide), zset_n _ _ (by decide), h3]; exact hf j) (by rw [zset_n _ _ (by decide), zset_n _ _ (by decide)]; exact h14) (by rw [zset_s, pk_us]; rfl) (by omega) (by omega)
  rw [hfs] at e1
  refine ⟨u', e1, ?_, ?_, ?_, ?_, ?_, ?_, ?_, ?_, ?_, ?_, ?_, ?_, ?_⟩
  · refine dW.tr ⟨fun a i ha hi => ?_, fun a i h3' h4' hi => ?_⟩
    · rcases ha with rfl | rfl
      · exact e2 3 i (by decide) (by decide) (by decide) (by decide)
      · exact e3 i (by omega)
    · by_cases a15 : a = 15
      · subst a15; exact (e6 i (by omega)).1
      · by_cases a7 : a = 7
        · subst a7; exact (e6 i (by omega)).2.1
        · by_cases a8 : a = 8
          · subst a8; exact (e6 i (by omega)).2.2
          · exact e2 a i h4' a15 a7 a8
  · funext i; rw [e2 2 i (by decide) (by decide) (by decide) (by decide), zset_n _ _ (by decide), zset_n _ _ (by decide), h2]
  · funext i; rw [e2 3 i (by decide) (by decide) (by decide) (by decide), zset_n _ _ (by decide), zset_n _ _ (by decide), h3]
  · rw [e2 5 8 (by decide) (by decide) (by decide) (by decide), zset_n _ _ (by decide), zset_n _ _ (by decide)]; exact h5
  · rw [e2 9 8 (by decide) (by decide) (by decide) (by decide), zset_n _ _ (by decide), zset_s, pk_us, ht]
    by_cases z : tr f N = true ∨ ld f N = true ∨ fl = 43 ∨ fl = 45
    · rw [if_pos (decide_eq_true z), if_pos z]
    · rw [if_neg (by rw [decide_eq_false z]; decide), if_neg z]
  · rw [e7, hdal2, Nat.zero_add, hsum]
    congr 1
    omega
  · rw [e8, hdal2, Nat.zero_add]
  · rw [e2 11 8 (by decide) (by decide) (by decide) (by decide), zset_n _ _ (by decide), zset_n _ _ (by decide)]; exact h11
  · rw [e2 12 8 (by decide) (by decide) (by decide) (by decide), zset_n _ _ (by decide), zset_n _ _ (by decide)]; exact h12
  · rw [e2 13 8 (by decide) (by decide) (by decide) (by decide), zset_n _ _ (by decide), zset_n _ _ (by decide)]; exact h13
  · rw [e2 14 8 (by decide) (by decide) (by decide) (by decide), zset_n _ _ (by decide), zset_n _ _ (by decide)]; exact h14
  · rw [e5, Nat.zero_add]
  · intro k hk
    rw [e4 k (Nat.zero_le _) hk, Nat.sub_zero]
theorem P_isEdited {v f : Nat → Int32} {u : Nat → Nat → Int32} {N : Nat} (h0 : 0 < N) (hN : N ≤ 24) (hf : ∀ j, u 3 (192 + j) = f j) (h2 : u 2 8 = nI N) :
    (∃ fl pt u', EOK f N fl pt ∧ m_M_isEdited v u = some (1, u') ∧ esto u u' f N fl pt) ∨ ((∀ fl pt, ¬ EOK f N fl pt) ∧ ∃ u', m_M_isEdited v u = some (0, u') ∧ DF u u') := by
  have hA := eA_le f N
  have hB := eB_le f N
  have hfun : (fun j => u 3 (192 + j)) = f := funext hf
  rw [P_E154 h0 hN hf h2]
  unfold m_M_isEdited_154
  rw [P_body hA.2 (by omega) hf]
  cases hq : bdy f (eB f N - eA f N) (eA f N) 0 none with
  | none =>
    simp only [Option.bind_some, if_true, zbo_0]
    exact Or.inr ⟨fun fl pt z => (by have := z.1; rw [hq] at this; cases this), _, rfl, DF.rf u⟩
  | some q =>
    obtain ⟨fl, pt⟩ := q
    have uniq : ∀ fl' pt', EOK f N fl' pt' → fl' = fl ∧ pt' = pt := by
      intro fl' pt' z
      have := z.1
      rw [hq] at this
      cases this
      exact ⟨rfl, rfl⟩
    obtain ⟨f1, f2, f3, f4, f5, f6⟩ := EB_facts hq
    obtain ⟨s0, s2, s3, s4, s11, s14, s12, s13⟩ := bset_facts u (eA f N) (eB f N) (fl, pt)
    simp only [Option.bind_some, show ¬ (1 : Int32) = 0 by decide, if_false]
    rw [zix8, c8, s11]
    simp only []
    generalize bset u (eA f N) (eB f N) (fl, pt) = w at s0 s2 s3 s4 s11 s14 s12 s13
    have hfw : ∀ j, w 3 (192 + j) = f j := by intro j; rw [s3]; exact hf j
    have hfunw : (fun j => w 3 (192 + j)) = f := funext hfw
    have no : ∀ (P : Prop), (∀ fl pt, EOK f N fl pt → P) → ¬ P → ((∃ fl pt u', EOK f N fl pt ∧ (some ((0 : Int32), w)) = some (1, u') ∧ esto u u' f N fl pt) ∨ ((∀ fl pt, ¬ EOK f N fl pt) ∧ ∃ u', (some ((0 : Int32), w)) = some (0, u') ∧ DF u u')) := by
      intro P hP hn
      exact Or.inr ⟨fun fl pt z => hn (hP fl pt z), w, rfl, s0⟩
    have h200 : (if fl = 43 then m_M_isEdited_195 v (nI N) (nI (eB f N)) (nI (eA f N)) (if tr f N then 1 else 0) (if ld f N then 1 else 0) fl w else if fl = 45 then m_M_isEdited_195 v (nI N) (nI (eB f N)) (nI (eA f N)) (if tr f N then 1 else 0) (if ld f N then 1 else 0) fl w else if fl = 36 then m_M_isEdited_195 v (nI N) (nI (eB f N)) (nI (eA f N)) (if tr f N then 1 else 0) (if ld f N then 1 else 0) fl w else m_M_isEdited_200 v (nI N) (nI (eB f N)) (nI (eA f N)) (if tr f N then 1 else 0) (if ld f N then 1 else 0) fl 0 w) = m_M_isEdited_200 v (nI N) (nI (eB f N)) (nI (eA f N)) (if tr f N then 1 else 0) (if ld f N then 1 else 0) fl (if flo fl = true then 1 else 0) w := by
      unfold m_M_isEdited_195
      by_cases g1 : fl = 43
      · rw [if_pos g1, if_pos (show flo fl = true from decide_eq_true (Or.inl g1))]
      · by_cases g2 : fl = 45
        · rw [if_neg g1, if_pos g2, if_pos (show flo fl = true from decide_eq_true (Or.inr (Or.inl g2)))]
        · by_cases g3 : fl = 36
          · rw [if_neg g1, if_neg g2, if_pos g3, if_pos (show flo fl = true from decide_eq_true (Or.inr (Or.inr g3)))]
          · rw [if_neg g1, if_neg g2, if_neg g3, if_neg (show ¬ flo fl = true from fun z => by
              rcases of_decide_eq_true z with y | y | y
              · exact g1 y
              · exact g2 y
              · exact g3 y)]
    rw [h200]
    unfold m_M_isEdited_200
    by_cases c1 : tr f N = true ∧ ld f N = true
    · rw [c1.1, c1.2]
      simp only [if_true, show ¬ (1 : Int32) = 0 by decide, if_false, zbo_0]
      exact no _ (fun fl pt z => z.2.1) (fun z => z c1)
    · have h212 : (if (if tr f N then (1 : Int32) else 0) = 0 then m_M_isEdited_212 v (nI N) (nI (eB f N)) (nI (eA f N)) (if tr f N then 1 else 0) (if ld f N then 1 else 0) fl (if flo fl = true then 1 else 0) w else (if (if ld f N then (1 : Int32) else 0) = 0 then m_M_isEdited_212 v (nI N) (nI (eB f N)) (nI (eA f N)) (if tr f N then 1 else 0) (if ld f N then 1 else 0) fl (if flo fl = true then 1 else 0) w else zbo 0 (some (0, w)))) = m_M_isEdited_212 v (nI N) (nI (eB f N)) (nI (eA f N)) (if tr f N then 1 else 0) (if ld f N then 1 else 0) fl (if flo fl = true then 1 else 0) w := by
        cases ht : tr f N
        · simp
        · cases hl : ld f N
          · simp
          · exact absurd ⟨ht, hl⟩ c1
      rw [h212]
      unfold m_M_isEdited_212
      rw [P_isSign]
      simp only [Option.bind_some]
      by_cases c2 : (fl = 43 ∨ fl = 45) ∧ (tr f N = true ∨ ld f N = true)
      · rw [if_pos c2.1, if_neg (by decide)]
        have : (if (if tr f N then (1 : Int32) else 0) = 0 then (if (if ld f N then (1 : Int32) else 0) = 0 then m_M_isEdited_232 v (nI N) (nI (eB f N)) (nI (eA f N)) (if tr f N then 1 else 0) (if ld f N then 1 else 0) fl (if flo fl = true then 1 else 0) w else zbo 0 (some (0, w))) else zbo 0 (some (0, w))) = some (0, w) := by
          cases ht : tr f N
          · cases hl : ld f N
            · rcases c2.2 with z | z
              · rw [ht] at z; cases z
              · rw [hl] at z; cases z
            · simp [zbo_0]
          · simp [zbo_0]
        rw [this]
        refine no (¬ ((fl = 43 ∨ fl = 45) ∧ (tr f N = true ∨ ld f N = true))) (fun fl' pt' z => ?_) (fun z => z c2)
        obtain ⟨y1, y2⟩ := uniq _ _ z
        subst y1 y2
        exact z.2.2.1
      · have h232 : (if (if fl = 43 ∨ fl = 45 then (1 : Int32) else 0) = 0 then m_M_isEdited_232 v (nI N) (nI (eB f N)) (nI (eA f N)) (if tr f N then 1 else 0) (if ld f N then 1 else 0) fl (if flo fl = true then 1 else 0) w else (if (if tr f N then (1 : Int32) else 0) = 0 then (if (if ld f N then (1 : Int32) else 0) = 0 then m_M_isEdited_232 v (nI N) (nI (eB f N)) (nI (eA f N)) (if tr f N then 1 else 0) (if ld f N then 1 else 0) fl (if flo fl = true then 1 else 0) w else zbo 0 (some (0, w))) else zbo 0 (some (0, w)))) = m_M_isEdited_232 v (nI N) (nI (eB f N)) (nI (eA f N)) (if tr f N then 1 else 0) (if ld f N then 1 else 0) fl (if flo fl = true then 1 else 0) w := by
          by_cases z : fl = 43 ∨ fl = 45
          · rw [if_pos z, if_neg (by decide)]
            cases ht : tr f N
            · cases hl : ld f N
              · simp
              · exact absurd ⟨z, Or.inr hl⟩ c2
            · exact absurd ⟨z, Or.inl ht⟩ c2
          · rw [if_neg z, if_pos rfl]
        rw [h232]
        obtain ⟨fi, hfi⟩ : ∃ fi : Nat, fi = (if fl = 0 then 0 else cnt f fl (eA f N) (eB f N - eA f N)) := ⟨_, rfl⟩
        have hfl24 : fi ≤ 24 := by
          rw [hfi]
          have := cnt_le f fl (eB f N - eA f N) (eA f N)
          split <;> omega
        have h249 : m_M_isEdited_232 v (nI N) (nI (eB f N)) (nI (eA f N)) (if tr f N then 1 else 0) (if ld f N then 1 else 0) fl (if flo fl = true then 1 else 0) w = m_M_isEdited_249 v (nI N) (nI (eB f N)) (nI (eA f N)) (if tr f N then 1 else 0) (if ld f N then 1 else 0) fl (if flo fl = true then 1 else 0) (nI fi) w := by
          unfold m_M_isEdited_232
          by_cases z : fl = 0
          · rw [if_pos z, hfi, if_pos z]; rfl
          · rw [if_neg z, P_countOf hA.2 (by omega), hfunw, hfi, if_neg z]; rfl
        rw [h249]
        unfold m_M_isEdited_249
        by_cases c3 : flo fl = true ∧ fi < 2
        · rw [if_pos c3.1, if_neg (by decide), if_pos (show nI fi < 2 from nI_lt (b := 2) c3.2 (by decide)), zbo_0]
          have hz : fl ≠ 0 := by rintro rfl; have := c3.1; rw [flo_0] at this; cases this
          rw [if_neg hz] at hfi
          refine no (¬ (flo fl = true ∧ fi < 2)) (fun fl' pt' z => ?_) (fun z => z c3)
          obtain ⟨y1, y2⟩ := uniq _ _ z
          subst y1 y2
          rw [hfi]
          exact (z.2.2.2.1 hz).2
        · have h262 : (if (if flo fl = true then (1 : Int32) else 0) = 0 then m_M_isEdited_262 v (nI N) (nI (eB f N)) (nI (eA f N)) (if tr f N then 1 else 0) (if ld f N then 1 else 0) fl (if flo fl = true then 1 else 0) (nI fi) w else (if nI fi < 2 then zbo 0 (some (0, w)) else m_M_isEdited_262 v (nI N) (nI (eB f N)) (nI (eA f N)) (if tr f N then 1 else 0) (if ld f N then 1 else 0) fl (if flo fl = true then 1 else 0) (nI fi) w)) = m_M_isEdited_262 v (nI N) (nI (eB f N)) (nI (eA f N)) (if tr f N then 1 else 0) (if ld f N then 1 else 0) fl (if flo fl = true then 1 else 0) (nI fi) w := by
            by_cases z : flo fl = true
            · rw [if_pos z, if_neg (by decide), if_neg (show ¬ nI fi < 2 from nI_nlt (b := 2) (by have : ¬ fi < 2 := fun y => c3 ⟨z, y⟩; omega) (by omega))]
            · rw [if_neg z, if_pos rfl]
          rw [h262]
          unfold m_M_isEdited_262
          have hord := P_ordered (v := v) (u := w) (f := f) hA.2 (show eB f N ≤ 24 by omega) hfw s11 s14 (fun x hx => ⟨(f2 x hx).1, (f2 x hx).2.1⟩)
          simp only [] at hord
          have hfi0 : fl = 0 → fi = 0 := fun z => by rw [hfi, if_pos z]
          have c9l := cnt_le f 57 (eB f N - eA f N) (eA f N)
          have cfl := cnt_le f fl (eB f N - eA f N) (eA f N)
          have hfl57 : fl ≠ 57 := by
            by_cases z : fl = 0
            · rw [z]; decide
            · exact (iF_ne (f3 z).1).2.1
          have hflo0 : flo fl = true → fl ≠ 0 := by rintro z rfl; rw [flo_0] at z; cases z
          have htot := dcn_tot (f := f) (fF := eF f N fl) hfl57 (fun z => (eF_is hN (f3 (hflo0 z)).2).2.2.2.1) (eB f N - eA f N) (eA f N)
          rw [← hfi] at htot
          have hone : (if flo fl = true ∧ eA f N ≤ eF f N fl ∧ eF f N fl < eA f N + (eB f N - eA f N) ∧ f (eF f N fl) = fl then 1 else 0) = (if flo fl = true then 1 else 0) := by
            by_cases z : flo fl = true
            · obtain ⟨-, q2, q3, q4, -⟩ := eF_is hN (f3 (hflo0 z)).2
              rw [if_pos ⟨z, q2, by omega, q4⟩, if_pos z]
            · rw [if_neg (fun y => z y.1), if_neg z]
          rw [hone] at htot
          have htot : dcn (edg f N fl) (eB f N - eA f N) (eA f N) + (if flo fl = true then 1 else 0) = cnt f 57 (eA f N) (eB f N - eA f N) + fi := htot
          have hRl := dcn_le (edg f N fl) (eB f N - eA f N) (eA f N)
          have hX : ((m_M_countOf 57 (nI (eA f N)) (nI (eB f N)) v w).bind (fun q20 => (if (if flo fl = true then (1 : Int32) else 0) = 0 then m_M_isEdited_294 v (nI N) (nI (eB f N)) (nI (eA f N)) (if tr f N then 1 else 0) (if ld f N then 1 else 0) fl (if flo fl = true then 1 else 0) 0 (q20 + nI fi) w else m_M_isEdited_294 v (nI N) (nI (eB f N)) (nI (eA f N)) (if tr f N then 1 else 0) (if ld f N then 1 else 0) fl (if flo fl = true then 1 else 0) 1 (q20 + nI fi) w))) = m_M_isEdited_294 v (nI N) (nI (eB f N)) (nI (eA f N)) (if tr f N then 1 else 0) (if ld f N then 1 else 0) fl (if flo fl = true then 1 else 0) (nI (if flo fl = true then 1 else 0)) (nI (cnt f 57 (eA f N) (eB f N - eA f N) + fi)) w := by
            rw [P_countOf hA.2 (by omega), hfunw]
            simp only [Option.bind_some, nI_add]
            by_cases z : flo fl = true
            · simp only [if_pos z]; rw [if_neg (by decide)]; rfl
            · simp only [if_neg z]; rw [if_pos trivial]; rfl
          have fin : (fl ≠ 0 → OR f (eA f N) (eB f N) (pt.getD (eB f N)) fl) → ((∃ fl' pt' u', EOK f N fl' pt' ∧ ((m_M_countOf 57 (nI (eA f N)) (nI (eB f N)) v w).bind (fun q20 => (if (if flo fl = true then (1 : Int32) else 0) = 0 then m_M_isEdited_294 v (nI N) (nI (eB f N)) (nI (eA f N)) (if tr f N then 1 else 0) (if ld f N then 1 else 0) fl (if flo fl = true then 1 else 0) 0 (q20 + nI fi) w else m_M_isEdited_294 v (nI N) (nI (eB f N)) (nI (eA f N)) (if tr f N then 1 else 0) (if ld f N then 1 else 0) fl (if flo fl = true then 1 else 0) 1 (q20 + nI fi) w))) = some (1, u') ∧ esto u u' f N fl' pt') ∨ ((∀ fl pt, ¬ EOK f N fl pt) ∧ ∃ u', ((m_M_countOf 57 (nI (eA f N)) (nI (eB f N)) v w).bind (fun q20 => (if (if flo fl = true then (1 : Int32) else 0) = 0 then m_M_isEdited_294 v (nI N) (nI (eB f N)) (nI (eA f N)) (if tr f N then 1 else 0) (if ld f N then 1 else 0) fl (if flo fl = true then 1 else 0) 0 (q20 + nI fi) w else m_M_isEdited_294 v (nI N) (nI (eB f N)) (nI (eA f N)) (if tr f N then 1 else 0) (if ld f N then 1 else 0) fl (if flo fl = true then 1 else 0) 1 (q20 + nI fi) w))) = some (0, u') ∧ DF u u')) := by
            intro hor
            rw [hX]
            unfold m_M_isEdited_294
            rw [pk_sub (by omega), show cnt f 57 (eA f N) (eB f N - eA f N) + fi - (if flo fl = true then 1 else 0) = dcn (edg f N fl) (eB f N - eA f N) (eA f N) by omega]
            by_cases c4 : dcn (edg f N fl) (eB f N - eA f N) (eA f N) < 1
            · rw [if_pos (show nI _ < 1 from nI_lt (b := 1) c4 (by decide)), zbo_0]
              refine no (1 ≤ dcn (edg f N fl) (eB f N - eA f N) (eA f N)) (fun fl' pt' z => ?_) (fun z => by omega)
              obtain ⟨y1, y2⟩ := uniq _ _ z
              subst y1 y2
              exact z.2.2.2.2.1
            · rw [if_neg (show ¬ nI _ < 1 from nI_nlt (b := 1) (by omega) (by omega))]
              by_cases c5 : dcn (edg f N fl) (eB f N - eA f N) (eA f N) ≤ 12
              · rw [if_pos (show nI _ ≤ 12 from nI_le (b := 12) c5 (by decide)), zix8, zau8]
                have dw : DF u (zset w 5 (upd (w 5) 8 2)) := s0.tr (DF.at8 w 5 2 (by decide) (by decide) (by decide))
                have h349 := fun t ht => P_E349 (v := v) (f := f) (u0 := u) (u := zset w 5 (upd (w 5) 8 2)) t h0 hN hq hf ht dw (by rw [zset_n _ _ (by decide)]; exact s2) (by rw [zset_n _ _ (by decide)]; exact s3) (by rw [zset_s, pk_us]) (by rw [zset_n _ _ (by decide)]; exact s11) (by rw [zset_n _ _ (by decide)]; exact s12) (by rw [zset_n _ _ (by decide)]; exact s13) (by rw [zset_n _ _ (by decide)]; exact s14) (by omega)
                obtain ⟨u', k1, k2⟩ := h349 _ rfl
                refine Or.inl ⟨fl, pt, u', ⟨hq, c1, c2, fun z => ⟨hor z, fun y => c3 ⟨y.1, by rw [hfi, if_neg z]; exact y.2⟩⟩, by omega, c5⟩, ?_, k2⟩
                rw [← k1]
                unfold m_M_isEdited_344
                cases ht : tr f N
                · cases hl : ld f N
                  · simp only [Bool.false_eq_true, if_false, if_true]
                    rw [P_isSign]
                    simp only [Option.bind_some, false_or]
                    by_cases z : fl = 43 ∨ fl = 45
                    · rw [if_pos z, if_neg (by decide), if_pos (decide_eq_true z)]
                    · rw [if_neg z, if_pos rfl, if_neg (show ¬ decide (fl = 43 ∨ fl = 45) = true by rw [decide_eq_false z]; decide)]
                  · simp
                · simp
              · rw [if_neg (show ¬ nI _ ≤ 12 from nI_ge (a := 12) (by omega) (by omega)), zbo_0]
                refine no (dcn (edg f N fl) (eB f N - eA f N) (eA f N) ≤ 12) (fun fl' pt' z => ?_) (fun z => by omega)
                obtain ⟨y1, y2⟩ := uniq _ _ z
                subst y1 y2
                exact z.2.2.2.2.2
          rcases hord with ⟨o1, o2⟩ | ⟨o1, o3, o2⟩ | ⟨o1, o3, o2⟩
          all_goals (rw [o2]; simp only [Option.bind_some, show ¬ (1 : Int32) = 0 by decide, if_false, if_true, zbo_0])
          · exact fin (fun z => absurd o1 z)
          · exact fin (fun _ => o3)
          · refine no (OR f (eA f N) (eB f N) (pt.getD (eB f N)) fl) (fun fl' pt' z => ?_) (fun z => o3 z)
            obtain ⟨y1, y2⟩ := uniq _ _ z
            subst y1 y2
            exact (z.2.2.2.1 o1).1
