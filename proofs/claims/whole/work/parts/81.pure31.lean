/-- two rows that agree on N symbols -/
def agr (f g : Nat → Int32) (N : Nat) : Prop := ∀ j, j < N → f j = g j
theorem cnt_ext {f g : Nat → Int32} {x : Int32} : ∀ (n a : Nat), (∀ j, a ≤ j → j < a + n → f j = g j) → cnt f x a n = cnt g x a n := by
  intro n
  induction n with
  | zero => intro a _; rfl
  | succ n ih => intro a h; rw [cnt_s, cnt_s, h a (Nat.le_refl _) (by omega), ih (a + 1) (fun j j1 j2 => h j (by omega) (by omega))]
theorem fst_ext {f g : Nat → Int32} {x : Int32} : ∀ (n a : Nat), (∀ j, a ≤ j → j < a + n → f j = g j) → fstI f x a n = fstI g x a n := by
  intro n
  induction n with
  | zero => intro a _; rfl
  | succ n ih =>
    intro a h
    show (if f a = x then nI a else fstI f x (a + 1) n) = (if g a = x then nI a else fstI g x (a + 1) n)
    rw [h a (Nat.le_refl _) (by omega), ih (a + 1) (fun j j1 j2 => h j (by omega) (by omega))]
theorem bdy_ext {f g : Nat → Int32} : ∀ (n a : Nat) (fl : Int32) (pt : Option Nat), (∀ j, a ≤ j → j < a + n → f j = g j) → bdy f n a fl pt = bdy g n a fl pt := by
  intro n
  induction n with
  | zero => intro a fl pt _; rfl
  | succ n ih =>
    intro a fl pt h
    unfold bdy
    rw [h a (Nat.le_refl _) (by omega), ih (a + 1) _ _ (fun j j1 j2 => h j (by omega) (by omega)), ih (a + 1) _ _ (fun j j1 j2 => h j (by omega) (by omega)), ih (a + 1) _ _ (fun j j1 j2 => h j (by omega) (by omega))]
theorem agr_cnt {f g : Nat → Int32} {N : Nat} (h : agr f g N) {x : Int32} {a n : Nat} (hn : a + n ≤ N) : cnt f x a n = cnt g x a n := cnt_ext n a (fun j _ j2 => h j (by omega))
theorem agr_fst {f g : Nat → Int32} {N : Nat} (h : agr f g N) {x : Int32} {a n : Nat} (hn : a + n ≤ N) : fstI f x a n = fstI g x a n := fst_ext n a (fun j _ j2 => h j (by omega))
theorem agr_allS {f g : Nat → Int32} {N : Nat} (h : agr f g N) {x : Int32} {a b : Nat} (hb : b ≤ N) (k : allS f x a b) : allS g x a b := fun j j1 j2 => by rw [← h j (by omega)]; exact k j j1 j2
theorem agr_NF {f g : Nat → Int32} {N a before behind nines low : Nat} (h : agr f g N) (k : NF f N a before behind nines low) : NF g N a before behind nines low := by
  rcases k with ⟨h1, h2, r⟩ | ⟨p, h1, h2, h3, h4, h5, r⟩ | ⟨d, h1, h2, h3, h4, r⟩ | ⟨d, h1, h2, h3, h4, h5, r⟩ | ⟨d, h1, h2, h3, h4, h5, r⟩ | ⟨k, h1, h2, h3, h4, r⟩ | ⟨k, h1, h2, h3, h4, h5, r⟩ | ⟨k, h1, h2, h3, h4, h5, r⟩
  · exact Or.inl ⟨h1, agr_allS h (Nat.le_refl _) h2, r⟩
  · exact Or.inr (Or.inl ⟨p, h1, h2, agr_allS h (by omega) h3, by rw [← h p h2]; exact h4, agr_allS h (Nat.le_refl _) h5, r⟩)
  · exact Or.inr (Or.inr (Or.inl ⟨d, h1, h2, agr_allS h (by omega) h3, agr_allS h (Nat.le_refl _) h4, r⟩))
  · exact Or.inr (Or.inr (Or.inr (Or.inl ⟨d, h1, h2, by rw [← h a (by omega)]; exact h3, agr_allS h (by omega) h4, agr_allS h (Nat.le_refl _) h5, r⟩)))
  · exact Or.inr (Or.inr (Or.inr (Or.inr (Or.inl ⟨d, h1, h2, agr_allS h (by omega) h3, by rw [← h d (by omega)]; exact h4, agr_allS h (Nat.le_refl _) h5, r⟩))))
  · exact Or.inr (Or.inr (Or.inr (Or.inr (Or.inr (Or.inl ⟨k, h1, h2, agr_allS h (by omega) h3, agr_allS h (Nat.le_refl _) h4, r⟩)))))
  · exact Or.inr (Or.inr (Or.inr (Or.inr (Or.inr (Or.inr (Or.inl ⟨k, h1, h2, agr_allS h (by omega) h3, by rw [← h k (by omega)]; exact h4, agr_allS h (Nat.le_refl _) h5, r⟩))))))
  · exact Or.inr (Or.inr (Or.inr (Or.inr (Or.inr (Or.inr (Or.inr ⟨k, h1, h2, agr_allS h (by omega) h3, agr_allS h (by omega) h4, by rw [← h (N - 1) (by omega)]; exact h5, r⟩))))))
theorem agr_sym {f g : Nat → Int32} {N : Nat} (h : agr f g N) : agr g f N := fun j hj => (h j hj).symm
theorem agr_TP {f g : Nat → Int32} {N : Nat} (h : agr f g N) : TP f N ↔ TP g N := by
  unfold TP
  rw [agr_cnt h (by omega), agr_cnt h (by omega), agr_cnt h (by omega)]
theorem agr_tr {f g : Nat → Int32} {N : Nat} (h : agr f g N) (h0 : 0 < N) : tr f N = tr g N := by
  unfold tr
  rw [h (N - 1) (by omega), agr_cnt h (by omega)]
theorem agr_eB {f g : Nat → Int32} {N : Nat} (h : agr f g N) (h0 : 0 < N) : eB f N = eB g N := by unfold eB; rw [agr_tr h h0]
theorem agr_ld {f g : Nat → Int32} {N : Nat} (h : agr f g N) (h0 : 0 < N) : ld f N = ld g N := by
  have := eB_le g N
  unfold ld
  rw [agr_eB h h0, h 0 h0, agr_cnt h (by omega)]
theorem agr_eL {f g : Nat → Int32} {N : Nat} (h : agr f g N) (h0 : 0 < N) : eL f N = eL g N := by unfold eL; rw [agr_ld h h0]
theorem agr_cu {f g : Nat → Int32} {N : Nat} (h : agr f g N) (h0 : 0 < N) : cu f N = cu g N := by
  have h1 := eB_le g N
  have h2 := eL_le g N
  unfold cu
  rw [agr_eB h h0, agr_eL h h0, agr_cnt h (by omega)]
  by_cases z : eL g N < eB g N
  · rw [h (eL g N) (by omega)]
  · rw [decide_eq_false (fun y => z y.1), decide_eq_false (fun y => z y.1)]
theorem agr_eA {f g : Nat → Int32} {N : Nat} (h : agr f g N) (h0 : 0 < N) : eA f N = eA g N := by unfold eA; rw [agr_eL h h0, agr_cu h h0]
theorem agr_eF {f g : Nat → Int32} {N : Nat} (h : agr f g N) (h0 : 0 < N) (fl : Int32) : eF f N fl = eF g N fl := by
  have h1 := eB_le g N
  have h2 := eA_le g N
  unfold eF
  rw [agr_eA h h0, agr_eB h h0, agr_fst h (by omega)]
theorem agr_edg {f g : Nat → Int32} {N : Nat} (h : agr f g N) (h0 : 0 < N) (fl : Int32) {j : Nat} (hj : j < N) : edg f N fl j = edg g N fl j := by
  unfold edg eD
  rw [agr_eF h h0, h j hj]
theorem agr_dcn {f g : Nat → Int32} {N : Nat} (h : agr f g N) (h0 : 0 < N) (fl : Int32) (P : Nat → Bool) {n k : Nat} (hk : k + n ≤ N) : dcn (fun j => edg f N fl j && P j) n k = dcn (fun j => edg g N fl j && P j) n k :=
  dcn_ext n k (fun j _ j2 => by rw [agr_edg h h0 fl (show j < N by omega)])
theorem agr_dcn1 {f g : Nat → Int32} {N : Nat} (h : agr f g N) (h0 : 0 < N) (fl : Int32) {n k : Nat} (hk : k + n ≤ N) : dcn (edg f N fl) n k = dcn (edg g N fl) n k :=
  dcn_ext n k (fun j _ j2 => agr_edg h h0 fl (show j < N by omega))
theorem agr_OR {f g : Nat → Int32} {N a e m : Nat} {fl : Int32} (h : agr f g N) (he : e ≤ N) (hm : m ≤ e) (k : OR f a e m fl) : OR g a e m fl := by
  obtain ⟨⟨j, j1, j2, j3⟩, k2, k3⟩ := k
  refine ⟨⟨j, j1, j2, by rw [← h j (by omega)]; exact j3⟩, fun i j i1 i2 i3 i4 => ?_, ?_⟩
  · rw [← h j (by omega)]
    exact k2 i j i1 i2 i3 (by rw [h i (by omega)]; exact i4)
  · rcases k3 with k3 | k3
    · exact Or.inl (fun j j1 j2 => by rw [← h j (by omega)]; exact k3 j j1 j2)
    · exact Or.inr (fun j j1 j2 => by rw [← h j (by omega)]; exact k3 j j1 j2)
theorem agr_EOK {f g : Nat → Int32} {N : Nat} {fl : Int32} {pt : Option Nat} (h : agr f g N) (h0 : 0 < N) (k : EOK f N fl pt) : EOK g N fl pt := by
  obtain ⟨k1, k2, k3, k4, k5, k6⟩ := k
  have f4 := (EB_facts k1).2.2.2.1
  have h1 := eB_le g N
  have h2 := eA_le g N
  rw [agr_eA h h0, agr_eB h h0] at k1 k4 k5 k6
  rw [agr_eB h h0] at f4
  rw [agr_tr h h0, agr_ld h h0] at k2 k3
  refine ⟨?_, k2, k3, fun z => ⟨agr_OR h h1 f4 (k4 z).1, ?_⟩, ?_, ?_⟩
  · rw [← k1]; exact (bdy_ext _ _ _ _ (fun j _ j2 => h j (by omega))).symm
  · rw [← agr_cnt h (show eA g N + (eB g N - eA g N) ≤ N by omega)]; exact (k4 z).2
  · rw [← agr_dcn1 h h0 fl (by omega)]; exact k5
  · rw [← agr_dcn1 h h0 fl (by omega)]; exact k6
