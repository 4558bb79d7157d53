/-! From a call's first instruction to the end of its case: all cells. -/
def gInv (D : va_G) (s : State) (fa : Nat → Nat → Nat) (fk : Nat → Nat → ClassId) (xa : Nat → Nat) (xk : Nat → ClassId) (aO : Nat) (co : ClassId) (ad : Nat → Nat) (ca : Nat → ClassId) (pv y sv sr : Nat → Int32) (dc : Nat → Option Nat) (C : Nat → Nat → Nat → Int32) (ov : Nat → Int64) (mv : Nat → Int32) (mu : Nat → Nat → Int32) (H : Heap) : Prop :=
  va_S (fun q => s.heap.size ≤ q) s.heap H [] ∧ ∀ i, gOK i → va_at D vwCl (gA fa xa aO ad i, gE fa fk xa xk co ad ca pv y sv sr (zrf fa 0 8) (zrf fa 2 8) (zrf fa 4 8) dc C ov mv mu i) H
def gFix (p : Program) (l : Launch) (s : State) (m : MethodId) (args : Array Value) (meth : Method) (c : Code) (D : va_G) (sb L : Nat) (xs : Nat → Int32) (fa : Nat → Nat → Nat) (fk : Nat → Nat → ClassId) (xa : Nat → Nat) (xk : Nat → ClassId) (aO : Nat) (co : ClassId) (ad : Nat → Nat) (ca : Nat → ClassId) : Prop :=
  zG p s m args meth c cL_law RL 8 (some .boolean) ∧ gK D s fk xk co ca ∧ zW (fun q => s.heap.size ≤ q) s ∧ l.stackTraces = false ∧ va_X sb L xs s s.heap ∧ sb < s.heap.size ∧
  (∀ i j, gOK i → gOK j → gA fa xa aO ad i = gA fa xa aO ad j → i = j) ∧ ∀ i, gOK i → s.heap.size ≤ gA fa xa aO ad i
theorem g_run {p : Program} {l : Launch} {e : Env} {s : State} {m : MethodId} {args : Array Value} {below : List Frame} {meth : Method} {c : Code} {D : va_G} {Q : State → Prop} {sb L : Nat} {xs : Nat → Int32} {x4 : Int32} {c0 s0 : Nat} {fa : Nat → Nat → Nat} {fk : Nat → Nat → ClassId} {xa : Nat → Nat} {xk : Nat → ClassId} {aO : Nat} {co : ClassId} {ad : Nat → Nat} {ca : Nat → ClassId} {pv y sv sr : Nat → Int32} {dc : Nat → Option Nat} {C : Nat → Nat → Nat → Int32} {ov : Nat → Int64} {mv : Nat → Int32} {mu : Nat → Nat → Int32} {H : Heap} (F : gFix p l s m args meth c D sb L xs fa fk xa xk aO co ad ca) (hI : gInv D s fa fk xa xk aO co ad ca pv y sv sr dc C ov mv mu H) (a : List gI) (ha : a.Nodup) (hok : ∀ i ∈ a, gOK i ∧ ∀ j, i ≠ .inr (j + 8)) {pc c1 s1 : Nat} {ls : Array Slot} {LV : List (Nat × Value)}
    {pv' y' sv' sr' : Nat → Int32} {dc' : Nat → Option Nat} {C' : Nat → Nat → Nat → Int32} {ov' : Nat → Int64} {mv' : Nat → Int32} {mu' : Nat → Nat → Int32}
    (kP : ∀ k r, r < 8 → .inl (k, r) ∉ a → C' k r = C k r) (kQ : ∀ j, j < 8 → .inr j ∉ a → gQ xa xk co ad ca pv' y' sv' sr' (zrf fa 0 8) (zrf fa 2 8) (zrf fa 4 8) dc' ov' mv' mu' j = gQ xa xk co ad ca pv y sv sr (zrf fa 0 8) (zrf fa 2 8) (zrf fa 4 8) dc ov mv mu j)
    (w w' : va_W) (hw : w = (a ++ gL).map (fun i => (gA fa xa aO ad i, gE fa fk xa xk co ad ca pv y sv sr (zrf fa 0 8) (zrf fa 2 8) (zrf fa 4 8) dc C ov mv mu i))) (hw' : w' = (a ++ gL).map (fun i => (gA fa xa aO ad i, gE fa fk xa xk co ad ca pv' y' sv' sr' (zrf fa 0 8) (zrf fa 2 8) (zrf fa 4 8) dc' C' ov' mv' mu' i)))
    (f : va_S (fun q => s.heap.size ≤ q) s.heap H [] → (∀ q, va_A w H.size q → s.heap.size ≤ q) → va_X sb L xs s H → sb < H.size → ¬ va_A w H.size sb → (∀ (H' : Heap) (locs : List Loc) (ls : Array Slot), va_P D vwCl w' H' → va_D (va_A w H.size) w' → va_S (va_A w H.size) H H' locs → lv_has ls 8 LV → W p l e room_1 s m args below meth c H' locs c1 s1 Q (F0 m 588 ls [])) → va_P D vwCl w H → va_D (va_A w H.size) w → va_S (va_A w H.size) H H [] → W p l e room_1 s m args below meth c H [] c0 s0 Q (F0 m pc ls []))
    (kk : ∀ (H' : Heap) (ls : Array Slot), gInv D s fa fk xa xk aO co ad ca pv' y' sv' sr' dc' C' ov' mv' mu' H' → lv_has ls 8 LV → W p l e room_1 s m args below meth c H' [] c1 s1 Q (F0 m 588 ls [])) : W p l e room_1 s m args below meth c H [] c0 s0 Q (F0 m pc ls []) := by
  obtain ⟨-, -, -, -, hX, hbl, hinj, hlow⟩ := F
  obtain ⟨hSg, hat⟩ := hI
  have hjs := g_ok hok
  have hnd := g_nd ha hok
  have hAs : ∀ q, va_A w H.size q → s.heap.size ≤ q := by
    rintro q (⟨k, x, hk⟩ | hq)
    · rw [hw, List.getElem?_map] at hk
      obtain ⟨j, hj, e⟩ := Option.map_eq_some_iff.mp hk
      have e1 : gA fa xa aO ad j = q := congrArg Prod.fst e
      rw [← e1]
      exact hlow j (hjs j (List.mem_of_getElem? hj))
    · exact Nat.le_trans hSg.1 hq
  have hsb : va_X sb L xs s H := hX.kept (hSg.2.1 sb hbl (Nat.not_le.mpr hbl))
  refine f hSg hAs hsb (Nat.lt_of_lt_of_le hbl hSg.1) (fun q => Nat.not_le.mpr hbl (hAs sb q)) (fun H' locs ls hP hD hS hl => ?_) ?_ ?_ va_S.rf
  · have hS1 := zglob hSg hAs hS
    refine va_forget hS1.2.2 (kk H' ls ⟨⟨hS1.1, hS1.2.1, fun _ h => by cases h⟩, ?_⟩ hl)
    rw [hw] at hS
    rw [hw'] at hP
    refine g_new hat hinj hjs hS hP (fun i hi hn => ?_)
    cases i with
    | inl q => exact gP_c hi.2 (kP q.1 q.2 hi.2 (fun h => hn (List.mem_append_left _ h)))
    | inr j =>
      have hj : j < 8 := by
        rcases Nat.lt_or_ge j 8 with h | h
        · exact h
        · exact absurd (List.mem_append_right _ (gL_in h hi)) hn
      exact kQ j hj (fun h => hn (List.mem_append_left _ h))
  · rw [hw]; exact g_P hat hjs
  · rw [hw]; exact g_D hinj hnd hjs H.size
