/-! The whole world: its cells by their names; what a call doesn't have in its world is kept. -/
abbrev gI : Type := (Nat × Nat) ⊕ Nat
def gOK : gI → Prop
  | .inl q => q.1 < 8 ∧ q.2 < 8
  | .inr j => j < 28
def gA (fa : Nat → Nat → Nat) (xa : Nat → Nat) (aO : Nat) (ad : Nat → Nat) : gI → Nat
  | .inl q => fa q.1 q.2
  | .inr 0 => xa 0
  | .inr 1 => xa 1
  | .inr 2 => xa 2
  | .inr 3 => xa 3
  | .inr 4 => xa 4
  | .inr 5 => xa 5
  | .inr 6 => xa 6
  | .inr 7 => xa 7
  | .inr 8 => aO
  | .inr (j + 9) => ad j
def gP (fa : Nat → Nat → Nat) (fk : Nat → Nat → ClassId) (C : Nat → Nat → Nat → Int32) (k : Nat) : Nat → va_E
  | 0 => .inr (1, [.ref (fa k 1), .int (C k 0 1), .int (C k 0 2), .int (C k 0 3), .int (C k 0 4), .int (C k 0 5), .int (C k 0 6), .int (C k 0 7)])
  | 1 => .inl (fk k 1, 25, .inl (C k 1))
  | 2 => .inr (3, [.ref (fa k 3), .int (C k 2 1), .int (C k 2 2), .int (C k 2 3), .int (C k 2 4)])
  | 3 => .inl (fk k 3, 25, .inl (C k 3))
  | 4 => .inr (0, [.ref (fa k 5), .int (C k 4 1), .int (C k 4 2), .int (C k 4 3), .int (C k 4 4), .ref (fa k 6), .ref (fa k 7), .int (C k 4 7), .int (C k 4 8), .int (C k 4 9), .int (C k 4 10), .int (C k 4 11), .int (C k 4 12), .int (C k 4 13), .int (C k 4 14), .int (C k 4 15)])
  | 5 => .inl (fk k 5, 25, .inl (C k 5))
  | 6 => .inl (fk k 6, 24, .inl (C k 6))
  | _ => .inl (fk k 7, 24, .inl (C k 7))
def gQ (xa : Nat → Nat) (xk : Nat → ClassId) (co : ClassId) (ad : Nat → Nat) (ca : Nat → ClassId) (pv y sv sr : Nat → Int32) (nf tf ef dc : Nat → Option Nat) (ov : Nat → Int64) (mv : Nat → Int32) (mu : Nat → Nat → Int32) : Nat → va_E
  | 0 => .inr (4, [.ref (xa 1), .int (pv 1), .ref (xa 2), .ref (xa 4), .ref (xa 5), .ref (xa 6), .ref (xa 7), .int (pv 7)])
  | 1 => .inl (xk 1, 24, .inl y)
  | 2 => .inr (2, [.ref (xa 3), .int (sv 1)])
  | 3 => .inl (xk 3, 24, .inl sr)
  | 4 => .inl (xk 4, 8, .inr (.inr (.inr (.inr nf))))
  | 5 => .inl (xk 5, 8, .inr (.inr (.inr (.inr tf))))
  | 6 => .inl (xk 6, 8, .inr (.inr (.inr (.inr ef))))
  | 7 => .inl (xk 7, 8, .inr (.inr (.inr (.inr dc))))
  | 8 => .inl (co, 1, .inr (.inl ov))
  | 9 => .inr (5, [.int (mv 0), .int (mv 1), .ref (ad 1), .int (mv 3), .ref (ad 2), .ref (ad 3), .ref (ad 4), .ref (ad 5), .ref (ad 6), .ref (ad 7), .ref (ad 8), .ref (ad 9), .ref (ad 10), .ref (ad 11), .ref (ad 12), .ref (ad 13), .ref (ad 14), .ref (ad 15), .ref (ad 16), .ref (ad 17), .int (mv 20), .int (mv 21), .ref (ad 18), .int (mv 23)])
  | 10 => .inl (ca 1, 24, .inl (mu 1))
  | 11 => .inl (ca 2, 9, .inl (mu 2))
  | 12 => .inl (ca 3, 216, .inl (mu 3))
  | 13 => .inl (ca 4, 216, .inl (mu 4))
  | 14 => .inl (ca 5, 9, .inl (mu 5))
  | 15 => .inl (ca 6, 9, .inl (mu 6))
  | 16 => .inl (ca 7, 9, .inl (mu 7))
  | 17 => .inl (ca 8, 9, .inl (mu 8))
  | 18 => .inl (ca 9, 9, .inl (mu 9))
  | 19 => .inl (ca 10, 9, .inl (mu 10))
  | 20 => .inl (ca 11, 9, .inl (mu 11))
  | 21 => .inl (ca 12, 9, .inl (mu 12))
  | 22 => .inl (ca 13, 9, .inl (mu 13))
  | 23 => .inl (ca 14, 9, .inl (mu 14))
  | 24 => .inl (ca 15, 9, .inl (mu 15))
  | 25 => .inl (ca 16, 256, .inl (mu 16))
  | 26 => .inl (ca 17, 48, .inl (mu 17))
  | _ => .inl (ca 18, 32, .inl (mu 18))
def gE (fa : Nat → Nat → Nat) (fk : Nat → Nat → ClassId) (xa : Nat → Nat) (xk : Nat → ClassId) (co : ClassId) (ad : Nat → Nat) (ca : Nat → ClassId) (pv y sv sr : Nat → Int32) (nf tf ef dc : Nat → Option Nat) (C : Nat → Nat → Nat → Int32) (ov : Nat → Int64) (mv : Nat → Int32) (mu : Nat → Nat → Int32) : gI → va_E
  | .inl q => gP fa fk C q.1 q.2
  | .inr j => gQ xa xk co ad ca pv y sv sr nf tf ef dc ov mv mu j
theorem gP_c {fa : Nat → Nat → Nat} {fk : Nat → Nat → ClassId} {C C' : Nat → Nat → Nat → Int32} {k r : Nat} (hr : r < 8) (h : C' k r = C k r) : gP fa fk C' k r = gP fa fk C k r := by
  rcases (show r = 0 ∨ r = 1 ∨ r = 2 ∨ r = 3 ∨ r = 4 ∨ r = 5 ∨ r = 6 ∨ r = 7 by omega) with rfl | rfl | rfl | rfl | rfl | rfl | rfl | rfl <;> simp only [gP, h]
/-- the array of the law and the reference, which every call has -/
abbrev gL : List gI := [.inr 8, .inr 9, .inr 10, .inr 11, .inr 12, .inr 13, .inr 14, .inr 15, .inr 16, .inr 17, .inr 18, .inr 19, .inr 20, .inr 21, .inr 22, .inr 23, .inr 24, .inr 25, .inr 26, .inr 27]
theorem gL_nd : (gL : List gI).Nodup := by decide
theorem gL_mem {i : gI} (h : i ∈ gL) : ∃ j, i = .inr (j + 8) ∧ j + 8 < 28 := by
  simp only [List.mem_cons, List.not_mem_nil, or_false] at h
  rcases h with rfl | rfl | rfl | rfl | rfl | rfl | rfl | rfl | rfl | rfl | rfl | rfl | rfl | rfl | rfl | rfl | rfl | rfl | rfl | rfl
  · exact ⟨0, rfl, by decide⟩
  · exact ⟨1, rfl, by decide⟩
  · exact ⟨2, rfl, by decide⟩
  · exact ⟨3, rfl, by decide⟩
  · exact ⟨4, rfl, by decide⟩
  · exact ⟨5, rfl, by decide⟩
  · exact ⟨6, rfl, by decide⟩
  · exact ⟨7, rfl, by decide⟩
  · exact ⟨8, rfl, by decide⟩
  · exact ⟨9, rfl, by decide⟩
  · exact ⟨10, rfl, by decide⟩
  · exact ⟨11, rfl, by decide⟩
  · exact ⟨12, rfl, by decide⟩
  · exact ⟨13, rfl, by decide⟩
  · exact ⟨14, rfl, by decide⟩
  · exact ⟨15, rfl, by decide⟩
  · exact ⟨16, rfl, by decide⟩
  · exact ⟨17, rfl, by decide⟩
  · exact ⟨18, rfl, by decide⟩
  · exact ⟨19, rfl, by decide⟩
theorem gL_in {j : Nat} (h1 : 8 ≤ j) (h2 : j < 28) : (.inr j : gI) ∈ gL := by
  rcases (show j = 8 ∨ j = 9 ∨ j = 10 ∨ j = 11 ∨ j = 12 ∨ j = 13 ∨ j = 14 ∨ j = 15 ∨ j = 16 ∨ j = 17 ∨ j = 18 ∨ j = 19 ∨ j = 20 ∨ j = 21 ∨ j = 22 ∨ j = 23 ∨ j = 24 ∨ j = 25 ∨ j = 26 ∨ j = 27 by omega) with rfl | rfl | rfl | rfl | rfl | rfl | rfl | rfl | rfl | rfl | rfl | rfl | rfl | rfl | rfl | rfl | rfl | rfl | rfl | rfl <;> simp
theorem g_nd {a : List gI} (ha : a.Nodup) (hok : ∀ i ∈ a, gOK i ∧ ∀ j, i ≠ .inr (j + 8)) : (a ++ gL).Nodup := by
  rw [List.nodup_append]
  refine ⟨ha, gL_nd, fun i hi j hj e => ?_⟩
  obtain ⟨k, hk, -⟩ := gL_mem hj
  exact (hok i hi).2 k (e.trans hk)
theorem g_ok {a : List gI} (hok : ∀ i ∈ a, gOK i ∧ ∀ j, i ≠ .inr (j + 8)) : ∀ i ∈ a ++ gL, gOK i := by
  intro i hi
  rcases List.mem_append.mp hi with h | h
  · exact (hok i h).1
  · obtain ⟨k, rfl, hk⟩ := gL_mem h
    exact hk
theorem g_P {D : va_G} {A : gI → Nat} {E : gI → va_E} {H : Heap} (hat : ∀ i, gOK i → va_at D vwCl (A i, E i) H) {js : List gI} (hj : ∀ i ∈ js, gOK i) : va_P D vwCl (js.map (fun i => (A i, E i))) H := by
  refine zP_mem.mpr (fun q hq => ?_)
  obtain ⟨i, hi, rfl⟩ := List.mem_map.mp hq
  exact hat i (hj i hi)
theorem g_D {A : gI → Nat} {E : gI → va_E} (hinj : ∀ i j, gOK i → gOK j → A i = A j → i = j) {js : List gI} (hn : js.Nodup) (hj : ∀ i ∈ js, gOK i) (n : Nat) : va_D (va_A (js.map (fun i => (A i, E i))) n) (js.map (fun i => (A i, E i))) := by
  refine ⟨fun x y p q hx hy e => ?_, fun k q hk => va_A.in hk⟩
  rw [List.getElem?_map] at hx hy
  obtain ⟨i, hi, rfl⟩ := Option.map_eq_some_iff.mp hx
  obtain ⟨j, hj', rfl⟩ := Option.map_eq_some_iff.mp hy
  have hij := hinj i j (hj i (List.mem_of_getElem? hi)) (hj j (List.mem_of_getElem? hj')) e
  subst hij
  exact (List.getElem?_inj (List.getElem?_eq_some_iff.mp hi).1 hn).mp (hi.trans hj'.symm)
theorem g_new {D : va_G} {A : gI → Nat} {E E' : gI → va_E} {H H' : Heap} {locs : List Loc} (hat : ∀ i, gOK i → va_at D vwCl (A i, E i) H) (hinj : ∀ i j, gOK i → gOK j → A i = A j → i = j) {js : List gI} (hj : ∀ i ∈ js, gOK i) (hS : va_S (va_A (js.map (fun i => (A i, E i))) H.size) H H' locs) (hP : va_P D vwCl (js.map (fun i => (A i, E' i))) H') (keep : ∀ i, gOK i → i ∉ js → E' i = E i) : ∀ i, gOK i → va_at D vwCl (A i, E' i) H' := by
  intro i hi
  by_cases c : i ∈ js
  · exact zP_mem.mp hP _ (List.mem_map.mpr ⟨i, c, rfl⟩)
  · rw [keep i hi c]
    have h := hat i hi
    refine h.kept (hS.2.1 _ h.lt ?_)
    rintro (⟨k, x, hk⟩ | q)
    · rw [List.getElem?_map] at hk
      obtain ⟨j, hjk, e⟩ := Option.map_eq_some_iff.mp hk
      have e1 : A j = A i := congrArg Prod.fst e
      have := hinj j i (hj j (List.mem_of_getElem? hjk)) hi e1
      rw [this] at hjk
      exact c (List.mem_of_getElem? hjk)
    · exact Nat.not_lt.mpr q h.lt
/-- what the tables say of the arrays' classes -/
def gT (fk : Nat → Nat → ClassId) (xk : Nat → ClassId) (co : ClassId) (ca : Nat → ClassId) (q : ClassId × FieldType) : Prop := q ∈ wX_t xk ∨ q = (co, .long) ∨ q ∈ wM_t ca ∨ ∃ k, k < 8 ∧ q ∈ zblk_t (fk k)
def gK (D : va_G) (U : State) (fk : Nat → Nat → ClassId) (xk : Nat → ClassId) (co : ClassId) (ca : Nat → ClassId) : Prop := (∀ (c : Nat) (q : vw_C), vwCl[c]? = some q → u_Kn U q.1 q.2.1 q.2.2 (D.1 c) (D.2 c)) ∧ ∀ q, gT fk xk co ca q → ArrOfT U q.1 q.2 ∧ va_RA U q.1 q.2
theorem g_K {D : va_G} {U : State} {fk : Nat → Nat → ClassId} {xk : Nat → ClassId} {co : ClassId} {ca : Nat → ClassId} (h : gK D U fk xk co ca) (a : List (ClassId × FieldType)) (ha : ∀ q ∈ a, gT fk xk co ca q) : va_K D vwCl (a ++ ((co, .long) :: wM_t ca)) U := by
  refine ⟨h.1, fun k q hk => h.2 q ?_⟩
  rcases List.mem_append.mp (List.mem_of_getElem? hk) with h1 | h1
  · exact ha q h1
  · rcases List.mem_cons.mp h1 with h2 | h2
    · exact Or.inr (Or.inl h2)
    · exact Or.inr (Or.inr (Or.inl h2))
