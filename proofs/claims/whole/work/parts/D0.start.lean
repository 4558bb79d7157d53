/-! What stands around the law's worlds at its start. -/
def zAO : Cond → Bool
  | .arrayOver (.object _) => true
  | _ => false
theorem zAO_w {w : Cond} {A : Array Value} {U : State} (h : zAO w = true) (hw : w.before A U = true) : va_Nw w U := by
  unfold zAO at h
  split at h
  · exact va_AO.of hw
  · cases h
theorem zNEST_ot : zNEST.all (fun w => w.onTables || zAO w) = true := by decide +kernel
theorem zsr135 : Cond.stringRef "PictureFields" 135 "no such field" ∈ lw_tbl := by decide +kernel
theorem zsr98 : Cond.stringRef "PictureFields" 98 "no such what" ∈ lw_tbl := by decide +kernel
theorem zsr114 : Cond.stringRef "PictureFields" 114 "no such scale" ∈ lw_tbl := by decide +kernel
theorem zsr106 : Cond.stringRef "PictureFields" 106 "no such byte" ∈ lw_tbl := by decide +kernel
theorem zsr112 : Cond.stringRef "PictureFields" 112 "no byte" ∈ lw_tbl := by decide +kernel
theorem zsr122 : Cond.stringRef "PictureFields" 122 "a text takes no number" ∈ lw_tbl := by decide +kernel
theorem zsr129 : Cond.stringRef "PictureFields" 129 "places behind the point do not go into a text" ∈ lw_tbl := by decide +kernel
theorem zsr56 : Cond.stringRef "PictureFields" 56 "there are eight fields" ∈ lw_tbl := by decide +kernel
theorem zsr71 : Cond.stringRef "PictureFields" 71 "no picture, or no such usage of it" ∈ lw_tbl := by decide +kernel
theorem zstr {own tx : String} {k : Nat} {A : Array Value} {U : State} (h1 : (Cond.stringRef own k tx).before A U = true) (h2 : (Cond.exactly (.string own k) "java/lang/String").before A U = true) : ∃ a, vk_R own k tx a U := by
  obtain ⟨a, _, _, _, h, -⟩ := Cond.exactly_spec h2
  exact ⟨a, vk_R.of h1 h⟩
theorem zPow_start {args : Array Value} {s : State} (hts : ∀ w ∈ lw_tbl, w.before args s = true) (hs : ∀ w ∈ flatC (Cond.and given_1 narrow_1), w.before args s = true) : zPow (fun q => s.heap.size ≤ q) s := by
  have hA : ∀ a : Nat, a < s.heap.size → ¬ s.heap.size ≤ a := fun a h => Nat.not_le.mpr h
  obtain ⟨t, h1, h2⟩ := va_Tof (tm := .static "PictureFields" "POWERS" "[J") (ty := .long) (N := 19) (f := fun j => .long (zpl j)) (A := fun q => s.heap.size ≤ q) (by decide) (hs (.arrayOf (.static "PictureFields" "POWERS" "[J") .long) (by decide +kernel)) (va_eqt (hs (.eq (.length (.static "PictureFields" "POWERS" "[J")) (.int 19)) (by decide +kernel)))
    (fun j hj => match j, hj with
    | 0, _ => va_eqtl (hs (.eq (.elem (.static "PictureFields" "POWERS" "[J") (.int 0)) (.long 1)) (by decide +kernel))
    | 1, _ => va_eqtl (hs (.eq (.elem (.static "PictureFields" "POWERS" "[J") (.int 1)) (.long 10)) (by decide +kernel))
    | 2, _ => va_eqtl (hs (.eq (.elem (.static "PictureFields" "POWERS" "[J") (.int 2)) (.long 100)) (by decide +kernel))
    | 3, _ => va_eqtl (hs (.eq (.elem (.static "PictureFields" "POWERS" "[J") (.int 3)) (.long 1000)) (by decide +kernel))
    | 4, _ => va_eqtl (hs (.eq (.elem (.static "PictureFields" "POWERS" "[J") (.int 4)) (.long 10000)) (by decide +kernel))
    | 5, _ => va_eqtl (hs (.eq (.elem (.static "PictureFields" "POWERS" "[J") (.int 5)) (.long 100000)) (by decide +kernel))
    | 6, _ => va_eqtl (hs (.eq (.elem (.static "PictureFields" "POWERS" "[J") (.int 6)) (.long 1000000)) (by decide +kernel))
    | 7, _ => va_eqtl (hs (.eq (.elem (.static "PictureFields" "POWERS" "[J") (.int 7)) (.long 10000000)) (by decide +kernel))
    | 8, _ => va_eqtl (hs (.eq (.elem (.static "PictureFields" "POWERS" "[J") (.int 8)) (.long 100000000)) (by decide +kernel))
    | 9, _ => va_eqtl (hs (.eq (.elem (.static "PictureFields" "POWERS" "[J") (.int 9)) (.long 1000000000)) (by decide +kernel))
    | 10, _ => va_eqtl (hs (.eq (.elem (.static "PictureFields" "POWERS" "[J") (.int 10)) (.long 10000000000)) (by decide +kernel))
    | 11, _ => va_eqtl (hs (.eq (.elem (.static "PictureFields" "POWERS" "[J") (.int 11)) (.long 100000000000)) (by decide +kernel))
    | 12, _ => va_eqtl (hs (.eq (.elem (.static "PictureFields" "POWERS" "[J") (.int 12)) (.long 1000000000000)) (by decide +kernel))
    | 13, _ => va_eqtl (hs (.eq (.elem (.static "PictureFields" "POWERS" "[J") (.int 13)) (.long 10000000000000)) (by decide +kernel))
    | 14, _ => va_eqtl (hs (.eq (.elem (.static "PictureFields" "POWERS" "[J") (.int 14)) (.long 100000000000000)) (by decide +kernel))
    | 15, _ => va_eqtl (hs (.eq (.elem (.static "PictureFields" "POWERS" "[J") (.int 15)) (.long 1000000000000000)) (by decide +kernel))
    | 16, _ => va_eqtl (hs (.eq (.elem (.static "PictureFields" "POWERS" "[J") (.int 16)) (.long 10000000000000000)) (by decide +kernel))
    | 17, _ => va_eqtl (hs (.eq (.elem (.static "PictureFields" "POWERS" "[J") (.int 17)) (.long 100000000000000000)) (by decide +kernel))
    | 18, _ => va_eqtl (hs (.eq (.elem (.static "PictureFields" "POWERS" "[J") (.int 18)) (.long 1000000000000000000)) (by decide +kernel))
    | j + 19, h => absurd h (by omega)) hA
  exact ⟨t, va_Zref (hts (.laysStatic "PictureFields" "POWERS" "[J") (by decide +kernel)) (hts (.initialized "PictureFields") (by decide +kernel)) h1 hA, h2⟩
theorem zW_start {args : Array Value} {s : State} (hts : ∀ w ∈ lw_tbl, w.before args s = true) (hgv : (Cond.and given_1 narrow_1).before args s = true) : zW (fun q => s.heap.size ≤ q) s := by
  have hs := flat_of_before _ hgv
  have hA : ∀ a : Nat, a < s.heap.size → ¬ s.heap.size ≤ a := fun a h => Nat.not_le.mpr h
  refine ⟨⟨⟨fun w hw => ?_, zPow_start hts hs⟩, fun w hw => ?_, ?_, ?_, ?_⟩, ?_, ?_, ?_, ?_⟩
  · have hk := List.all_eq_true.mp zNEST_ot w hw
    rw [Bool.or_eq_true] at hk
    rcases hk with hk | hk
    · exact va_Nw.of hk (hts w (zNEST_in w hw))
    · exact zAO_w hk (hts w (zNEST_in w hw))
  · have hk := List.all_eq_true.mp zTHR_k w hw
    simp only [zKp, Bool.and_eq_true] at hk
    exact va_Nw.of hk.1 (hts w (zTHR_in w hw))
  · show ∀ q ∈ zSTR, _
    unfold zSTR
    exact List.forall_mem_cons.mpr ⟨zstr (hts _ zsr135) (hs (.exactly (.string "PictureFields" 135) "java/lang/String") (by decide +kernel)), List.forall_mem_cons.mpr ⟨zstr (hts _ zsr98) (hs (.exactly (.string "PictureFields" 98) "java/lang/String") (by decide +kernel)), List.forall_mem_cons.mpr ⟨zstr (hts _ zsr114) (hs (.exactly (.string "PictureFields" 114) "java/lang/String") (by decide +kernel)), List.forall_mem_cons.mpr ⟨zstr (hts _ zsr106) (hs (.exactly (.string "PictureFields" 106) "java/lang/String") (by decide +kernel)), List.forall_mem_cons.mpr ⟨zstr (hts _ zsr112) (hs (.exactly (.string "PictureFields" 112) "java/lang/String") (by decide +kernel)), List.forall_mem_cons.mpr ⟨zstr (hts _ zsr122) (hs (.exactly (.string "PictureFields" 122) "java/lang/String") (by decide +kernel)), List.forall_mem_cons.mpr ⟨zstr (hts _ zsr129) (hs (.exactly (.string "PictureFields" 129) "java/lang/String") (by decide +kernel)), List.forall_mem_cons.mpr ⟨zstr (hts _ zsr56) (hs (.exactly (.string "PictureFields" 56) "java/lang/String") (by decide +kernel)), List.forall_mem_cons.mpr ⟨zstr (hts _ zsr71) (hs (.exactly (.string "PictureFields" 71) "java/lang/String") (by decide +kernel)), fun _ h => absurd h List.not_mem_nil⟩⟩⟩⟩⟩⟩⟩⟩⟩
  · exact vx_Zqof (hts (.laysStatic "java/lang/Throwable" "UNASSIGNED_STACK" "[Ljava/lang/StackTraceElement;") (by decide +kernel)) (hts (.initialized "java/lang/Throwable") (by decide +kernel)) (hs (.isRef (.static "java/lang/Throwable" "UNASSIGNED_STACK" "[Ljava/lang/StackTraceElement;")) (by decide +kernel)) hA
  · exact vx_Zqof (hts (.laysStatic "java/lang/Throwable" "SUPPRESSED_SENTINEL" "Ljava/util/List;") (by decide +kernel)) (hts (.initialized "java/lang/Throwable") (by decide +kernel)) (hs (.isRef (.static "java/lang/Throwable" "SUPPRESSED_SENTINEL" "Ljava/util/List;")) (by decide +kernel)) hA
  · exact va_Nc.of (hs _ (by decide +kernel))
  · exact va_Nc.of (hs _ (by decide +kernel))
  · exact va_Nc.of (hs _ (by decide +kernel))
  · exact va_Nc.of (hs _ (by decide +kernel))
