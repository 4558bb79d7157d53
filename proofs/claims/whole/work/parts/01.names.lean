def RX0 : String := "PictureFields$EditedField"
def TX0 : u_T := fun k => match k with
  | 0 => ("PictureFields$Field", "bytes", "[I", true)
  | 1 => ("PictureFields$Field", "size", "I", false)
  | 2 => ("PictureFields$Field", "before", "I", false)
  | 3 => ("PictureFields$Field", "behind", "I", false)
  | 4 => ("PictureFields$Field", "signed", "Z", false)
  | 5 => ("PictureFields$EditedField", "row", "[I", true)
  | 6 => ("PictureFields$EditedField", "powers", "[I", true)
  | 7 => ("PictureFields$EditedField", "leading", "I", false)
  | 8 => ("PictureFields$EditedField", "trailing", "I", false)
  | 9 => ("PictureFields$EditedField", "bodyStart", "I", false)
  | 10 => ("PictureFields$EditedField", "bodyEnd", "I", false)
  | 11 => ("PictureFields$EditedField", "fill", "I", false)
  | 12 => ("PictureFields$EditedField", "fills", "I", false)
  | 13 => ("PictureFields$EditedField", "firstFill", "I", false)
  | 14 => ("PictureFields$EditedField", "nines", "I", false)
  | _ => ("PictureFields$EditedField", "point", "I", false)
def tyX0 : Nat → FieldType := fun k => match k with
  | 0 => .array .int
  | 1 => .int
  | 2 => .int
  | 3 => .int
  | 4 => .boolean
  | 5 => .array .int
  | 6 => .array .int
  | 7 => .int
  | 8 => .int
  | 9 => .int
  | 10 => .int
  | 11 => .int
  | 12 => .int
  | 13 => .int
  | 14 => .int
  | _ => .int
theorem nmX0 : ∀ a, a < 16 → ∀ b, b < 16 → a ≠ b → (TX0 a).2.1 ≠ (TX0 b).2.1 := by decide +kernel
theorem tyX0_ok : ∀ k, k < 16 → parseFieldDescriptor (TX0 k).2.2.1 = some (tyX0 k) := by decide +kernel
def RX1 : String := "PictureFields$Field"
def RX2 : String := "PictureFields$NumberField"
def TX2 : u_T := fun k => match k with
  | 0 => ("PictureFields$Field", "bytes", "[I", true)
  | 1 => ("PictureFields$Field", "size", "I", false)
  | 2 => ("PictureFields$Field", "before", "I", false)
  | 3 => ("PictureFields$Field", "behind", "I", false)
  | 4 => ("PictureFields$Field", "signed", "Z", false)
  | 5 => ("PictureFields$NumberField", "nines", "I", false)
  | 6 => ("PictureFields$NumberField", "lowestPower", "I", false)
  | _ => ("PictureFields$NumberField", "packed", "Z", false)
def tyX2 : Nat → FieldType := fun k => match k with
  | 0 => .array .int
  | 1 => .int
  | 2 => .int
  | 3 => .int
  | 4 => .boolean
  | 5 => .int
  | 6 => .int
  | _ => .boolean
theorem nmX2 : ∀ a, a < 8 → ∀ b, b < 8 → a ≠ b → (TX2 a).2.1 ≠ (TX2 b).2.1 := by decide +kernel
theorem tyX2_ok : ∀ k, k < 8 → parseFieldDescriptor (TX2 k).2.2.1 = some (tyX2 k) := by decide +kernel
def RX3 : String := "PictureFields$Symbols"
def TX3 : u_T := fun k => match k with
  | 0 => ("PictureFields$Symbols", "row", "[I", true)
  | _ => ("PictureFields$Symbols", "count", "I", false)
def tyX3 : Nat → FieldType := fun k => match k with
  | 0 => .array .int
  | _ => .int
theorem nmX3 : ∀ a, a < 2 → ∀ b, b < 2 → a ≠ b → (TX3 a).2.1 ≠ (TX3 b).2.1 := by decide +kernel
theorem tyX3_ok : ∀ k, k < 2 → parseFieldDescriptor (TX3 k).2.2.1 = some (tyX3 k) := by decide +kernel
def RX4 : String := "PictureFields$TextField"
def TX4 : u_T := fun k => match k with
  | 0 => ("PictureFields$Field", "bytes", "[I", true)
  | 1 => ("PictureFields$Field", "size", "I", false)
  | 2 => ("PictureFields$Field", "before", "I", false)
  | 3 => ("PictureFields$Field", "behind", "I", false)
  | _ => ("PictureFields$Field", "signed", "Z", false)
def tyX4 : Nat → FieldType := fun k => match k with
  | 0 => .array .int
  | 1 => .int
  | 2 => .int
  | 3 => .int
  | _ => .boolean
theorem nmX4 : ∀ a, a < 5 → ∀ b, b < 5 → a ≠ b → (TX4 a).2.1 ≠ (TX4 b).2.1 := by decide +kernel
theorem tyX4_ok : ∀ k, k < 5 → parseFieldDescriptor (TX4 k).2.2.1 = some (tyX4 k) := by decide +kernel
def RX5 : String := "PictureFields"
def TX5 : u_T := fun k => match k with
  | 0 => ("PictureFields", "typed", "[I", true)
  | 1 => ("PictureFields", "typedCount", "I", false)
  | 2 => ("PictureFields", "symbols", "LPictureFields$Symbols;", true)
  | 3 => ("PictureFields", "numbers", "[LPictureFields$NumberField;", true)
  | 4 => ("PictureFields", "texts", "[LPictureFields$TextField;", true)
  | 5 => ("PictureFields", "editeds", "[LPictureFields$EditedField;", true)
  | 6 => ("PictureFields", "declared", "[LPictureFields$Field;", true)
  | _ => ("PictureFields", "declaredCount", "I", false)
def tyX5 : Nat → FieldType := fun k => match k with
  | 0 => .array .int
  | 1 => .int
  | 2 => .object "PictureFields$Symbols"
  | 3 => .array (.object "PictureFields$NumberField")
  | 4 => .array (.object "PictureFields$TextField")
  | 5 => .array (.object "PictureFields$EditedField")
  | 6 => .array (.object "PictureFields$Field")
  | _ => .int
theorem nmX5 : ∀ a, a < 8 → ∀ b, b < 8 → a ≠ b → (TX5 a).2.1 ≠ (TX5 b).2.1 := by decide +kernel
theorem tyX5_ok : ∀ k, k < 8 → parseFieldDescriptor (TX5 k).2.2.1 = some (tyX5 k) := by decide +kernel
def RX6 : String := "PictureFieldsModel"
def TX6 : u_T := fun k => match k with
  | 0 => ("PictureFieldsModel", "thrown", "I", false)
  | 1 => ("PictureFieldsModel", "typed", "I", false)
  | 2 => ("PictureFieldsModel", "text", "[I", true)
  | 3 => ("PictureFieldsModel", "fields", "I", false)
  | 4 => ("PictureFieldsModel", "many", "[I", true)
  | 5 => ("PictureFieldsModel", "symbol", "[I", true)
  | 6 => ("PictureFieldsModel", "digit", "[I", true)
  | 7 => ("PictureFieldsModel", "kind", "[I", true)
  | 8 => ("PictureFieldsModel", "usage", "[I", true)
  | 9 => ("PictureFieldsModel", "before", "[I", true)
  | 10 => ("PictureFieldsModel", "behind", "[I", true)
  | 11 => ("PictureFieldsModel", "signed", "[Z", true)
  | 12 => ("PictureFieldsModel", "low", "[I", true)
  | 13 => ("PictureFieldsModel", "fill", "[I", true)
  | 14 => ("PictureFieldsModel", "from", "[I", true)
  | 15 => ("PictureFieldsModel", "to", "[I", true)
  | 16 => ("PictureFieldsModel", "point", "[I", true)
  | 17 => ("PictureFieldsModel", "length", "[I", true)
  | 18 => ("PictureFieldsModel", "bytes", "[I", true)
  | 19 => ("PictureFieldsModel", "num", "[I", true)
  | 20 => ("PictureFieldsModel", "scale", "I", false)
  | 21 => ("PictureFieldsModel", "below", "Z", false)
  | 22 => ("PictureFieldsModel", "chars", "[I", true)
  | _ => ("PictureFieldsModel", "count", "I", false)
def tyX6 : Nat → FieldType := fun k => match k with
  | 0 => .int
  | 1 => .int
  | 2 => .array .int
  | 3 => .int
  | 4 => .array .int
  | 5 => .array .int
  | 6 => .array .int
  | 7 => .array .int
  | 8 => .array .int
  | 9 => .array .int
  | 10 => .array .int
  | 11 => .array .boolean
  | 12 => .array .int
  | 13 => .array .int
  | 14 => .array .int
  | 15 => .array .int
  | 16 => .array .int
  | 17 => .array .int
  | 18 => .array .int
  | 19 => .array .int
  | 20 => .int
  | 21 => .boolean
  | 22 => .array .int
  | _ => .int
theorem nmX6 : ∀ a, a < 24 → ∀ b, b < 24 → a ≠ b → (TX6 a).2.1 ≠ (TX6 b).2.1 := by decide +kernel
theorem tyX6_ok : ∀ k, k < 24 → parseFieldDescriptor (TX6 k).2.2.1 = some (tyX6 k) := by decide +kernel
def RL : String := "PictureFieldsLaw"
abbrev RPF : String := RX5
abbrev vwCl : List vw_C := [(RX0, TX0, 16), (RX2, TX2, 8), (RX3, TX3, 2), (RX4, TX4, 5), (RX5, TX5, 8), (RX6, TX6, 24)]
abbrev cX0_init : ByteArray := prog_2_method_1_code
def yX0_init : MethodName := ⟨RX0, "<init>", "()V"⟩
abbrev cX0_kind : ByteArray := prog_2_method_2_code
def yX0_kind : MethodName := ⟨RX0, "kind", "()I"⟩
abbrev cX0_fits : ByteArray := prog_2_method_3_code
def yX0_fits : MethodName := ⟨RX0, "fits", "(LPictureFields$Symbols;)Z"⟩
abbrev cX0_takeApart : ByteArray := prog_2_method_4_code
def yX0_takeApart : MethodName := ⟨RX0, "takeApart", "(I)V"⟩
abbrev cX0_firstOfRest : ByteArray := prog_2_method_5_code
def yX0_firstOfRest : MethodName := ⟨RX0, "firstOfRest", "()I"⟩
abbrev cX0_standsOnce : ByteArray := prog_2_method_6_code
def yX0_standsOnce : MethodName := ⟨RX0, "standsOnce", "(I)Z"⟩
abbrev cX0_countBody : ByteArray := prog_2_method_7_code
def yX0_countBody : MethodName := ⟨RX0, "countBody", "()Z"⟩
abbrev cX0_countSymbol : ByteArray := prog_2_method_8_code
def yX0_countSymbol : MethodName := ⟨RX0, "countSymbol", "(I)Z"⟩
abbrev cX0_countFill : ByteArray := prog_2_method_9_code
def yX0_countFill : MethodName := ⟨RX0, "countFill", "(I)Z"⟩
abbrev cX0_signsAgree : ByteArray := prog_2_method_10_code
def yX0_signsAgree : MethodName := ⟨RX0, "signsAgree", "()Z"⟩
abbrev cX0_fillsStandRight : ByteArray := prog_2_method_11_code
def yX0_fillsStandRight : MethodName := ⟨RX0, "fillsStandRight", "()Z"⟩
abbrev cX0_placeDigits : ByteArray := prog_2_method_12_code
def yX0_placeDigits : MethodName := ⟨RX0, "placeDigits", "()V"⟩
abbrev cX0_isDigitPlace : ByteArray := prog_2_method_13_code
def yX0_isDigitPlace : MethodName := ⟨RX0, "isDigitPlace", "(I)Z"⟩
abbrev cX0_isFloating : ByteArray := prog_2_method_14_code
def yX0_isFloating : MethodName := ⟨RX0, "isFloating", "()Z"⟩
abbrev cX0_isLetterSign : ByteArray := prog_2_method_15_code
def yX0_isLetterSign : MethodName := ⟨RX0, "isLetterSign", "()Z"⟩
abbrev cX0_hasHiddenPoint : ByteArray := prog_2_method_16_code
def yX0_hasHiddenPoint : MethodName := ⟨RX0, "hasHiddenPoint", "()Z"⟩
abbrev cX0_isSign : ByteArray := prog_2_method_17_code
def yX0_isSign : MethodName := ⟨RX0, "isSign", "(I)Z"⟩
abbrev cX0_byteOf : ByteArray := prog_2_method_18_code
def yX0_byteOf : MethodName := ⟨RX0, "byteOf", "(I)I"⟩
abbrev cX0_number : ByteArray := prog_2_method_19_code
def yX0_number : MethodName := ⟨RX0, "number", "()J"⟩
abbrev cX0_isBelowZero : ByteArray := prog_2_method_20_code
def yX0_isBelowZero : MethodName := ⟨RX0, "isBelowZero", "()Z"⟩
abbrev cX0_secondLetter : ByteArray := prog_2_method_21_code
def yX0_secondLetter : MethodName := ⟨RX0, "secondLetter", "()I"⟩
abbrev cX0_takeNumber : ByteArray := prog_2_method_22_code
def yX0_takeNumber : MethodName := ⟨RX0, "takeNumber", "(JI)Z"⟩
abbrev cX0_leavesDigit : ByteArray := prog_2_method_23_code
def yX0_leavesDigit : MethodName := ⟨RX0, "leavesDigit", "(JI)Z"⟩
abbrev cX0_standsForMore : ByteArray := prog_2_method_24_code
def yX0_standsForMore : MethodName := ⟨RX0, "standsForMore", "(IJI)Z"⟩
abbrev cX0_suppressAll : ByteArray := prog_2_method_25_code
def yX0_suppressAll : MethodName := ⟨RX0, "suppressAll", "()V"⟩
abbrev cX0_suppressed : ByteArray := prog_2_method_26_code
def yX0_suppressed : MethodName := ⟨RX0, "suppressed", "()I"⟩
abbrev cX0_fixedCharacter : ByteArray := prog_2_method_27_code
def yX0_fixedCharacter : MethodName := ⟨RX0, "fixedCharacter", "(IZ)I"⟩
abbrev cX0_writeBody : ByteArray := prog_2_method_28_code
def yX0_writeBody : MethodName := ⟨RX0, "writeBody", "(JI)V"⟩
abbrev cX0_zoneEnd : ByteArray := prog_2_method_29_code
def yX0_zoneEnd : MethodName := ⟨RX0, "zoneEnd", "(JI)I"⟩
abbrev cX0_suppressZone : ByteArray := prog_2_method_30_code
def yX0_suppressZone : MethodName := ⟨RX0, "suppressZone", "(IZ)V"⟩
abbrev cX0_writeTrailing : ByteArray := prog_2_method_31_code
def yX0_writeTrailing : MethodName := ⟨RX0, "writeTrailing", "(Z)V"⟩
abbrev cX1_init : ByteArray := prog_3_method_1_code
def yX1_init : MethodName := ⟨RX1, "<init>", "()V"⟩
abbrev cX1_takeField : ByteArray := prog_3_method_6_code
def yX1_takeField : MethodName := ⟨RX1, "takeField", "(LPictureFields$Field;)Z"⟩
abbrev cX1_spell : ByteArray := prog_3_method_7_code
def yX1_spell : MethodName := ⟨RX1, "spell", "([II)Z"⟩
abbrev cX1_empty : ByteArray := prog_3_method_8_code
def yX1_empty : MethodName := ⟨RX1, "empty", "()V"⟩
abbrev cX1_hasByte : ByteArray := prog_3_method_9_code
def yX1_hasByte : MethodName := ⟨RX1, "hasByte", "(I)Z"⟩
abbrev cX2_init : ByteArray := prog_4_method_1_code
def yX2_init : MethodName := ⟨RX2, "<init>", "()V"⟩
abbrev cX2_kind : ByteArray := prog_4_method_2_code
def yX2_kind : MethodName := ⟨RX2, "kind", "()I"⟩
abbrev cX2_fits : ByteArray := prog_4_method_3_code
def yX2_fits : MethodName := ⟨RX2, "fits", "(LPictureFields$Symbols;)Z"⟩
abbrev cX2_takesUsage : ByteArray := prog_4_method_4_code
def yX2_takesUsage : MethodName := ⟨RX2, "takesUsage", "(I)Z"⟩
abbrev cX2_fitsUnscaled : ByteArray := prog_4_method_5_code
def yX2_fitsUnscaled : MethodName := ⟨RX2, "fitsUnscaled", "(LPictureFields$Symbols;I)Z"⟩
abbrev cX2_fitsScaledBefore : ByteArray := prog_4_method_6_code
def yX2_fitsScaledBefore : MethodName := ⟨RX2, "fitsScaledBefore", "(LPictureFields$Symbols;I)Z"⟩
abbrev cX2_fitsScaledBehind : ByteArray := prog_4_method_7_code
def yX2_fitsScaledBehind : MethodName := ⟨RX2, "fitsScaledBehind", "(LPictureFields$Symbols;I)Z"⟩
abbrev cX2_number : ByteArray := prog_4_method_8_code
def yX2_number : MethodName := ⟨RX2, "number", "()J"⟩
abbrev cX2_isBelowZero : ByteArray := prog_4_method_9_code
def yX2_isBelowZero : MethodName := ⟨RX2, "isBelowZero", "()Z"⟩
abbrev cX2_takeNumber : ByteArray := prog_4_method_10_code
def yX2_takeNumber : MethodName := ⟨RX2, "takeNumber", "(JI)Z"⟩
abbrev cX2_signBits : ByteArray := prog_4_method_11_code
def yX2_signBits : MethodName := ⟨RX2, "signBits", "(Z)I"⟩
abbrev cX2_byteOf : ByteArray := prog_4_method_12_code
def yX2_byteOf : MethodName := ⟨RX2, "byteOf", "(I)I"⟩
abbrev cX2_shiftOf : ByteArray := prog_4_method_13_code
def yX2_shiftOf : MethodName := ⟨RX2, "shiftOf", "(I)I"⟩
abbrev cX2_spell : ByteArray := prog_4_method_14_code
def yX2_spell : MethodName := ⟨RX2, "spell", "([II)Z"⟩
abbrev cX3_init : ByteArray := prog_5_method_1_code
def yX3_init : MethodName := ⟨RX3, "<init>", "()V"⟩
abbrev cX3_expand : ByteArray := prog_5_method_2_code
def yX3_expand : MethodName := ⟨RX3, "expand", "([II)Z"⟩
abbrev cX3_expandOne : ByteArray := prog_5_method_3_code
def yX3_expandOne : MethodName := ⟨RX3, "expandOne", "([III)I"⟩
abbrev cX3_closingPlace : ByteArray := prog_5_method_4_code
def yX3_closingPlace : MethodName := ⟨RX3, "closingPlace", "([III)I"⟩
abbrev cX3_writtenNumber : ByteArray := prog_5_method_5_code
def yX3_writtenNumber : MethodName := ⟨RX3, "writtenNumber", "([III)I"⟩
abbrev cX3_append : ByteArray := prog_5_method_6_code
def yX3_append : MethodName := ⟨RX3, "append", "(II)Z"⟩
abbrev cX3_symbolAt : ByteArray := prog_5_method_7_code
def yX3_symbolAt : MethodName := ⟨RX3, "symbolAt", "(I)I"⟩
abbrev cX3_runEnd : ByteArray := prog_5_method_8_code
def yX3_runEnd : MethodName := ⟨RX3, "runEnd", "(II)I"⟩
abbrev cX4_init : ByteArray := prog_6_method_1_code
def yX4_init : MethodName := ⟨RX4, "<init>", "()V"⟩
abbrev cX4_kind : ByteArray := prog_6_method_2_code
def yX4_kind : MethodName := ⟨RX4, "kind", "()I"⟩
abbrev cX4_fits : ByteArray := prog_6_method_3_code
def yX4_fits : MethodName := ⟨RX4, "fits", "(LPictureFields$Symbols;)Z"⟩
abbrev cX4_number : ByteArray := prog_6_method_4_code
def yX4_number : MethodName := ⟨RX4, "number", "()J"⟩
abbrev cX4_takeNumber : ByteArray := prog_6_method_5_code
def yX4_takeNumber : MethodName := ⟨RX4, "takeNumber", "(JI)Z"⟩
abbrev cX4_takeField : ByteArray := prog_6_method_6_code
def yX4_takeField : MethodName := ⟨RX4, "takeField", "(LPictureFields$Field;)Z"⟩
abbrev cX4_empty : ByteArray := prog_6_method_7_code
def yX4_empty : MethodName := ⟨RX4, "empty", "()V"⟩
abbrev cX5_init : ByteArray := prog_1_method_1_code
def yX5_init : MethodName := ⟨RX5, "<init>", "()V"⟩
abbrev cX5_type : ByteArray := prog_1_method_2_code
def yX5_type : MethodName := ⟨RX5, "type", "(I)Z"⟩
abbrev cX5_declare : ByteArray := prog_1_method_3_code
def yX5_declare : MethodName := ⟨RX5, "declare", "(I)I"⟩
abbrev cX5_clear : ByteArray := prog_1_method_4_code
def yX5_clear : MethodName := ⟨RX5, "clear", "()V"⟩
abbrev cX5_fields : ByteArray := prog_1_method_5_code
def yX5_fields : MethodName := ⟨RX5, "fields", "()I"⟩
abbrev cX5_look : ByteArray := prog_1_method_6_code
def yX5_look : MethodName := ⟨RX5, "look", "(II)I"⟩
abbrev cX5_get : ByteArray := prog_1_method_7_code
def yX5_get : MethodName := ⟨RX5, "get", "(II)I"⟩
abbrev cX5_set : ByteArray := prog_1_method_8_code
def yX5_set : MethodName := ⟨RX5, "set", "(III)V"⟩
abbrev cX5_put : ByteArray := prog_1_method_9_code
def yX5_put : MethodName := ⟨RX5, "put", "(IJI)V"⟩
abbrev cX5_move : ByteArray := prog_1_method_10_code
def yX5_move : MethodName := ⟨RX5, "move", "(II)V"⟩
abbrev cX5_value : ByteArray := prog_1_method_11_code
def yX5_value : MethodName := ⟨RX5, "value", "(I)J"⟩
abbrev cX5_existing : ByteArray := prog_1_method_12_code
def yX5_existing : MethodName := ⟨RX5, "existing", "(I)LPictureFields$Field;"⟩
abbrev cX5_fittingField : ByteArray := prog_1_method_13_code
def yX5_fittingField : MethodName := ⟨RX5, "fittingField", "(II)LPictureFields$Field;"⟩
abbrev cX5_digitAt : ByteArray := prog_1_method_14_code
def yX5_digitAt : MethodName := ⟨RX5, "digitAt", "(JII)I"⟩
abbrev cX5_isDigit : ByteArray := prog_1_method_15_code
def yX5_isDigit : MethodName := ⟨RX5, "isDigit", "(I)Z"⟩
abbrev cX6_init : ByteArray := prog_8_method_1_code
def yX6_init : MethodName := ⟨RX6, "<init>", "()V"⟩
abbrev cX6_thrown : ByteArray := prog_8_method_2_code
def yX6_thrown : MethodName := ⟨RX6, "thrown", "()I"⟩
abbrev cX6_fails : ByteArray := prog_8_method_3_code
def yX6_fails : MethodName := ⟨RX6, "fails", "(ZZZ)Z"⟩
abbrev cX6_isField : ByteArray := prog_8_method_4_code
def yX6_isField : MethodName := ⟨RX6, "isField", "(I)Z"⟩
abbrev cX6_type : ByteArray := prog_8_method_5_code
def yX6_type : MethodName := ⟨RX6, "type", "(I)Z"⟩
abbrev cX6_isDigit : ByteArray := prog_8_method_6_code
def yX6_isDigit : MethodName := ⟨RX6, "isDigit", "(I)Z"⟩
abbrev cX6_isSymbol : ByteArray := prog_8_method_7_code
def yX6_isSymbol : MethodName := ⟨RX6, "isSymbol", "(I)Z"⟩
abbrev cX6_at : ByteArray := prog_8_method_8_code
def yX6_at : MethodName := ⟨RX6, "at", "(I)I"⟩
abbrev cX6_sym : ByteArray := prog_8_method_9_code
def yX6_sym : MethodName := ⟨RX6, "sym", "(II)I"⟩
abbrev cX6_put : ByteArray := prog_8_method_10_code
def yX6_put : MethodName := ⟨RX6, "put", "(II)Z"⟩
abbrev cX6_parentheses : ByteArray := prog_8_method_11_code
def yX6_parentheses : MethodName := ⟨RX6, "parentheses", "(I)I"⟩
abbrev cX6_expands : ByteArray := prog_8_method_12_code
def yX6_expands : MethodName := ⟨RX6, "expands", "()Z"⟩
abbrev cX6_countOf : ByteArray := prog_8_method_13_code
def yX6_countOf : MethodName := ⟨RX6, "countOf", "(III)I"⟩
abbrev cX6_firstOf : ByteArray := prog_8_method_14_code
def yX6_firstOf : MethodName := ⟨RX6, "firstOf", "(III)I"⟩
abbrev cX6_isNumber : ByteArray := prog_8_method_15_code
def yX6_isNumber : MethodName := ⟨RX6, "isNumber", "()Z"⟩
abbrev cX6_isText : ByteArray := prog_8_method_16_code
def yX6_isText : MethodName := ⟨RX6, "isText", "()Z"⟩
abbrev cX6_isSign : ByteArray := prog_8_method_17_code
def yX6_isSign : MethodName := ⟨RX6, "isSign", "(I)Z"⟩
abbrev cX6_isInsertion : ByteArray := prog_8_method_18_code
def yX6_isInsertion : MethodName := ⟨RX6, "isInsertion", "(I)Z"⟩
abbrev cX6_isFill : ByteArray := prog_8_method_19_code
def yX6_isFill : MethodName := ⟨RX6, "isFill", "(I)Z"⟩
abbrev cX6_body : ByteArray := prog_8_method_20_code
def yX6_body : MethodName := ⟨RX6, "body", "(II)Z"⟩
abbrev cX6_ordered : ByteArray := prog_8_method_21_code
def yX6_ordered : MethodName := ⟨RX6, "ordered", "(II)Z"⟩
abbrev cX6_isEdited : ByteArray := prog_8_method_22_code
def yX6_isEdited : MethodName := ⟨RX6, "isEdited", "()Z"⟩
abbrev cX6_width : ByteArray := prog_8_method_23_code
def yX6_width : MethodName := ⟨RX6, "width", "(I)I"⟩
abbrev cX6_reads : ByteArray := prog_8_method_24_code
def yX6_reads : MethodName := ⟨RX6, "reads", "()Z"⟩
abbrev cX6_declare : ByteArray := prog_8_method_25_code
def yX6_declare : MethodName := ⟨RX6, "declare", "(I)I"⟩
abbrev cX6_clear : ByteArray := prog_8_method_26_code
def yX6_clear : MethodName := ⟨RX6, "clear", "()V"⟩
abbrev cX6_fields : ByteArray := prog_8_method_27_code
def yX6_fields : MethodName := ⟨RX6, "fields", "()I"⟩
abbrev cX6_look : ByteArray := prog_8_method_28_code
def yX6_look : MethodName := ⟨RX6, "look", "(II)I"⟩
abbrev cX6_isByte : ByteArray := prog_8_method_29_code
def yX6_isByte : MethodName := ⟨RX6, "isByte", "(II)Z"⟩
abbrev cX6_get : ByteArray := prog_8_method_30_code
def yX6_get : MethodName := ⟨RX6, "get", "(II)I"⟩
abbrev cX6_set : ByteArray := prog_8_method_31_code
def yX6_set : MethodName := ⟨RX6, "set", "(III)V"⟩
abbrev cX6_nothing : ByteArray := prog_8_method_32_code
def yX6_nothing : MethodName := ⟨RX6, "nothing", "()V"⟩
abbrev cX6_digitAt : ByteArray := prog_8_method_33_code
def yX6_digitAt : MethodName := ⟨RX6, "digitAt", "(I)I"⟩
abbrev cX6_digitFor : ByteArray := prog_8_method_34_code
def yX6_digitFor : MethodName := ⟨RX6, "digitFor", "(II)I"⟩
abbrev cX6_isBelow : ByteArray := prog_8_method_35_code
def yX6_isBelow : MethodName := ⟨RX6, "isBelow", "(I)Z"⟩
abbrev cX6_storeNumber : ByteArray := prog_8_method_36_code
def yX6_storeNumber : MethodName := ⟨RX6, "storeNumber", "(I)V"⟩
abbrev cX6_storeText : ByteArray := prog_8_method_37_code
def yX6_storeText : MethodName := ⟨RX6, "storeText", "(I)V"⟩
abbrev cX6_signFor : ByteArray := prog_8_method_38_code
def yX6_signFor : MethodName := ⟨RX6, "signFor", "(IZ)I"⟩
abbrev cX6_zoneEnd : ByteArray := prog_8_method_39_code
def yX6_zoneEnd : MethodName := ⟨RX6, "zoneEnd", "(II)I"⟩
abbrev cX6_firstDigit : ByteArray := prog_8_method_40_code
def yX6_firstDigit : MethodName := ⟨RX6, "firstDigit", "(I)I"⟩
abbrev cX6_edit : ByteArray := prog_8_method_41_code
def yX6_edit : MethodName := ⟨RX6, "edit", "(I)V"⟩
abbrev cX6_plain : ByteArray := prog_8_method_42_code
def yX6_plain : MethodName := ⟨RX6, "plain", "(IIZ)I"⟩
abbrev cX6_takeNumber : ByteArray := prog_8_method_43_code
def yX6_takeNumber : MethodName := ⟨RX6, "takeNumber", "(I)V"⟩
abbrev cX6_takeDigits : ByteArray := prog_8_method_44_code
def yX6_takeDigits : MethodName := ⟨RX6, "takeDigits", "(I)V"⟩
abbrev cX6_takeEdited : ByteArray := prog_8_method_45_code
def yX6_takeEdited : MethodName := ⟨RX6, "takeEdited", "(I)V"⟩
abbrev cX6_put2 : ByteArray := prog_8_method_46_code
def yX6_put2 : MethodName := ⟨RX6, "put", "(IJI)V"⟩
abbrev cX6_takeCharacters : ByteArray := prog_8_method_47_code
def yX6_takeCharacters : MethodName := ⟨RX6, "takeCharacters", "(I)V"⟩
abbrev cX6_move : ByteArray := prog_8_method_48_code
def yX6_move : MethodName := ⟨RX6, "move", "(II)V"⟩
abbrev cX6_value : ByteArray := prog_8_method_49_code
def yX6_value : MethodName := ⟨RX6, "value", "(I)J"⟩
abbrev cL_declare : ByteArray := method_3_code
def yL_declare : MethodName := ⟨RL, "declare", "(LPictureFields;I[J)I"⟩
abbrev cL_look : ByteArray := method_4_code
def yL_look : MethodName := ⟨RL, "look", "(LPictureFields;II[J)I"⟩
abbrev cL_get : ByteArray := method_5_code
def yL_get : MethodName := ⟨RL, "get", "(LPictureFields;II[J)I"⟩
abbrev cL_set : ByteArray := method_6_code
def yL_set : MethodName := ⟨RL, "set", "(LPictureFields;III)I"⟩
abbrev cL_put : ByteArray := method_7_code
def yL_put : MethodName := ⟨RL, "put", "(LPictureFields;IJI)I"⟩
abbrev cL_move : ByteArray := method_8_code
def yL_move : MethodName := ⟨RL, "move", "(LPictureFields;II)I"⟩
abbrev cL_value : ByteArray := method_9_code
def yL_value : MethodName := ⟨RL, "value", "(LPictureFields;I[J)I"⟩
abbrev cL_law : ByteArray := code
def yL_law : MethodName := ⟨RL, "law", "([I)Z"⟩
abbrev wE (aE bE rE pE : Nat) (c1 c2 c3 : ClassId) (v : Nat → Int32) (b : Nat → Int32) (rw : Nat → Int32) (pw : Nat → Int32) : va_W := [(aE, .inr (0, [.ref bE, .int (v 1), .int (v 2), .int (v 3), .int (v 4), .ref rE, .ref pE, .int (v 7), .int (v 8), .int (v 9), .int (v 10), .int (v 11), .int (v 12), .int (v 13), .int (v 14), .int (v 15)])), (bE, .inl (c1, 25, .inl b)), (rE, .inl (c2, 24, .inl rw)), (pE, .inl (c3, 24, .inl pw))]
abbrev wE_t (c1 c2 c3 : ClassId) : List (ClassId × FieldType) := [(c1, .int), (c2, .int), (c3, .int)]
abbrev wES (aE bE rE pE aS rS : Nat) (c1 c2 c3 cs : ClassId) (v : Nat → Int32) (b : Nat → Int32) (rw : Nat → Int32) (pw : Nat → Int32) (sv : Nat → Int32) (sr : Nat → Int32) : va_W := [(aE, .inr (0, [.ref bE, .int (v 1), .int (v 2), .int (v 3), .int (v 4), .ref rE, .ref pE, .int (v 7), .int (v 8), .int (v 9), .int (v 10), .int (v 11), .int (v 12), .int (v 13), .int (v 14), .int (v 15)])), (bE, .inl (c1, 25, .inl b)), (rE, .inl (c2, 24, .inl rw)), (pE, .inl (c3, 24, .inl pw)), (aS, .inr (2, [.ref rS, .int (sv 1)])), (rS, .inl (cs, 24, .inl sr))]
abbrev wES_t (c1 c2 c3 cs : ClassId) : List (ClassId × FieldType) := [(c1, .int), (c2, .int), (c3, .int), (cs, .int)]
abbrev wS (aS rS : Nat) (cs : ClassId) (sv : Nat → Int32) (sr : Nat → Int32) : va_W := [(aS, .inr (2, [.ref rS, .int (sv 1)])), (rS, .inl (cs, 24, .inl sr))]
abbrev wS_t (cs : ClassId) : List (ClassId × FieldType) := [(cs, .int)]
abbrev wY (aY : Nat) (cy : ClassId) (y : Nat → Int32) : va_W := [(aY, .inl (cy, 24, .inl y))]
abbrev wY_t (cy : ClassId) : List (ClassId × FieldType) := [(cy, .int)]
abbrev wSY (aS rS aY : Nat) (cs cy : ClassId) (sv : Nat → Int32) (sr : Nat → Int32) (y : Nat → Int32) : va_W := [(aS, .inr (2, [.ref rS, .int (sv 1)])), (rS, .inl (cs, 24, .inl sr)), (aY, .inl (cy, 24, .inl y))]
abbrev wSY_t (cs cy : ClassId) : List (ClassId × FieldType) := [(cs, .int), (cy, .int)]
abbrev wN (aN bN : Nat) (c1 : ClassId) (v : Nat → Int32) (b : Nat → Int32) : va_W := [(aN, .inr (1, [.ref bN, .int (v 1), .int (v 2), .int (v 3), .int (v 4), .int (v 5), .int (v 6), .int (v 7)])), (bN, .inl (c1, 25, .inl b))]
abbrev wN_t (c1 : ClassId) : List (ClassId × FieldType) := [(c1, .int)]
abbrev wNS (aN bN aS rS : Nat) (c1 cs : ClassId) (v : Nat → Int32) (b : Nat → Int32) (sv : Nat → Int32) (sr : Nat → Int32) : va_W := [(aN, .inr (1, [.ref bN, .int (v 1), .int (v 2), .int (v 3), .int (v 4), .int (v 5), .int (v 6), .int (v 7)])), (bN, .inl (c1, 25, .inl b)), (aS, .inr (2, [.ref rS, .int (sv 1)])), (rS, .inl (cs, 24, .inl sr))]
abbrev wNS_t (c1 cs : ClassId) : List (ClassId × FieldType) := [(c1, .int), (cs, .int)]
abbrev wT (aT bT : Nat) (c1 : ClassId) (v : Nat → Int32) (b : Nat → Int32) : va_W := [(aT, .inr (3, [.ref bT, .int (v 1), .int (v 2), .int (v 3), .int (v 4)])), (bT, .inl (c1, 25, .inl b))]
abbrev wT_t (c1 : ClassId) : List (ClassId × FieldType) := [(c1, .int)]
abbrev wTS (aT bT aS rS : Nat) (c1 cs : ClassId) (v : Nat → Int32) (b : Nat → Int32) (sv : Nat → Int32) (sr : Nat → Int32) : va_W := [(aT, .inr (3, [.ref bT, .int (v 1), .int (v 2), .int (v 3), .int (v 4)])), (bT, .inl (c1, 25, .inl b)), (aS, .inr (2, [.ref rS, .int (sv 1)])), (rS, .inl (cs, 24, .inl sr))]
abbrev wTS_t (c1 cs : ClassId) : List (ClassId × FieldType) := [(c1, .int), (cs, .int)]
abbrev wM (ad : Nat → Nat) (ca : Nat → ClassId) (v : Nat → Int32) (u : Nat → Nat → Int32) : va_W := [((ad 0), .inr (5, [.int (v 0), .int (v 1), .ref (ad 1), .int (v 3), .ref (ad 2), .ref (ad 3), .ref (ad 4), .ref (ad 5), .ref (ad 6), .ref (ad 7), .ref (ad 8), .ref (ad 9), .ref (ad 10), .ref (ad 11), .ref (ad 12), .ref (ad 13), .ref (ad 14), .ref (ad 15), .ref (ad 16), .ref (ad 17), .int (v 20), .int (v 21), .ref (ad 18), .int (v 23)])), ((ad 1), .inl ((ca 1), 24, .inl (u 1))), ((ad 2), .inl ((ca 2), 9, .inl (u 2))), ((ad 3), .inl ((ca 3), 216, .inl (u 3))), ((ad 4), .inl ((ca 4), 216, .inl (u 4))), ((ad 5), .inl ((ca 5), 9, .inl (u 5))), ((ad 6), .inl ((ca 6), 9, .inl (u 6))), ((ad 7), .inl ((ca 7), 9, .inl (u 7))), ((ad 8), .inl ((ca 8), 9, .inl (u 8))), ((ad 9), .inl ((ca 9), 9, .inl (u 9))), ((ad 10), .inl ((ca 10), 9, .inl (u 10))), ((ad 11), .inl ((ca 11), 9, .inl (u 11))), ((ad 12), .inl ((ca 12), 9, .inl (u 12))), ((ad 13), .inl ((ca 13), 9, .inl (u 13))), ((ad 14), .inl ((ca 14), 9, .inl (u 14))), ((ad 15), .inl ((ca 15), 9, .inl (u 15))), ((ad 16), .inl ((ca 16), 256, .inl (u 16))), ((ad 17), .inl ((ca 17), 48, .inl (u 17))), ((ad 18), .inl ((ca 18), 32, .inl (u 18)))]
abbrev wM_t (ca : Nat → ClassId) : List (ClassId × FieldType) := [((ca 1), .int), ((ca 2), .int), ((ca 3), .int), ((ca 4), .int), ((ca 5), .int), ((ca 6), .int), ((ca 7), .int), ((ca 8), .int), ((ca 9), .boolean), ((ca 10), .int), ((ca 11), .int), ((ca 12), .int), ((ca 13), .int), ((ca 14), .int), ((ca 15), .int), ((ca 16), .int), ((ca 17), .int), ((ca 18), .int)]
abbrev wNB (aN bN bX : Nat) (c1 cx : ClassId) (v : Nat → Int32) (b : Nat → Int32) (bx : Nat → Int32) : va_W := [(aN, .inr (1, [.ref bN, .int (v 1), .int (v 2), .int (v 3), .int (v 4), .int (v 5), .int (v 6), .int (v 7)])), (bN, .inl (c1, 25, .inl b)), (bX, .inl (cx, 25, .inl bx))]
abbrev wNB_t (c1 cx : ClassId) : List (ClassId × FieldType) := [(c1, .int), (cx, .int)]
abbrev wNN2 (aN bN aN2 bN2 : Nat) (c1 c12 : ClassId) (v : Nat → Int32) (b : Nat → Int32) (v2 : Nat → Int32) (b2 : Nat → Int32) : va_W := [(aN, .inr (1, [.ref bN, .int (v 1), .int (v 2), .int (v 3), .int (v 4), .int (v 5), .int (v 6), .int (v 7)])), (bN, .inl (c1, 25, .inl b)), (aN2, .inr (1, [.ref bN2, .int (v2 1), .int (v2 2), .int (v2 3), .int (v2 4), .int (v2 5), .int (v2 6), .int (v2 7)])), (bN2, .inl (c12, 25, .inl b2))]
abbrev wNN2_t (c1 c12 : ClassId) : List (ClassId × FieldType) := [(c1, .int), (c12, .int)]
abbrev wNT2 (aN bN aT2 bT2 : Nat) (c1 c12 : ClassId) (v : Nat → Int32) (b : Nat → Int32) (v2 : Nat → Int32) (b2 : Nat → Int32) : va_W := [(aN, .inr (1, [.ref bN, .int (v 1), .int (v 2), .int (v 3), .int (v 4), .int (v 5), .int (v 6), .int (v 7)])), (bN, .inl (c1, 25, .inl b)), (aT2, .inr (3, [.ref bT2, .int (v2 1), .int (v2 2), .int (v2 3), .int (v2 4)])), (bT2, .inl (c12, 25, .inl b2))]
abbrev wNT2_t (c1 c12 : ClassId) : List (ClassId × FieldType) := [(c1, .int), (c12, .int)]
abbrev wNE2 (aN bN aE2 bE2 rE2 pE2 : Nat) (c1 c12 c22 c32 : ClassId) (v : Nat → Int32) (b : Nat → Int32) (v2 : Nat → Int32) (b2 : Nat → Int32) (rw2 : Nat → Int32) (pw2 : Nat → Int32) : va_W := [(aN, .inr (1, [.ref bN, .int (v 1), .int (v 2), .int (v 3), .int (v 4), .int (v 5), .int (v 6), .int (v 7)])), (bN, .inl (c1, 25, .inl b)), (aE2, .inr (0, [.ref bE2, .int (v2 1), .int (v2 2), .int (v2 3), .int (v2 4), .ref rE2, .ref pE2, .int (v2 7), .int (v2 8), .int (v2 9), .int (v2 10), .int (v2 11), .int (v2 12), .int (v2 13), .int (v2 14), .int (v2 15)])), (bE2, .inl (c12, 25, .inl b2)), (rE2, .inl (c22, 24, .inl rw2)), (pE2, .inl (c32, 24, .inl pw2))]
abbrev wNE2_t (c1 c12 c22 c32 : ClassId) : List (ClassId × FieldType) := [(c1, .int), (c12, .int), (c22, .int), (c32, .int)]
abbrev wTB (aT bT bX : Nat) (c1 cx : ClassId) (v : Nat → Int32) (b : Nat → Int32) (bx : Nat → Int32) : va_W := [(aT, .inr (3, [.ref bT, .int (v 1), .int (v 2), .int (v 3), .int (v 4)])), (bT, .inl (c1, 25, .inl b)), (bX, .inl (cx, 25, .inl bx))]
abbrev wTB_t (c1 cx : ClassId) : List (ClassId × FieldType) := [(c1, .int), (cx, .int)]
abbrev wTN2 (aT bT aN2 bN2 : Nat) (c1 c12 : ClassId) (v : Nat → Int32) (b : Nat → Int32) (v2 : Nat → Int32) (b2 : Nat → Int32) : va_W := [(aT, .inr (3, [.ref bT, .int (v 1), .int (v 2), .int (v 3), .int (v 4)])), (bT, .inl (c1, 25, .inl b)), (aN2, .inr (1, [.ref bN2, .int (v2 1), .int (v2 2), .int (v2 3), .int (v2 4), .int (v2 5), .int (v2 6), .int (v2 7)])), (bN2, .inl (c12, 25, .inl b2))]
abbrev wTN2_t (c1 c12 : ClassId) : List (ClassId × FieldType) := [(c1, .int), (c12, .int)]
abbrev wTT2 (aT bT aT2 bT2 : Nat) (c1 c12 : ClassId) (v : Nat → Int32) (b : Nat → Int32) (v2 : Nat → Int32) (b2 : Nat → Int32) : va_W := [(aT, .inr (3, [.ref bT, .int (v 1), .int (v 2), .int (v 3), .int (v 4)])), (bT, .inl (c1, 25, .inl b)), (aT2, .inr (3, [.ref bT2, .int (v2 1), .int (v2 2), .int (v2 3), .int (v2 4)])), (bT2, .inl (c12, 25, .inl b2))]
abbrev wTT2_t (c1 c12 : ClassId) : List (ClassId × FieldType) := [(c1, .int), (c12, .int)]
abbrev wTE2 (aT bT aE2 bE2 rE2 pE2 : Nat) (c1 c12 c22 c32 : ClassId) (v : Nat → Int32) (b : Nat → Int32) (v2 : Nat → Int32) (b2 : Nat → Int32) (rw2 : Nat → Int32) (pw2 : Nat → Int32) : va_W := [(aT, .inr (3, [.ref bT, .int (v 1), .int (v 2), .int (v 3), .int (v 4)])), (bT, .inl (c1, 25, .inl b)), (aE2, .inr (0, [.ref bE2, .int (v2 1), .int (v2 2), .int (v2 3), .int (v2 4), .ref rE2, .ref pE2, .int (v2 7), .int (v2 8), .int (v2 9), .int (v2 10), .int (v2 11), .int (v2 12), .int (v2 13), .int (v2 14), .int (v2 15)])), (bE2, .inl (c12, 25, .inl b2)), (rE2, .inl (c22, 24, .inl rw2)), (pE2, .inl (c32, 24, .inl pw2))]
abbrev wTE2_t (c1 c12 c22 c32 : ClassId) : List (ClassId × FieldType) := [(c1, .int), (c12, .int), (c22, .int), (c32, .int)]
abbrev wEB (aE bE rE pE bX : Nat) (c1 c2 c3 cx : ClassId) (v : Nat → Int32) (b : Nat → Int32) (rw : Nat → Int32) (pw : Nat → Int32) (bx : Nat → Int32) : va_W := [(aE, .inr (0, [.ref bE, .int (v 1), .int (v 2), .int (v 3), .int (v 4), .ref rE, .ref pE, .int (v 7), .int (v 8), .int (v 9), .int (v 10), .int (v 11), .int (v 12), .int (v 13), .int (v 14), .int (v 15)])), (bE, .inl (c1, 25, .inl b)), (rE, .inl (c2, 24, .inl rw)), (pE, .inl (c3, 24, .inl pw)), (bX, .inl (cx, 25, .inl bx))]
abbrev wEB_t (c1 c2 c3 cx : ClassId) : List (ClassId × FieldType) := [(c1, .int), (c2, .int), (c3, .int), (cx, .int)]
abbrev wEN2 (aE bE rE pE aN2 bN2 : Nat) (c1 c2 c3 c12 : ClassId) (v : Nat → Int32) (b : Nat → Int32) (rw : Nat → Int32) (pw : Nat → Int32) (v2 : Nat → Int32) (b2 : Nat → Int32) : va_W := [(aE, .inr (0, [.ref bE, .int (v 1), .int (v 2), .int (v 3), .int (v 4), .ref rE, .ref pE, .int (v 7), .int (v 8), .int (v 9), .int (v 10), .int (v 11), .int (v 12), .int (v 13), .int (v 14), .int (v 15)])), (bE, .inl (c1, 25, .inl b)), (rE, .inl (c2, 24, .inl rw)), (pE, .inl (c3, 24, .inl pw)), (aN2, .inr (1, [.ref bN2, .int (v2 1), .int (v2 2), .int (v2 3), .int (v2 4), .int (v2 5), .int (v2 6), .int (v2 7)])), (bN2, .inl (c12, 25, .inl b2))]
abbrev wEN2_t (c1 c2 c3 c12 : ClassId) : List (ClassId × FieldType) := [(c1, .int), (c2, .int), (c3, .int), (c12, .int)]
abbrev wET2 (aE bE rE pE aT2 bT2 : Nat) (c1 c2 c3 c12 : ClassId) (v : Nat → Int32) (b : Nat → Int32) (rw : Nat → Int32) (pw : Nat → Int32) (v2 : Nat → Int32) (b2 : Nat → Int32) : va_W := [(aE, .inr (0, [.ref bE, .int (v 1), .int (v 2), .int (v 3), .int (v 4), .ref rE, .ref pE, .int (v 7), .int (v 8), .int (v 9), .int (v 10), .int (v 11), .int (v 12), .int (v 13), .int (v 14), .int (v 15)])), (bE, .inl (c1, 25, .inl b)), (rE, .inl (c2, 24, .inl rw)), (pE, .inl (c3, 24, .inl pw)), (aT2, .inr (3, [.ref bT2, .int (v2 1), .int (v2 2), .int (v2 3), .int (v2 4)])), (bT2, .inl (c12, 25, .inl b2))]
abbrev wET2_t (c1 c2 c3 c12 : ClassId) : List (ClassId × FieldType) := [(c1, .int), (c2, .int), (c3, .int), (c12, .int)]
abbrev wEE2 (aE bE rE pE aE2 bE2 rE2 pE2 : Nat) (c1 c2 c3 c12 c22 c32 : ClassId) (v : Nat → Int32) (b : Nat → Int32) (rw : Nat → Int32) (pw : Nat → Int32) (v2 : Nat → Int32) (b2 : Nat → Int32) (rw2 : Nat → Int32) (pw2 : Nat → Int32) : va_W := [(aE, .inr (0, [.ref bE, .int (v 1), .int (v 2), .int (v 3), .int (v 4), .ref rE, .ref pE, .int (v 7), .int (v 8), .int (v 9), .int (v 10), .int (v 11), .int (v 12), .int (v 13), .int (v 14), .int (v 15)])), (bE, .inl (c1, 25, .inl b)), (rE, .inl (c2, 24, .inl rw)), (pE, .inl (c3, 24, .inl pw)), (aE2, .inr (0, [.ref bE2, .int (v2 1), .int (v2 2), .int (v2 3), .int (v2 4), .ref rE2, .ref pE2, .int (v2 7), .int (v2 8), .int (v2 9), .int (v2 10), .int (v2 11), .int (v2 12), .int (v2 13), .int (v2 14), .int (v2 15)])), (bE2, .inl (c12, 25, .inl b2)), (rE2, .inl (c22, 24, .inl rw2)), (pE2, .inl (c32, 24, .inl pw2))]
abbrev wEE2_t (c1 c2 c3 c12 c22 c32 : ClassId) : List (ClassId × FieldType) := [(c1, .int), (c2, .int), (c3, .int), (c12, .int), (c22, .int), (c32, .int)]
abbrev wQ (aQ aY aS aNs aTs aEs aDc : Nat) (pv : Nat → Int32) : va_W := [(aQ, .inr (4, [.ref aY, .int (pv 1), .ref aS, .ref aNs, .ref aTs, .ref aEs, .ref aDc, .int (pv 7)]))]
abbrev wQ_t  : List (ClassId × FieldType) := []
abbrev wQY (aQ aS aNs aTs aEs aDc aY : Nat) (cy : ClassId) (pv : Nat → Int32) (y : Nat → Int32) : va_W := [(aQ, .inr (4, [.ref aY, .int (pv 1), .ref aS, .ref aNs, .ref aTs, .ref aEs, .ref aDc, .int (pv 7)])), (aY, .inl (cy, 24, .inl y))]
abbrev wQY_t (cy : ClassId) : List (ClassId × FieldType) := [(cy, .int)]
abbrev wQD (aQ aY aS aNs aTs aEs aDc : Nat) (cd : ClassId) (pv : Nat → Int32) (dc : Nat → Option Nat) : va_W := [(aQ, .inr (4, [.ref aY, .int (pv 1), .ref aS, .ref aNs, .ref aTs, .ref aEs, .ref aDc, .int (pv 7)])), (aDc, .inl (cd, 8, .inr (.inr (.inr (.inr dc)))))]
abbrev wQD_t (cd : ClassId) : List (ClassId × FieldType) := [(cd, .object RX1)]
abbrev wQDf (aQ aY aS aNs aTs aEs aDc aF : Nat) (cd : ClassId) (pv : Nat → Int32) (dc : Nat → Option Nat) : va_W := [(aQ, .inr (4, [.ref aY, .int (pv 1), .ref aS, .ref aNs, .ref aTs, .ref aEs, .ref aDc, .int (pv 7)])), (aDc, .inl (cd, 8, .inr (.inr (.inr (.inr dc)))))]
abbrev wQDf_t (cd : ClassId) : List (ClassId × FieldType) := [(cd, .object RX1)]
abbrev wQDN (aQ aY aS aNs aTs aEs aDc aN bN : Nat) (cd c1 : ClassId) (pv : Nat → Int32) (dc : Nat → Option Nat) (v : Nat → Int32) (b : Nat → Int32) : va_W := [(aQ, .inr (4, [.ref aY, .int (pv 1), .ref aS, .ref aNs, .ref aTs, .ref aEs, .ref aDc, .int (pv 7)])), (aDc, .inl (cd, 8, .inr (.inr (.inr (.inr dc))))), (aN, .inr (1, [.ref bN, .int (v 1), .int (v 2), .int (v 3), .int (v 4), .int (v 5), .int (v 6), .int (v 7)])), (bN, .inl (c1, 25, .inl b))]
abbrev wQDN_t (cd c1 : ClassId) : List (ClassId × FieldType) := [(cd, .object RX1), (c1, .int)]
abbrev wQDNN2 (aQ aY aS aNs aTs aEs aDc aN bN aN2 bN2 : Nat) (cd c1 c12 : ClassId) (pv : Nat → Int32) (dc : Nat → Option Nat) (v : Nat → Int32) (b : Nat → Int32) (v2 : Nat → Int32) (b2 : Nat → Int32) : va_W := [(aQ, .inr (4, [.ref aY, .int (pv 1), .ref aS, .ref aNs, .ref aTs, .ref aEs, .ref aDc, .int (pv 7)])), (aDc, .inl (cd, 8, .inr (.inr (.inr (.inr dc))))), (aN, .inr (1, [.ref bN, .int (v 1), .int (v 2), .int (v 3), .int (v 4), .int (v 5), .int (v 6), .int (v 7)])), (bN, .inl (c1, 25, .inl b)), (aN2, .inr (1, [.ref bN2, .int (v2 1), .int (v2 2), .int (v2 3), .int (v2 4), .int (v2 5), .int (v2 6), .int (v2 7)])), (bN2, .inl (c12, 25, .inl b2))]
abbrev wQDNN2_t (cd c1 c12 : ClassId) : List (ClassId × FieldType) := [(cd, .object RX1), (c1, .int), (c12, .int)]
abbrev wQDNT2 (aQ aY aS aNs aTs aEs aDc aN bN aT2 bT2 : Nat) (cd c1 c12 : ClassId) (pv : Nat → Int32) (dc : Nat → Option Nat) (v : Nat → Int32) (b : Nat → Int32) (v2 : Nat → Int32) (b2 : Nat → Int32) : va_W := [(aQ, .inr (4, [.ref aY, .int (pv 1), .ref aS, .ref aNs, .ref aTs, .ref aEs, .ref aDc, .int (pv 7)])), (aDc, .inl (cd, 8, .inr (.inr (.inr (.inr dc))))), (aN, .inr (1, [.ref bN, .int (v 1), .int (v 2), .int (v 3), .int (v 4), .int (v 5), .int (v 6), .int (v 7)])), (bN, .inl (c1, 25, .inl b)), (aT2, .inr (3, [.ref bT2, .int (v2 1), .int (v2 2), .int (v2 3), .int (v2 4)])), (bT2, .inl (c12, 25, .inl b2))]
abbrev wQDNT2_t (cd c1 c12 : ClassId) : List (ClassId × FieldType) := [(cd, .object RX1), (c1, .int), (c12, .int)]
abbrev wQDNE2 (aQ aY aS aNs aTs aEs aDc aN bN aE2 bE2 rE2 pE2 : Nat) (cd c1 c12 c22 c32 : ClassId) (pv : Nat → Int32) (dc : Nat → Option Nat) (v : Nat → Int32) (b : Nat → Int32) (v2 : Nat → Int32) (b2 : Nat → Int32) (rw2 : Nat → Int32) (pw2 : Nat → Int32) : va_W := [(aQ, .inr (4, [.ref aY, .int (pv 1), .ref aS, .ref aNs, .ref aTs, .ref aEs, .ref aDc, .int (pv 7)])), (aDc, .inl (cd, 8, .inr (.inr (.inr (.inr dc))))), (aN, .inr (1, [.ref bN, .int (v 1), .int (v 2), .int (v 3), .int (v 4), .int (v 5), .int (v 6), .int (v 7)])), (bN, .inl (c1, 25, .inl b)), (aE2, .inr (0, [.ref bE2, .int (v2 1), .int (v2 2), .int (v2 3), .int (v2 4), .ref rE2, .ref pE2, .int (v2 7), .int (v2 8), .int (v2 9), .int (v2 10), .int (v2 11), .int (v2 12), .int (v2 13), .int (v2 14), .int (v2 15)])), (bE2, .inl (c12, 25, .inl b2)), (rE2, .inl (c22, 24, .inl rw2)), (pE2, .inl (c32, 24, .inl pw2))]
abbrev wQDNE2_t (cd c1 c12 c22 c32 : ClassId) : List (ClassId × FieldType) := [(cd, .object RX1), (c1, .int), (c12, .int), (c22, .int), (c32, .int)]
abbrev wQDT (aQ aY aS aNs aTs aEs aDc aT bT : Nat) (cd c1 : ClassId) (pv : Nat → Int32) (dc : Nat → Option Nat) (v : Nat → Int32) (b : Nat → Int32) : va_W := [(aQ, .inr (4, [.ref aY, .int (pv 1), .ref aS, .ref aNs, .ref aTs, .ref aEs, .ref aDc, .int (pv 7)])), (aDc, .inl (cd, 8, .inr (.inr (.inr (.inr dc))))), (aT, .inr (3, [.ref bT, .int (v 1), .int (v 2), .int (v 3), .int (v 4)])), (bT, .inl (c1, 25, .inl b))]
abbrev wQDT_t (cd c1 : ClassId) : List (ClassId × FieldType) := [(cd, .object RX1), (c1, .int)]
abbrev wQDTN2 (aQ aY aS aNs aTs aEs aDc aT bT aN2 bN2 : Nat) (cd c1 c12 : ClassId) (pv : Nat → Int32) (dc : Nat → Option Nat) (v : Nat → Int32) (b : Nat → Int32) (v2 : Nat → Int32) (b2 : Nat → Int32) : va_W := [(aQ, .inr (4, [.ref aY, .int (pv 1), .ref aS, .ref aNs, .ref aTs, .ref aEs, .ref aDc, .int (pv 7)])), (aDc, .inl (cd, 8, .inr (.inr (.inr (.inr dc))))), (aT, .inr (3, [.ref bT, .int (v 1), .int (v 2), .int (v 3), .int (v 4)])), (bT, .inl (c1, 25, .inl b)), (aN2, .inr (1, [.ref bN2, .int (v2 1), .int (v2 2), .int (v2 3), .int (v2 4), .int (v2 5), .int (v2 6), .int (v2 7)])), (bN2, .inl (c12, 25, .inl b2))]
abbrev wQDTN2_t (cd c1 c12 : ClassId) : List (ClassId × FieldType) := [(cd, .object RX1), (c1, .int), (c12, .int)]
abbrev wQDTT2 (aQ aY aS aNs aTs aEs aDc aT bT aT2 bT2 : Nat) (cd c1 c12 : ClassId) (pv : Nat → Int32) (dc : Nat → Option Nat) (v : Nat → Int32) (b : Nat → Int32) (v2 : Nat → Int32) (b2 : Nat → Int32) : va_W := [(aQ, .inr (4, [.ref aY, .int (pv 1), .ref aS, .ref aNs, .ref aTs, .ref aEs, .ref aDc, .int (pv 7)])), (aDc, .inl (cd, 8, .inr (.inr (.inr (.inr dc))))), (aT, .inr (3, [.ref bT, .int (v 1), .int (v 2), .int (v 3), .int (v 4)])), (bT, .inl (c1, 25, .inl b)), (aT2, .inr (3, [.ref bT2, .int (v2 1), .int (v2 2), .int (v2 3), .int (v2 4)])), (bT2, .inl (c12, 25, .inl b2))]
abbrev wQDTT2_t (cd c1 c12 : ClassId) : List (ClassId × FieldType) := [(cd, .object RX1), (c1, .int), (c12, .int)]
abbrev wQDTE2 (aQ aY aS aNs aTs aEs aDc aT bT aE2 bE2 rE2 pE2 : Nat) (cd c1 c12 c22 c32 : ClassId) (pv : Nat → Int32) (dc : Nat → Option Nat) (v : Nat → Int32) (b : Nat → Int32) (v2 : Nat → Int32) (b2 : Nat → Int32) (rw2 : Nat → Int32) (pw2 : Nat → Int32) : va_W := [(aQ, .inr (4, [.ref aY, .int (pv 1), .ref aS, .ref aNs, .ref aTs, .ref aEs, .ref aDc, .int (pv 7)])), (aDc, .inl (cd, 8, .inr (.inr (.inr (.inr dc))))), (aT, .inr (3, [.ref bT, .int (v 1), .int (v 2), .int (v 3), .int (v 4)])), (bT, .inl (c1, 25, .inl b)), (aE2, .inr (0, [.ref bE2, .int (v2 1), .int (v2 2), .int (v2 3), .int (v2 4), .ref rE2, .ref pE2, .int (v2 7), .int (v2 8), .int (v2 9), .int (v2 10), .int (v2 11), .int (v2 12), .int (v2 13), .int (v2 14), .int (v2 15)])), (bE2, .inl (c12, 25, .inl b2)), (rE2, .inl (c22, 24, .inl rw2)), (pE2, .inl (c32, 24, .inl pw2))]
abbrev wQDTE2_t (cd c1 c12 c22 c32 : ClassId) : List (ClassId × FieldType) := [(cd, .object RX1), (c1, .int), (c12, .int), (c22, .int), (c32, .int)]
abbrev wQDE (aQ aY aS aNs aTs aEs aDc aE bE rE pE : Nat) (cd c1 c2 c3 : ClassId) (pv : Nat → Int32) (dc : Nat → Option Nat) (v : Nat → Int32) (b : Nat → Int32) (rw : Nat → Int32) (pw : Nat → Int32) : va_W := [(aQ, .inr (4, [.ref aY, .int (pv 1), .ref aS, .ref aNs, .ref aTs, .ref aEs, .ref aDc, .int (pv 7)])), (aDc, .inl (cd, 8, .inr (.inr (.inr (.inr dc))))), (aE, .inr (0, [.ref bE, .int (v 1), .int (v 2), .int (v 3), .int (v 4), .ref rE, .ref pE, .int (v 7), .int (v 8), .int (v 9), .int (v 10), .int (v 11), .int (v 12), .int (v 13), .int (v 14), .int (v 15)])), (bE, .inl (c1, 25, .inl b)), (rE, .inl (c2, 24, .inl rw)), (pE, .inl (c3, 24, .inl pw))]
abbrev wQDE_t (cd c1 c2 c3 : ClassId) : List (ClassId × FieldType) := [(cd, .object RX1), (c1, .int), (c2, .int), (c3, .int)]
abbrev wQDEN2 (aQ aY aS aNs aTs aEs aDc aE bE rE pE aN2 bN2 : Nat) (cd c1 c2 c3 c12 : ClassId) (pv : Nat → Int32) (dc : Nat → Option Nat) (v : Nat → Int32) (b : Nat → Int32) (rw : Nat → Int32) (pw : Nat → Int32) (v2 : Nat → Int32) (b2 : Nat → Int32) : va_W := [(aQ, .inr (4, [.ref aY, .int (pv 1), .ref aS, .ref aNs, .ref aTs, .ref aEs, .ref aDc, .int (pv 7)])), (aDc, .inl (cd, 8, .inr (.inr (.inr (.inr dc))))), (aE, .inr (0, [.ref bE, .int (v 1), .int (v 2), .int (v 3), .int (v 4), .ref rE, .ref pE, .int (v 7), .int (v 8), .int (v 9), .int (v 10), .int (v 11), .int (v 12), .int (v 13), .int (v 14), .int (v 15)])), (bE, .inl (c1, 25, .inl b)), (rE, .inl (c2, 24, .inl rw)), (pE, .inl (c3, 24, .inl pw)), (aN2, .inr (1, [.ref bN2, .int (v2 1), .int (v2 2), .int (v2 3), .int (v2 4), .int (v2 5), .int (v2 6), .int (v2 7)])), (bN2, .inl (c12, 25, .inl b2))]
abbrev wQDEN2_t (cd c1 c2 c3 c12 : ClassId) : List (ClassId × FieldType) := [(cd, .object RX1), (c1, .int), (c2, .int), (c3, .int), (c12, .int)]
abbrev wQDET2 (aQ aY aS aNs aTs aEs aDc aE bE rE pE aT2 bT2 : Nat) (cd c1 c2 c3 c12 : ClassId) (pv : Nat → Int32) (dc : Nat → Option Nat) (v : Nat → Int32) (b : Nat → Int32) (rw : Nat → Int32) (pw : Nat → Int32) (v2 : Nat → Int32) (b2 : Nat → Int32) : va_W := [(aQ, .inr (4, [.ref aY, .int (pv 1), .ref aS, .ref aNs, .ref aTs, .ref aEs, .ref aDc, .int (pv 7)])), (aDc, .inl (cd, 8, .inr (.inr (.inr (.inr dc))))), (aE, .inr (0, [.ref bE, .int (v 1), .int (v 2), .int (v 3), .int (v 4), .ref rE, .ref pE, .int (v 7), .int (v 8), .int (v 9), .int (v 10), .int (v 11), .int (v 12), .int (v 13), .int (v 14), .int (v 15)])), (bE, .inl (c1, 25, .inl b)), (rE, .inl (c2, 24, .inl rw)), (pE, .inl (c3, 24, .inl pw)), (aT2, .inr (3, [.ref bT2, .int (v2 1), .int (v2 2), .int (v2 3), .int (v2 4)])), (bT2, .inl (c12, 25, .inl b2))]
abbrev wQDET2_t (cd c1 c2 c3 c12 : ClassId) : List (ClassId × FieldType) := [(cd, .object RX1), (c1, .int), (c2, .int), (c3, .int), (c12, .int)]
abbrev wQDEE2 (aQ aY aS aNs aTs aEs aDc aE bE rE pE aE2 bE2 rE2 pE2 : Nat) (cd c1 c2 c3 c12 c22 c32 : ClassId) (pv : Nat → Int32) (dc : Nat → Option Nat) (v : Nat → Int32) (b : Nat → Int32) (rw : Nat → Int32) (pw : Nat → Int32) (v2 : Nat → Int32) (b2 : Nat → Int32) (rw2 : Nat → Int32) (pw2 : Nat → Int32) : va_W := [(aQ, .inr (4, [.ref aY, .int (pv 1), .ref aS, .ref aNs, .ref aTs, .ref aEs, .ref aDc, .int (pv 7)])), (aDc, .inl (cd, 8, .inr (.inr (.inr (.inr dc))))), (aE, .inr (0, [.ref bE, .int (v 1), .int (v 2), .int (v 3), .int (v 4), .ref rE, .ref pE, .int (v 7), .int (v 8), .int (v 9), .int (v 10), .int (v 11), .int (v 12), .int (v 13), .int (v 14), .int (v 15)])), (bE, .inl (c1, 25, .inl b)), (rE, .inl (c2, 24, .inl rw)), (pE, .inl (c3, 24, .inl pw)), (aE2, .inr (0, [.ref bE2, .int (v2 1), .int (v2 2), .int (v2 3), .int (v2 4), .ref rE2, .ref pE2, .int (v2 7), .int (v2 8), .int (v2 9), .int (v2 10), .int (v2 11), .int (v2 12), .int (v2 13), .int (v2 14), .int (v2 15)])), (bE2, .inl (c12, 25, .inl b2)), (rE2, .inl (c22, 24, .inl rw2)), (pE2, .inl (c32, 24, .inl pw2))]
abbrev wQDEE2_t (cd c1 c2 c3 c12 c22 c32 : ClassId) : List (ClassId × FieldType) := [(cd, .object RX1), (c1, .int), (c2, .int), (c3, .int), (c12, .int), (c22, .int), (c32, .int)]
abbrev wQF (aQ aY aDc aS rS aNs aTs aEs aNn bNn aTt bTt aE bE rE pE : Nat) (cs cn ct ce c1n c1t c1 c2 c3 : ClassId) (pv : Nat → Int32) (sv : Nat → Int32) (sr : Nat → Int32) (nf : Nat → Option Nat) (tf : Nat → Option Nat) (ef : Nat → Option Nat) (vn : Nat → Int32) (bn : Nat → Int32) (vt : Nat → Int32) (bt : Nat → Int32) (v : Nat → Int32) (b : Nat → Int32) (rw : Nat → Int32) (pw : Nat → Int32) : va_W := [(aQ, .inr (4, [.ref aY, .int (pv 1), .ref aS, .ref aNs, .ref aTs, .ref aEs, .ref aDc, .int (pv 7)])), (aS, .inr (2, [.ref rS, .int (sv 1)])), (rS, .inl (cs, 24, .inl sr)), (aNs, .inl (cn, 8, .inr (.inr (.inr (.inr nf))))), (aTs, .inl (ct, 8, .inr (.inr (.inr (.inr tf))))), (aEs, .inl (ce, 8, .inr (.inr (.inr (.inr ef))))), (aNn, .inr (1, [.ref bNn, .int (vn 1), .int (vn 2), .int (vn 3), .int (vn 4), .int (vn 5), .int (vn 6), .int (vn 7)])), (bNn, .inl (c1n, 25, .inl bn)), (aTt, .inr (3, [.ref bTt, .int (vt 1), .int (vt 2), .int (vt 3), .int (vt 4)])), (bTt, .inl (c1t, 25, .inl bt)), (aE, .inr (0, [.ref bE, .int (v 1), .int (v 2), .int (v 3), .int (v 4), .ref rE, .ref pE, .int (v 7), .int (v 8), .int (v 9), .int (v 10), .int (v 11), .int (v 12), .int (v 13), .int (v 14), .int (v 15)])), (bE, .inl (c1, 25, .inl b)), (rE, .inl (c2, 24, .inl rw)), (pE, .inl (c3, 24, .inl pw))]
abbrev wQF_t (cs cn ct ce c1n c1t c1 c2 c3 : ClassId) : List (ClassId × FieldType) := [(cs, .int), (cn, .object RX2), (ct, .object RX4), (ce, .object RX0), (c1n, .int), (c1t, .int), (c1, .int), (c2, .int), (c3, .int)]
abbrev wQA (aQ aY aS rS aNs aTs aEs aDc aNn bNn aTt bTt aE bE rE pE : Nat) (cy cs cn ct ce cd c1n c1t c1 c2 c3 : ClassId) (pv : Nat → Int32) (y : Nat → Int32) (sv : Nat → Int32) (sr : Nat → Int32) (nf : Nat → Option Nat) (tf : Nat → Option Nat) (ef : Nat → Option Nat) (dc : Nat → Option Nat) (vn : Nat → Int32) (bn : Nat → Int32) (vt : Nat → Int32) (bt : Nat → Int32) (v : Nat → Int32) (b : Nat → Int32) (rw : Nat → Int32) (pw : Nat → Int32) : va_W := [(aQ, .inr (4, [.ref aY, .int (pv 1), .ref aS, .ref aNs, .ref aTs, .ref aEs, .ref aDc, .int (pv 7)])), (aY, .inl (cy, 24, .inl y)), (aS, .inr (2, [.ref rS, .int (sv 1)])), (rS, .inl (cs, 24, .inl sr)), (aNs, .inl (cn, 8, .inr (.inr (.inr (.inr nf))))), (aTs, .inl (ct, 8, .inr (.inr (.inr (.inr tf))))), (aEs, .inl (ce, 8, .inr (.inr (.inr (.inr ef))))), (aDc, .inl (cd, 8, .inr (.inr (.inr (.inr dc))))), (aNn, .inr (1, [.ref bNn, .int (vn 1), .int (vn 2), .int (vn 3), .int (vn 4), .int (vn 5), .int (vn 6), .int (vn 7)])), (bNn, .inl (c1n, 25, .inl bn)), (aTt, .inr (3, [.ref bTt, .int (vt 1), .int (vt 2), .int (vt 3), .int (vt 4)])), (bTt, .inl (c1t, 25, .inl bt)), (aE, .inr (0, [.ref bE, .int (v 1), .int (v 2), .int (v 3), .int (v 4), .ref rE, .ref pE, .int (v 7), .int (v 8), .int (v 9), .int (v 10), .int (v 11), .int (v 12), .int (v 13), .int (v 14), .int (v 15)])), (bE, .inl (c1, 25, .inl b)), (rE, .inl (c2, 24, .inl rw)), (pE, .inl (c3, 24, .inl pw))]
abbrev wQA_t (cy cs cn ct ce cd c1n c1t c1 c2 c3 : ClassId) : List (ClassId × FieldType) := [(cy, .int), (cs, .int), (cn, .object RX2), (ct, .object RX4), (ce, .object RX0), (cd, .object RX1), (c1n, .int), (c1t, .int), (c1, .int), (c2, .int), (c3, .int)]
abbrev wQS (aQ aNs aTs aEs aDc aY aS rS : Nat) (cy cs : ClassId) (pv : Nat → Int32) (y : Nat → Int32) (sv : Nat → Int32) (sr : Nat → Int32) : va_W := [(aQ, .inr (4, [.ref aY, .int (pv 1), .ref aS, .ref aNs, .ref aTs, .ref aEs, .ref aDc, .int (pv 7)])), (aY, .inl (cy, 24, .inl y)), (aS, .inr (2, [.ref rS, .int (sv 1)])), (rS, .inl (cs, 24, .inl sr))]
abbrev wQS_t (cy cs : ClassId) : List (ClassId × FieldType) := [(cy, .int), (cs, .int)]
abbrev wQAO (aQ aY aS rS aNs aTs aEs aDc aNn bNn aTt bTt aE bE rE pE aO : Nat) (cy cs cn ct ce cd c1n c1t c1 c2 c3 co : ClassId) (pv : Nat → Int32) (y : Nat → Int32) (sv : Nat → Int32) (sr : Nat → Int32) (nf : Nat → Option Nat) (tf : Nat → Option Nat) (ef : Nat → Option Nat) (dc : Nat → Option Nat) (vn : Nat → Int32) (bn : Nat → Int32) (vt : Nat → Int32) (bt : Nat → Int32) (v : Nat → Int32) (b : Nat → Int32) (rw : Nat → Int32) (pw : Nat → Int32) (ov : Nat → Int64) : va_W := [(aQ, .inr (4, [.ref aY, .int (pv 1), .ref aS, .ref aNs, .ref aTs, .ref aEs, .ref aDc, .int (pv 7)])), (aY, .inl (cy, 24, .inl y)), (aS, .inr (2, [.ref rS, .int (sv 1)])), (rS, .inl (cs, 24, .inl sr)), (aNs, .inl (cn, 8, .inr (.inr (.inr (.inr nf))))), (aTs, .inl (ct, 8, .inr (.inr (.inr (.inr tf))))), (aEs, .inl (ce, 8, .inr (.inr (.inr (.inr ef))))), (aDc, .inl (cd, 8, .inr (.inr (.inr (.inr dc))))), (aNn, .inr (1, [.ref bNn, .int (vn 1), .int (vn 2), .int (vn 3), .int (vn 4), .int (vn 5), .int (vn 6), .int (vn 7)])), (bNn, .inl (c1n, 25, .inl bn)), (aTt, .inr (3, [.ref bTt, .int (vt 1), .int (vt 2), .int (vt 3), .int (vt 4)])), (bTt, .inl (c1t, 25, .inl bt)), (aE, .inr (0, [.ref bE, .int (v 1), .int (v 2), .int (v 3), .int (v 4), .ref rE, .ref pE, .int (v 7), .int (v 8), .int (v 9), .int (v 10), .int (v 11), .int (v 12), .int (v 13), .int (v 14), .int (v 15)])), (bE, .inl (c1, 25, .inl b)), (rE, .inl (c2, 24, .inl rw)), (pE, .inl (c3, 24, .inl pw)), (aO, .inl (co, 1, .inr (.inl ov)))]
abbrev wQAO_t (cy cs cn ct ce cd c1n c1t c1 c2 c3 co : ClassId) : List (ClassId × FieldType) := [(cy, .int), (cs, .int), (cn, .object RX2), (ct, .object RX4), (ce, .object RX0), (cd, .object RX1), (c1n, .int), (c1t, .int), (c1, .int), (c2, .int), (c3, .int), (co, .long)]
abbrev wQo (aQ aY aS aNs aTs aEs aDc aO : Nat) (pv : Nat → Int32) : va_W := [(aQ, .inr (4, [.ref aY, .int (pv 1), .ref aS, .ref aNs, .ref aTs, .ref aEs, .ref aDc, .int (pv 7)]))]
abbrev wQo_t  : List (ClassId × FieldType) := []
abbrev wQSo (aQ aNs aTs aEs aDc aY aS rS aO : Nat) (cy cs : ClassId) (pv : Nat → Int32) (y : Nat → Int32) (sv : Nat → Int32) (sr : Nat → Int32) : va_W := [(aQ, .inr (4, [.ref aY, .int (pv 1), .ref aS, .ref aNs, .ref aTs, .ref aEs, .ref aDc, .int (pv 7)])), (aY, .inl (cy, 24, .inl y)), (aS, .inr (2, [.ref rS, .int (sv 1)])), (rS, .inl (cs, 24, .inl sr))]
abbrev wQSo_t (cy cs : ClassId) : List (ClassId × FieldType) := [(cy, .int), (cs, .int)]
abbrev wQAo (aQ aY aS rS aNs aTs aEs aDc aNn bNn aTt bTt aE bE rE pE aO : Nat) (cy cs cn ct ce cd c1n c1t c1 c2 c3 : ClassId) (pv : Nat → Int32) (y : Nat → Int32) (sv : Nat → Int32) (sr : Nat → Int32) (nf : Nat → Option Nat) (tf : Nat → Option Nat) (ef : Nat → Option Nat) (dc : Nat → Option Nat) (vn : Nat → Int32) (bn : Nat → Int32) (vt : Nat → Int32) (bt : Nat → Int32) (v : Nat → Int32) (b : Nat → Int32) (rw : Nat → Int32) (pw : Nat → Int32) : va_W := [(aQ, .inr (4, [.ref aY, .int (pv 1), .ref aS, .ref aNs, .ref aTs, .ref aEs, .ref aDc, .int (pv 7)])), (aY, .inl (cy, 24, .inl y)), (aS, .inr (2, [.ref rS, .int (sv 1)])), (rS, .inl (cs, 24, .inl sr)), (aNs, .inl (cn, 8, .inr (.inr (.inr (.inr nf))))), (aTs, .inl (ct, 8, .inr (.inr (.inr (.inr tf))))), (aEs, .inl (ce, 8, .inr (.inr (.inr (.inr ef))))), (aDc, .inl (cd, 8, .inr (.inr (.inr (.inr dc))))), (aNn, .inr (1, [.ref bNn, .int (vn 1), .int (vn 2), .int (vn 3), .int (vn 4), .int (vn 5), .int (vn 6), .int (vn 7)])), (bNn, .inl (c1n, 25, .inl bn)), (aTt, .inr (3, [.ref bTt, .int (vt 1), .int (vt 2), .int (vt 3), .int (vt 4)])), (bTt, .inl (c1t, 25, .inl bt)), (aE, .inr (0, [.ref bE, .int (v 1), .int (v 2), .int (v 3), .int (v 4), .ref rE, .ref pE, .int (v 7), .int (v 8), .int (v 9), .int (v 10), .int (v 11), .int (v 12), .int (v 13), .int (v 14), .int (v 15)])), (bE, .inl (c1, 25, .inl b)), (rE, .inl (c2, 24, .inl rw)), (pE, .inl (c3, 24, .inl pw))]
abbrev wQAo_t (cy cs cn ct ce cd c1n c1t c1 c2 c3 : ClassId) : List (ClassId × FieldType) := [(cy, .int), (cs, .int), (cn, .object RX2), (ct, .object RX4), (ce, .object RX0), (cd, .object RX1), (c1n, .int), (c1t, .int), (c1, .int), (c2, .int), (c3, .int)]
abbrev wQDNO (aQ aY aS aNs aTs aEs aDc aN bN aO : Nat) (cd c1 co : ClassId) (pv : Nat → Int32) (dc : Nat → Option Nat) (v : Nat → Int32) (b : Nat → Int32) (ov : Nat → Int64) : va_W := [(aQ, .inr (4, [.ref aY, .int (pv 1), .ref aS, .ref aNs, .ref aTs, .ref aEs, .ref aDc, .int (pv 7)])), (aDc, .inl (cd, 8, .inr (.inr (.inr (.inr dc))))), (aN, .inr (1, [.ref bN, .int (v 1), .int (v 2), .int (v 3), .int (v 4), .int (v 5), .int (v 6), .int (v 7)])), (bN, .inl (c1, 25, .inl b)), (aO, .inl (co, 1, .inr (.inl ov)))]
abbrev wQDNO_t (cd c1 co : ClassId) : List (ClassId × FieldType) := [(cd, .object RX1), (c1, .int), (co, .long)]
abbrev wQDNo (aQ aY aS aNs aTs aEs aDc aN bN aO : Nat) (cd c1 : ClassId) (pv : Nat → Int32) (dc : Nat → Option Nat) (v : Nat → Int32) (b : Nat → Int32) : va_W := [(aQ, .inr (4, [.ref aY, .int (pv 1), .ref aS, .ref aNs, .ref aTs, .ref aEs, .ref aDc, .int (pv 7)])), (aDc, .inl (cd, 8, .inr (.inr (.inr (.inr dc))))), (aN, .inr (1, [.ref bN, .int (v 1), .int (v 2), .int (v 3), .int (v 4), .int (v 5), .int (v 6), .int (v 7)])), (bN, .inl (c1, 25, .inl b))]
abbrev wQDNo_t (cd c1 : ClassId) : List (ClassId × FieldType) := [(cd, .object RX1), (c1, .int)]
abbrev wQDTO (aQ aY aS aNs aTs aEs aDc aT bT aO : Nat) (cd c1 co : ClassId) (pv : Nat → Int32) (dc : Nat → Option Nat) (v : Nat → Int32) (b : Nat → Int32) (ov : Nat → Int64) : va_W := [(aQ, .inr (4, [.ref aY, .int (pv 1), .ref aS, .ref aNs, .ref aTs, .ref aEs, .ref aDc, .int (pv 7)])), (aDc, .inl (cd, 8, .inr (.inr (.inr (.inr dc))))), (aT, .inr (3, [.ref bT, .int (v 1), .int (v 2), .int (v 3), .int (v 4)])), (bT, .inl (c1, 25, .inl b)), (aO, .inl (co, 1, .inr (.inl ov)))]
abbrev wQDTO_t (cd c1 co : ClassId) : List (ClassId × FieldType) := [(cd, .object RX1), (c1, .int), (co, .long)]
abbrev wQDTo (aQ aY aS aNs aTs aEs aDc aT bT aO : Nat) (cd c1 : ClassId) (pv : Nat → Int32) (dc : Nat → Option Nat) (v : Nat → Int32) (b : Nat → Int32) : va_W := [(aQ, .inr (4, [.ref aY, .int (pv 1), .ref aS, .ref aNs, .ref aTs, .ref aEs, .ref aDc, .int (pv 7)])), (aDc, .inl (cd, 8, .inr (.inr (.inr (.inr dc))))), (aT, .inr (3, [.ref bT, .int (v 1), .int (v 2), .int (v 3), .int (v 4)])), (bT, .inl (c1, 25, .inl b))]
abbrev wQDTo_t (cd c1 : ClassId) : List (ClassId × FieldType) := [(cd, .object RX1), (c1, .int)]
abbrev wQDEO (aQ aY aS aNs aTs aEs aDc aE bE rE pE aO : Nat) (cd c1 c2 c3 co : ClassId) (pv : Nat → Int32) (dc : Nat → Option Nat) (v : Nat → Int32) (b : Nat → Int32) (rw : Nat → Int32) (pw : Nat → Int32) (ov : Nat → Int64) : va_W := [(aQ, .inr (4, [.ref aY, .int (pv 1), .ref aS, .ref aNs, .ref aTs, .ref aEs, .ref aDc, .int (pv 7)])), (aDc, .inl (cd, 8, .inr (.inr (.inr (.inr dc))))), (aE, .inr (0, [.ref bE, .int (v 1), .int (v 2), .int (v 3), .int (v 4), .ref rE, .ref pE, .int (v 7), .int (v 8), .int (v 9), .int (v 10), .int (v 11), .int (v 12), .int (v 13), .int (v 14), .int (v 15)])), (bE, .inl (c1, 25, .inl b)), (rE, .inl (c2, 24, .inl rw)), (pE, .inl (c3, 24, .inl pw)), (aO, .inl (co, 1, .inr (.inl ov)))]
abbrev wQDEO_t (cd c1 c2 c3 co : ClassId) : List (ClassId × FieldType) := [(cd, .object RX1), (c1, .int), (c2, .int), (c3, .int), (co, .long)]
abbrev wQDEo (aQ aY aS aNs aTs aEs aDc aE bE rE pE aO : Nat) (cd c1 c2 c3 : ClassId) (pv : Nat → Int32) (dc : Nat → Option Nat) (v : Nat → Int32) (b : Nat → Int32) (rw : Nat → Int32) (pw : Nat → Int32) : va_W := [(aQ, .inr (4, [.ref aY, .int (pv 1), .ref aS, .ref aNs, .ref aTs, .ref aEs, .ref aDc, .int (pv 7)])), (aDc, .inl (cd, 8, .inr (.inr (.inr (.inr dc))))), (aE, .inr (0, [.ref bE, .int (v 1), .int (v 2), .int (v 3), .int (v 4), .ref rE, .ref pE, .int (v 7), .int (v 8), .int (v 9), .int (v 10), .int (v 11), .int (v 12), .int (v 13), .int (v 14), .int (v 15)])), (bE, .inl (c1, 25, .inl b)), (rE, .inl (c2, 24, .inl rw)), (pE, .inl (c3, 24, .inl pw))]
abbrev wQDEo_t (cd c1 c2 c3 : ClassId) : List (ClassId × FieldType) := [(cd, .object RX1), (c1, .int), (c2, .int), (c3, .int)]
abbrev wQDo (aQ aY aS aNs aTs aEs aDc aO : Nat) (cd : ClassId) (pv : Nat → Int32) (dc : Nat → Option Nat) : va_W := [(aQ, .inr (4, [.ref aY, .int (pv 1), .ref aS, .ref aNs, .ref aTs, .ref aEs, .ref aDc, .int (pv 7)])), (aDc, .inl (cd, 8, .inr (.inr (.inr (.inr dc)))))]
abbrev wQDo_t (cd : ClassId) : List (ClassId × FieldType) := [(cd, .object RX1)]
abbrev wQDfo (aQ aY aS aNs aTs aEs aDc aF aO : Nat) (cd : ClassId) (pv : Nat → Int32) (dc : Nat → Option Nat) : va_W := [(aQ, .inr (4, [.ref aY, .int (pv 1), .ref aS, .ref aNs, .ref aTs, .ref aEs, .ref aDc, .int (pv 7)])), (aDc, .inl (cd, 8, .inr (.inr (.inr (.inr dc)))))]
abbrev wQDfo_t (cd : ClassId) : List (ClassId × FieldType) := [(cd, .object RX1)]
def zBw : List Cond := [
  .fieldLink RX6 65 RX6 "thrown" "I",
  .fieldLink RX6 69 RX6 "fields" "I",
  .fieldLink RX6 72 RX6 "typed" "I",
  .fieldLink RX6 7 RX6 "text" "[I",
  .fieldLink RX6 16 RX6 "symbol" "[I",
  .fieldLink RX6 13 RX6 "many" "[I",
  .code yX6_at cX6_at 2 (some .int),
  .initialized RX6,
  .instanceMethod yX6_at,
  .methodLink RX6 75 yX6_at,
  .selects RX6 yX6_at yX6_at,
  .code yX6_isDigit cX6_isDigit 1 (some .boolean),
  .static yX6_isDigit,
  .methodLink RX6 79 yX6_isDigit,
  .code yX6_sym cX6_sym 3 (some .int),
  .instanceMethod yX6_sym,
  .methodLink RX6 93 yX6_sym,
  .selects RX6 yX6_sym yX6_sym,
  .fieldLink RX6 161 RX6 "scale" "I",
  .fieldLink RX6 164 RX6 "below" "Z",
  .fieldLink RX6 59 RX6 "num" "[I",
  .fieldLink RX6 19 RX6 "digit" "[I",
  .fieldLink RX6 31 RX6 "behind" "[I",
  .code yX6_digitAt cX6_digitAt 3 (some .int),
  .instanceMethod yX6_digitAt,
  .methodLink RX6 168 yX6_digitAt,
  .selects RX6 yX6_digitAt yX6_digitAt,
  .code yX6_put cX6_put 4 (some .boolean),
  .instanceMethod yX6_put,
  .methodLink RX6 83 yX6_put,
  .selects RX6 yX6_put yX6_put,
  .code yX6_parentheses cX6_parentheses 4 (some .int),
  .instanceMethod yX6_parentheses,
  .methodLink RX6 87 yX6_parentheses,
  .selects RX6 yX6_parentheses yX6_parentheses,
  .code yX6_isSymbol cX6_isSymbol 1 (some .boolean),
  .static yX6_isSymbol,
  .methodLink RX6 90 yX6_isSymbol,
  .code yX6_countOf cX6_countOf 6 (some .int),
  .instanceMethod yX6_countOf,
  .methodLink RX6 97 yX6_countOf,
  .selects RX6 yX6_countOf yX6_countOf,
  .code yX6_firstOf cX6_firstOf 6 (some .int),
  .instanceMethod yX6_firstOf,
  .methodLink RX6 101 yX6_firstOf,
  .selects RX6 yX6_firstOf yX6_firstOf,
  .fieldLink RX6 22 RX6 "kind" "[I",
  .fieldLink RX6 34 RX6 "signed" "[Z",
  .fieldLink RX6 38 RX6 "low" "[I",
  .fieldLink RX6 28 RX6 "before" "[I",
  .fieldLink RX6 53 RX6 "length" "[I",
  .fieldLink RX6 41 RX6 "fill" "[I",
  .fieldLink RX6 50 RX6 "point" "[I",
  .fieldLink RX6 44 RX6 "from" "[I",
  .fieldLink RX6 47 RX6 "to" "[I",
  .code yX6_isFill cX6_isFill 1 (some .boolean),
  .static yX6_isFill,
  .methodLink RX6 104 yX6_isFill,
  .code yX6_isInsertion cX6_isInsertion 1 (some .boolean),
  .static yX6_isInsertion,
  .methodLink RX6 107 yX6_isInsertion,
  .code yX6_body cX6_body 7 (some .boolean),
  .instanceMethod yX6_body,
  .methodLink RX6 113 yX6_body,
  .selects RX6 yX6_body yX6_body,
  .code yX6_isSign cX6_isSign 1 (some .boolean),
  .static yX6_isSign,
  .methodLink RX6 110 yX6_isSign,
  .code yX6_ordered cX6_ordered 7 (some .boolean),
  .instanceMethod yX6_ordered,
  .methodLink RX6 116 yX6_ordered,
  .selects RX6 yX6_ordered yX6_ordered,
  .code yX6_width cX6_width 1 (some .int),
  .static yX6_width,
  .methodLink RX6 119 yX6_width,
  .code yX6_expands cX6_expands 5 (some .boolean),
  .instanceMethod yX6_expands,
  .methodLink RX6 122 yX6_expands,
  .selects RX6 yX6_expands yX6_expands,
  .code yX6_isNumber cX6_isNumber 14 (some .boolean),
  .instanceMethod yX6_isNumber,
  .methodLink RX6 126 yX6_isNumber,
  .selects RX6 yX6_isNumber yX6_isNumber,
  .code yX6_isText cX6_isText 3 (some .boolean),
  .instanceMethod yX6_isText,
  .methodLink RX6 129 yX6_isText,
  .selects RX6 yX6_isText yX6_isText,
  .code yX6_isEdited cX6_isEdited 18 (some .boolean),
  .instanceMethod yX6_isEdited,
  .methodLink RX6 132 yX6_isEdited,
  .selects RX6 yX6_isEdited yX6_isEdited,
  .code yX6_digitFor cX6_digitFor 4 (some .int),
  .instanceMethod yX6_digitFor,
  .methodLink RX6 171 yX6_digitFor,
  .selects RX6 yX6_digitFor yX6_digitFor,
  .code yX6_signFor cX6_signFor 2 (some .int),
  .static yX6_signFor,
  .methodLink RX6 190 yX6_signFor,
  .code yX6_isBelow cX6_isBelow 4 (some .boolean),
  .instanceMethod yX6_isBelow,
  .methodLink RX6 177 yX6_isBelow,
  .selects RX6 yX6_isBelow yX6_isBelow,
  .code yX6_firstDigit cX6_firstDigit 3 (some .int),
  .instanceMethod yX6_firstDigit,
  .methodLink RX6 180 yX6_firstDigit,
  .selects RX6 yX6_firstDigit yX6_firstDigit,
  .code yX6_zoneEnd cX6_zoneEnd 4 (some .int),
  .instanceMethod yX6_zoneEnd,
  .methodLink RX6 183 yX6_zoneEnd,
  .selects RX6 yX6_zoneEnd yX6_zoneEnd,
  .code yX6_plain cX6_plain 5 (some .int),
  .instanceMethod yX6_plain,
  .methodLink RX6 186 yX6_plain,
  .selects RX6 yX6_plain yX6_plain,
  .fieldLink RX6 56 RX6 "bytes" "[I",
  .fieldLink RX6 25 RX6 "usage" "[I",
  .fieldLink RX6 62 RX6 "chars" "[I",
  .code yX6_edit cX6_edit 13 none,
  .instanceMethod yX6_edit,
  .methodLink RX6 174 yX6_edit,
  .selects RX6 yX6_edit yX6_edit,
  .fieldLink RX6 142 RX6 "count" "I",
  .code yX6_fails cX6_fails 4 (some .boolean),
  .instanceMethod yX6_fails,
  .methodLink RX6 135 yX6_fails,
  .selects RX6 yX6_fails yX6_fails,
  .code yX6_reads cX6_reads 1 (some .boolean),
  .instanceMethod yX6_reads,
  .methodLink RX6 139 yX6_reads,
  .selects RX6 yX6_reads yX6_reads,
  .code yX6_nothing cX6_nothing 2 none,
  .instanceMethod yX6_nothing,
  .methodLink RX6 145 yX6_nothing,
  .selects RX6 yX6_nothing yX6_nothing,
  .code yX6_storeNumber cX6_storeNumber 7 none,
  .instanceMethod yX6_storeNumber,
  .methodLink RX6 152 yX6_storeNumber,
  .selects RX6 yX6_storeNumber yX6_storeNumber,
  .code yX6_storeText cX6_storeText 3 none,
  .instanceMethod yX6_storeText,
  .methodLink RX6 148 yX6_storeText,
  .selects RX6 yX6_storeText yX6_storeText,
  .code yX6_isField cX6_isField 2 (some .boolean),
  .instanceMethod yX6_isField,
  .methodLink RX6 155 yX6_isField,
  .selects RX6 yX6_isField yX6_isField,
  .code yX6_isByte cX6_isByte 3 (some .boolean),
  .instanceMethod yX6_isByte,
  .methodLink RX6 158 yX6_isByte,
  .selects RX6 yX6_isByte yX6_isByte,
  .code yX6_takeDigits cX6_takeDigits 8 none,
  .instanceMethod yX6_takeDigits,
  .methodLink RX6 197 yX6_takeDigits,
  .selects RX6 yX6_takeDigits yX6_takeDigits,
  .code yX6_takeEdited cX6_takeEdited 6 none,
  .instanceMethod yX6_takeEdited,
  .methodLink RX6 194 yX6_takeEdited,
  .selects RX6 yX6_takeEdited yX6_takeEdited,
  .constantLong RX6 200 10,
  .code yX6_takeNumber cX6_takeNumber 4 none,
  .instanceMethod yX6_takeNumber,
  .methodLink RX6 202 yX6_takeNumber,
  .selects RX6 yX6_takeNumber yX6_takeNumber,
  .code yX6_takeCharacters cX6_takeCharacters 3 none,
  .instanceMethod yX6_takeCharacters,
  .methodLink RX6 205 yX6_takeCharacters,
  .selects RX6 yX6_takeCharacters yX6_takeCharacters,
  .fieldLink RX5 146 RX5 "POWERS" "[J",
  .constantLong RX5 150 10,
  .methodLink RX5 152 Lib.Math.abs.name,
  .static Lib.Math.abs.name,
  .initialized "java/lang/Math",
  .code Lib.Math.abs.name Lib.Math.abs.code 1 (some .int),
  .fieldLink RX3 15 RX3 "count" "I",
  .fieldLink RX3 9 RX3 "row" "[I",
  .code yX5_isDigit cX5_isDigit 1 (some .boolean),
  .initialized RX5,
  .static yX5_isDigit,
  .code yX3_append cX3_append 4 (some .boolean),
  .initialized RX3,
  .instanceMethod yX3_append,
  .methodLink RX3 23 yX3_append,
  .selects RX3 yX3_append yX3_append,
  .code yX3_closingPlace cX3_closingPlace 3 (some .int),
  .static yX3_closingPlace,
  .methodLink RX3 27 yX3_closingPlace,
  .code yX3_writtenNumber cX3_writtenNumber 5 (some .int),
  .static yX3_writtenNumber,
  .methodLink RX3 30 yX3_writtenNumber,
  .code yX3_expandOne cX3_expandOne 7 (some .int),
  .instanceMethod yX3_expandOne,
  .methodLink RX3 19 yX3_expandOne,
  .selects RX3 yX3_expandOne yX3_expandOne,
  .code yX3_runEnd cX3_runEnd 4 (some .int),
  .instanceMethod yX3_runEnd,
  .methodLink RX2 47 yX3_runEnd,
  .selects RX3 yX3_runEnd yX3_runEnd,
  .code yX3_symbolAt cX3_symbolAt 2 (some .int),
  .instanceMethod yX3_symbolAt,
  .methodLink RX2 9 yX3_symbolAt,
  .selects RX3 yX3_symbolAt yX3_symbolAt,
  .sameField RX2 RX1 "before" "I",
  .fieldLink RX2 31 RX2 "before" "I",
  .sameField RX2 RX1 "behind" "I",
  .fieldLink RX2 35 RX2 "behind" "I",
  .fieldLink RX2 41 RX2 "nines" "I",
  .fieldLink RX2 51 RX2 "lowestPower" "I",
  .sameField RX2 RX1 "signed" "Z",
  .fieldLink RX2 15 RX2 "signed" "Z",
  .code yX2_fitsUnscaled cX2_fitsUnscaled 6 (some .boolean),
  .initialized RX2,
  .instanceMethod yX2_fitsUnscaled,
  .methodLink RX2 21 yX2_fitsUnscaled,
  .selects RX2 yX2_fitsUnscaled yX2_fitsUnscaled,
  .code yX2_fitsScaledBefore cX2_fitsScaledBefore 9 (some .boolean),
  .instanceMethod yX2_fitsScaledBefore,
  .methodLink RX2 25 yX2_fitsScaledBefore,
  .selects RX2 yX2_fitsScaledBefore yX2_fitsScaledBefore,
  .code yX2_fitsScaledBehind cX2_fitsScaledBehind 9 (some .boolean),
  .instanceMethod yX2_fitsScaledBehind,
  .methodLink RX2 28 yX2_fitsScaledBehind,
  .selects RX2 yX2_fitsScaledBehind yX2_fitsScaledBehind,
  .fieldLink RX2 38 RX2 "packed" "Z",
  .sameField RX2 RX1 "size" "I",
  .fieldLink RX2 44 RX2 "size" "I",
  .sameField RX2 RX1 "bytes" "[I",
  .fieldLink RX2 59 RX2 "bytes" "[I",
  .code yX2_isBelowZero cX2_isBelowZero 2 (some .boolean),
  .instanceMethod yX2_isBelowZero,
  .methodLink RX2 73 yX2_isBelowZero,
  .selects RX2 yX2_isBelowZero yX2_isBelowZero,
  .constantLong RX2 57 10,
  .code yX2_byteOf cX2_byteOf 2 (some .int),
  .instanceMethod yX2_byteOf,
  .methodLink RX2 63 yX2_byteOf,
  .selects RX2 yX2_byteOf yX2_byteOf,
  .code yX2_shiftOf cX2_shiftOf 2 (some .int),
  .instanceMethod yX2_shiftOf,
  .methodLink RX2 66 yX2_shiftOf,
  .selects RX2 yX2_shiftOf yX2_shiftOf,
  .code yX2_signBits cX2_signBits 2 (some .int),
  .instanceMethod yX2_signBits,
  .methodLink RX2 81 yX2_signBits,
  .selects RX2 yX2_signBits yX2_signBits,
  .code yX5_digitAt cX5_digitAt 5 (some .int),
  .static yX5_digitAt,
  .sameField RX4 RX1 "size" "I",
  .fieldLink RX4 19 RX4 "size" "I",
  .methodLink RX4 24 Lib.Math.max.name,
  .static Lib.Math.max.name,
  .code Lib.Math.max.name Lib.Math.max.code 2 (some .int),
  .constantLong RX4 30 10,
  .sameField RX4 RX1 "bytes" "[I",
  .fieldLink RX4 32 RX4 "bytes" "[I",
  .fieldLink RX0 80 RX0 "bodyStart" "I",
  .fieldLink RX0 83 RX0 "bodyEnd" "I",
  .fieldLink RX0 9 RX0 "row" "[I",
  .fieldLink RX0 51 RX0 "trailing" "I",
  .code yX0_firstOfRest cX0_firstOfRest 1 (some .int),
  .initialized RX0,
  .instanceMethod yX0_firstOfRest,
  .methodLink RX0 89 yX0_firstOfRest,
  .selects RX0 yX0_firstOfRest yX0_firstOfRest,
  .code yX0_isSign cX0_isSign 1 (some .boolean),
  .static yX0_isSign,
  .methodLink RX0 57 yX0_isSign,
  .fieldLink RX0 48 RX0 "leading" "I",
  .code yX0_standsOnce cX0_standsOnce 4 (some .boolean),
  .instanceMethod yX0_standsOnce,
  .methodLink RX0 86 yX0_standsOnce,
  .selects RX0 yX0_standsOnce yX0_standsOnce,
  .fieldLink RX0 93 RX0 "fills" "I",
  .fieldLink RX0 54 RX0 "fill" "I",
  .fieldLink RX0 96 RX0 "firstFill" "I",
  .code yX0_countFill cX0_countFill 2 (some .boolean),
  .instanceMethod yX0_countFill,
  .methodLink RX0 108 yX0_countFill,
  .selects RX0 yX0_countFill yX0_countFill,
  .fieldLink RX0 102 RX0 "point" "I",
  .fieldLink RX0 99 RX0 "nines" "I",
  .code yX0_countSymbol cX0_countSymbol 3 (some .boolean),
  .instanceMethod yX0_countSymbol,
  .methodLink RX0 105 yX0_countSymbol,
  .selects RX0 yX0_countSymbol yX0_countSymbol,
  .code yX0_isFloating cX0_isFloating 1 (some .boolean),
  .instanceMethod yX0_isFloating,
  .methodLink RX0 111 yX0_isFloating,
  .selects RX0 yX0_isFloating yX0_isFloating,
  .sameField RX0 RX1 "before" "I",
  .fieldLink RX0 74 RX0 "before" "I",
  .sameField RX0 RX1 "behind" "I",
  .fieldLink RX0 77 RX0 "behind" "I",
  .code yX0_isDigitPlace cX0_isDigitPlace 2 (some .boolean),
  .instanceMethod yX0_isDigitPlace,
  .methodLink RX0 114 yX0_isDigitPlace,
  .selects RX0 yX0_isDigitPlace yX0_isDigitPlace,
  .fieldLink RX0 15 RX0 "powers" "[I",
  .code yX0_hasHiddenPoint cX0_hasHiddenPoint 1 (some .boolean),
  .instanceMethod yX0_hasHiddenPoint,
  .methodLink RX0 65 yX0_hasHiddenPoint,
  .selects RX0 yX0_hasHiddenPoint yX0_hasHiddenPoint,
  .sameField RX0 RX1 "size" "I",
  .fieldLink RX0 71 RX0 "size" "I",
  .code yX0_isLetterSign cX0_isLetterSign 1 (some .boolean),
  .instanceMethod yX0_isLetterSign,
  .methodLink RX0 68 yX0_isLetterSign,
  .selects RX0 yX0_isLetterSign yX0_isLetterSign,
  .sameField RX0 RX1 "bytes" "[I",
  .fieldLink RX0 117 RX0 "bytes" "[I",
  .code yX0_secondLetter cX0_secondLetter 1 (some .int),
  .instanceMethod yX0_secondLetter,
  .methodLink RX0 132 yX0_secondLetter,
  .selects RX0 yX0_secondLetter yX0_secondLetter,
  .code yX0_isBelowZero cX0_isBelowZero 2 (some .boolean),
  .instanceMethod yX0_isBelowZero,
  .methodLink RX0 129 yX0_isBelowZero,
  .selects RX0 yX0_isBelowZero yX0_isBelowZero,
  .code yX0_byteOf cX0_byteOf 2 (some .int),
  .instanceMethod yX0_byteOf,
  .methodLink RX0 120 yX0_byteOf,
  .selects RX0 yX0_byteOf yX0_byteOf,
  .constantLong RX0 124 10,
  .code yX0_suppressed cX0_suppressed 1 (some .int),
  .instanceMethod yX0_suppressed,
  .methodLink RX0 170 yX0_suppressed,
  .selects RX0 yX0_suppressed yX0_suppressed,
  .code yX0_fixedCharacter cX0_fixedCharacter 2 (some .int),
  .static yX0_fixedCharacter,
  .methodLink RX0 142 yX0_fixedCharacter,
  .methodLink RX0 25 arraycopyName,
  .native arraycopyName,
  .static arraycopyName,
  .initialized "java/lang/System",
  .code yX0_takeApart cX0_takeApart 6 none,
  .instanceMethod yX0_takeApart,
  .methodLink RX0 31 yX0_takeApart,
  .selects RX0 yX0_takeApart yX0_takeApart,
  .code yX0_countBody cX0_countBody 3 (some .boolean),
  .instanceMethod yX0_countBody,
  .methodLink RX0 35 yX0_countBody,
  .selects RX0 yX0_countBody yX0_countBody,
  .code yX0_signsAgree cX0_signsAgree 1 (some .boolean),
  .instanceMethod yX0_signsAgree,
  .methodLink RX0 39 yX0_signsAgree,
  .selects RX0 yX0_signsAgree yX0_signsAgree,
  .code yX0_fillsStandRight cX0_fillsStandRight 4 (some .boolean),
  .instanceMethod yX0_fillsStandRight,
  .methodLink RX0 42 yX0_fillsStandRight,
  .selects RX0 yX0_fillsStandRight yX0_fillsStandRight,
  .code yX0_placeDigits cX0_placeDigits 4 none,
  .instanceMethod yX0_placeDigits,
  .methodLink RX0 45 yX0_placeDigits,
  .selects RX0 yX0_placeDigits yX0_placeDigits,
  .sameField RX0 RX1 "signed" "Z",
  .fieldLink RX0 61 RX0 "signed" "Z",
  .code yX0_standsForMore cX0_standsForMore 5 (some .boolean),
  .instanceMethod yX0_standsForMore,
  .methodLink RX0 162 yX0_standsForMore,
  .selects RX0 yX0_standsForMore yX0_standsForMore,
  .code yX0_leavesDigit cX0_leavesDigit 5 (some .boolean),
  .instanceMethod yX0_leavesDigit,
  .methodLink RX0 135 yX0_leavesDigit,
  .selects RX0 yX0_leavesDigit yX0_leavesDigit,
  .code yX0_writeBody cX0_writeBody 5 none,
  .instanceMethod yX0_writeBody,
  .methodLink RX0 146 yX0_writeBody,
  .selects RX0 yX0_writeBody yX0_writeBody,
  .code yX0_zoneEnd cX0_zoneEnd 5 (some .int),
  .instanceMethod yX0_zoneEnd,
  .methodLink RX0 150 yX0_zoneEnd,
  .selects RX0 yX0_zoneEnd yX0_zoneEnd,
  .code yX0_suppressZone cX0_suppressZone 4 none,
  .instanceMethod yX0_suppressZone,
  .methodLink RX0 154 yX0_suppressZone,
  .selects RX0 yX0_suppressZone yX0_suppressZone,
  .code yX0_writeTrailing cX0_writeTrailing 2 none,
  .instanceMethod yX0_writeTrailing,
  .methodLink RX0 158 yX0_writeTrailing,
  .selects RX0 yX0_writeTrailing yX0_writeTrailing,
  .code yX0_suppressAll cX0_suppressAll 2 none,
  .instanceMethod yX0_suppressAll,
  .methodLink RX0 139 yX0_suppressAll,
  .selects RX0 yX0_suppressAll yX0_suppressAll,
  .fieldLink RX1 27 RX1 "size" "I",
  .code yX2_takeNumber cX2_takeNumber 7 (some .boolean),
  .instanceMethod yX2_takeNumber,
  .methodLink RX1 23 ⟨RX1, "takeNumber", "(JI)Z"⟩,
  .sameMethod RX1 RX1 "takeNumber" "(JI)Z",
  .selects RX2 ⟨RX1, "takeNumber", "(JI)Z"⟩ yX2_takeNumber,
  .code yX0_takeNumber cX0_takeNumber 7 (some .boolean),
  .instanceMethod yX0_takeNumber,
  .selects RX0 ⟨RX1, "takeNumber", "(JI)Z"⟩ yX0_takeNumber,
  .code yX2_number cX2_number 4 (some .long),
  .instanceMethod yX2_number,
  .methodLink RX2 85 yX2_number,
  .selects RX2 yX2_number yX2_number,
  .fieldLink RX1 9 RX1 "bytes" "[I",
  .methodLink RX1 15 ⟨RX1, "number", "()J"⟩,
  .sameMethod RX1 RX1 "number" "()J",
  .selects RX2 ⟨RX1, "number", "()J"⟩ yX2_number,
  .fieldLink RX1 19 RX1 "behind" "I",
  .code yX4_number cX4_number 4 (some .long),
  .initialized RX4,
  .instanceMethod yX4_number,
  .selects RX4 ⟨RX1, "number", "()J"⟩ yX4_number,
  .code yX0_number cX0_number 5 (some .long),
  .instanceMethod yX0_number,
  .selects RX0 ⟨RX1, "number", "()J"⟩ yX0_number,
  .code yX1_spell cX1_spell 4 (some .boolean),
  .initialized RX1,
  .instanceMethod yX1_spell,
  .methodLink RX4 39 ⟨RX1, "spell", "([II)Z"⟩,
  .sameMethod RX1 RX1 "spell" "([II)Z",
  .selects RX4 ⟨RX1, "spell", "([II)Z"⟩ yX1_spell,
  .code yX2_spell cX2_spell 6 (some .boolean),
  .instanceMethod yX2_spell,
  .selects RX2 ⟨RX1, "spell", "([II)Z"⟩ yX2_spell,
  .selects RX0 ⟨RX1, "spell", "([II)Z"⟩ yX1_spell,
  .fieldLink RX5 13 RX5 "typedCount" "I",
  .fieldLink RX5 9 RX5 "typed" "[I",
  .fieldLink RX5 48 RX5 "declaredCount" "I",
  .fieldLink RX5 44 RX5 "declared" "[LPictureFields$Field;",
  .code yX5_existing cX5_existing 3 (some (.object "PictureFields$Field")),
  .instanceMethod yX5_existing,
  .methodLink RX5 77 yX5_existing,
  .selects RX5 yX5_existing yX5_existing,
  .methodLink RX5 131 ⟨RX1, "number", "()J"⟩,
  .code yX2_kind cX2_kind 1 (some .int),
  .instanceMethod yX2_kind,
  .methodLink RX5 81 ⟨RX1, "kind", "()I"⟩,
  .sameMethod RX1 RX1 "kind" "()I",
  .selects RX2 ⟨RX1, "kind", "()I"⟩ yX2_kind,
  .fieldLink RX5 85 RX1 "size" "I",
  .fieldLink RX5 88 RX1 "before" "I",
  .fieldLink RX5 91 RX1 "behind" "I",
  .fieldLink RX5 94 RX1 "signed" "Z",
  .code yX1_hasByte cX1_hasByte 2 (some .boolean),
  .instanceMethod yX1_hasByte,
  .methodLink RX5 100 ⟨RX1, "hasByte", "(I)Z"⟩,
  .sameMethod RX1 RX1 "hasByte" "(I)Z",
  .selects RX2 ⟨RX1, "hasByte", "(I)Z"⟩ yX1_hasByte,
  .fieldLink RX5 109 RX1 "bytes" "[I",
  .methodLink RX5 116 ⟨RX1, "takeNumber", "(JI)Z"⟩,
  .code yX4_kind cX4_kind 1 (some .int),
  .instanceMethod yX4_kind,
  .selects RX4 ⟨RX1, "kind", "()I"⟩ yX4_kind,
  .selects RX4 ⟨RX1, "hasByte", "(I)Z"⟩ yX1_hasByte,
  .code yX0_kind cX0_kind 1 (some .int),
  .instanceMethod yX0_kind,
  .selects RX0 ⟨RX1, "kind", "()I"⟩ yX0_kind,
  .selects RX0 ⟨RX1, "hasByte", "(I)Z"⟩ yX1_hasByte,
  .code yX1_takeField cX1_takeField 2 (some .boolean),
  .instanceMethod yX1_takeField,
  .methodLink RX5 125 ⟨RX1, "takeField", "(LPictureFields$Field;)Z"⟩,
  .sameMethod RX1 RX1 "takeField" "(LPictureFields$Field;)Z",
  .selects RX2 ⟨RX1, "takeField", "(LPictureFields$Field;)Z"⟩ yX1_takeField,
  .code yX4_takeField cX4_takeField 2 (some .boolean),
  .instanceMethod yX4_takeField,
  .selects RX4 ⟨RX1, "takeField", "(LPictureFields$Field;)Z"⟩ yX4_takeField,
  .selects RX0 ⟨RX1, "takeField", "(LPictureFields$Field;)Z"⟩ yX1_takeField,
  .fieldLink RX5 26 RX5 "numbers" "[LPictureFields$NumberField;",
  .fieldLink RX5 20 RX5 "symbols" "LPictureFields$Symbols;",
  .code yX2_fits cX2_fits 4 (some .boolean),
  .instanceMethod yX2_fits,
  .methodLink RX5 137 yX2_fits,
  .selects RX2 yX2_fits yX2_fits,
  .fieldLink RX5 32 RX5 "texts" "[LPictureFields$TextField;",
  .code yX4_fits cX4_fits 5 (some .boolean),
  .instanceMethod yX4_fits,
  .methodLink RX5 144 yX4_fits,
  .selects RX4 yX4_fits yX4_fits,
  .fieldLink RX5 38 RX5 "editeds" "[LPictureFields$EditedField;",
  .code yX0_fits cX0_fits 2 (some .boolean),
  .instanceMethod yX0_fits,
  .methodLink RX5 145 yX0_fits,
  .selects RX0 yX0_fits yX0_fits,
  .code yX2_takesUsage cX2_takesUsage 2 (some .boolean),
  .instanceMethod yX2_takesUsage,
  .methodLink RX5 141 yX2_takesUsage,
  .selects RX2 yX2_takesUsage yX2_takesUsage,
  .code yX3_expand cX3_expand 5 (some .boolean),
  .instanceMethod yX3_expand,
  .methodLink RX5 61 yX3_expand,
  .selects RX3 yX3_expand yX3_expand,
  .code yX5_fittingField cX5_fittingField 3 (some (.object "PictureFields$Field")),
  .instanceMethod yX5_fittingField,
  .methodLink RX5 65 yX5_fittingField,
  .selects RX5 yX5_fittingField yX5_fittingField,
  .code yX1_empty cX1_empty 1 none,
  .instanceMethod yX1_empty,
  .methodLink RX5 74 ⟨RX1, "empty", "()V"⟩,
  .sameMethod RX1 RX1 "empty" "()V",
  .selects RX2 ⟨RX1, "empty", "()V"⟩ yX1_empty,
  .code yX4_empty cX4_empty 2 none,
  .instanceMethod yX4_empty,
  .selects RX4 ⟨RX1, "empty", "()V"⟩ yX4_empty,
  .selects RX0 ⟨RX1, "empty", "()V"⟩ yX1_empty,
  .classLink RX5 104 "java/util/NoSuchElementException",
  .initialized "java/util/NoSuchElementException",
  .classLink RX5 69 "java/lang/IllegalArgumentException",
  .initialized "java/lang/IllegalArgumentException",
  .code yX4_takeNumber cX4_takeNumber 4 (some .boolean),
  .instanceMethod yX4_takeNumber,
  .selects RX4 ⟨RX1, "takeNumber", "(JI)Z"⟩ yX4_takeNumber,
  .classLink RX5 120 "java/lang/UnsupportedOperationException",
  .initialized "java/lang/UnsupportedOperationException",
  .classLink RX5 54 "java/lang/IllegalStateException",
  .initialized "java/lang/IllegalStateException",
  .code yX5_declare cX5_declare 4 (some .int),
  .instanceMethod yX5_declare,
  .methodLink RL 7 yX5_declare,
  .selects RX5 yX5_declare yX5_declare,
  .classLink RL 13 "java/lang/IllegalStateException",
  .classLink RL 15 "java/lang/IllegalArgumentException",
  .code yX5_look cX5_look 4 (some .int),
  .instanceMethod yX5_look,
  .methodLink RL 17 yX5_look,
  .selects RX5 yX5_look yX5_look,
  .code yX5_get cX5_get 4 (some .int),
  .instanceMethod yX5_get,
  .methodLink RL 23 yX5_get,
  .selects RX5 yX5_get yX5_get,
  .code yX5_set cX5_set 5 none,
  .instanceMethod yX5_set,
  .methodLink RL 26 yX5_set,
  .selects RX5 yX5_set yX5_set,
  .code yX5_value cX5_value 2 (some .long),
  .instanceMethod yX5_value,
  .methodLink RL 40 yX5_value,
  .selects RX5 yX5_value yX5_value,
  .classLink RL 21 "java/util/NoSuchElementException",
  .code yX5_put cX5_put 6 none,
  .instanceMethod yX5_put,
  .methodLink RL 30 yX5_put,
  .selects RX5 yX5_put yX5_put,
  .code yX5_move cX5_move 5 none,
  .instanceMethod yX5_move,
  .methodLink RL 36 yX5_move,
  .selects RX5 yX5_move yX5_move,
  .classLink RL 34 "java/lang/UnsupportedOperationException",
  .methodLink RX1 3 objectInit,
  .instanceMethod objectInit,
  .code objectInit ⟨#[0xb1]⟩ 1 none,
  .arrayClass .int,
  .code yX1_init cX1_init 1 none,
  .instanceMethod yX1_init,
  .methodLink RX3 3 objectInit,
  .methodLink RX6 1 objectInit,
  .arrayClass .boolean,
  .methodLink RX5 1 objectInit,
  .classLink RX5 17 RX3,
  .instantiable RX3 2,
  .instanceMethod yX3_init,
  .code yX3_init cX3_init 1 none,
  .classLink RX5 24 RX2,
  .classLink RX5 30 RX4,
  .classLink RX5 36 RX0,
  .classLink RX5 42 RX1,
  .instantiable RX2 8,
  .instanceMethod yX2_init,
  .code yX2_init cX2_init 1 none,
  .instantiable RX4 5,
  .instanceMethod yX4_init,
  .code yX4_init cX4_init 1 none,
  .instantiable RX0 16,
  .instanceMethod yX0_init,
  .code yX0_init cX0_init 1 none,
  .classLink RL 8 RX5,
  .instantiable RX5 8,
  .methodLink RL 44 yX5_init,
  .instanceMethod yX5_init,
  .code yX5_init cX5_init 2 none,
  .classLink RL 45 RX6,
  .instantiable RX6 24,
  .methodLink RL 47 yX6_init,
  .instanceMethod yX6_init,
  .code yX6_init cX6_init 1 none,
  .arrayClass .long,
  .methodLink RL 48 yX5_type,
  .instanceMethod yX5_type,
  .code yX5_type cX5_type 2 (some .boolean),
  .selects RX5 yX5_type yX5_type,
  .methodLink RL 52 yX6_type,
  .instanceMethod yX6_type,
  .code yX6_type cX6_type 2 (some .boolean),
  .selects RX6 yX6_type yX6_type,
  .methodLink RL 53 yL_declare,
  .initialized RL,
  .static yL_declare,
  .codeWith yL_declare cL_declare 4 (some .int) [(0, 9, 12, 13), (0, 9, 15, 15)],
  .methodLink RL 58 yX6_declare,
  .instanceMethod yX6_declare,
  .code yX6_declare cX6_declare 5 (some .int),
  .selects RX6 yX6_declare yX6_declare,
  .methodLink RL 59 yX6_thrown,
  .instanceMethod yX6_thrown,
  .code yX6_thrown cX6_thrown 1 (some .int),
  .selects RX6 yX6_thrown yX6_thrown,
  .methodLink RL 63 yX5_clear,
  .instanceMethod yX5_clear,
  .code yX5_clear cX5_clear 1 none,
  .selects RX5 yX5_clear yX5_clear,
  .methodLink RL 66 yX6_clear,
  .instanceMethod yX6_clear,
  .code yX6_clear cX6_clear 1 none,
  .selects RX6 yX6_clear yX6_clear,
  .methodLink RL 67 yX5_fields,
  .instanceMethod yX5_fields,
  .code yX5_fields cX5_fields 1 (some .int),
  .selects RX5 yX5_fields yX5_fields,
  .methodLink RL 70 yX6_fields,
  .instanceMethod yX6_fields,
  .code yX6_fields cX6_fields 1 (some .int),
  .selects RX6 yX6_fields yX6_fields,
  .methodLink RL 71 yL_look,
  .static yL_look,
  .codeWith yL_look cL_look 5 (some .int) [(0, 10, 13, 21), (0, 10, 17, 15)],
  .methodLink RL 74 yX6_look,
  .instanceMethod yX6_look,
  .code yX6_look cX6_look 4 (some .int),
  .selects RX6 yX6_look yX6_look,
  .methodLink RL 75 yL_get,
  .static yL_get,
  .codeWith yL_get cL_get 5 (some .int) [(0, 10, 13, 21)],
  .methodLink RL 77 yX6_get,
  .instanceMethod yX6_get,
  .code yX6_get cX6_get 3 (some .int),
  .selects RX6 yX6_get yX6_get,
  .methodLink RL 78 yL_set,
  .static yL_set,
  .codeWith yL_set cL_set 5 (some .int) [(0, 7, 10, 21), (0, 7, 14, 15)],
  .methodLink RL 81 yX6_set,
  .instanceMethod yX6_set,
  .code yX6_set cX6_set 4 none,
  .selects RX6 yX6_set yX6_set,
  .constantLong RL 82 4294967295,
  .methodLink RL 84 yL_put,
  .static yL_put,
  .codeWith yL_put cL_put 6 (some .int) [(0, 8, 11, 21), (0, 8, 15, 15), (0, 8, 19, 34)],
  .methodLink RL 87 yX6_put2,
  .instanceMethod yX6_put2,
  .code yX6_put2 cX6_put2 10 none,
  .selects RX6 yX6_put2 yX6_put2,
  .methodLink RL 88 yL_move,
  .static yL_move,
  .codeWith yL_move cL_move 4 (some .int) [(0, 6, 9, 21), (0, 6, 12, 34)],
  .methodLink RL 91 yX6_move,
  .instanceMethod yX6_move,
  .code yX6_move cX6_move 4 none,
  .selects RX6 yX6_move yX6_move,
  .methodLink RL 92 yL_value,
  .static yL_value,
  .codeWith yL_value cL_value 4 (some .int) [(0, 8, 11, 21)],
  .methodLink RL 94 yX6_value,
  .instanceMethod yX6_value,
  .code yX6_value cX6_value 5 (some .long),
  .selects RX6 yX6_value yX6_value]
def zBIG : List Cond := zBw ++ (u_ws RX0 TX0 16 ++ u_ws RX2 TX2 8 ++ u_ws RX3 TX3 2 ++ u_ws RX4 TX4 5 ++ u_ws RX5 TX5 8 ++ u_ws RX6 TX6 24)
def zNEST : List Cond := [
  .methodLinkNest RX3 33 yX5_isDigit RX5,
  .fieldLinkNest RX2 54 RX3 "count" "I" RX5,
  .fieldLinkNest RX2 69 RX5 "POWERS" "[J" RX5,
  .methodLinkNest RX2 77 yX5_digitAt RX5,
  .fieldLinkNest RX4 9 RX3 "count" "I" RX5,
  .fieldLinkNest RX4 15 RX3 "row" "[I" RX5,
  .methodLinkNest RX4 35 yX5_isDigit RX5,
  .methodLinkNest RX0 126 yX5_isDigit RX5,
  .fieldLinkNest RX0 18 RX3 "row" "[I" RX5,
  .fieldLinkNest RX0 21 RX3 "count" "I" RX5,
  .methodLinkNest RX0 166 yX5_digitAt RX5,
  .declares ⟨RX1, "takeNumber", "(JI)Z"⟩,
  .declares ⟨RX1, "number", "()J"⟩,
  .declares ⟨RX1, "kind", "()I"⟩,
  .castable RX2 RX1,
  .castable RX4 RX1,
  .castable RX0 RX1,
  .castable "java/lang/IllegalStateException" "java/lang/IllegalStateException",
  .castable "java/lang/IllegalArgumentException" "java/lang/IllegalArgumentException",
  .castable "java/util/NoSuchElementException" "java/util/NoSuchElementException",
  .castable "java/lang/UnsupportedOperationException" "java/lang/UnsupportedOperationException",
  .methodLinkNest RX2 3 yX1_init RX5,
  .methodLinkNest RX4 3 yX1_init RX5,
  .methodLinkNest RX0 3 yX1_init RX5,
  .methodLinkNest RX5 19 yX3_init RX5,
  .arrayOver (.object RX2),
  .arrayOver (.object RX4),
  .arrayOver (.object RX0),
  .arrayOver (.object RX1),
  .methodLinkNest RX5 51 yX2_init RX5,
  .methodLinkNest RX5 52 yX4_init RX5,
  .methodLinkNest RX5 53 yX0_init RX5]
theorem zn0 : Cond.methodLinkNest RX3 33 yX5_isDigit RX5 ∈ zNEST := List.mem_of_getElem? (i := 0) rfl
theorem zn1 : Cond.fieldLinkNest RX2 54 RX3 "count" "I" RX5 ∈ zNEST := List.mem_of_getElem? (i := 1) rfl
theorem zn2 : Cond.fieldLinkNest RX2 69 RX5 "POWERS" "[J" RX5 ∈ zNEST := List.mem_of_getElem? (i := 2) rfl
theorem zn3 : Cond.methodLinkNest RX2 77 yX5_digitAt RX5 ∈ zNEST := List.mem_of_getElem? (i := 3) rfl
theorem zn4 : Cond.fieldLinkNest RX4 9 RX3 "count" "I" RX5 ∈ zNEST := List.mem_of_getElem? (i := 4) rfl
theorem zn5 : Cond.fieldLinkNest RX4 15 RX3 "row" "[I" RX5 ∈ zNEST := List.mem_of_getElem? (i := 5) rfl
theorem zn6 : Cond.methodLinkNest RX4 35 yX5_isDigit RX5 ∈ zNEST := List.mem_of_getElem? (i := 6) rfl
theorem zn7 : Cond.methodLinkNest RX0 126 yX5_isDigit RX5 ∈ zNEST := List.mem_of_getElem? (i := 7) rfl
theorem zn8 : Cond.fieldLinkNest RX0 18 RX3 "row" "[I" RX5 ∈ zNEST := List.mem_of_getElem? (i := 8) rfl
theorem zn9 : Cond.fieldLinkNest RX0 21 RX3 "count" "I" RX5 ∈ zNEST := List.mem_of_getElem? (i := 9) rfl
theorem zn10 : Cond.methodLinkNest RX0 166 yX5_digitAt RX5 ∈ zNEST := List.mem_of_getElem? (i := 10) rfl
theorem zn11 : Cond.declares ⟨RX1, "takeNumber", "(JI)Z"⟩ ∈ zNEST := List.mem_of_getElem? (i := 11) rfl
theorem zn12 : Cond.declares ⟨RX1, "number", "()J"⟩ ∈ zNEST := List.mem_of_getElem? (i := 12) rfl
theorem zn13 : Cond.declares ⟨RX1, "kind", "()I"⟩ ∈ zNEST := List.mem_of_getElem? (i := 13) rfl
theorem zn14 : Cond.castable RX2 RX1 ∈ zNEST := List.mem_of_getElem? (i := 14) rfl
theorem zn15 : Cond.castable RX4 RX1 ∈ zNEST := List.mem_of_getElem? (i := 15) rfl
theorem zn16 : Cond.castable RX0 RX1 ∈ zNEST := List.mem_of_getElem? (i := 16) rfl
theorem zn17 : Cond.castable "java/lang/IllegalStateException" "java/lang/IllegalStateException" ∈ zNEST := List.mem_of_getElem? (i := 17) rfl
theorem zn18 : Cond.castable "java/lang/IllegalArgumentException" "java/lang/IllegalArgumentException" ∈ zNEST := List.mem_of_getElem? (i := 18) rfl
theorem zn19 : Cond.castable "java/util/NoSuchElementException" "java/util/NoSuchElementException" ∈ zNEST := List.mem_of_getElem? (i := 19) rfl
theorem zn20 : Cond.castable "java/lang/UnsupportedOperationException" "java/lang/UnsupportedOperationException" ∈ zNEST := List.mem_of_getElem? (i := 20) rfl
theorem zn21 : Cond.methodLinkNest RX2 3 yX1_init RX5 ∈ zNEST := List.mem_of_getElem? (i := 21) rfl
theorem zn22 : Cond.methodLinkNest RX4 3 yX1_init RX5 ∈ zNEST := List.mem_of_getElem? (i := 22) rfl
theorem zn23 : Cond.methodLinkNest RX0 3 yX1_init RX5 ∈ zNEST := List.mem_of_getElem? (i := 23) rfl
theorem zn24 : Cond.methodLinkNest RX5 19 yX3_init RX5 ∈ zNEST := List.mem_of_getElem? (i := 24) rfl
theorem zn25 : Cond.arrayOver (.object RX2) ∈ zNEST := List.mem_of_getElem? (i := 25) rfl
theorem zn26 : Cond.arrayOver (.object RX4) ∈ zNEST := List.mem_of_getElem? (i := 26) rfl
theorem zn27 : Cond.arrayOver (.object RX0) ∈ zNEST := List.mem_of_getElem? (i := 27) rfl
theorem zn28 : Cond.arrayOver (.object RX1) ∈ zNEST := List.mem_of_getElem? (i := 28) rfl
theorem zn29 : Cond.methodLinkNest RX5 51 yX2_init RX5 ∈ zNEST := List.mem_of_getElem? (i := 29) rfl
theorem zn30 : Cond.methodLinkNest RX5 52 yX4_init RX5 ∈ zNEST := List.mem_of_getElem? (i := 30) rfl
theorem zn31 : Cond.methodLinkNest RX5 53 yX0_init RX5 ∈ zNEST := List.mem_of_getElem? (i := 31) rfl
set_option maxRecDepth 20000 in
theorem zw0 : Cond.fieldLink RX6 65 RX6 "thrown" "I" ∈ zBIG := List.mem_append_left _ (List.mem_of_getElem? (i := 0) rfl)
set_option maxRecDepth 20000 in
theorem zw1 : Cond.fieldLink RX6 69 RX6 "fields" "I" ∈ zBIG := List.mem_append_left _ (List.mem_of_getElem? (i := 1) rfl)
set_option maxRecDepth 20000 in
theorem zw2 : Cond.fieldLink RX6 72 RX6 "typed" "I" ∈ zBIG := List.mem_append_left _ (List.mem_of_getElem? (i := 2) rfl)
set_option maxRecDepth 20000 in
theorem zw3 : Cond.fieldLink RX6 7 RX6 "text" "[I" ∈ zBIG := List.mem_append_left _ (List.mem_of_getElem? (i := 3) rfl)
set_option maxRecDepth 20000 in
theorem zw4 : Cond.fieldLink RX6 16 RX6 "symbol" "[I" ∈ zBIG := List.mem_append_left _ (List.mem_of_getElem? (i := 4) rfl)
set_option maxRecDepth 20000 in
theorem zw5 : Cond.fieldLink RX6 13 RX6 "many" "[I" ∈ zBIG := List.mem_append_left _ (List.mem_of_getElem? (i := 5) rfl)
set_option maxRecDepth 20000 in
theorem zw6 : Cond.code yX6_at cX6_at 2 (some .int) ∈ zBIG := List.mem_append_left _ (List.mem_of_getElem? (i := 6) rfl)
set_option maxRecDepth 20000 in
theorem zw7 : Cond.initialized RX6 ∈ zBIG := List.mem_append_left _ (List.mem_of_getElem? (i := 7) rfl)
set_option maxRecDepth 20000 in
theorem zw8 : Cond.instanceMethod yX6_at ∈ zBIG := List.mem_append_left _ (List.mem_of_getElem? (i := 8) rfl)
set_option maxRecDepth 20000 in
theorem zw9 : Cond.methodLink RX6 75 yX6_at ∈ zBIG := List.mem_append_left _ (List.mem_of_getElem? (i := 9) rfl)
set_option maxRecDepth 20000 in
theorem zw10 : Cond.selects RX6 yX6_at yX6_at ∈ zBIG := List.mem_append_left _ (List.mem_of_getElem? (i := 10) rfl)
set_option maxRecDepth 20000 in
theorem zw11 : Cond.code yX6_isDigit cX6_isDigit 1 (some .boolean) ∈ zBIG := List.mem_append_left _ (List.mem_of_getElem? (i := 11) rfl)
set_option maxRecDepth 20000 in
theorem zw12 : Cond.static yX6_isDigit ∈ zBIG := List.mem_append_left _ (List.mem_of_getElem? (i := 12) rfl)
set_option maxRecDepth 20000 in
theorem zw13 : Cond.methodLink RX6 79 yX6_isDigit ∈ zBIG := List.mem_append_left _ (List.mem_of_getElem? (i := 13) rfl)
set_option maxRecDepth 20000 in
theorem zw14 : Cond.code yX6_sym cX6_sym 3 (some .int) ∈ zBIG := List.mem_append_left _ (List.mem_of_getElem? (i := 14) rfl)
set_option maxRecDepth 20000 in
theorem zw15 : Cond.instanceMethod yX6_sym ∈ zBIG := List.mem_append_left _ (List.mem_of_getElem? (i := 15) rfl)
set_option maxRecDepth 20000 in
theorem zw16 : Cond.methodLink RX6 93 yX6_sym ∈ zBIG := List.mem_append_left _ (List.mem_of_getElem? (i := 16) rfl)
set_option maxRecDepth 20000 in
theorem zw17 : Cond.selects RX6 yX6_sym yX6_sym ∈ zBIG := List.mem_append_left _ (List.mem_of_getElem? (i := 17) rfl)
set_option maxRecDepth 20000 in
theorem zw18 : Cond.fieldLink RX6 161 RX6 "scale" "I" ∈ zBIG := List.mem_append_left _ (List.mem_of_getElem? (i := 18) rfl)
set_option maxRecDepth 20000 in
theorem zw19 : Cond.fieldLink RX6 164 RX6 "below" "Z" ∈ zBIG := List.mem_append_left _ (List.mem_of_getElem? (i := 19) rfl)
set_option maxRecDepth 20000 in
theorem zw20 : Cond.fieldLink RX6 59 RX6 "num" "[I" ∈ zBIG := List.mem_append_left _ (List.mem_of_getElem? (i := 20) rfl)
set_option maxRecDepth 20000 in
theorem zw21 : Cond.fieldLink RX6 19 RX6 "digit" "[I" ∈ zBIG := List.mem_append_left _ (List.mem_of_getElem? (i := 21) rfl)
set_option maxRecDepth 20000 in
theorem zw22 : Cond.fieldLink RX6 31 RX6 "behind" "[I" ∈ zBIG := List.mem_append_left _ (List.mem_of_getElem? (i := 22) rfl)
set_option maxRecDepth 20000 in
theorem zw23 : Cond.code yX6_digitAt cX6_digitAt 3 (some .int) ∈ zBIG := List.mem_append_left _ (List.mem_of_getElem? (i := 23) rfl)
set_option maxRecDepth 20000 in
theorem zw24 : Cond.instanceMethod yX6_digitAt ∈ zBIG := List.mem_append_left _ (List.mem_of_getElem? (i := 24) rfl)
set_option maxRecDepth 20000 in
theorem zw25 : Cond.methodLink RX6 168 yX6_digitAt ∈ zBIG := List.mem_append_left _ (List.mem_of_getElem? (i := 25) rfl)
set_option maxRecDepth 20000 in
theorem zw26 : Cond.selects RX6 yX6_digitAt yX6_digitAt ∈ zBIG := List.mem_append_left _ (List.mem_of_getElem? (i := 26) rfl)
set_option maxRecDepth 20000 in
theorem zw27 : Cond.code yX6_put cX6_put 4 (some .boolean) ∈ zBIG := List.mem_append_left _ (List.mem_of_getElem? (i := 27) rfl)
set_option maxRecDepth 20000 in
theorem zw28 : Cond.instanceMethod yX6_put ∈ zBIG := List.mem_append_left _ (List.mem_of_getElem? (i := 28) rfl)
set_option maxRecDepth 20000 in
theorem zw29 : Cond.methodLink RX6 83 yX6_put ∈ zBIG := List.mem_append_left _ (List.mem_of_getElem? (i := 29) rfl)
set_option maxRecDepth 20000 in
theorem zw30 : Cond.selects RX6 yX6_put yX6_put ∈ zBIG := List.mem_append_left _ (List.mem_of_getElem? (i := 30) rfl)
set_option maxRecDepth 20000 in
theorem zw31 : Cond.code yX6_parentheses cX6_parentheses 4 (some .int) ∈ zBIG := List.mem_append_left _ (List.mem_of_getElem? (i := 31) rfl)
set_option maxRecDepth 20000 in
theorem zw32 : Cond.instanceMethod yX6_parentheses ∈ zBIG := List.mem_append_left _ (List.mem_of_getElem? (i := 32) rfl)
set_option maxRecDepth 20000 in
theorem zw33 : Cond.methodLink RX6 87 yX6_parentheses ∈ zBIG := List.mem_append_left _ (List.mem_of_getElem? (i := 33) rfl)
set_option maxRecDepth 20000 in
theorem zw34 : Cond.selects RX6 yX6_parentheses yX6_parentheses ∈ zBIG := List.mem_append_left _ (List.mem_of_getElem? (i := 34) rfl)
set_option maxRecDepth 20000 in
theorem zw35 : Cond.code yX6_isSymbol cX6_isSymbol 1 (some .boolean) ∈ zBIG := List.mem_append_left _ (List.mem_of_getElem? (i := 35) rfl)
set_option maxRecDepth 20000 in
theorem zw36 : Cond.static yX6_isSymbol ∈ zBIG := List.mem_append_left _ (List.mem_of_getElem? (i := 36) rfl)
set_option maxRecDepth 20000 in
theorem zw37 : Cond.methodLink RX6 90 yX6_isSymbol ∈ zBIG := List.mem_append_left _ (List.mem_of_getElem? (i := 37) rfl)
set_option maxRecDepth 20000 in
theorem zw38 : Cond.code yX6_countOf cX6_countOf 6 (some .int) ∈ zBIG := List.mem_append_left _ (List.mem_of_getElem? (i := 38) rfl)
set_option maxRecDepth 20000 in
theorem zw39 : Cond.instanceMethod yX6_countOf ∈ zBIG := List.mem_append_left _ (List.mem_of_getElem? (i := 39) rfl)
set_option maxRecDepth 20000 in
theorem zw40 : Cond.methodLink RX6 97 yX6_countOf ∈ zBIG := List.mem_append_left _ (List.mem_of_getElem? (i := 40) rfl)
set_option maxRecDepth 20000 in
theorem zw41 : Cond.selects RX6 yX6_countOf yX6_countOf ∈ zBIG := List.mem_append_left _ (List.mem_of_getElem? (i := 41) rfl)
set_option maxRecDepth 20000 in
theorem zw42 : Cond.code yX6_firstOf cX6_firstOf 6 (some .int) ∈ zBIG := List.mem_append_left _ (List.mem_of_getElem? (i := 42) rfl)
set_option maxRecDepth 20000 in
theorem zw43 : Cond.instanceMethod yX6_firstOf ∈ zBIG := List.mem_append_left _ (List.mem_of_getElem? (i := 43) rfl)
set_option maxRecDepth 20000 in
theorem zw44 : Cond.methodLink RX6 101 yX6_firstOf ∈ zBIG := List.mem_append_left _ (List.mem_of_getElem? (i := 44) rfl)
set_option maxRecDepth 20000 in
theorem zw45 : Cond.selects RX6 yX6_firstOf yX6_firstOf ∈ zBIG := List.mem_append_left _ (List.mem_of_getElem? (i := 45) rfl)
set_option maxRecDepth 20000 in
theorem zw46 : Cond.fieldLink RX6 22 RX6 "kind" "[I" ∈ zBIG := List.mem_append_left _ (List.mem_of_getElem? (i := 46) rfl)
set_option maxRecDepth 20000 in
theorem zw47 : Cond.fieldLink RX6 34 RX6 "signed" "[Z" ∈ zBIG := List.mem_append_left _ (List.mem_of_getElem? (i := 47) rfl)
set_option maxRecDepth 20000 in
theorem zw48 : Cond.fieldLink RX6 38 RX6 "low" "[I" ∈ zBIG := List.mem_append_left _ (List.mem_of_getElem? (i := 48) rfl)
set_option maxRecDepth 20000 in
theorem zw49 : Cond.fieldLink RX6 28 RX6 "before" "[I" ∈ zBIG := List.mem_append_left _ (List.mem_of_getElem? (i := 49) rfl)
set_option maxRecDepth 20000 in
theorem zw50 : Cond.fieldLink RX6 53 RX6 "length" "[I" ∈ zBIG := List.mem_append_left _ (List.mem_of_getElem? (i := 50) rfl)
set_option maxRecDepth 20000 in
theorem zw51 : Cond.fieldLink RX6 41 RX6 "fill" "[I" ∈ zBIG := List.mem_append_left _ (List.mem_of_getElem? (i := 51) rfl)
set_option maxRecDepth 20000 in
theorem zw52 : Cond.fieldLink RX6 50 RX6 "point" "[I" ∈ zBIG := List.mem_append_left _ (List.mem_of_getElem? (i := 52) rfl)
set_option maxRecDepth 20000 in
theorem zw53 : Cond.fieldLink RX6 44 RX6 "from" "[I" ∈ zBIG := List.mem_append_left _ (List.mem_of_getElem? (i := 53) rfl)
set_option maxRecDepth 20000 in
theorem zw54 : Cond.fieldLink RX6 47 RX6 "to" "[I" ∈ zBIG := List.mem_append_left _ (List.mem_of_getElem? (i := 54) rfl)
set_option maxRecDepth 20000 in
theorem zw55 : Cond.code yX6_isFill cX6_isFill 1 (some .boolean) ∈ zBIG := List.mem_append_left _ (List.mem_of_getElem? (i := 55) rfl)
set_option maxRecDepth 20000 in
theorem zw56 : Cond.static yX6_isFill ∈ zBIG := List.mem_append_left _ (List.mem_of_getElem? (i := 56) rfl)
set_option maxRecDepth 20000 in
theorem zw57 : Cond.methodLink RX6 104 yX6_isFill ∈ zBIG := List.mem_append_left _ (List.mem_of_getElem? (i := 57) rfl)
set_option maxRecDepth 20000 in
theorem zw58 : Cond.code yX6_isInsertion cX6_isInsertion 1 (some .boolean) ∈ zBIG := List.mem_append_left _ (List.mem_of_getElem? (i := 58) rfl)
set_option maxRecDepth 20000 in
theorem zw59 : Cond.static yX6_isInsertion ∈ zBIG := List.mem_append_left _ (List.mem_of_getElem? (i := 59) rfl)
set_option maxRecDepth 20000 in
theorem zw60 : Cond.methodLink RX6 107 yX6_isInsertion ∈ zBIG := List.mem_append_left _ (List.mem_of_getElem? (i := 60) rfl)
set_option maxRecDepth 20000 in
theorem zw61 : Cond.code yX6_body cX6_body 7 (some .boolean) ∈ zBIG := List.mem_append_left _ (List.mem_of_getElem? (i := 61) rfl)
set_option maxRecDepth 20000 in
theorem zw62 : Cond.instanceMethod yX6_body ∈ zBIG := List.mem_append_left _ (List.mem_of_getElem? (i := 62) rfl)
set_option maxRecDepth 20000 in
theorem zw63 : Cond.methodLink RX6 113 yX6_body ∈ zBIG := List.mem_append_left _ (List.mem_of_getElem? (i := 63) rfl)
set_option maxRecDepth 20000 in
theorem zw64 : Cond.selects RX6 yX6_body yX6_body ∈ zBIG := List.mem_append_left _ (List.mem_of_getElem? (i := 64) rfl)
set_option maxRecDepth 20000 in
theorem zw65 : Cond.code yX6_isSign cX6_isSign 1 (some .boolean) ∈ zBIG := List.mem_append_left _ (List.mem_of_getElem? (i := 65) rfl)
set_option maxRecDepth 20000 in
theorem zw66 : Cond.static yX6_isSign ∈ zBIG := List.mem_append_left _ (List.mem_of_getElem? (i := 66) rfl)
set_option maxRecDepth 20000 in
theorem zw67 : Cond.methodLink RX6 110 yX6_isSign ∈ zBIG := List.mem_append_left _ (List.mem_of_getElem? (i := 67) rfl)
set_option maxRecDepth 20000 in
theorem zw68 : Cond.code yX6_ordered cX6_ordered 7 (some .boolean) ∈ zBIG := List.mem_append_left _ (List.mem_of_getElem? (i := 68) rfl)
set_option maxRecDepth 20000 in
theorem zw69 : Cond.instanceMethod yX6_ordered ∈ zBIG := List.mem_append_left _ (List.mem_of_getElem? (i := 69) rfl)
set_option maxRecDepth 20000 in
theorem zw70 : Cond.methodLink RX6 116 yX6_ordered ∈ zBIG := List.mem_append_left _ (List.mem_of_getElem? (i := 70) rfl)
set_option maxRecDepth 20000 in
theorem zw71 : Cond.selects RX6 yX6_ordered yX6_ordered ∈ zBIG := List.mem_append_left _ (List.mem_of_getElem? (i := 71) rfl)
set_option maxRecDepth 20000 in
theorem zw72 : Cond.code yX6_width cX6_width 1 (some .int) ∈ zBIG := List.mem_append_left _ (List.mem_of_getElem? (i := 72) rfl)
set_option maxRecDepth 20000 in
theorem zw73 : Cond.static yX6_width ∈ zBIG := List.mem_append_left _ (List.mem_of_getElem? (i := 73) rfl)
set_option maxRecDepth 20000 in
theorem zw74 : Cond.methodLink RX6 119 yX6_width ∈ zBIG := List.mem_append_left _ (List.mem_of_getElem? (i := 74) rfl)
set_option maxRecDepth 20000 in
theorem zw75 : Cond.code yX6_expands cX6_expands 5 (some .boolean) ∈ zBIG := List.mem_append_left _ (List.mem_of_getElem? (i := 75) rfl)
set_option maxRecDepth 20000 in
theorem zw76 : Cond.instanceMethod yX6_expands ∈ zBIG := List.mem_append_left _ (List.mem_of_getElem? (i := 76) rfl)
set_option maxRecDepth 20000 in
theorem zw77 : Cond.methodLink RX6 122 yX6_expands ∈ zBIG := List.mem_append_left _ (List.mem_of_getElem? (i := 77) rfl)
set_option maxRecDepth 20000 in
theorem zw78 : Cond.selects RX6 yX6_expands yX6_expands ∈ zBIG := List.mem_append_left _ (List.mem_of_getElem? (i := 78) rfl)
set_option maxRecDepth 20000 in
theorem zw79 : Cond.code yX6_isNumber cX6_isNumber 14 (some .boolean) ∈ zBIG := List.mem_append_left _ (List.mem_of_getElem? (i := 79) rfl)
set_option maxRecDepth 20000 in
theorem zw80 : Cond.instanceMethod yX6_isNumber ∈ zBIG := List.mem_append_left _ (List.mem_of_getElem? (i := 80) rfl)
set_option maxRecDepth 20000 in
theorem zw81 : Cond.methodLink RX6 126 yX6_isNumber ∈ zBIG := List.mem_append_left _ (List.mem_of_getElem? (i := 81) rfl)
set_option maxRecDepth 20000 in
theorem zw82 : Cond.selects RX6 yX6_isNumber yX6_isNumber ∈ zBIG := List.mem_append_left _ (List.mem_of_getElem? (i := 82) rfl)
set_option maxRecDepth 20000 in
theorem zw83 : Cond.code yX6_isText cX6_isText 3 (some .boolean) ∈ zBIG := List.mem_append_left _ (List.mem_of_getElem? (i := 83) rfl)
set_option maxRecDepth 20000 in
theorem zw84 : Cond.instanceMethod yX6_isText ∈ zBIG := List.mem_append_left _ (List.mem_of_getElem? (i := 84) rfl)
set_option maxRecDepth 20000 in
theorem zw85 : Cond.methodLink RX6 129 yX6_isText ∈ zBIG := List.mem_append_left _ (List.mem_of_getElem? (i := 85) rfl)
set_option maxRecDepth 20000 in
theorem zw86 : Cond.selects RX6 yX6_isText yX6_isText ∈ zBIG := List.mem_append_left _ (List.mem_of_getElem? (i := 86) rfl)
set_option maxRecDepth 20000 in
theorem zw87 : Cond.code yX6_isEdited cX6_isEdited 18 (some .boolean) ∈ zBIG := List.mem_append_left _ (List.mem_of_getElem? (i := 87) rfl)
set_option maxRecDepth 20000 in
theorem zw88 : Cond.instanceMethod yX6_isEdited ∈ zBIG := List.mem_append_left _ (List.mem_of_getElem? (i := 88) rfl)
set_option maxRecDepth 20000 in
theorem zw89 : Cond.methodLink RX6 132 yX6_isEdited ∈ zBIG := List.mem_append_left _ (List.mem_of_getElem? (i := 89) rfl)
set_option maxRecDepth 20000 in
theorem zw90 : Cond.selects RX6 yX6_isEdited yX6_isEdited ∈ zBIG := List.mem_append_left _ (List.mem_of_getElem? (i := 90) rfl)
set_option maxRecDepth 20000 in
theorem zw91 : Cond.code yX6_digitFor cX6_digitFor 4 (some .int) ∈ zBIG := List.mem_append_left _ (List.mem_of_getElem? (i := 91) rfl)
set_option maxRecDepth 20000 in
theorem zw92 : Cond.instanceMethod yX6_digitFor ∈ zBIG := List.mem_append_left _ (List.mem_of_getElem? (i := 92) rfl)
set_option maxRecDepth 20000 in
theorem zw93 : Cond.methodLink RX6 171 yX6_digitFor ∈ zBIG := List.mem_append_left _ (List.mem_of_getElem? (i := 93) rfl)
set_option maxRecDepth 20000 in
theorem zw94 : Cond.selects RX6 yX6_digitFor yX6_digitFor ∈ zBIG := List.mem_append_left _ (List.mem_of_getElem? (i := 94) rfl)
set_option maxRecDepth 20000 in
theorem zw95 : Cond.code yX6_signFor cX6_signFor 2 (some .int) ∈ zBIG := List.mem_append_left _ (List.mem_of_getElem? (i := 95) rfl)
set_option maxRecDepth 20000 in
theorem zw96 : Cond.static yX6_signFor ∈ zBIG := List.mem_append_left _ (List.mem_of_getElem? (i := 96) rfl)
set_option maxRecDepth 20000 in
theorem zw97 : Cond.methodLink RX6 190 yX6_signFor ∈ zBIG := List.mem_append_left _ (List.mem_of_getElem? (i := 97) rfl)
set_option maxRecDepth 20000 in
theorem zw98 : Cond.code yX6_isBelow cX6_isBelow 4 (some .boolean) ∈ zBIG := List.mem_append_left _ (List.mem_of_getElem? (i := 98) rfl)
set_option maxRecDepth 20000 in
theorem zw99 : Cond.instanceMethod yX6_isBelow ∈ zBIG := List.mem_append_left _ (List.mem_of_getElem? (i := 99) rfl)
set_option maxRecDepth 20000 in
theorem zw100 : Cond.methodLink RX6 177 yX6_isBelow ∈ zBIG := List.mem_append_left _ (List.mem_of_getElem? (i := 100) rfl)
set_option maxRecDepth 20000 in
theorem zw101 : Cond.selects RX6 yX6_isBelow yX6_isBelow ∈ zBIG := List.mem_append_left _ (List.mem_of_getElem? (i := 101) rfl)
set_option maxRecDepth 20000 in
theorem zw102 : Cond.code yX6_firstDigit cX6_firstDigit 3 (some .int) ∈ zBIG := List.mem_append_left _ (List.mem_of_getElem? (i := 102) rfl)
set_option maxRecDepth 20000 in
theorem zw103 : Cond.instanceMethod yX6_firstDigit ∈ zBIG := List.mem_append_left _ (List.mem_of_getElem? (i := 103) rfl)
set_option maxRecDepth 20000 in
theorem zw104 : Cond.methodLink RX6 180 yX6_firstDigit ∈ zBIG := List.mem_append_left _ (List.mem_of_getElem? (i := 104) rfl)
set_option maxRecDepth 20000 in
theorem zw105 : Cond.selects RX6 yX6_firstDigit yX6_firstDigit ∈ zBIG := List.mem_append_left _ (List.mem_of_getElem? (i := 105) rfl)
set_option maxRecDepth 20000 in
theorem zw106 : Cond.code yX6_zoneEnd cX6_zoneEnd 4 (some .int) ∈ zBIG := List.mem_append_left _ (List.mem_of_getElem? (i := 106) rfl)
set_option maxRecDepth 20000 in
theorem zw107 : Cond.instanceMethod yX6_zoneEnd ∈ zBIG := List.mem_append_left _ (List.mem_of_getElem? (i := 107) rfl)
set_option maxRecDepth 20000 in
theorem zw108 : Cond.methodLink RX6 183 yX6_zoneEnd ∈ zBIG := List.mem_append_left _ (List.mem_of_getElem? (i := 108) rfl)
set_option maxRecDepth 20000 in
theorem zw109 : Cond.selects RX6 yX6_zoneEnd yX6_zoneEnd ∈ zBIG := List.mem_append_left _ (List.mem_of_getElem? (i := 109) rfl)
set_option maxRecDepth 20000 in
theorem zw110 : Cond.code yX6_plain cX6_plain 5 (some .int) ∈ zBIG := List.mem_append_left _ (List.mem_of_getElem? (i := 110) rfl)
set_option maxRecDepth 20000 in
theorem zw111 : Cond.instanceMethod yX6_plain ∈ zBIG := List.mem_append_left _ (List.mem_of_getElem? (i := 111) rfl)
set_option maxRecDepth 20000 in
theorem zw112 : Cond.methodLink RX6 186 yX6_plain ∈ zBIG := List.mem_append_left _ (List.mem_of_getElem? (i := 112) rfl)
set_option maxRecDepth 20000 in
theorem zw113 : Cond.selects RX6 yX6_plain yX6_plain ∈ zBIG := List.mem_append_left _ (List.mem_of_getElem? (i := 113) rfl)
set_option maxRecDepth 20000 in
theorem zw114 : Cond.fieldLink RX6 56 RX6 "bytes" "[I" ∈ zBIG := List.mem_append_left _ (List.mem_of_getElem? (i := 114) rfl)
set_option maxRecDepth 20000 in
theorem zw115 : Cond.fieldLink RX6 25 RX6 "usage" "[I" ∈ zBIG := List.mem_append_left _ (List.mem_of_getElem? (i := 115) rfl)
set_option maxRecDepth 20000 in
theorem zw116 : Cond.fieldLink RX6 62 RX6 "chars" "[I" ∈ zBIG := List.mem_append_left _ (List.mem_of_getElem? (i := 116) rfl)
set_option maxRecDepth 20000 in
theorem zw117 : Cond.code yX6_edit cX6_edit 13 none ∈ zBIG := List.mem_append_left _ (List.mem_of_getElem? (i := 117) rfl)
set_option maxRecDepth 20000 in
theorem zw118 : Cond.instanceMethod yX6_edit ∈ zBIG := List.mem_append_left _ (List.mem_of_getElem? (i := 118) rfl)
set_option maxRecDepth 20000 in
theorem zw119 : Cond.methodLink RX6 174 yX6_edit ∈ zBIG := List.mem_append_left _ (List.mem_of_getElem? (i := 119) rfl)
set_option maxRecDepth 20000 in
theorem zw120 : Cond.selects RX6 yX6_edit yX6_edit ∈ zBIG := List.mem_append_left _ (List.mem_of_getElem? (i := 120) rfl)
set_option maxRecDepth 20000 in
theorem zw121 : Cond.fieldLink RX6 142 RX6 "count" "I" ∈ zBIG := List.mem_append_left _ (List.mem_of_getElem? (i := 121) rfl)
set_option maxRecDepth 20000 in
theorem zw122 : Cond.code yX6_fails cX6_fails 4 (some .boolean) ∈ zBIG := List.mem_append_left _ (List.mem_of_getElem? (i := 122) rfl)
set_option maxRecDepth 20000 in
theorem zw123 : Cond.instanceMethod yX6_fails ∈ zBIG := List.mem_append_left _ (List.mem_of_getElem? (i := 123) rfl)
set_option maxRecDepth 20000 in
theorem zw124 : Cond.methodLink RX6 135 yX6_fails ∈ zBIG := List.mem_append_left _ (List.mem_of_getElem? (i := 124) rfl)
set_option maxRecDepth 20000 in
theorem zw125 : Cond.selects RX6 yX6_fails yX6_fails ∈ zBIG := List.mem_append_left _ (List.mem_of_getElem? (i := 125) rfl)
set_option maxRecDepth 20000 in
theorem zw126 : Cond.code yX6_reads cX6_reads 1 (some .boolean) ∈ zBIG := List.mem_append_left _ (List.mem_of_getElem? (i := 126) rfl)
set_option maxRecDepth 20000 in
theorem zw127 : Cond.instanceMethod yX6_reads ∈ zBIG := List.mem_append_left _ (List.mem_of_getElem? (i := 127) rfl)
set_option maxRecDepth 20000 in
theorem zw128 : Cond.methodLink RX6 139 yX6_reads ∈ zBIG := List.mem_append_left _ (List.mem_of_getElem? (i := 128) rfl)
set_option maxRecDepth 20000 in
theorem zw129 : Cond.selects RX6 yX6_reads yX6_reads ∈ zBIG := List.mem_append_left _ (List.mem_of_getElem? (i := 129) rfl)
set_option maxRecDepth 20000 in
theorem zw130 : Cond.code yX6_nothing cX6_nothing 2 none ∈ zBIG := List.mem_append_left _ (List.mem_of_getElem? (i := 130) rfl)
set_option maxRecDepth 20000 in
theorem zw131 : Cond.instanceMethod yX6_nothing ∈ zBIG := List.mem_append_left _ (List.mem_of_getElem? (i := 131) rfl)
set_option maxRecDepth 20000 in
theorem zw132 : Cond.methodLink RX6 145 yX6_nothing ∈ zBIG := List.mem_append_left _ (List.mem_of_getElem? (i := 132) rfl)
set_option maxRecDepth 20000 in
theorem zw133 : Cond.selects RX6 yX6_nothing yX6_nothing ∈ zBIG := List.mem_append_left _ (List.mem_of_getElem? (i := 133) rfl)
set_option maxRecDepth 20000 in
theorem zw134 : Cond.code yX6_storeNumber cX6_storeNumber 7 none ∈ zBIG := List.mem_append_left _ (List.mem_of_getElem? (i := 134) rfl)
set_option maxRecDepth 20000 in
theorem zw135 : Cond.instanceMethod yX6_storeNumber ∈ zBIG := List.mem_append_left _ (List.mem_of_getElem? (i := 135) rfl)
set_option maxRecDepth 20000 in
theorem zw136 : Cond.methodLink RX6 152 yX6_storeNumber ∈ zBIG := List.mem_append_left _ (List.mem_of_getElem? (i := 136) rfl)
set_option maxRecDepth 20000 in
theorem zw137 : Cond.selects RX6 yX6_storeNumber yX6_storeNumber ∈ zBIG := List.mem_append_left _ (List.mem_of_getElem? (i := 137) rfl)
set_option maxRecDepth 20000 in
theorem zw138 : Cond.code yX6_storeText cX6_storeText 3 none ∈ zBIG := List.mem_append_left _ (List.mem_of_getElem? (i := 138) rfl)
set_option maxRecDepth 20000 in
theorem zw139 : Cond.instanceMethod yX6_storeText ∈ zBIG := List.mem_append_left _ (List.mem_of_getElem? (i := 139) rfl)
set_option maxRecDepth 20000 in
theorem zw140 : Cond.methodLink RX6 148 yX6_storeText ∈ zBIG := List.mem_append_left _ (List.mem_of_getElem? (i := 140) rfl)
set_option maxRecDepth 20000 in
theorem zw141 : Cond.selects RX6 yX6_storeText yX6_storeText ∈ zBIG := List.mem_append_left _ (List.mem_of_getElem? (i := 141) rfl)
set_option maxRecDepth 20000 in
theorem zw142 : Cond.code yX6_isField cX6_isField 2 (some .boolean) ∈ zBIG := List.mem_append_left _ (List.mem_of_getElem? (i := 142) rfl)
set_option maxRecDepth 20000 in
theorem zw143 : Cond.instanceMethod yX6_isField ∈ zBIG := List.mem_append_left _ (List.mem_of_getElem? (i := 143) rfl)
set_option maxRecDepth 20000 in
theorem zw144 : Cond.methodLink RX6 155 yX6_isField ∈ zBIG := List.mem_append_left _ (List.mem_of_getElem? (i := 144) rfl)
set_option maxRecDepth 20000 in
theorem zw145 : Cond.selects RX6 yX6_isField yX6_isField ∈ zBIG := List.mem_append_left _ (List.mem_of_getElem? (i := 145) rfl)
set_option maxRecDepth 20000 in
theorem zw146 : Cond.code yX6_isByte cX6_isByte 3 (some .boolean) ∈ zBIG := List.mem_append_left _ (List.mem_of_getElem? (i := 146) rfl)
set_option maxRecDepth 20000 in
theorem zw147 : Cond.instanceMethod yX6_isByte ∈ zBIG := List.mem_append_left _ (List.mem_of_getElem? (i := 147) rfl)
set_option maxRecDepth 20000 in
theorem zw148 : Cond.methodLink RX6 158 yX6_isByte ∈ zBIG := List.mem_append_left _ (List.mem_of_getElem? (i := 148) rfl)
set_option maxRecDepth 20000 in
theorem zw149 : Cond.selects RX6 yX6_isByte yX6_isByte ∈ zBIG := List.mem_append_left _ (List.mem_of_getElem? (i := 149) rfl)
set_option maxRecDepth 20000 in
theorem zw150 : Cond.code yX6_takeDigits cX6_takeDigits 8 none ∈ zBIG := List.mem_append_left _ (List.mem_of_getElem? (i := 150) rfl)
set_option maxRecDepth 20000 in
theorem zw151 : Cond.instanceMethod yX6_takeDigits ∈ zBIG := List.mem_append_left _ (List.mem_of_getElem? (i := 151) rfl)
set_option maxRecDepth 20000 in
theorem zw152 : Cond.methodLink RX6 197 yX6_takeDigits ∈ zBIG := List.mem_append_left _ (List.mem_of_getElem? (i := 152) rfl)
set_option maxRecDepth 20000 in
theorem zw153 : Cond.selects RX6 yX6_takeDigits yX6_takeDigits ∈ zBIG := List.mem_append_left _ (List.mem_of_getElem? (i := 153) rfl)
set_option maxRecDepth 20000 in
theorem zw154 : Cond.code yX6_takeEdited cX6_takeEdited 6 none ∈ zBIG := List.mem_append_left _ (List.mem_of_getElem? (i := 154) rfl)
set_option maxRecDepth 20000 in
theorem zw155 : Cond.instanceMethod yX6_takeEdited ∈ zBIG := List.mem_append_left _ (List.mem_of_getElem? (i := 155) rfl)
set_option maxRecDepth 20000 in
theorem zw156 : Cond.methodLink RX6 194 yX6_takeEdited ∈ zBIG := List.mem_append_left _ (List.mem_of_getElem? (i := 156) rfl)
set_option maxRecDepth 20000 in
theorem zw157 : Cond.selects RX6 yX6_takeEdited yX6_takeEdited ∈ zBIG := List.mem_append_left _ (List.mem_of_getElem? (i := 157) rfl)
set_option maxRecDepth 20000 in
theorem zw158 : Cond.constantLong RX6 200 10 ∈ zBIG := List.mem_append_left _ (List.mem_of_getElem? (i := 158) rfl)
set_option maxRecDepth 20000 in
theorem zw159 : Cond.code yX6_takeNumber cX6_takeNumber 4 none ∈ zBIG := List.mem_append_left _ (List.mem_of_getElem? (i := 159) rfl)
set_option maxRecDepth 20000 in
theorem zw160 : Cond.instanceMethod yX6_takeNumber ∈ zBIG := List.mem_append_left _ (List.mem_of_getElem? (i := 160) rfl)
set_option maxRecDepth 20000 in
theorem zw161 : Cond.methodLink RX6 202 yX6_takeNumber ∈ zBIG := List.mem_append_left _ (List.mem_of_getElem? (i := 161) rfl)
set_option maxRecDepth 20000 in
theorem zw162 : Cond.selects RX6 yX6_takeNumber yX6_takeNumber ∈ zBIG := List.mem_append_left _ (List.mem_of_getElem? (i := 162) rfl)
set_option maxRecDepth 20000 in
theorem zw163 : Cond.code yX6_takeCharacters cX6_takeCharacters 3 none ∈ zBIG := List.mem_append_left _ (List.mem_of_getElem? (i := 163) rfl)
set_option maxRecDepth 20000 in
theorem zw164 : Cond.instanceMethod yX6_takeCharacters ∈ zBIG := List.mem_append_left _ (List.mem_of_getElem? (i := 164) rfl)
set_option maxRecDepth 20000 in
theorem zw165 : Cond.methodLink RX6 205 yX6_takeCharacters ∈ zBIG := List.mem_append_left _ (List.mem_of_getElem? (i := 165) rfl)
set_option maxRecDepth 20000 in
theorem zw166 : Cond.selects RX6 yX6_takeCharacters yX6_takeCharacters ∈ zBIG := List.mem_append_left _ (List.mem_of_getElem? (i := 166) rfl)
set_option maxRecDepth 20000 in
theorem zw167 : Cond.fieldLink RX5 146 RX5 "POWERS" "[J" ∈ zBIG := List.mem_append_left _ (List.mem_of_getElem? (i := 167) rfl)
set_option maxRecDepth 20000 in
theorem zw168 : Cond.constantLong RX5 150 10 ∈ zBIG := List.mem_append_left _ (List.mem_of_getElem? (i := 168) rfl)
set_option maxRecDepth 20000 in
theorem zw169 : Cond.methodLink RX5 152 Lib.Math.abs.name ∈ zBIG := List.mem_append_left _ (List.mem_of_getElem? (i := 169) rfl)
set_option maxRecDepth 20000 in
theorem zw170 : Cond.static Lib.Math.abs.name ∈ zBIG := List.mem_append_left _ (List.mem_of_getElem? (i := 170) rfl)
set_option maxRecDepth 20000 in
theorem zw171 : Cond.initialized "java/lang/Math" ∈ zBIG := List.mem_append_left _ (List.mem_of_getElem? (i := 171) rfl)
set_option maxRecDepth 20000 in
theorem zw172 : Cond.code Lib.Math.abs.name Lib.Math.abs.code 1 (some .int) ∈ zBIG := List.mem_append_left _ (List.mem_of_getElem? (i := 172) rfl)
set_option maxRecDepth 20000 in
theorem zw173 : Cond.fieldLink RX3 15 RX3 "count" "I" ∈ zBIG := List.mem_append_left _ (List.mem_of_getElem? (i := 173) rfl)
set_option maxRecDepth 20000 in
theorem zw174 : Cond.fieldLink RX3 9 RX3 "row" "[I" ∈ zBIG := List.mem_append_left _ (List.mem_of_getElem? (i := 174) rfl)
set_option maxRecDepth 20000 in
theorem zw175 : Cond.code yX5_isDigit cX5_isDigit 1 (some .boolean) ∈ zBIG := List.mem_append_left _ (List.mem_of_getElem? (i := 175) rfl)
set_option maxRecDepth 20000 in
theorem zw176 : Cond.initialized RX5 ∈ zBIG := List.mem_append_left _ (List.mem_of_getElem? (i := 176) rfl)
set_option maxRecDepth 20000 in
theorem zw177 : Cond.static yX5_isDigit ∈ zBIG := List.mem_append_left _ (List.mem_of_getElem? (i := 177) rfl)
set_option maxRecDepth 20000 in
theorem zw178 : Cond.code yX3_append cX3_append 4 (some .boolean) ∈ zBIG := List.mem_append_left _ (List.mem_of_getElem? (i := 178) rfl)
set_option maxRecDepth 20000 in
theorem zw179 : Cond.initialized RX3 ∈ zBIG := List.mem_append_left _ (List.mem_of_getElem? (i := 179) rfl)
set_option maxRecDepth 20000 in
theorem zw180 : Cond.instanceMethod yX3_append ∈ zBIG := List.mem_append_left _ (List.mem_of_getElem? (i := 180) rfl)
set_option maxRecDepth 20000 in
theorem zw181 : Cond.methodLink RX3 23 yX3_append ∈ zBIG := List.mem_append_left _ (List.mem_of_getElem? (i := 181) rfl)
set_option maxRecDepth 20000 in
theorem zw182 : Cond.selects RX3 yX3_append yX3_append ∈ zBIG := List.mem_append_left _ (List.mem_of_getElem? (i := 182) rfl)
set_option maxRecDepth 20000 in
theorem zw183 : Cond.code yX3_closingPlace cX3_closingPlace 3 (some .int) ∈ zBIG := List.mem_append_left _ (List.mem_of_getElem? (i := 183) rfl)
set_option maxRecDepth 20000 in
theorem zw184 : Cond.static yX3_closingPlace ∈ zBIG := List.mem_append_left _ (List.mem_of_getElem? (i := 184) rfl)
set_option maxRecDepth 20000 in
theorem zw185 : Cond.methodLink RX3 27 yX3_closingPlace ∈ zBIG := List.mem_append_left _ (List.mem_of_getElem? (i := 185) rfl)
set_option maxRecDepth 20000 in
theorem zw186 : Cond.code yX3_writtenNumber cX3_writtenNumber 5 (some .int) ∈ zBIG := List.mem_append_left _ (List.mem_of_getElem? (i := 186) rfl)
set_option maxRecDepth 20000 in
theorem zw187 : Cond.static yX3_writtenNumber ∈ zBIG := List.mem_append_left _ (List.mem_of_getElem? (i := 187) rfl)
set_option maxRecDepth 20000 in
theorem zw188 : Cond.methodLink RX3 30 yX3_writtenNumber ∈ zBIG := List.mem_append_left _ (List.mem_of_getElem? (i := 188) rfl)
set_option maxRecDepth 20000 in
theorem zw189 : Cond.code yX3_expandOne cX3_expandOne 7 (some .int) ∈ zBIG := List.mem_append_left _ (List.mem_of_getElem? (i := 189) rfl)
set_option maxRecDepth 20000 in
theorem zw190 : Cond.instanceMethod yX3_expandOne ∈ zBIG := List.mem_append_left _ (List.mem_of_getElem? (i := 190) rfl)
set_option maxRecDepth 20000 in
theorem zw191 : Cond.methodLink RX3 19 yX3_expandOne ∈ zBIG := List.mem_append_left _ (List.mem_of_getElem? (i := 191) rfl)
set_option maxRecDepth 20000 in
theorem zw192 : Cond.selects RX3 yX3_expandOne yX3_expandOne ∈ zBIG := List.mem_append_left _ (List.mem_of_getElem? (i := 192) rfl)
set_option maxRecDepth 20000 in
theorem zw193 : Cond.code yX3_runEnd cX3_runEnd 4 (some .int) ∈ zBIG := List.mem_append_left _ (List.mem_of_getElem? (i := 193) rfl)
set_option maxRecDepth 20000 in
theorem zw194 : Cond.instanceMethod yX3_runEnd ∈ zBIG := List.mem_append_left _ (List.mem_of_getElem? (i := 194) rfl)
set_option maxRecDepth 20000 in
theorem zw195 : Cond.methodLink RX2 47 yX3_runEnd ∈ zBIG := List.mem_append_left _ (List.mem_of_getElem? (i := 195) rfl)
set_option maxRecDepth 20000 in
theorem zw196 : Cond.selects RX3 yX3_runEnd yX3_runEnd ∈ zBIG := List.mem_append_left _ (List.mem_of_getElem? (i := 196) rfl)
set_option maxRecDepth 20000 in
theorem zw197 : Cond.code yX3_symbolAt cX3_symbolAt 2 (some .int) ∈ zBIG := List.mem_append_left _ (List.mem_of_getElem? (i := 197) rfl)
set_option maxRecDepth 20000 in
theorem zw198 : Cond.instanceMethod yX3_symbolAt ∈ zBIG := List.mem_append_left _ (List.mem_of_getElem? (i := 198) rfl)
set_option maxRecDepth 20000 in
theorem zw199 : Cond.methodLink RX2 9 yX3_symbolAt ∈ zBIG := List.mem_append_left _ (List.mem_of_getElem? (i := 199) rfl)
set_option maxRecDepth 20000 in
theorem zw200 : Cond.selects RX3 yX3_symbolAt yX3_symbolAt ∈ zBIG := List.mem_append_left _ (List.mem_of_getElem? (i := 200) rfl)
set_option maxRecDepth 20000 in
theorem zw201 : Cond.sameField RX2 RX1 "before" "I" ∈ zBIG := List.mem_append_left _ (List.mem_of_getElem? (i := 201) rfl)
set_option maxRecDepth 20000 in
theorem zw202 : Cond.fieldLink RX2 31 RX2 "before" "I" ∈ zBIG := List.mem_append_left _ (List.mem_of_getElem? (i := 202) rfl)
set_option maxRecDepth 20000 in
theorem zw203 : Cond.sameField RX2 RX1 "behind" "I" ∈ zBIG := List.mem_append_left _ (List.mem_of_getElem? (i := 203) rfl)
set_option maxRecDepth 20000 in
theorem zw204 : Cond.fieldLink RX2 35 RX2 "behind" "I" ∈ zBIG := List.mem_append_left _ (List.mem_of_getElem? (i := 204) rfl)
set_option maxRecDepth 20000 in
theorem zw205 : Cond.fieldLink RX2 41 RX2 "nines" "I" ∈ zBIG := List.mem_append_left _ (List.mem_of_getElem? (i := 205) rfl)
set_option maxRecDepth 20000 in
theorem zw206 : Cond.fieldLink RX2 51 RX2 "lowestPower" "I" ∈ zBIG := List.mem_append_left _ (List.mem_of_getElem? (i := 206) rfl)
set_option maxRecDepth 20000 in
theorem zw207 : Cond.sameField RX2 RX1 "signed" "Z" ∈ zBIG := List.mem_append_left _ (List.mem_of_getElem? (i := 207) rfl)
set_option maxRecDepth 20000 in
theorem zw208 : Cond.fieldLink RX2 15 RX2 "signed" "Z" ∈ zBIG := List.mem_append_left _ (List.mem_of_getElem? (i := 208) rfl)
set_option maxRecDepth 20000 in
theorem zw209 : Cond.code yX2_fitsUnscaled cX2_fitsUnscaled 6 (some .boolean) ∈ zBIG := List.mem_append_left _ (List.mem_of_getElem? (i := 209) rfl)
set_option maxRecDepth 20000 in
theorem zw210 : Cond.initialized RX2 ∈ zBIG := List.mem_append_left _ (List.mem_of_getElem? (i := 210) rfl)
set_option maxRecDepth 20000 in
theorem zw211 : Cond.instanceMethod yX2_fitsUnscaled ∈ zBIG := List.mem_append_left _ (List.mem_of_getElem? (i := 211) rfl)
set_option maxRecDepth 20000 in
theorem zw212 : Cond.methodLink RX2 21 yX2_fitsUnscaled ∈ zBIG := List.mem_append_left _ (List.mem_of_getElem? (i := 212) rfl)
set_option maxRecDepth 20000 in
theorem zw213 : Cond.selects RX2 yX2_fitsUnscaled yX2_fitsUnscaled ∈ zBIG := List.mem_append_left _ (List.mem_of_getElem? (i := 213) rfl)
set_option maxRecDepth 20000 in
theorem zw214 : Cond.code yX2_fitsScaledBefore cX2_fitsScaledBefore 9 (some .boolean) ∈ zBIG := List.mem_append_left _ (List.mem_of_getElem? (i := 214) rfl)
set_option maxRecDepth 20000 in
theorem zw215 : Cond.instanceMethod yX2_fitsScaledBefore ∈ zBIG := List.mem_append_left _ (List.mem_of_getElem? (i := 215) rfl)
set_option maxRecDepth 20000 in
theorem zw216 : Cond.methodLink RX2 25 yX2_fitsScaledBefore ∈ zBIG := List.mem_append_left _ (List.mem_of_getElem? (i := 216) rfl)
set_option maxRecDepth 20000 in
theorem zw217 : Cond.selects RX2 yX2_fitsScaledBefore yX2_fitsScaledBefore ∈ zBIG := List.mem_append_left _ (List.mem_of_getElem? (i := 217) rfl)
set_option maxRecDepth 20000 in
theorem zw218 : Cond.code yX2_fitsScaledBehind cX2_fitsScaledBehind 9 (some .boolean) ∈ zBIG := List.mem_append_left _ (List.mem_of_getElem? (i := 218) rfl)
set_option maxRecDepth 20000 in
theorem zw219 : Cond.instanceMethod yX2_fitsScaledBehind ∈ zBIG := List.mem_append_left _ (List.mem_of_getElem? (i := 219) rfl)
set_option maxRecDepth 20000 in
theorem zw220 : Cond.methodLink RX2 28 yX2_fitsScaledBehind ∈ zBIG := List.mem_append_left _ (List.mem_of_getElem? (i := 220) rfl)
set_option maxRecDepth 20000 in
theorem zw221 : Cond.selects RX2 yX2_fitsScaledBehind yX2_fitsScaledBehind ∈ zBIG := List.mem_append_left _ (List.mem_of_getElem? (i := 221) rfl)
set_option maxRecDepth 20000 in
theorem zw222 : Cond.fieldLink RX2 38 RX2 "packed" "Z" ∈ zBIG := List.mem_append_left _ (List.mem_of_getElem? (i := 222) rfl)
set_option maxRecDepth 20000 in
theorem zw223 : Cond.sameField RX2 RX1 "size" "I" ∈ zBIG := List.mem_append_left _ (List.mem_of_getElem? (i := 223) rfl)
set_option maxRecDepth 20000 in
theorem zw224 : Cond.fieldLink RX2 44 RX2 "size" "I" ∈ zBIG := List.mem_append_left _ (List.mem_of_getElem? (i := 224) rfl)
set_option maxRecDepth 20000 in
theorem zw225 : Cond.sameField RX2 RX1 "bytes" "[I" ∈ zBIG := List.mem_append_left _ (List.mem_of_getElem? (i := 225) rfl)
set_option maxRecDepth 20000 in
theorem zw226 : Cond.fieldLink RX2 59 RX2 "bytes" "[I" ∈ zBIG := List.mem_append_left _ (List.mem_of_getElem? (i := 226) rfl)
set_option maxRecDepth 20000 in
theorem zw227 : Cond.code yX2_isBelowZero cX2_isBelowZero 2 (some .boolean) ∈ zBIG := List.mem_append_left _ (List.mem_of_getElem? (i := 227) rfl)
set_option maxRecDepth 20000 in
theorem zw228 : Cond.instanceMethod yX2_isBelowZero ∈ zBIG := List.mem_append_left _ (List.mem_of_getElem? (i := 228) rfl)
set_option maxRecDepth 20000 in
theorem zw229 : Cond.methodLink RX2 73 yX2_isBelowZero ∈ zBIG := List.mem_append_left _ (List.mem_of_getElem? (i := 229) rfl)
set_option maxRecDepth 20000 in
theorem zw230 : Cond.selects RX2 yX2_isBelowZero yX2_isBelowZero ∈ zBIG := List.mem_append_left _ (List.mem_of_getElem? (i := 230) rfl)
set_option maxRecDepth 20000 in
theorem zw231 : Cond.constantLong RX2 57 10 ∈ zBIG := List.mem_append_left _ (List.mem_of_getElem? (i := 231) rfl)
set_option maxRecDepth 20000 in
theorem zw232 : Cond.code yX2_byteOf cX2_byteOf 2 (some .int) ∈ zBIG := List.mem_append_left _ (List.mem_of_getElem? (i := 232) rfl)
set_option maxRecDepth 20000 in
theorem zw233 : Cond.instanceMethod yX2_byteOf ∈ zBIG := List.mem_append_left _ (List.mem_of_getElem? (i := 233) rfl)
set_option maxRecDepth 20000 in
theorem zw234 : Cond.methodLink RX2 63 yX2_byteOf ∈ zBIG := List.mem_append_left _ (List.mem_of_getElem? (i := 234) rfl)
set_option maxRecDepth 20000 in
theorem zw235 : Cond.selects RX2 yX2_byteOf yX2_byteOf ∈ zBIG := List.mem_append_left _ (List.mem_of_getElem? (i := 235) rfl)
set_option maxRecDepth 20000 in
theorem zw236 : Cond.code yX2_shiftOf cX2_shiftOf 2 (some .int) ∈ zBIG := List.mem_append_left _ (List.mem_of_getElem? (i := 236) rfl)
set_option maxRecDepth 20000 in
theorem zw237 : Cond.instanceMethod yX2_shiftOf ∈ zBIG := List.mem_append_left _ (List.mem_of_getElem? (i := 237) rfl)
set_option maxRecDepth 20000 in
theorem zw238 : Cond.methodLink RX2 66 yX2_shiftOf ∈ zBIG := List.mem_append_left _ (List.mem_of_getElem? (i := 238) rfl)
set_option maxRecDepth 20000 in
theorem zw239 : Cond.selects RX2 yX2_shiftOf yX2_shiftOf ∈ zBIG := List.mem_append_left _ (List.mem_of_getElem? (i := 239) rfl)
set_option maxRecDepth 20000 in
theorem zw240 : Cond.code yX2_signBits cX2_signBits 2 (some .int) ∈ zBIG := List.mem_append_left _ (List.mem_of_getElem? (i := 240) rfl)
set_option maxRecDepth 20000 in
theorem zw241 : Cond.instanceMethod yX2_signBits ∈ zBIG := List.mem_append_left _ (List.mem_of_getElem? (i := 241) rfl)
set_option maxRecDepth 20000 in
theorem zw242 : Cond.methodLink RX2 81 yX2_signBits ∈ zBIG := List.mem_append_left _ (List.mem_of_getElem? (i := 242) rfl)
set_option maxRecDepth 20000 in
theorem zw243 : Cond.selects RX2 yX2_signBits yX2_signBits ∈ zBIG := List.mem_append_left _ (List.mem_of_getElem? (i := 243) rfl)
set_option maxRecDepth 20000 in
theorem zw244 : Cond.code yX5_digitAt cX5_digitAt 5 (some .int) ∈ zBIG := List.mem_append_left _ (List.mem_of_getElem? (i := 244) rfl)
set_option maxRecDepth 20000 in
theorem zw245 : Cond.static yX5_digitAt ∈ zBIG := List.mem_append_left _ (List.mem_of_getElem? (i := 245) rfl)
set_option maxRecDepth 20000 in
theorem zw246 : Cond.sameField RX4 RX1 "size" "I" ∈ zBIG := List.mem_append_left _ (List.mem_of_getElem? (i := 246) rfl)
set_option maxRecDepth 20000 in
theorem zw247 : Cond.fieldLink RX4 19 RX4 "size" "I" ∈ zBIG := List.mem_append_left _ (List.mem_of_getElem? (i := 247) rfl)
set_option maxRecDepth 20000 in
theorem zw248 : Cond.methodLink RX4 24 Lib.Math.max.name ∈ zBIG := List.mem_append_left _ (List.mem_of_getElem? (i := 248) rfl)
set_option maxRecDepth 20000 in
theorem zw249 : Cond.static Lib.Math.max.name ∈ zBIG := List.mem_append_left _ (List.mem_of_getElem? (i := 249) rfl)
set_option maxRecDepth 20000 in
theorem zw250 : Cond.code Lib.Math.max.name Lib.Math.max.code 2 (some .int) ∈ zBIG := List.mem_append_left _ (List.mem_of_getElem? (i := 250) rfl)
set_option maxRecDepth 20000 in
theorem zw251 : Cond.constantLong RX4 30 10 ∈ zBIG := List.mem_append_left _ (List.mem_of_getElem? (i := 251) rfl)
set_option maxRecDepth 20000 in
theorem zw252 : Cond.sameField RX4 RX1 "bytes" "[I" ∈ zBIG := List.mem_append_left _ (List.mem_of_getElem? (i := 252) rfl)
set_option maxRecDepth 20000 in
theorem zw253 : Cond.fieldLink RX4 32 RX4 "bytes" "[I" ∈ zBIG := List.mem_append_left _ (List.mem_of_getElem? (i := 253) rfl)
set_option maxRecDepth 20000 in
theorem zw254 : Cond.fieldLink RX0 80 RX0 "bodyStart" "I" ∈ zBIG := List.mem_append_left _ (List.mem_of_getElem? (i := 254) rfl)
set_option maxRecDepth 20000 in
theorem zw255 : Cond.fieldLink RX0 83 RX0 "bodyEnd" "I" ∈ zBIG := List.mem_append_left _ (List.mem_of_getElem? (i := 255) rfl)
set_option maxRecDepth 20000 in
theorem zw256 : Cond.fieldLink RX0 9 RX0 "row" "[I" ∈ zBIG := List.mem_append_left _ (List.mem_of_getElem? (i := 256) rfl)
set_option maxRecDepth 20000 in
theorem zw257 : Cond.fieldLink RX0 51 RX0 "trailing" "I" ∈ zBIG := List.mem_append_left _ (List.mem_of_getElem? (i := 257) rfl)
set_option maxRecDepth 20000 in
theorem zw258 : Cond.code yX0_firstOfRest cX0_firstOfRest 1 (some .int) ∈ zBIG := List.mem_append_left _ (List.mem_of_getElem? (i := 258) rfl)
set_option maxRecDepth 20000 in
theorem zw259 : Cond.initialized RX0 ∈ zBIG := List.mem_append_left _ (List.mem_of_getElem? (i := 259) rfl)
set_option maxRecDepth 20000 in
theorem zw260 : Cond.instanceMethod yX0_firstOfRest ∈ zBIG := List.mem_append_left _ (List.mem_of_getElem? (i := 260) rfl)
set_option maxRecDepth 20000 in
theorem zw261 : Cond.methodLink RX0 89 yX0_firstOfRest ∈ zBIG := List.mem_append_left _ (List.mem_of_getElem? (i := 261) rfl)
set_option maxRecDepth 20000 in
theorem zw262 : Cond.selects RX0 yX0_firstOfRest yX0_firstOfRest ∈ zBIG := List.mem_append_left _ (List.mem_of_getElem? (i := 262) rfl)
set_option maxRecDepth 20000 in
theorem zw263 : Cond.code yX0_isSign cX0_isSign 1 (some .boolean) ∈ zBIG := List.mem_append_left _ (List.mem_of_getElem? (i := 263) rfl)
set_option maxRecDepth 20000 in
theorem zw264 : Cond.static yX0_isSign ∈ zBIG := List.mem_append_left _ (List.mem_of_getElem? (i := 264) rfl)
set_option maxRecDepth 20000 in
theorem zw265 : Cond.methodLink RX0 57 yX0_isSign ∈ zBIG := List.mem_append_left _ (List.mem_of_getElem? (i := 265) rfl)
set_option maxRecDepth 20000 in
theorem zw266 : Cond.fieldLink RX0 48 RX0 "leading" "I" ∈ zBIG := List.mem_append_left _ (List.mem_of_getElem? (i := 266) rfl)
set_option maxRecDepth 20000 in
theorem zw267 : Cond.code yX0_standsOnce cX0_standsOnce 4 (some .boolean) ∈ zBIG := List.mem_append_left _ (List.mem_of_getElem? (i := 267) rfl)
set_option maxRecDepth 20000 in
theorem zw268 : Cond.instanceMethod yX0_standsOnce ∈ zBIG := List.mem_append_left _ (List.mem_of_getElem? (i := 268) rfl)
set_option maxRecDepth 20000 in
theorem zw269 : Cond.methodLink RX0 86 yX0_standsOnce ∈ zBIG := List.mem_append_left _ (List.mem_of_getElem? (i := 269) rfl)
set_option maxRecDepth 20000 in
theorem zw270 : Cond.selects RX0 yX0_standsOnce yX0_standsOnce ∈ zBIG := List.mem_append_left _ (List.mem_of_getElem? (i := 270) rfl)
set_option maxRecDepth 20000 in
theorem zw271 : Cond.fieldLink RX0 93 RX0 "fills" "I" ∈ zBIG := List.mem_append_left _ (List.mem_of_getElem? (i := 271) rfl)
set_option maxRecDepth 20000 in
theorem zw272 : Cond.fieldLink RX0 54 RX0 "fill" "I" ∈ zBIG := List.mem_append_left _ (List.mem_of_getElem? (i := 272) rfl)
set_option maxRecDepth 20000 in
theorem zw273 : Cond.fieldLink RX0 96 RX0 "firstFill" "I" ∈ zBIG := List.mem_append_left _ (List.mem_of_getElem? (i := 273) rfl)
set_option maxRecDepth 20000 in
theorem zw274 : Cond.code yX0_countFill cX0_countFill 2 (some .boolean) ∈ zBIG := List.mem_append_left _ (List.mem_of_getElem? (i := 274) rfl)
set_option maxRecDepth 20000 in
theorem zw275 : Cond.instanceMethod yX0_countFill ∈ zBIG := List.mem_append_left _ (List.mem_of_getElem? (i := 275) rfl)
set_option maxRecDepth 20000 in
theorem zw276 : Cond.methodLink RX0 108 yX0_countFill ∈ zBIG := List.mem_append_left _ (List.mem_of_getElem? (i := 276) rfl)
set_option maxRecDepth 20000 in
theorem zw277 : Cond.selects RX0 yX0_countFill yX0_countFill ∈ zBIG := List.mem_append_left _ (List.mem_of_getElem? (i := 277) rfl)
set_option maxRecDepth 20000 in
theorem zw278 : Cond.fieldLink RX0 102 RX0 "point" "I" ∈ zBIG := List.mem_append_left _ (List.mem_of_getElem? (i := 278) rfl)
set_option maxRecDepth 20000 in
theorem zw279 : Cond.fieldLink RX0 99 RX0 "nines" "I" ∈ zBIG := List.mem_append_left _ (List.mem_of_getElem? (i := 279) rfl)
set_option maxRecDepth 20000 in
theorem zw280 : Cond.code yX0_countSymbol cX0_countSymbol 3 (some .boolean) ∈ zBIG := List.mem_append_left _ (List.mem_of_getElem? (i := 280) rfl)
set_option maxRecDepth 20000 in
theorem zw281 : Cond.instanceMethod yX0_countSymbol ∈ zBIG := List.mem_append_left _ (List.mem_of_getElem? (i := 281) rfl)
set_option maxRecDepth 20000 in
theorem zw282 : Cond.methodLink RX0 105 yX0_countSymbol ∈ zBIG := List.mem_append_left _ (List.mem_of_getElem? (i := 282) rfl)
set_option maxRecDepth 20000 in
theorem zw283 : Cond.selects RX0 yX0_countSymbol yX0_countSymbol ∈ zBIG := List.mem_append_left _ (List.mem_of_getElem? (i := 283) rfl)
set_option maxRecDepth 20000 in
theorem zw284 : Cond.code yX0_isFloating cX0_isFloating 1 (some .boolean) ∈ zBIG := List.mem_append_left _ (List.mem_of_getElem? (i := 284) rfl)
set_option maxRecDepth 20000 in
theorem zw285 : Cond.instanceMethod yX0_isFloating ∈ zBIG := List.mem_append_left _ (List.mem_of_getElem? (i := 285) rfl)
set_option maxRecDepth 20000 in
theorem zw286 : Cond.methodLink RX0 111 yX0_isFloating ∈ zBIG := List.mem_append_left _ (List.mem_of_getElem? (i := 286) rfl)
set_option maxRecDepth 20000 in
theorem zw287 : Cond.selects RX0 yX0_isFloating yX0_isFloating ∈ zBIG := List.mem_append_left _ (List.mem_of_getElem? (i := 287) rfl)
set_option maxRecDepth 20000 in
theorem zw288 : Cond.sameField RX0 RX1 "before" "I" ∈ zBIG := List.mem_append_left _ (List.mem_of_getElem? (i := 288) rfl)
set_option maxRecDepth 20000 in
theorem zw289 : Cond.fieldLink RX0 74 RX0 "before" "I" ∈ zBIG := List.mem_append_left _ (List.mem_of_getElem? (i := 289) rfl)
set_option maxRecDepth 20000 in
theorem zw290 : Cond.sameField RX0 RX1 "behind" "I" ∈ zBIG := List.mem_append_left _ (List.mem_of_getElem? (i := 290) rfl)
set_option maxRecDepth 20000 in
theorem zw291 : Cond.fieldLink RX0 77 RX0 "behind" "I" ∈ zBIG := List.mem_append_left _ (List.mem_of_getElem? (i := 291) rfl)
set_option maxRecDepth 20000 in
theorem zw292 : Cond.code yX0_isDigitPlace cX0_isDigitPlace 2 (some .boolean) ∈ zBIG := List.mem_append_left _ (List.mem_of_getElem? (i := 292) rfl)
set_option maxRecDepth 20000 in
theorem zw293 : Cond.instanceMethod yX0_isDigitPlace ∈ zBIG := List.mem_append_left _ (List.mem_of_getElem? (i := 293) rfl)
set_option maxRecDepth 20000 in
theorem zw294 : Cond.methodLink RX0 114 yX0_isDigitPlace ∈ zBIG := List.mem_append_left _ (List.mem_of_getElem? (i := 294) rfl)
set_option maxRecDepth 20000 in
theorem zw295 : Cond.selects RX0 yX0_isDigitPlace yX0_isDigitPlace ∈ zBIG := List.mem_append_left _ (List.mem_of_getElem? (i := 295) rfl)
set_option maxRecDepth 20000 in
theorem zw296 : Cond.fieldLink RX0 15 RX0 "powers" "[I" ∈ zBIG := List.mem_append_left _ (List.mem_of_getElem? (i := 296) rfl)
set_option maxRecDepth 20000 in
theorem zw297 : Cond.code yX0_hasHiddenPoint cX0_hasHiddenPoint 1 (some .boolean) ∈ zBIG := List.mem_append_left _ (List.mem_of_getElem? (i := 297) rfl)
set_option maxRecDepth 20000 in
theorem zw298 : Cond.instanceMethod yX0_hasHiddenPoint ∈ zBIG := List.mem_append_left _ (List.mem_of_getElem? (i := 298) rfl)
set_option maxRecDepth 20000 in
theorem zw299 : Cond.methodLink RX0 65 yX0_hasHiddenPoint ∈ zBIG := List.mem_append_left _ (List.mem_of_getElem? (i := 299) rfl)
set_option maxRecDepth 20000 in
theorem zw300 : Cond.selects RX0 yX0_hasHiddenPoint yX0_hasHiddenPoint ∈ zBIG := List.mem_append_left _ (List.mem_of_getElem? (i := 300) rfl)
set_option maxRecDepth 20000 in
theorem zw301 : Cond.sameField RX0 RX1 "size" "I" ∈ zBIG := List.mem_append_left _ (List.mem_of_getElem? (i := 301) rfl)
set_option maxRecDepth 20000 in
theorem zw302 : Cond.fieldLink RX0 71 RX0 "size" "I" ∈ zBIG := List.mem_append_left _ (List.mem_of_getElem? (i := 302) rfl)
set_option maxRecDepth 20000 in
theorem zw303 : Cond.code yX0_isLetterSign cX0_isLetterSign 1 (some .boolean) ∈ zBIG := List.mem_append_left _ (List.mem_of_getElem? (i := 303) rfl)
set_option maxRecDepth 20000 in
theorem zw304 : Cond.instanceMethod yX0_isLetterSign ∈ zBIG := List.mem_append_left _ (List.mem_of_getElem? (i := 304) rfl)
set_option maxRecDepth 20000 in
theorem zw305 : Cond.methodLink RX0 68 yX0_isLetterSign ∈ zBIG := List.mem_append_left _ (List.mem_of_getElem? (i := 305) rfl)
set_option maxRecDepth 20000 in
theorem zw306 : Cond.selects RX0 yX0_isLetterSign yX0_isLetterSign ∈ zBIG := List.mem_append_left _ (List.mem_of_getElem? (i := 306) rfl)
set_option maxRecDepth 20000 in
theorem zw307 : Cond.sameField RX0 RX1 "bytes" "[I" ∈ zBIG := List.mem_append_left _ (List.mem_of_getElem? (i := 307) rfl)
set_option maxRecDepth 20000 in
theorem zw308 : Cond.fieldLink RX0 117 RX0 "bytes" "[I" ∈ zBIG := List.mem_append_left _ (List.mem_of_getElem? (i := 308) rfl)
set_option maxRecDepth 20000 in
theorem zw309 : Cond.code yX0_secondLetter cX0_secondLetter 1 (some .int) ∈ zBIG := List.mem_append_left _ (List.mem_of_getElem? (i := 309) rfl)
set_option maxRecDepth 20000 in
theorem zw310 : Cond.instanceMethod yX0_secondLetter ∈ zBIG := List.mem_append_left _ (List.mem_of_getElem? (i := 310) rfl)
set_option maxRecDepth 20000 in
theorem zw311 : Cond.methodLink RX0 132 yX0_secondLetter ∈ zBIG := List.mem_append_left _ (List.mem_of_getElem? (i := 311) rfl)
set_option maxRecDepth 20000 in
theorem zw312 : Cond.selects RX0 yX0_secondLetter yX0_secondLetter ∈ zBIG := List.mem_append_left _ (List.mem_of_getElem? (i := 312) rfl)
set_option maxRecDepth 20000 in
theorem zw313 : Cond.code yX0_isBelowZero cX0_isBelowZero 2 (some .boolean) ∈ zBIG := List.mem_append_left _ (List.mem_of_getElem? (i := 313) rfl)
set_option maxRecDepth 20000 in
theorem zw314 : Cond.instanceMethod yX0_isBelowZero ∈ zBIG := List.mem_append_left _ (List.mem_of_getElem? (i := 314) rfl)
set_option maxRecDepth 20000 in
theorem zw315 : Cond.methodLink RX0 129 yX0_isBelowZero ∈ zBIG := List.mem_append_left _ (List.mem_of_getElem? (i := 315) rfl)
set_option maxRecDepth 20000 in
theorem zw316 : Cond.selects RX0 yX0_isBelowZero yX0_isBelowZero ∈ zBIG := List.mem_append_left _ (List.mem_of_getElem? (i := 316) rfl)
set_option maxRecDepth 20000 in
theorem zw317 : Cond.code yX0_byteOf cX0_byteOf 2 (some .int) ∈ zBIG := List.mem_append_left _ (List.mem_of_getElem? (i := 317) rfl)
set_option maxRecDepth 20000 in
theorem zw318 : Cond.instanceMethod yX0_byteOf ∈ zBIG := List.mem_append_left _ (List.mem_of_getElem? (i := 318) rfl)
set_option maxRecDepth 20000 in
theorem zw319 : Cond.methodLink RX0 120 yX0_byteOf ∈ zBIG := List.mem_append_left _ (List.mem_of_getElem? (i := 319) rfl)
set_option maxRecDepth 20000 in
theorem zw320 : Cond.selects RX0 yX0_byteOf yX0_byteOf ∈ zBIG := List.mem_append_left _ (List.mem_of_getElem? (i := 320) rfl)
set_option maxRecDepth 20000 in
theorem zw321 : Cond.constantLong RX0 124 10 ∈ zBIG := List.mem_append_left _ (List.mem_of_getElem? (i := 321) rfl)
set_option maxRecDepth 20000 in
theorem zw322 : Cond.code yX0_suppressed cX0_suppressed 1 (some .int) ∈ zBIG := List.mem_append_left _ (List.mem_of_getElem? (i := 322) rfl)
set_option maxRecDepth 20000 in
theorem zw323 : Cond.instanceMethod yX0_suppressed ∈ zBIG := List.mem_append_left _ (List.mem_of_getElem? (i := 323) rfl)
set_option maxRecDepth 20000 in
theorem zw324 : Cond.methodLink RX0 170 yX0_suppressed ∈ zBIG := List.mem_append_left _ (List.mem_of_getElem? (i := 324) rfl)
set_option maxRecDepth 20000 in
theorem zw325 : Cond.selects RX0 yX0_suppressed yX0_suppressed ∈ zBIG := List.mem_append_left _ (List.mem_of_getElem? (i := 325) rfl)
set_option maxRecDepth 20000 in
theorem zw326 : Cond.code yX0_fixedCharacter cX0_fixedCharacter 2 (some .int) ∈ zBIG := List.mem_append_left _ (List.mem_of_getElem? (i := 326) rfl)
set_option maxRecDepth 20000 in
theorem zw327 : Cond.static yX0_fixedCharacter ∈ zBIG := List.mem_append_left _ (List.mem_of_getElem? (i := 327) rfl)
set_option maxRecDepth 20000 in
theorem zw328 : Cond.methodLink RX0 142 yX0_fixedCharacter ∈ zBIG := List.mem_append_left _ (List.mem_of_getElem? (i := 328) rfl)
set_option maxRecDepth 20000 in
theorem zw329 : Cond.methodLink RX0 25 arraycopyName ∈ zBIG := List.mem_append_left _ (List.mem_of_getElem? (i := 329) rfl)
set_option maxRecDepth 20000 in
theorem zw330 : Cond.native arraycopyName ∈ zBIG := List.mem_append_left _ (List.mem_of_getElem? (i := 330) rfl)
set_option maxRecDepth 20000 in
theorem zw331 : Cond.static arraycopyName ∈ zBIG := List.mem_append_left _ (List.mem_of_getElem? (i := 331) rfl)
set_option maxRecDepth 20000 in
theorem zw332 : Cond.initialized "java/lang/System" ∈ zBIG := List.mem_append_left _ (List.mem_of_getElem? (i := 332) rfl)
set_option maxRecDepth 20000 in
theorem zw333 : Cond.code yX0_takeApart cX0_takeApart 6 none ∈ zBIG := List.mem_append_left _ (List.mem_of_getElem? (i := 333) rfl)
set_option maxRecDepth 20000 in
theorem zw334 : Cond.instanceMethod yX0_takeApart ∈ zBIG := List.mem_append_left _ (List.mem_of_getElem? (i := 334) rfl)
set_option maxRecDepth 20000 in
theorem zw335 : Cond.methodLink RX0 31 yX0_takeApart ∈ zBIG := List.mem_append_left _ (List.mem_of_getElem? (i := 335) rfl)
set_option maxRecDepth 20000 in
theorem zw336 : Cond.selects RX0 yX0_takeApart yX0_takeApart ∈ zBIG := List.mem_append_left _ (List.mem_of_getElem? (i := 336) rfl)
set_option maxRecDepth 20000 in
theorem zw337 : Cond.code yX0_countBody cX0_countBody 3 (some .boolean) ∈ zBIG := List.mem_append_left _ (List.mem_of_getElem? (i := 337) rfl)
set_option maxRecDepth 20000 in
theorem zw338 : Cond.instanceMethod yX0_countBody ∈ zBIG := List.mem_append_left _ (List.mem_of_getElem? (i := 338) rfl)
set_option maxRecDepth 20000 in
theorem zw339 : Cond.methodLink RX0 35 yX0_countBody ∈ zBIG := List.mem_append_left _ (List.mem_of_getElem? (i := 339) rfl)
set_option maxRecDepth 20000 in
theorem zw340 : Cond.selects RX0 yX0_countBody yX0_countBody ∈ zBIG := List.mem_append_left _ (List.mem_of_getElem? (i := 340) rfl)
set_option maxRecDepth 20000 in
theorem zw341 : Cond.code yX0_signsAgree cX0_signsAgree 1 (some .boolean) ∈ zBIG := List.mem_append_left _ (List.mem_of_getElem? (i := 341) rfl)
set_option maxRecDepth 20000 in
theorem zw342 : Cond.instanceMethod yX0_signsAgree ∈ zBIG := List.mem_append_left _ (List.mem_of_getElem? (i := 342) rfl)
set_option maxRecDepth 20000 in
theorem zw343 : Cond.methodLink RX0 39 yX0_signsAgree ∈ zBIG := List.mem_append_left _ (List.mem_of_getElem? (i := 343) rfl)
set_option maxRecDepth 20000 in
theorem zw344 : Cond.selects RX0 yX0_signsAgree yX0_signsAgree ∈ zBIG := List.mem_append_left _ (List.mem_of_getElem? (i := 344) rfl)
set_option maxRecDepth 20000 in
theorem zw345 : Cond.code yX0_fillsStandRight cX0_fillsStandRight 4 (some .boolean) ∈ zBIG := List.mem_append_left _ (List.mem_of_getElem? (i := 345) rfl)
set_option maxRecDepth 20000 in
theorem zw346 : Cond.instanceMethod yX0_fillsStandRight ∈ zBIG := List.mem_append_left _ (List.mem_of_getElem? (i := 346) rfl)
set_option maxRecDepth 20000 in
theorem zw347 : Cond.methodLink RX0 42 yX0_fillsStandRight ∈ zBIG := List.mem_append_left _ (List.mem_of_getElem? (i := 347) rfl)
set_option maxRecDepth 20000 in
theorem zw348 : Cond.selects RX0 yX0_fillsStandRight yX0_fillsStandRight ∈ zBIG := List.mem_append_left _ (List.mem_of_getElem? (i := 348) rfl)
set_option maxRecDepth 20000 in
theorem zw349 : Cond.code yX0_placeDigits cX0_placeDigits 4 none ∈ zBIG := List.mem_append_left _ (List.mem_of_getElem? (i := 349) rfl)
set_option maxRecDepth 20000 in
theorem zw350 : Cond.instanceMethod yX0_placeDigits ∈ zBIG := List.mem_append_left _ (List.mem_of_getElem? (i := 350) rfl)
set_option maxRecDepth 20000 in
theorem zw351 : Cond.methodLink RX0 45 yX0_placeDigits ∈ zBIG := List.mem_append_left _ (List.mem_of_getElem? (i := 351) rfl)
set_option maxRecDepth 20000 in
theorem zw352 : Cond.selects RX0 yX0_placeDigits yX0_placeDigits ∈ zBIG := List.mem_append_left _ (List.mem_of_getElem? (i := 352) rfl)
set_option maxRecDepth 20000 in
theorem zw353 : Cond.sameField RX0 RX1 "signed" "Z" ∈ zBIG := List.mem_append_left _ (List.mem_of_getElem? (i := 353) rfl)
set_option maxRecDepth 20000 in
theorem zw354 : Cond.fieldLink RX0 61 RX0 "signed" "Z" ∈ zBIG := List.mem_append_left _ (List.mem_of_getElem? (i := 354) rfl)
set_option maxRecDepth 20000 in
theorem zw355 : Cond.code yX0_standsForMore cX0_standsForMore 5 (some .boolean) ∈ zBIG := List.mem_append_left _ (List.mem_of_getElem? (i := 355) rfl)
set_option maxRecDepth 20000 in
theorem zw356 : Cond.instanceMethod yX0_standsForMore ∈ zBIG := List.mem_append_left _ (List.mem_of_getElem? (i := 356) rfl)
set_option maxRecDepth 20000 in
theorem zw357 : Cond.methodLink RX0 162 yX0_standsForMore ∈ zBIG := List.mem_append_left _ (List.mem_of_getElem? (i := 357) rfl)
set_option maxRecDepth 20000 in
theorem zw358 : Cond.selects RX0 yX0_standsForMore yX0_standsForMore ∈ zBIG := List.mem_append_left _ (List.mem_of_getElem? (i := 358) rfl)
set_option maxRecDepth 20000 in
theorem zw359 : Cond.code yX0_leavesDigit cX0_leavesDigit 5 (some .boolean) ∈ zBIG := List.mem_append_left _ (List.mem_of_getElem? (i := 359) rfl)
set_option maxRecDepth 20000 in
theorem zw360 : Cond.instanceMethod yX0_leavesDigit ∈ zBIG := List.mem_append_left _ (List.mem_of_getElem? (i := 360) rfl)
set_option maxRecDepth 20000 in
theorem zw361 : Cond.methodLink RX0 135 yX0_leavesDigit ∈ zBIG := List.mem_append_left _ (List.mem_of_getElem? (i := 361) rfl)
set_option maxRecDepth 20000 in
theorem zw362 : Cond.selects RX0 yX0_leavesDigit yX0_leavesDigit ∈ zBIG := List.mem_append_left _ (List.mem_of_getElem? (i := 362) rfl)
set_option maxRecDepth 20000 in
theorem zw363 : Cond.code yX0_writeBody cX0_writeBody 5 none ∈ zBIG := List.mem_append_left _ (List.mem_of_getElem? (i := 363) rfl)
set_option maxRecDepth 20000 in
theorem zw364 : Cond.instanceMethod yX0_writeBody ∈ zBIG := List.mem_append_left _ (List.mem_of_getElem? (i := 364) rfl)
set_option maxRecDepth 20000 in
theorem zw365 : Cond.methodLink RX0 146 yX0_writeBody ∈ zBIG := List.mem_append_left _ (List.mem_of_getElem? (i := 365) rfl)
set_option maxRecDepth 20000 in
theorem zw366 : Cond.selects RX0 yX0_writeBody yX0_writeBody ∈ zBIG := List.mem_append_left _ (List.mem_of_getElem? (i := 366) rfl)
set_option maxRecDepth 20000 in
theorem zw367 : Cond.code yX0_zoneEnd cX0_zoneEnd 5 (some .int) ∈ zBIG := List.mem_append_left _ (List.mem_of_getElem? (i := 367) rfl)
set_option maxRecDepth 20000 in
theorem zw368 : Cond.instanceMethod yX0_zoneEnd ∈ zBIG := List.mem_append_left _ (List.mem_of_getElem? (i := 368) rfl)
set_option maxRecDepth 20000 in
theorem zw369 : Cond.methodLink RX0 150 yX0_zoneEnd ∈ zBIG := List.mem_append_left _ (List.mem_of_getElem? (i := 369) rfl)
set_option maxRecDepth 20000 in
theorem zw370 : Cond.selects RX0 yX0_zoneEnd yX0_zoneEnd ∈ zBIG := List.mem_append_left _ (List.mem_of_getElem? (i := 370) rfl)
set_option maxRecDepth 20000 in
theorem zw371 : Cond.code yX0_suppressZone cX0_suppressZone 4 none ∈ zBIG := List.mem_append_left _ (List.mem_of_getElem? (i := 371) rfl)
set_option maxRecDepth 20000 in
theorem zw372 : Cond.instanceMethod yX0_suppressZone ∈ zBIG := List.mem_append_left _ (List.mem_of_getElem? (i := 372) rfl)
set_option maxRecDepth 20000 in
theorem zw373 : Cond.methodLink RX0 154 yX0_suppressZone ∈ zBIG := List.mem_append_left _ (List.mem_of_getElem? (i := 373) rfl)
set_option maxRecDepth 20000 in
theorem zw374 : Cond.selects RX0 yX0_suppressZone yX0_suppressZone ∈ zBIG := List.mem_append_left _ (List.mem_of_getElem? (i := 374) rfl)
set_option maxRecDepth 20000 in
theorem zw375 : Cond.code yX0_writeTrailing cX0_writeTrailing 2 none ∈ zBIG := List.mem_append_left _ (List.mem_of_getElem? (i := 375) rfl)
set_option maxRecDepth 20000 in
theorem zw376 : Cond.instanceMethod yX0_writeTrailing ∈ zBIG := List.mem_append_left _ (List.mem_of_getElem? (i := 376) rfl)
set_option maxRecDepth 20000 in
theorem zw377 : Cond.methodLink RX0 158 yX0_writeTrailing ∈ zBIG := List.mem_append_left _ (List.mem_of_getElem? (i := 377) rfl)
set_option maxRecDepth 20000 in
theorem zw378 : Cond.selects RX0 yX0_writeTrailing yX0_writeTrailing ∈ zBIG := List.mem_append_left _ (List.mem_of_getElem? (i := 378) rfl)
set_option maxRecDepth 20000 in
theorem zw379 : Cond.code yX0_suppressAll cX0_suppressAll 2 none ∈ zBIG := List.mem_append_left _ (List.mem_of_getElem? (i := 379) rfl)
set_option maxRecDepth 20000 in
theorem zw380 : Cond.instanceMethod yX0_suppressAll ∈ zBIG := List.mem_append_left _ (List.mem_of_getElem? (i := 380) rfl)
set_option maxRecDepth 20000 in
theorem zw381 : Cond.methodLink RX0 139 yX0_suppressAll ∈ zBIG := List.mem_append_left _ (List.mem_of_getElem? (i := 381) rfl)
set_option maxRecDepth 20000 in
theorem zw382 : Cond.selects RX0 yX0_suppressAll yX0_suppressAll ∈ zBIG := List.mem_append_left _ (List.mem_of_getElem? (i := 382) rfl)
set_option maxRecDepth 20000 in
theorem zw383 : Cond.fieldLink RX1 27 RX1 "size" "I" ∈ zBIG := List.mem_append_left _ (List.mem_of_getElem? (i := 383) rfl)
set_option maxRecDepth 20000 in
theorem zw384 : Cond.code yX2_takeNumber cX2_takeNumber 7 (some .boolean) ∈ zBIG := List.mem_append_left _ (List.mem_of_getElem? (i := 384) rfl)
set_option maxRecDepth 20000 in
theorem zw385 : Cond.instanceMethod yX2_takeNumber ∈ zBIG := List.mem_append_left _ (List.mem_of_getElem? (i := 385) rfl)
set_option maxRecDepth 20000 in
theorem zw386 : Cond.methodLink RX1 23 ⟨RX1, "takeNumber", "(JI)Z"⟩ ∈ zBIG := List.mem_append_left _ (List.mem_of_getElem? (i := 386) rfl)
set_option maxRecDepth 20000 in
theorem zw387 : Cond.sameMethod RX1 RX1 "takeNumber" "(JI)Z" ∈ zBIG := List.mem_append_left _ (List.mem_of_getElem? (i := 387) rfl)
set_option maxRecDepth 20000 in
theorem zw388 : Cond.selects RX2 ⟨RX1, "takeNumber", "(JI)Z"⟩ yX2_takeNumber ∈ zBIG := List.mem_append_left _ (List.mem_of_getElem? (i := 388) rfl)
set_option maxRecDepth 20000 in
theorem zw389 : Cond.code yX0_takeNumber cX0_takeNumber 7 (some .boolean) ∈ zBIG := List.mem_append_left _ (List.mem_of_getElem? (i := 389) rfl)
set_option maxRecDepth 20000 in
theorem zw390 : Cond.instanceMethod yX0_takeNumber ∈ zBIG := List.mem_append_left _ (List.mem_of_getElem? (i := 390) rfl)
set_option maxRecDepth 20000 in
theorem zw391 : Cond.selects RX0 ⟨RX1, "takeNumber", "(JI)Z"⟩ yX0_takeNumber ∈ zBIG := List.mem_append_left _ (List.mem_of_getElem? (i := 391) rfl)
set_option maxRecDepth 20000 in
theorem zw392 : Cond.code yX2_number cX2_number 4 (some .long) ∈ zBIG := List.mem_append_left _ (List.mem_of_getElem? (i := 392) rfl)
set_option maxRecDepth 20000 in
theorem zw393 : Cond.instanceMethod yX2_number ∈ zBIG := List.mem_append_left _ (List.mem_of_getElem? (i := 393) rfl)
set_option maxRecDepth 20000 in
theorem zw394 : Cond.methodLink RX2 85 yX2_number ∈ zBIG := List.mem_append_left _ (List.mem_of_getElem? (i := 394) rfl)
set_option maxRecDepth 20000 in
theorem zw395 : Cond.selects RX2 yX2_number yX2_number ∈ zBIG := List.mem_append_left _ (List.mem_of_getElem? (i := 395) rfl)
set_option maxRecDepth 20000 in
theorem zw396 : Cond.fieldLink RX1 9 RX1 "bytes" "[I" ∈ zBIG := List.mem_append_left _ (List.mem_of_getElem? (i := 396) rfl)
set_option maxRecDepth 20000 in
theorem zw397 : Cond.methodLink RX1 15 ⟨RX1, "number", "()J"⟩ ∈ zBIG := List.mem_append_left _ (List.mem_of_getElem? (i := 397) rfl)
set_option maxRecDepth 20000 in
theorem zw398 : Cond.sameMethod RX1 RX1 "number" "()J" ∈ zBIG := List.mem_append_left _ (List.mem_of_getElem? (i := 398) rfl)
set_option maxRecDepth 20000 in
theorem zw399 : Cond.selects RX2 ⟨RX1, "number", "()J"⟩ yX2_number ∈ zBIG := List.mem_append_left _ (List.mem_of_getElem? (i := 399) rfl)
set_option maxRecDepth 20000 in
theorem zw400 : Cond.fieldLink RX1 19 RX1 "behind" "I" ∈ zBIG := List.mem_append_left _ (List.mem_of_getElem? (i := 400) rfl)
set_option maxRecDepth 20000 in
theorem zw401 : Cond.code yX4_number cX4_number 4 (some .long) ∈ zBIG := List.mem_append_left _ (List.mem_of_getElem? (i := 401) rfl)
set_option maxRecDepth 20000 in
theorem zw402 : Cond.initialized RX4 ∈ zBIG := List.mem_append_left _ (List.mem_of_getElem? (i := 402) rfl)
set_option maxRecDepth 20000 in
theorem zw403 : Cond.instanceMethod yX4_number ∈ zBIG := List.mem_append_left _ (List.mem_of_getElem? (i := 403) rfl)
set_option maxRecDepth 20000 in
theorem zw404 : Cond.selects RX4 ⟨RX1, "number", "()J"⟩ yX4_number ∈ zBIG := List.mem_append_left _ (List.mem_of_getElem? (i := 404) rfl)
set_option maxRecDepth 20000 in
theorem zw405 : Cond.code yX0_number cX0_number 5 (some .long) ∈ zBIG := List.mem_append_left _ (List.mem_of_getElem? (i := 405) rfl)
set_option maxRecDepth 20000 in
theorem zw406 : Cond.instanceMethod yX0_number ∈ zBIG := List.mem_append_left _ (List.mem_of_getElem? (i := 406) rfl)
set_option maxRecDepth 20000 in
theorem zw407 : Cond.selects RX0 ⟨RX1, "number", "()J"⟩ yX0_number ∈ zBIG := List.mem_append_left _ (List.mem_of_getElem? (i := 407) rfl)
set_option maxRecDepth 20000 in
theorem zw408 : Cond.code yX1_spell cX1_spell 4 (some .boolean) ∈ zBIG := List.mem_append_left _ (List.mem_of_getElem? (i := 408) rfl)
set_option maxRecDepth 20000 in
theorem zw409 : Cond.initialized RX1 ∈ zBIG := List.mem_append_left _ (List.mem_of_getElem? (i := 409) rfl)
set_option maxRecDepth 20000 in
theorem zw410 : Cond.instanceMethod yX1_spell ∈ zBIG := List.mem_append_left _ (List.mem_of_getElem? (i := 410) rfl)
set_option maxRecDepth 20000 in
theorem zw411 : Cond.methodLink RX4 39 ⟨RX1, "spell", "([II)Z"⟩ ∈ zBIG := List.mem_append_left _ (List.mem_of_getElem? (i := 411) rfl)
set_option maxRecDepth 20000 in
theorem zw412 : Cond.sameMethod RX1 RX1 "spell" "([II)Z" ∈ zBIG := List.mem_append_left _ (List.mem_of_getElem? (i := 412) rfl)
set_option maxRecDepth 20000 in
theorem zw413 : Cond.selects RX4 ⟨RX1, "spell", "([II)Z"⟩ yX1_spell ∈ zBIG := List.mem_append_left _ (List.mem_of_getElem? (i := 413) rfl)
set_option maxRecDepth 20000 in
theorem zw414 : Cond.code yX2_spell cX2_spell 6 (some .boolean) ∈ zBIG := List.mem_append_left _ (List.mem_of_getElem? (i := 414) rfl)
set_option maxRecDepth 20000 in
theorem zw415 : Cond.instanceMethod yX2_spell ∈ zBIG := List.mem_append_left _ (List.mem_of_getElem? (i := 415) rfl)
set_option maxRecDepth 20000 in
theorem zw416 : Cond.selects RX2 ⟨RX1, "spell", "([II)Z"⟩ yX2_spell ∈ zBIG := List.mem_append_left _ (List.mem_of_getElem? (i := 416) rfl)
set_option maxRecDepth 20000 in
theorem zw417 : Cond.selects RX0 ⟨RX1, "spell", "([II)Z"⟩ yX1_spell ∈ zBIG := List.mem_append_left _ (List.mem_of_getElem? (i := 417) rfl)
set_option maxRecDepth 20000 in
theorem zw418 : Cond.fieldLink RX5 13 RX5 "typedCount" "I" ∈ zBIG := List.mem_append_left _ (List.mem_of_getElem? (i := 418) rfl)
set_option maxRecDepth 20000 in
theorem zw419 : Cond.fieldLink RX5 9 RX5 "typed" "[I" ∈ zBIG := List.mem_append_left _ (List.mem_of_getElem? (i := 419) rfl)
set_option maxRecDepth 20000 in
theorem zw420 : Cond.fieldLink RX5 48 RX5 "declaredCount" "I" ∈ zBIG := List.mem_append_left _ (List.mem_of_getElem? (i := 420) rfl)
set_option maxRecDepth 20000 in
theorem zw421 : Cond.fieldLink RX5 44 RX5 "declared" "[LPictureFields$Field;" ∈ zBIG := List.mem_append_left _ (List.mem_of_getElem? (i := 421) rfl)
set_option maxRecDepth 20000 in
theorem zw422 : Cond.code yX5_existing cX5_existing 3 (some (.object "PictureFields$Field")) ∈ zBIG := List.mem_append_left _ (List.mem_of_getElem? (i := 422) rfl)
set_option maxRecDepth 20000 in
theorem zw423 : Cond.instanceMethod yX5_existing ∈ zBIG := List.mem_append_left _ (List.mem_of_getElem? (i := 423) rfl)
set_option maxRecDepth 20000 in
theorem zw424 : Cond.methodLink RX5 77 yX5_existing ∈ zBIG := List.mem_append_left _ (List.mem_of_getElem? (i := 424) rfl)
set_option maxRecDepth 20000 in
theorem zw425 : Cond.selects RX5 yX5_existing yX5_existing ∈ zBIG := List.mem_append_left _ (List.mem_of_getElem? (i := 425) rfl)
set_option maxRecDepth 20000 in
theorem zw426 : Cond.methodLink RX5 131 ⟨RX1, "number", "()J"⟩ ∈ zBIG := List.mem_append_left _ (List.mem_of_getElem? (i := 426) rfl)
set_option maxRecDepth 20000 in
theorem zw427 : Cond.code yX2_kind cX2_kind 1 (some .int) ∈ zBIG := List.mem_append_left _ (List.mem_of_getElem? (i := 427) rfl)
set_option maxRecDepth 20000 in
theorem zw428 : Cond.instanceMethod yX2_kind ∈ zBIG := List.mem_append_left _ (List.mem_of_getElem? (i := 428) rfl)
set_option maxRecDepth 20000 in
theorem zw429 : Cond.methodLink RX5 81 ⟨RX1, "kind", "()I"⟩ ∈ zBIG := List.mem_append_left _ (List.mem_of_getElem? (i := 429) rfl)
set_option maxRecDepth 20000 in
theorem zw430 : Cond.sameMethod RX1 RX1 "kind" "()I" ∈ zBIG := List.mem_append_left _ (List.mem_of_getElem? (i := 430) rfl)
set_option maxRecDepth 20000 in
theorem zw431 : Cond.selects RX2 ⟨RX1, "kind", "()I"⟩ yX2_kind ∈ zBIG := List.mem_append_left _ (List.mem_of_getElem? (i := 431) rfl)
set_option maxRecDepth 20000 in
theorem zw432 : Cond.fieldLink RX5 85 RX1 "size" "I" ∈ zBIG := List.mem_append_left _ (List.mem_of_getElem? (i := 432) rfl)
set_option maxRecDepth 20000 in
theorem zw433 : Cond.fieldLink RX5 88 RX1 "before" "I" ∈ zBIG := List.mem_append_left _ (List.mem_of_getElem? (i := 433) rfl)
set_option maxRecDepth 20000 in
theorem zw434 : Cond.fieldLink RX5 91 RX1 "behind" "I" ∈ zBIG := List.mem_append_left _ (List.mem_of_getElem? (i := 434) rfl)
set_option maxRecDepth 20000 in
theorem zw435 : Cond.fieldLink RX5 94 RX1 "signed" "Z" ∈ zBIG := List.mem_append_left _ (List.mem_of_getElem? (i := 435) rfl)
set_option maxRecDepth 20000 in
theorem zw436 : Cond.code yX1_hasByte cX1_hasByte 2 (some .boolean) ∈ zBIG := List.mem_append_left _ (List.mem_of_getElem? (i := 436) rfl)
set_option maxRecDepth 20000 in
theorem zw437 : Cond.instanceMethod yX1_hasByte ∈ zBIG := List.mem_append_left _ (List.mem_of_getElem? (i := 437) rfl)
set_option maxRecDepth 20000 in
theorem zw438 : Cond.methodLink RX5 100 ⟨RX1, "hasByte", "(I)Z"⟩ ∈ zBIG := List.mem_append_left _ (List.mem_of_getElem? (i := 438) rfl)
set_option maxRecDepth 20000 in
theorem zw439 : Cond.sameMethod RX1 RX1 "hasByte" "(I)Z" ∈ zBIG := List.mem_append_left _ (List.mem_of_getElem? (i := 439) rfl)
set_option maxRecDepth 20000 in
theorem zw440 : Cond.selects RX2 ⟨RX1, "hasByte", "(I)Z"⟩ yX1_hasByte ∈ zBIG := List.mem_append_left _ (List.mem_of_getElem? (i := 440) rfl)
set_option maxRecDepth 20000 in
theorem zw441 : Cond.fieldLink RX5 109 RX1 "bytes" "[I" ∈ zBIG := List.mem_append_left _ (List.mem_of_getElem? (i := 441) rfl)
set_option maxRecDepth 20000 in
theorem zw442 : Cond.methodLink RX5 116 ⟨RX1, "takeNumber", "(JI)Z"⟩ ∈ zBIG := List.mem_append_left _ (List.mem_of_getElem? (i := 442) rfl)
set_option maxRecDepth 20000 in
theorem zw443 : Cond.code yX4_kind cX4_kind 1 (some .int) ∈ zBIG := List.mem_append_left _ (List.mem_of_getElem? (i := 443) rfl)
set_option maxRecDepth 20000 in
theorem zw444 : Cond.instanceMethod yX4_kind ∈ zBIG := List.mem_append_left _ (List.mem_of_getElem? (i := 444) rfl)
set_option maxRecDepth 20000 in
theorem zw445 : Cond.selects RX4 ⟨RX1, "kind", "()I"⟩ yX4_kind ∈ zBIG := List.mem_append_left _ (List.mem_of_getElem? (i := 445) rfl)
set_option maxRecDepth 20000 in
theorem zw446 : Cond.selects RX4 ⟨RX1, "hasByte", "(I)Z"⟩ yX1_hasByte ∈ zBIG := List.mem_append_left _ (List.mem_of_getElem? (i := 446) rfl)
set_option maxRecDepth 20000 in
theorem zw447 : Cond.code yX0_kind cX0_kind 1 (some .int) ∈ zBIG := List.mem_append_left _ (List.mem_of_getElem? (i := 447) rfl)
set_option maxRecDepth 20000 in
theorem zw448 : Cond.instanceMethod yX0_kind ∈ zBIG := List.mem_append_left _ (List.mem_of_getElem? (i := 448) rfl)
set_option maxRecDepth 20000 in
theorem zw449 : Cond.selects RX0 ⟨RX1, "kind", "()I"⟩ yX0_kind ∈ zBIG := List.mem_append_left _ (List.mem_of_getElem? (i := 449) rfl)
set_option maxRecDepth 20000 in
theorem zw450 : Cond.selects RX0 ⟨RX1, "hasByte", "(I)Z"⟩ yX1_hasByte ∈ zBIG := List.mem_append_left _ (List.mem_of_getElem? (i := 450) rfl)
set_option maxRecDepth 20000 in
theorem zw451 : Cond.code yX1_takeField cX1_takeField 2 (some .boolean) ∈ zBIG := List.mem_append_left _ (List.mem_of_getElem? (i := 451) rfl)
set_option maxRecDepth 20000 in
theorem zw452 : Cond.instanceMethod yX1_takeField ∈ zBIG := List.mem_append_left _ (List.mem_of_getElem? (i := 452) rfl)
set_option maxRecDepth 20000 in
theorem zw453 : Cond.methodLink RX5 125 ⟨RX1, "takeField", "(LPictureFields$Field;)Z"⟩ ∈ zBIG := List.mem_append_left _ (List.mem_of_getElem? (i := 453) rfl)
set_option maxRecDepth 20000 in
theorem zw454 : Cond.sameMethod RX1 RX1 "takeField" "(LPictureFields$Field;)Z" ∈ zBIG := List.mem_append_left _ (List.mem_of_getElem? (i := 454) rfl)
set_option maxRecDepth 20000 in
theorem zw455 : Cond.selects RX2 ⟨RX1, "takeField", "(LPictureFields$Field;)Z"⟩ yX1_takeField ∈ zBIG := List.mem_append_left _ (List.mem_of_getElem? (i := 455) rfl)
set_option maxRecDepth 20000 in
theorem zw456 : Cond.code yX4_takeField cX4_takeField 2 (some .boolean) ∈ zBIG := List.mem_append_left _ (List.mem_of_getElem? (i := 456) rfl)
set_option maxRecDepth 20000 in
theorem zw457 : Cond.instanceMethod yX4_takeField ∈ zBIG := List.mem_append_left _ (List.mem_of_getElem? (i := 457) rfl)
set_option maxRecDepth 20000 in
theorem zw458 : Cond.selects RX4 ⟨RX1, "takeField", "(LPictureFields$Field;)Z"⟩ yX4_takeField ∈ zBIG := List.mem_append_left _ (List.mem_of_getElem? (i := 458) rfl)
set_option maxRecDepth 20000 in
theorem zw459 : Cond.selects RX0 ⟨RX1, "takeField", "(LPictureFields$Field;)Z"⟩ yX1_takeField ∈ zBIG := List.mem_append_left _ (List.mem_of_getElem? (i := 459) rfl)
set_option maxRecDepth 20000 in
theorem zw460 : Cond.fieldLink RX5 26 RX5 "numbers" "[LPictureFields$NumberField;" ∈ zBIG := List.mem_append_left _ (List.mem_of_getElem? (i := 460) rfl)
set_option maxRecDepth 20000 in
theorem zw461 : Cond.fieldLink RX5 20 RX5 "symbols" "LPictureFields$Symbols;" ∈ zBIG := List.mem_append_left _ (List.mem_of_getElem? (i := 461) rfl)
set_option maxRecDepth 20000 in
theorem zw462 : Cond.code yX2_fits cX2_fits 4 (some .boolean) ∈ zBIG := List.mem_append_left _ (List.mem_of_getElem? (i := 462) rfl)
set_option maxRecDepth 20000 in
theorem zw463 : Cond.instanceMethod yX2_fits ∈ zBIG := List.mem_append_left _ (List.mem_of_getElem? (i := 463) rfl)
set_option maxRecDepth 20000 in
theorem zw464 : Cond.methodLink RX5 137 yX2_fits ∈ zBIG := List.mem_append_left _ (List.mem_of_getElem? (i := 464) rfl)
set_option maxRecDepth 20000 in
theorem zw465 : Cond.selects RX2 yX2_fits yX2_fits ∈ zBIG := List.mem_append_left _ (List.mem_of_getElem? (i := 465) rfl)
set_option maxRecDepth 20000 in
theorem zw466 : Cond.fieldLink RX5 32 RX5 "texts" "[LPictureFields$TextField;" ∈ zBIG := List.mem_append_left _ (List.mem_of_getElem? (i := 466) rfl)
set_option maxRecDepth 20000 in
theorem zw467 : Cond.code yX4_fits cX4_fits 5 (some .boolean) ∈ zBIG := List.mem_append_left _ (List.mem_of_getElem? (i := 467) rfl)
set_option maxRecDepth 20000 in
theorem zw468 : Cond.instanceMethod yX4_fits ∈ zBIG := List.mem_append_left _ (List.mem_of_getElem? (i := 468) rfl)
set_option maxRecDepth 20000 in
theorem zw469 : Cond.methodLink RX5 144 yX4_fits ∈ zBIG := List.mem_append_left _ (List.mem_of_getElem? (i := 469) rfl)
set_option maxRecDepth 20000 in
theorem zw470 : Cond.selects RX4 yX4_fits yX4_fits ∈ zBIG := List.mem_append_left _ (List.mem_of_getElem? (i := 470) rfl)
set_option maxRecDepth 20000 in
theorem zw471 : Cond.fieldLink RX5 38 RX5 "editeds" "[LPictureFields$EditedField;" ∈ zBIG := List.mem_append_left _ (List.mem_of_getElem? (i := 471) rfl)
set_option maxRecDepth 20000 in
theorem zw472 : Cond.code yX0_fits cX0_fits 2 (some .boolean) ∈ zBIG := List.mem_append_left _ (List.mem_of_getElem? (i := 472) rfl)
set_option maxRecDepth 20000 in
theorem zw473 : Cond.instanceMethod yX0_fits ∈ zBIG := List.mem_append_left _ (List.mem_of_getElem? (i := 473) rfl)
set_option maxRecDepth 20000 in
theorem zw474 : Cond.methodLink RX5 145 yX0_fits ∈ zBIG := List.mem_append_left _ (List.mem_of_getElem? (i := 474) rfl)
set_option maxRecDepth 20000 in
theorem zw475 : Cond.selects RX0 yX0_fits yX0_fits ∈ zBIG := List.mem_append_left _ (List.mem_of_getElem? (i := 475) rfl)
set_option maxRecDepth 20000 in
theorem zw476 : Cond.code yX2_takesUsage cX2_takesUsage 2 (some .boolean) ∈ zBIG := List.mem_append_left _ (List.mem_of_getElem? (i := 476) rfl)
set_option maxRecDepth 20000 in
theorem zw477 : Cond.instanceMethod yX2_takesUsage ∈ zBIG := List.mem_append_left _ (List.mem_of_getElem? (i := 477) rfl)
set_option maxRecDepth 20000 in
theorem zw478 : Cond.methodLink RX5 141 yX2_takesUsage ∈ zBIG := List.mem_append_left _ (List.mem_of_getElem? (i := 478) rfl)
set_option maxRecDepth 20000 in
theorem zw479 : Cond.selects RX2 yX2_takesUsage yX2_takesUsage ∈ zBIG := List.mem_append_left _ (List.mem_of_getElem? (i := 479) rfl)
set_option maxRecDepth 20000 in
theorem zw480 : Cond.code yX3_expand cX3_expand 5 (some .boolean) ∈ zBIG := List.mem_append_left _ (List.mem_of_getElem? (i := 480) rfl)
set_option maxRecDepth 20000 in
theorem zw481 : Cond.instanceMethod yX3_expand ∈ zBIG := List.mem_append_left _ (List.mem_of_getElem? (i := 481) rfl)
set_option maxRecDepth 20000 in
theorem zw482 : Cond.methodLink RX5 61 yX3_expand ∈ zBIG := List.mem_append_left _ (List.mem_of_getElem? (i := 482) rfl)
set_option maxRecDepth 20000 in
theorem zw483 : Cond.selects RX3 yX3_expand yX3_expand ∈ zBIG := List.mem_append_left _ (List.mem_of_getElem? (i := 483) rfl)
set_option maxRecDepth 20000 in
theorem zw484 : Cond.code yX5_fittingField cX5_fittingField 3 (some (.object "PictureFields$Field")) ∈ zBIG := List.mem_append_left _ (List.mem_of_getElem? (i := 484) rfl)
set_option maxRecDepth 20000 in
theorem zw485 : Cond.instanceMethod yX5_fittingField ∈ zBIG := List.mem_append_left _ (List.mem_of_getElem? (i := 485) rfl)
set_option maxRecDepth 20000 in
theorem zw486 : Cond.methodLink RX5 65 yX5_fittingField ∈ zBIG := List.mem_append_left _ (List.mem_of_getElem? (i := 486) rfl)
set_option maxRecDepth 20000 in
theorem zw487 : Cond.selects RX5 yX5_fittingField yX5_fittingField ∈ zBIG := List.mem_append_left _ (List.mem_of_getElem? (i := 487) rfl)
set_option maxRecDepth 20000 in
theorem zw488 : Cond.code yX1_empty cX1_empty 1 none ∈ zBIG := List.mem_append_left _ (List.mem_of_getElem? (i := 488) rfl)
set_option maxRecDepth 20000 in
theorem zw489 : Cond.instanceMethod yX1_empty ∈ zBIG := List.mem_append_left _ (List.mem_of_getElem? (i := 489) rfl)
set_option maxRecDepth 20000 in
theorem zw490 : Cond.methodLink RX5 74 ⟨RX1, "empty", "()V"⟩ ∈ zBIG := List.mem_append_left _ (List.mem_of_getElem? (i := 490) rfl)
set_option maxRecDepth 20000 in
theorem zw491 : Cond.sameMethod RX1 RX1 "empty" "()V" ∈ zBIG := List.mem_append_left _ (List.mem_of_getElem? (i := 491) rfl)
set_option maxRecDepth 20000 in
theorem zw492 : Cond.selects RX2 ⟨RX1, "empty", "()V"⟩ yX1_empty ∈ zBIG := List.mem_append_left _ (List.mem_of_getElem? (i := 492) rfl)
set_option maxRecDepth 20000 in
theorem zw493 : Cond.code yX4_empty cX4_empty 2 none ∈ zBIG := List.mem_append_left _ (List.mem_of_getElem? (i := 493) rfl)
set_option maxRecDepth 20000 in
theorem zw494 : Cond.instanceMethod yX4_empty ∈ zBIG := List.mem_append_left _ (List.mem_of_getElem? (i := 494) rfl)
set_option maxRecDepth 20000 in
theorem zw495 : Cond.selects RX4 ⟨RX1, "empty", "()V"⟩ yX4_empty ∈ zBIG := List.mem_append_left _ (List.mem_of_getElem? (i := 495) rfl)
set_option maxRecDepth 20000 in
theorem zw496 : Cond.selects RX0 ⟨RX1, "empty", "()V"⟩ yX1_empty ∈ zBIG := List.mem_append_left _ (List.mem_of_getElem? (i := 496) rfl)
set_option maxRecDepth 20000 in
theorem zw497 : Cond.classLink RX5 104 "java/util/NoSuchElementException" ∈ zBIG := List.mem_append_left _ (List.mem_of_getElem? (i := 497) rfl)
set_option maxRecDepth 20000 in
theorem zw498 : Cond.initialized "java/util/NoSuchElementException" ∈ zBIG := List.mem_append_left _ (List.mem_of_getElem? (i := 498) rfl)
set_option maxRecDepth 20000 in
theorem zw499 : Cond.classLink RX5 69 "java/lang/IllegalArgumentException" ∈ zBIG := List.mem_append_left _ (List.mem_of_getElem? (i := 499) rfl)
set_option maxRecDepth 20000 in
theorem zw500 : Cond.initialized "java/lang/IllegalArgumentException" ∈ zBIG := List.mem_append_left _ (List.mem_of_getElem? (i := 500) rfl)
set_option maxRecDepth 20000 in
theorem zw501 : Cond.code yX4_takeNumber cX4_takeNumber 4 (some .boolean) ∈ zBIG := List.mem_append_left _ (List.mem_of_getElem? (i := 501) rfl)
set_option maxRecDepth 20000 in
theorem zw502 : Cond.instanceMethod yX4_takeNumber ∈ zBIG := List.mem_append_left _ (List.mem_of_getElem? (i := 502) rfl)
set_option maxRecDepth 20000 in
theorem zw503 : Cond.selects RX4 ⟨RX1, "takeNumber", "(JI)Z"⟩ yX4_takeNumber ∈ zBIG := List.mem_append_left _ (List.mem_of_getElem? (i := 503) rfl)
set_option maxRecDepth 20000 in
theorem zw504 : Cond.classLink RX5 120 "java/lang/UnsupportedOperationException" ∈ zBIG := List.mem_append_left _ (List.mem_of_getElem? (i := 504) rfl)
set_option maxRecDepth 20000 in
theorem zw505 : Cond.initialized "java/lang/UnsupportedOperationException" ∈ zBIG := List.mem_append_left _ (List.mem_of_getElem? (i := 505) rfl)
set_option maxRecDepth 20000 in
theorem zw506 : Cond.classLink RX5 54 "java/lang/IllegalStateException" ∈ zBIG := List.mem_append_left _ (List.mem_of_getElem? (i := 506) rfl)
set_option maxRecDepth 20000 in
theorem zw507 : Cond.initialized "java/lang/IllegalStateException" ∈ zBIG := List.mem_append_left _ (List.mem_of_getElem? (i := 507) rfl)
set_option maxRecDepth 20000 in
theorem zw508 : Cond.code yX5_declare cX5_declare 4 (some .int) ∈ zBIG := List.mem_append_left _ (List.mem_of_getElem? (i := 508) rfl)
set_option maxRecDepth 20000 in
theorem zw509 : Cond.instanceMethod yX5_declare ∈ zBIG := List.mem_append_left _ (List.mem_of_getElem? (i := 509) rfl)
set_option maxRecDepth 20000 in
theorem zw510 : Cond.methodLink RL 7 yX5_declare ∈ zBIG := List.mem_append_left _ (List.mem_of_getElem? (i := 510) rfl)
set_option maxRecDepth 20000 in
theorem zw511 : Cond.selects RX5 yX5_declare yX5_declare ∈ zBIG := List.mem_append_left _ (List.mem_of_getElem? (i := 511) rfl)
set_option maxRecDepth 20000 in
theorem zw512 : Cond.classLink RL 13 "java/lang/IllegalStateException" ∈ zBIG := List.mem_append_left _ (List.mem_of_getElem? (i := 512) rfl)
set_option maxRecDepth 20000 in
theorem zw513 : Cond.classLink RL 15 "java/lang/IllegalArgumentException" ∈ zBIG := List.mem_append_left _ (List.mem_of_getElem? (i := 513) rfl)
set_option maxRecDepth 20000 in
theorem zw514 : Cond.code yX5_look cX5_look 4 (some .int) ∈ zBIG := List.mem_append_left _ (List.mem_of_getElem? (i := 514) rfl)
set_option maxRecDepth 20000 in
theorem zw515 : Cond.instanceMethod yX5_look ∈ zBIG := List.mem_append_left _ (List.mem_of_getElem? (i := 515) rfl)
set_option maxRecDepth 20000 in
theorem zw516 : Cond.methodLink RL 17 yX5_look ∈ zBIG := List.mem_append_left _ (List.mem_of_getElem? (i := 516) rfl)
set_option maxRecDepth 20000 in
theorem zw517 : Cond.selects RX5 yX5_look yX5_look ∈ zBIG := List.mem_append_left _ (List.mem_of_getElem? (i := 517) rfl)
set_option maxRecDepth 20000 in
theorem zw518 : Cond.code yX5_get cX5_get 4 (some .int) ∈ zBIG := List.mem_append_left _ (List.mem_of_getElem? (i := 518) rfl)
set_option maxRecDepth 20000 in
theorem zw519 : Cond.instanceMethod yX5_get ∈ zBIG := List.mem_append_left _ (List.mem_of_getElem? (i := 519) rfl)
set_option maxRecDepth 20000 in
theorem zw520 : Cond.methodLink RL 23 yX5_get ∈ zBIG := List.mem_append_left _ (List.mem_of_getElem? (i := 520) rfl)
set_option maxRecDepth 20000 in
theorem zw521 : Cond.selects RX5 yX5_get yX5_get ∈ zBIG := List.mem_append_left _ (List.mem_of_getElem? (i := 521) rfl)
set_option maxRecDepth 20000 in
theorem zw522 : Cond.code yX5_set cX5_set 5 none ∈ zBIG := List.mem_append_left _ (List.mem_of_getElem? (i := 522) rfl)
set_option maxRecDepth 20000 in
theorem zw523 : Cond.instanceMethod yX5_set ∈ zBIG := List.mem_append_left _ (List.mem_of_getElem? (i := 523) rfl)
set_option maxRecDepth 20000 in
theorem zw524 : Cond.methodLink RL 26 yX5_set ∈ zBIG := List.mem_append_left _ (List.mem_of_getElem? (i := 524) rfl)
set_option maxRecDepth 20000 in
theorem zw525 : Cond.selects RX5 yX5_set yX5_set ∈ zBIG := List.mem_append_left _ (List.mem_of_getElem? (i := 525) rfl)
set_option maxRecDepth 20000 in
theorem zw526 : Cond.code yX5_value cX5_value 2 (some .long) ∈ zBIG := List.mem_append_left _ (List.mem_of_getElem? (i := 526) rfl)
set_option maxRecDepth 20000 in
theorem zw527 : Cond.instanceMethod yX5_value ∈ zBIG := List.mem_append_left _ (List.mem_of_getElem? (i := 527) rfl)
set_option maxRecDepth 20000 in
theorem zw528 : Cond.methodLink RL 40 yX5_value ∈ zBIG := List.mem_append_left _ (List.mem_of_getElem? (i := 528) rfl)
set_option maxRecDepth 20000 in
theorem zw529 : Cond.selects RX5 yX5_value yX5_value ∈ zBIG := List.mem_append_left _ (List.mem_of_getElem? (i := 529) rfl)
set_option maxRecDepth 20000 in
theorem zw530 : Cond.classLink RL 21 "java/util/NoSuchElementException" ∈ zBIG := List.mem_append_left _ (List.mem_of_getElem? (i := 530) rfl)
set_option maxRecDepth 20000 in
theorem zw531 : Cond.code yX5_put cX5_put 6 none ∈ zBIG := List.mem_append_left _ (List.mem_of_getElem? (i := 531) rfl)
set_option maxRecDepth 20000 in
theorem zw532 : Cond.instanceMethod yX5_put ∈ zBIG := List.mem_append_left _ (List.mem_of_getElem? (i := 532) rfl)
set_option maxRecDepth 20000 in
theorem zw533 : Cond.methodLink RL 30 yX5_put ∈ zBIG := List.mem_append_left _ (List.mem_of_getElem? (i := 533) rfl)
set_option maxRecDepth 20000 in
theorem zw534 : Cond.selects RX5 yX5_put yX5_put ∈ zBIG := List.mem_append_left _ (List.mem_of_getElem? (i := 534) rfl)
set_option maxRecDepth 20000 in
theorem zw535 : Cond.code yX5_move cX5_move 5 none ∈ zBIG := List.mem_append_left _ (List.mem_of_getElem? (i := 535) rfl)
set_option maxRecDepth 20000 in
theorem zw536 : Cond.instanceMethod yX5_move ∈ zBIG := List.mem_append_left _ (List.mem_of_getElem? (i := 536) rfl)
set_option maxRecDepth 20000 in
theorem zw537 : Cond.methodLink RL 36 yX5_move ∈ zBIG := List.mem_append_left _ (List.mem_of_getElem? (i := 537) rfl)
set_option maxRecDepth 20000 in
theorem zw538 : Cond.selects RX5 yX5_move yX5_move ∈ zBIG := List.mem_append_left _ (List.mem_of_getElem? (i := 538) rfl)
set_option maxRecDepth 20000 in
theorem zw539 : Cond.classLink RL 34 "java/lang/UnsupportedOperationException" ∈ zBIG := List.mem_append_left _ (List.mem_of_getElem? (i := 539) rfl)
set_option maxRecDepth 20000 in
theorem zw540 : Cond.methodLink RX1 3 objectInit ∈ zBIG := List.mem_append_left _ (List.mem_of_getElem? (i := 540) rfl)
set_option maxRecDepth 20000 in
theorem zw541 : Cond.instanceMethod objectInit ∈ zBIG := List.mem_append_left _ (List.mem_of_getElem? (i := 541) rfl)
set_option maxRecDepth 20000 in
theorem zw542 : Cond.code objectInit ⟨#[0xb1]⟩ 1 none ∈ zBIG := List.mem_append_left _ (List.mem_of_getElem? (i := 542) rfl)
set_option maxRecDepth 20000 in
theorem zw543 : Cond.arrayClass .int ∈ zBIG := List.mem_append_left _ (List.mem_of_getElem? (i := 543) rfl)
set_option maxRecDepth 20000 in
theorem zw544 : Cond.code yX1_init cX1_init 1 none ∈ zBIG := List.mem_append_left _ (List.mem_of_getElem? (i := 544) rfl)
set_option maxRecDepth 20000 in
theorem zw545 : Cond.instanceMethod yX1_init ∈ zBIG := List.mem_append_left _ (List.mem_of_getElem? (i := 545) rfl)
set_option maxRecDepth 20000 in
theorem zw546 : Cond.methodLink RX3 3 objectInit ∈ zBIG := List.mem_append_left _ (List.mem_of_getElem? (i := 546) rfl)
set_option maxRecDepth 20000 in
theorem zw547 : Cond.methodLink RX6 1 objectInit ∈ zBIG := List.mem_append_left _ (List.mem_of_getElem? (i := 547) rfl)
set_option maxRecDepth 20000 in
theorem zw548 : Cond.arrayClass .boolean ∈ zBIG := List.mem_append_left _ (List.mem_of_getElem? (i := 548) rfl)
set_option maxRecDepth 20000 in
theorem zw549 : Cond.methodLink RX5 1 objectInit ∈ zBIG := List.mem_append_left _ (List.mem_of_getElem? (i := 549) rfl)
set_option maxRecDepth 20000 in
theorem zw550 : Cond.classLink RX5 17 RX3 ∈ zBIG := List.mem_append_left _ (List.mem_of_getElem? (i := 550) rfl)
set_option maxRecDepth 20000 in
theorem zw551 : Cond.instantiable RX3 2 ∈ zBIG := List.mem_append_left _ (List.mem_of_getElem? (i := 551) rfl)
set_option maxRecDepth 20000 in
theorem zw552 : Cond.instanceMethod yX3_init ∈ zBIG := List.mem_append_left _ (List.mem_of_getElem? (i := 552) rfl)
set_option maxRecDepth 20000 in
theorem zw553 : Cond.code yX3_init cX3_init 1 none ∈ zBIG := List.mem_append_left _ (List.mem_of_getElem? (i := 553) rfl)
set_option maxRecDepth 20000 in
theorem zw554 : Cond.classLink RX5 24 RX2 ∈ zBIG := List.mem_append_left _ (List.mem_of_getElem? (i := 554) rfl)
set_option maxRecDepth 20000 in
theorem zw555 : Cond.classLink RX5 30 RX4 ∈ zBIG := List.mem_append_left _ (List.mem_of_getElem? (i := 555) rfl)
set_option maxRecDepth 20000 in
theorem zw556 : Cond.classLink RX5 36 RX0 ∈ zBIG := List.mem_append_left _ (List.mem_of_getElem? (i := 556) rfl)
set_option maxRecDepth 20000 in
theorem zw557 : Cond.classLink RX5 42 RX1 ∈ zBIG := List.mem_append_left _ (List.mem_of_getElem? (i := 557) rfl)
set_option maxRecDepth 20000 in
theorem zw558 : Cond.instantiable RX2 8 ∈ zBIG := List.mem_append_left _ (List.mem_of_getElem? (i := 558) rfl)
set_option maxRecDepth 20000 in
theorem zw559 : Cond.instanceMethod yX2_init ∈ zBIG := List.mem_append_left _ (List.mem_of_getElem? (i := 559) rfl)
set_option maxRecDepth 20000 in
theorem zw560 : Cond.code yX2_init cX2_init 1 none ∈ zBIG := List.mem_append_left _ (List.mem_of_getElem? (i := 560) rfl)
set_option maxRecDepth 20000 in
theorem zw561 : Cond.instantiable RX4 5 ∈ zBIG := List.mem_append_left _ (List.mem_of_getElem? (i := 561) rfl)
set_option maxRecDepth 20000 in
theorem zw562 : Cond.instanceMethod yX4_init ∈ zBIG := List.mem_append_left _ (List.mem_of_getElem? (i := 562) rfl)
set_option maxRecDepth 20000 in
theorem zw563 : Cond.code yX4_init cX4_init 1 none ∈ zBIG := List.mem_append_left _ (List.mem_of_getElem? (i := 563) rfl)
set_option maxRecDepth 20000 in
theorem zw564 : Cond.instantiable RX0 16 ∈ zBIG := List.mem_append_left _ (List.mem_of_getElem? (i := 564) rfl)
set_option maxRecDepth 20000 in
theorem zw565 : Cond.instanceMethod yX0_init ∈ zBIG := List.mem_append_left _ (List.mem_of_getElem? (i := 565) rfl)
set_option maxRecDepth 20000 in
theorem zw566 : Cond.code yX0_init cX0_init 1 none ∈ zBIG := List.mem_append_left _ (List.mem_of_getElem? (i := 566) rfl)
set_option maxRecDepth 20000 in
theorem zw567 : Cond.classLink RL 8 RX5 ∈ zBIG := List.mem_append_left _ (List.mem_of_getElem? (i := 567) rfl)
set_option maxRecDepth 20000 in
theorem zw568 : Cond.instantiable RX5 8 ∈ zBIG := List.mem_append_left _ (List.mem_of_getElem? (i := 568) rfl)
set_option maxRecDepth 20000 in
theorem zw569 : Cond.methodLink RL 44 yX5_init ∈ zBIG := List.mem_append_left _ (List.mem_of_getElem? (i := 569) rfl)
set_option maxRecDepth 20000 in
theorem zw570 : Cond.instanceMethod yX5_init ∈ zBIG := List.mem_append_left _ (List.mem_of_getElem? (i := 570) rfl)
set_option maxRecDepth 20000 in
theorem zw571 : Cond.code yX5_init cX5_init 2 none ∈ zBIG := List.mem_append_left _ (List.mem_of_getElem? (i := 571) rfl)
set_option maxRecDepth 20000 in
theorem zw572 : Cond.classLink RL 45 RX6 ∈ zBIG := List.mem_append_left _ (List.mem_of_getElem? (i := 572) rfl)
set_option maxRecDepth 20000 in
theorem zw573 : Cond.instantiable RX6 24 ∈ zBIG := List.mem_append_left _ (List.mem_of_getElem? (i := 573) rfl)
set_option maxRecDepth 20000 in
theorem zw574 : Cond.methodLink RL 47 yX6_init ∈ zBIG := List.mem_append_left _ (List.mem_of_getElem? (i := 574) rfl)
set_option maxRecDepth 20000 in
theorem zw575 : Cond.instanceMethod yX6_init ∈ zBIG := List.mem_append_left _ (List.mem_of_getElem? (i := 575) rfl)
set_option maxRecDepth 20000 in
theorem zw576 : Cond.code yX6_init cX6_init 1 none ∈ zBIG := List.mem_append_left _ (List.mem_of_getElem? (i := 576) rfl)
set_option maxRecDepth 20000 in
theorem zw577 : Cond.arrayClass .long ∈ zBIG := List.mem_append_left _ (List.mem_of_getElem? (i := 577) rfl)
set_option maxRecDepth 20000 in
theorem zw578 : Cond.methodLink RL 48 yX5_type ∈ zBIG := List.mem_append_left _ (List.mem_of_getElem? (i := 578) rfl)
set_option maxRecDepth 20000 in
theorem zw579 : Cond.instanceMethod yX5_type ∈ zBIG := List.mem_append_left _ (List.mem_of_getElem? (i := 579) rfl)
set_option maxRecDepth 20000 in
theorem zw580 : Cond.code yX5_type cX5_type 2 (some .boolean) ∈ zBIG := List.mem_append_left _ (List.mem_of_getElem? (i := 580) rfl)
set_option maxRecDepth 20000 in
theorem zw581 : Cond.selects RX5 yX5_type yX5_type ∈ zBIG := List.mem_append_left _ (List.mem_of_getElem? (i := 581) rfl)
set_option maxRecDepth 20000 in
theorem zw582 : Cond.methodLink RL 52 yX6_type ∈ zBIG := List.mem_append_left _ (List.mem_of_getElem? (i := 582) rfl)
set_option maxRecDepth 20000 in
theorem zw583 : Cond.instanceMethod yX6_type ∈ zBIG := List.mem_append_left _ (List.mem_of_getElem? (i := 583) rfl)
set_option maxRecDepth 20000 in
theorem zw584 : Cond.code yX6_type cX6_type 2 (some .boolean) ∈ zBIG := List.mem_append_left _ (List.mem_of_getElem? (i := 584) rfl)
set_option maxRecDepth 20000 in
theorem zw585 : Cond.selects RX6 yX6_type yX6_type ∈ zBIG := List.mem_append_left _ (List.mem_of_getElem? (i := 585) rfl)
set_option maxRecDepth 20000 in
theorem zw586 : Cond.methodLink RL 53 yL_declare ∈ zBIG := List.mem_append_left _ (List.mem_of_getElem? (i := 586) rfl)
set_option maxRecDepth 20000 in
theorem zw587 : Cond.initialized RL ∈ zBIG := List.mem_append_left _ (List.mem_of_getElem? (i := 587) rfl)
set_option maxRecDepth 20000 in
theorem zw588 : Cond.static yL_declare ∈ zBIG := List.mem_append_left _ (List.mem_of_getElem? (i := 588) rfl)
set_option maxRecDepth 20000 in
theorem zw589 : Cond.codeWith yL_declare cL_declare 4 (some .int) [(0, 9, 12, 13), (0, 9, 15, 15)] ∈ zBIG := List.mem_append_left _ (List.mem_of_getElem? (i := 589) rfl)
set_option maxRecDepth 20000 in
theorem zw590 : Cond.methodLink RL 58 yX6_declare ∈ zBIG := List.mem_append_left _ (List.mem_of_getElem? (i := 590) rfl)
set_option maxRecDepth 20000 in
theorem zw591 : Cond.instanceMethod yX6_declare ∈ zBIG := List.mem_append_left _ (List.mem_of_getElem? (i := 591) rfl)
set_option maxRecDepth 20000 in
theorem zw592 : Cond.code yX6_declare cX6_declare 5 (some .int) ∈ zBIG := List.mem_append_left _ (List.mem_of_getElem? (i := 592) rfl)
set_option maxRecDepth 20000 in
theorem zw593 : Cond.selects RX6 yX6_declare yX6_declare ∈ zBIG := List.mem_append_left _ (List.mem_of_getElem? (i := 593) rfl)
set_option maxRecDepth 20000 in
theorem zw594 : Cond.methodLink RL 59 yX6_thrown ∈ zBIG := List.mem_append_left _ (List.mem_of_getElem? (i := 594) rfl)
set_option maxRecDepth 20000 in
theorem zw595 : Cond.instanceMethod yX6_thrown ∈ zBIG := List.mem_append_left _ (List.mem_of_getElem? (i := 595) rfl)
set_option maxRecDepth 20000 in
theorem zw596 : Cond.code yX6_thrown cX6_thrown 1 (some .int) ∈ zBIG := List.mem_append_left _ (List.mem_of_getElem? (i := 596) rfl)
set_option maxRecDepth 20000 in
theorem zw597 : Cond.selects RX6 yX6_thrown yX6_thrown ∈ zBIG := List.mem_append_left _ (List.mem_of_getElem? (i := 597) rfl)
set_option maxRecDepth 20000 in
theorem zw598 : Cond.methodLink RL 63 yX5_clear ∈ zBIG := List.mem_append_left _ (List.mem_of_getElem? (i := 598) rfl)
set_option maxRecDepth 20000 in
theorem zw599 : Cond.instanceMethod yX5_clear ∈ zBIG := List.mem_append_left _ (List.mem_of_getElem? (i := 599) rfl)
set_option maxRecDepth 20000 in
theorem zw600 : Cond.code yX5_clear cX5_clear 1 none ∈ zBIG := List.mem_append_left _ (List.mem_of_getElem? (i := 600) rfl)
set_option maxRecDepth 20000 in
theorem zw601 : Cond.selects RX5 yX5_clear yX5_clear ∈ zBIG := List.mem_append_left _ (List.mem_of_getElem? (i := 601) rfl)
set_option maxRecDepth 20000 in
theorem zw602 : Cond.methodLink RL 66 yX6_clear ∈ zBIG := List.mem_append_left _ (List.mem_of_getElem? (i := 602) rfl)
set_option maxRecDepth 20000 in
theorem zw603 : Cond.instanceMethod yX6_clear ∈ zBIG := List.mem_append_left _ (List.mem_of_getElem? (i := 603) rfl)
set_option maxRecDepth 20000 in
theorem zw604 : Cond.code yX6_clear cX6_clear 1 none ∈ zBIG := List.mem_append_left _ (List.mem_of_getElem? (i := 604) rfl)
set_option maxRecDepth 20000 in
theorem zw605 : Cond.selects RX6 yX6_clear yX6_clear ∈ zBIG := List.mem_append_left _ (List.mem_of_getElem? (i := 605) rfl)
set_option maxRecDepth 20000 in
theorem zw606 : Cond.methodLink RL 67 yX5_fields ∈ zBIG := List.mem_append_left _ (List.mem_of_getElem? (i := 606) rfl)
set_option maxRecDepth 20000 in
theorem zw607 : Cond.instanceMethod yX5_fields ∈ zBIG := List.mem_append_left _ (List.mem_of_getElem? (i := 607) rfl)
set_option maxRecDepth 20000 in
theorem zw608 : Cond.code yX5_fields cX5_fields 1 (some .int) ∈ zBIG := List.mem_append_left _ (List.mem_of_getElem? (i := 608) rfl)
set_option maxRecDepth 20000 in
theorem zw609 : Cond.selects RX5 yX5_fields yX5_fields ∈ zBIG := List.mem_append_left _ (List.mem_of_getElem? (i := 609) rfl)
set_option maxRecDepth 20000 in
theorem zw610 : Cond.methodLink RL 70 yX6_fields ∈ zBIG := List.mem_append_left _ (List.mem_of_getElem? (i := 610) rfl)
set_option maxRecDepth 20000 in
theorem zw611 : Cond.instanceMethod yX6_fields ∈ zBIG := List.mem_append_left _ (List.mem_of_getElem? (i := 611) rfl)
set_option maxRecDepth 20000 in
theorem zw612 : Cond.code yX6_fields cX6_fields 1 (some .int) ∈ zBIG := List.mem_append_left _ (List.mem_of_getElem? (i := 612) rfl)
set_option maxRecDepth 20000 in
theorem zw613 : Cond.selects RX6 yX6_fields yX6_fields ∈ zBIG := List.mem_append_left _ (List.mem_of_getElem? (i := 613) rfl)
set_option maxRecDepth 20000 in
theorem zw614 : Cond.methodLink RL 71 yL_look ∈ zBIG := List.mem_append_left _ (List.mem_of_getElem? (i := 614) rfl)
set_option maxRecDepth 20000 in
theorem zw615 : Cond.static yL_look ∈ zBIG := List.mem_append_left _ (List.mem_of_getElem? (i := 615) rfl)
set_option maxRecDepth 20000 in
theorem zw616 : Cond.codeWith yL_look cL_look 5 (some .int) [(0, 10, 13, 21), (0, 10, 17, 15)] ∈ zBIG := List.mem_append_left _ (List.mem_of_getElem? (i := 616) rfl)
set_option maxRecDepth 20000 in
theorem zw617 : Cond.methodLink RL 74 yX6_look ∈ zBIG := List.mem_append_left _ (List.mem_of_getElem? (i := 617) rfl)
set_option maxRecDepth 20000 in
theorem zw618 : Cond.instanceMethod yX6_look ∈ zBIG := List.mem_append_left _ (List.mem_of_getElem? (i := 618) rfl)
set_option maxRecDepth 20000 in
theorem zw619 : Cond.code yX6_look cX6_look 4 (some .int) ∈ zBIG := List.mem_append_left _ (List.mem_of_getElem? (i := 619) rfl)
set_option maxRecDepth 20000 in
theorem zw620 : Cond.selects RX6 yX6_look yX6_look ∈ zBIG := List.mem_append_left _ (List.mem_of_getElem? (i := 620) rfl)
set_option maxRecDepth 20000 in
theorem zw621 : Cond.methodLink RL 75 yL_get ∈ zBIG := List.mem_append_left _ (List.mem_of_getElem? (i := 621) rfl)
set_option maxRecDepth 20000 in
theorem zw622 : Cond.static yL_get ∈ zBIG := List.mem_append_left _ (List.mem_of_getElem? (i := 622) rfl)
set_option maxRecDepth 20000 in
theorem zw623 : Cond.codeWith yL_get cL_get 5 (some .int) [(0, 10, 13, 21)] ∈ zBIG := List.mem_append_left _ (List.mem_of_getElem? (i := 623) rfl)
set_option maxRecDepth 20000 in
theorem zw624 : Cond.methodLink RL 77 yX6_get ∈ zBIG := List.mem_append_left _ (List.mem_of_getElem? (i := 624) rfl)
set_option maxRecDepth 20000 in
theorem zw625 : Cond.instanceMethod yX6_get ∈ zBIG := List.mem_append_left _ (List.mem_of_getElem? (i := 625) rfl)
set_option maxRecDepth 20000 in
theorem zw626 : Cond.code yX6_get cX6_get 3 (some .int) ∈ zBIG := List.mem_append_left _ (List.mem_of_getElem? (i := 626) rfl)
set_option maxRecDepth 20000 in
theorem zw627 : Cond.selects RX6 yX6_get yX6_get ∈ zBIG := List.mem_append_left _ (List.mem_of_getElem? (i := 627) rfl)
set_option maxRecDepth 20000 in
theorem zw628 : Cond.methodLink RL 78 yL_set ∈ zBIG := List.mem_append_left _ (List.mem_of_getElem? (i := 628) rfl)
set_option maxRecDepth 20000 in
theorem zw629 : Cond.static yL_set ∈ zBIG := List.mem_append_left _ (List.mem_of_getElem? (i := 629) rfl)
set_option maxRecDepth 20000 in
theorem zw630 : Cond.codeWith yL_set cL_set 5 (some .int) [(0, 7, 10, 21), (0, 7, 14, 15)] ∈ zBIG := List.mem_append_left _ (List.mem_of_getElem? (i := 630) rfl)
set_option maxRecDepth 20000 in
theorem zw631 : Cond.methodLink RL 81 yX6_set ∈ zBIG := List.mem_append_left _ (List.mem_of_getElem? (i := 631) rfl)
set_option maxRecDepth 20000 in
theorem zw632 : Cond.instanceMethod yX6_set ∈ zBIG := List.mem_append_left _ (List.mem_of_getElem? (i := 632) rfl)
set_option maxRecDepth 20000 in
theorem zw633 : Cond.code yX6_set cX6_set 4 none ∈ zBIG := List.mem_append_left _ (List.mem_of_getElem? (i := 633) rfl)
set_option maxRecDepth 20000 in
theorem zw634 : Cond.selects RX6 yX6_set yX6_set ∈ zBIG := List.mem_append_left _ (List.mem_of_getElem? (i := 634) rfl)
set_option maxRecDepth 20000 in
theorem zw635 : Cond.constantLong RL 82 4294967295 ∈ zBIG := List.mem_append_left _ (List.mem_of_getElem? (i := 635) rfl)
set_option maxRecDepth 20000 in
theorem zw636 : Cond.methodLink RL 84 yL_put ∈ zBIG := List.mem_append_left _ (List.mem_of_getElem? (i := 636) rfl)
set_option maxRecDepth 20000 in
theorem zw637 : Cond.static yL_put ∈ zBIG := List.mem_append_left _ (List.mem_of_getElem? (i := 637) rfl)
set_option maxRecDepth 20000 in
theorem zw638 : Cond.codeWith yL_put cL_put 6 (some .int) [(0, 8, 11, 21), (0, 8, 15, 15), (0, 8, 19, 34)] ∈ zBIG := List.mem_append_left _ (List.mem_of_getElem? (i := 638) rfl)
set_option maxRecDepth 20000 in
theorem zw639 : Cond.methodLink RL 87 yX6_put2 ∈ zBIG := List.mem_append_left _ (List.mem_of_getElem? (i := 639) rfl)
set_option maxRecDepth 20000 in
theorem zw640 : Cond.instanceMethod yX6_put2 ∈ zBIG := List.mem_append_left _ (List.mem_of_getElem? (i := 640) rfl)
set_option maxRecDepth 20000 in
theorem zw641 : Cond.code yX6_put2 cX6_put2 10 none ∈ zBIG := List.mem_append_left _ (List.mem_of_getElem? (i := 641) rfl)
set_option maxRecDepth 20000 in
theorem zw642 : Cond.selects RX6 yX6_put2 yX6_put2 ∈ zBIG := List.mem_append_left _ (List.mem_of_getElem? (i := 642) rfl)
set_option maxRecDepth 20000 in
theorem zw643 : Cond.methodLink RL 88 yL_move ∈ zBIG := List.mem_append_left _ (List.mem_of_getElem? (i := 643) rfl)
set_option maxRecDepth 20000 in
theorem zw644 : Cond.static yL_move ∈ zBIG := List.mem_append_left _ (List.mem_of_getElem? (i := 644) rfl)
set_option maxRecDepth 20000 in
theorem zw645 : Cond.codeWith yL_move cL_move 4 (some .int) [(0, 6, 9, 21), (0, 6, 12, 34)] ∈ zBIG := List.mem_append_left _ (List.mem_of_getElem? (i := 645) rfl)
set_option maxRecDepth 20000 in
theorem zw646 : Cond.methodLink RL 91 yX6_move ∈ zBIG := List.mem_append_left _ (List.mem_of_getElem? (i := 646) rfl)
set_option maxRecDepth 20000 in
theorem zw647 : Cond.instanceMethod yX6_move ∈ zBIG := List.mem_append_left _ (List.mem_of_getElem? (i := 647) rfl)
set_option maxRecDepth 20000 in
theorem zw648 : Cond.code yX6_move cX6_move 4 none ∈ zBIG := List.mem_append_left _ (List.mem_of_getElem? (i := 648) rfl)
set_option maxRecDepth 20000 in
theorem zw649 : Cond.selects RX6 yX6_move yX6_move ∈ zBIG := List.mem_append_left _ (List.mem_of_getElem? (i := 649) rfl)
set_option maxRecDepth 20000 in
theorem zw650 : Cond.methodLink RL 92 yL_value ∈ zBIG := List.mem_append_left _ (List.mem_of_getElem? (i := 650) rfl)
set_option maxRecDepth 20000 in
theorem zw651 : Cond.static yL_value ∈ zBIG := List.mem_append_left _ (List.mem_of_getElem? (i := 651) rfl)
set_option maxRecDepth 20000 in
theorem zw652 : Cond.codeWith yL_value cL_value 4 (some .int) [(0, 8, 11, 21)] ∈ zBIG := List.mem_append_left _ (List.mem_of_getElem? (i := 652) rfl)
set_option maxRecDepth 20000 in
theorem zw653 : Cond.methodLink RL 94 yX6_value ∈ zBIG := List.mem_append_left _ (List.mem_of_getElem? (i := 653) rfl)
set_option maxRecDepth 20000 in
theorem zw654 : Cond.instanceMethod yX6_value ∈ zBIG := List.mem_append_left _ (List.mem_of_getElem? (i := 654) rfl)
set_option maxRecDepth 20000 in
theorem zw655 : Cond.code yX6_value cX6_value 5 (some .long) ∈ zBIG := List.mem_append_left _ (List.mem_of_getElem? (i := 655) rfl)
set_option maxRecDepth 20000 in
theorem zw656 : Cond.selects RX6 yX6_value yX6_value ∈ zBIG := List.mem_append_left _ (List.mem_of_getElem? (i := 656) rfl)
theorem zinX0 : ∀ w ∈ u_ws RX0 TX0 16, w ∈ zBIG := fun w h => List.mem_append_right _ (by simp only [List.mem_append]; simp [h])
theorem zinX2 : ∀ w ∈ u_ws RX2 TX2 8, w ∈ zBIG := fun w h => List.mem_append_right _ (by simp only [List.mem_append]; simp [h])
theorem zinX3 : ∀ w ∈ u_ws RX3 TX3 2, w ∈ zBIG := fun w h => List.mem_append_right _ (by simp only [List.mem_append]; simp [h])
theorem zinX4 : ∀ w ∈ u_ws RX4 TX4 5, w ∈ zBIG := fun w h => List.mem_append_right _ (by simp only [List.mem_append]; simp [h])
theorem zinX5 : ∀ w ∈ u_ws RX5 TX5 8, w ∈ zBIG := fun w h => List.mem_append_right _ (by simp only [List.mem_append]; simp [h])
theorem zinX6 : ∀ w ∈ u_ws RX6 TX6 24, w ∈ zBIG := fun w h => List.mem_append_right _ (by simp only [List.mem_append]; simp [h])
def zSTR : List (Nat × String) := [(135, "no such field"), (98, "no such what"), (114, "no such scale"), (106, "no such byte"), (112, "no byte"), (122, "a text takes no number"), (129, "places behind the point do not go into a text"), (56, "there are eight fields"), (71, "no picture, or no such usage of it")]
theorem zs135 : (135, "no such field") ∈ zSTR := List.mem_of_getElem? (i := 0) rfl
theorem zs98 : (98, "no such what") ∈ zSTR := List.mem_of_getElem? (i := 1) rfl
theorem zs114 : (114, "no such scale") ∈ zSTR := List.mem_of_getElem? (i := 2) rfl
theorem zs106 : (106, "no such byte") ∈ zSTR := List.mem_of_getElem? (i := 3) rfl
theorem zs112 : (112, "no byte") ∈ zSTR := List.mem_of_getElem? (i := 4) rfl
theorem zs122 : (122, "a text takes no number") ∈ zSTR := List.mem_of_getElem? (i := 5) rfl
theorem zs129 : (129, "places behind the point do not go into a text") ∈ zSTR := List.mem_of_getElem? (i := 6) rfl
theorem zs56 : (56, "there are eight fields") ∈ zSTR := List.mem_of_getElem? (i := 7) rfl
theorem zs71 : (71, "no picture, or no such usage of it") ∈ zSTR := List.mem_of_getElem? (i := 8) rfl
set_option maxRecDepth 20000 in
theorem zBIG_good : zBIG.all goodWord = true := by decide +kernel
theorem zgood {y : MethodName} {b : ByteArray} {n : Nat} {r : Option FieldType} (h : Cond.code y b n r ∈ zBIG) : GoodIn zBIG (Cond.code y b n r :: zBIG) := by
  intro w hw
  have hm : w ∈ zBIG := by
    rcases List.mem_cons.mp hw with e | h1
    · rw [e]; exact h
    · exact h1
  exact ⟨hm, good_of_word (List.all_eq_true.mp zBIG_good w hm)⟩
theorem hdX6_at : yX6_at.cls ≠ "java/lang/invoke/MethodHandle" ∧ yX6_at.cls ≠ "java/lang/invoke/VarHandle" ∧ (parseMethodDescriptor yX6_at.desc).map (fun d => d.parameters.length) = some 1 := by decide +kernel
theorem hdX6_isDigit : yX6_isDigit.cls ≠ "java/lang/invoke/MethodHandle" ∧ yX6_isDigit.cls ≠ "java/lang/invoke/VarHandle" ∧ (parseMethodDescriptor yX6_isDigit.desc).map (fun d => d.parameters.length) = some 1 := by decide +kernel
theorem hdX6_sym : yX6_sym.cls ≠ "java/lang/invoke/MethodHandle" ∧ yX6_sym.cls ≠ "java/lang/invoke/VarHandle" ∧ (parseMethodDescriptor yX6_sym.desc).map (fun d => d.parameters.length) = some 2 := by decide +kernel
theorem hdX6_digitAt : yX6_digitAt.cls ≠ "java/lang/invoke/MethodHandle" ∧ yX6_digitAt.cls ≠ "java/lang/invoke/VarHandle" ∧ (parseMethodDescriptor yX6_digitAt.desc).map (fun d => d.parameters.length) = some 1 := by decide +kernel
theorem hdX6_put : yX6_put.cls ≠ "java/lang/invoke/MethodHandle" ∧ yX6_put.cls ≠ "java/lang/invoke/VarHandle" ∧ (parseMethodDescriptor yX6_put.desc).map (fun d => d.parameters.length) = some 2 := by decide +kernel
theorem hdX6_parentheses : yX6_parentheses.cls ≠ "java/lang/invoke/MethodHandle" ∧ yX6_parentheses.cls ≠ "java/lang/invoke/VarHandle" ∧ (parseMethodDescriptor yX6_parentheses.desc).map (fun d => d.parameters.length) = some 1 := by decide +kernel
theorem hdX6_isSymbol : yX6_isSymbol.cls ≠ "java/lang/invoke/MethodHandle" ∧ yX6_isSymbol.cls ≠ "java/lang/invoke/VarHandle" ∧ (parseMethodDescriptor yX6_isSymbol.desc).map (fun d => d.parameters.length) = some 1 := by decide +kernel
theorem hdX6_countOf : yX6_countOf.cls ≠ "java/lang/invoke/MethodHandle" ∧ yX6_countOf.cls ≠ "java/lang/invoke/VarHandle" ∧ (parseMethodDescriptor yX6_countOf.desc).map (fun d => d.parameters.length) = some 3 := by decide +kernel
theorem hdX6_firstOf : yX6_firstOf.cls ≠ "java/lang/invoke/MethodHandle" ∧ yX6_firstOf.cls ≠ "java/lang/invoke/VarHandle" ∧ (parseMethodDescriptor yX6_firstOf.desc).map (fun d => d.parameters.length) = some 3 := by decide +kernel
theorem hdX6_isFill : yX6_isFill.cls ≠ "java/lang/invoke/MethodHandle" ∧ yX6_isFill.cls ≠ "java/lang/invoke/VarHandle" ∧ (parseMethodDescriptor yX6_isFill.desc).map (fun d => d.parameters.length) = some 1 := by decide +kernel
theorem hdX6_isInsertion : yX6_isInsertion.cls ≠ "java/lang/invoke/MethodHandle" ∧ yX6_isInsertion.cls ≠ "java/lang/invoke/VarHandle" ∧ (parseMethodDescriptor yX6_isInsertion.desc).map (fun d => d.parameters.length) = some 1 := by decide +kernel
theorem hdX6_body : yX6_body.cls ≠ "java/lang/invoke/MethodHandle" ∧ yX6_body.cls ≠ "java/lang/invoke/VarHandle" ∧ (parseMethodDescriptor yX6_body.desc).map (fun d => d.parameters.length) = some 2 := by decide +kernel
theorem hdX6_isSign : yX6_isSign.cls ≠ "java/lang/invoke/MethodHandle" ∧ yX6_isSign.cls ≠ "java/lang/invoke/VarHandle" ∧ (parseMethodDescriptor yX6_isSign.desc).map (fun d => d.parameters.length) = some 1 := by decide +kernel
theorem hdX6_ordered : yX6_ordered.cls ≠ "java/lang/invoke/MethodHandle" ∧ yX6_ordered.cls ≠ "java/lang/invoke/VarHandle" ∧ (parseMethodDescriptor yX6_ordered.desc).map (fun d => d.parameters.length) = some 2 := by decide +kernel
theorem hdX6_width : yX6_width.cls ≠ "java/lang/invoke/MethodHandle" ∧ yX6_width.cls ≠ "java/lang/invoke/VarHandle" ∧ (parseMethodDescriptor yX6_width.desc).map (fun d => d.parameters.length) = some 1 := by decide +kernel
theorem hdX6_expands : yX6_expands.cls ≠ "java/lang/invoke/MethodHandle" ∧ yX6_expands.cls ≠ "java/lang/invoke/VarHandle" ∧ (parseMethodDescriptor yX6_expands.desc).map (fun d => d.parameters.length) = some 0 := by decide +kernel
theorem hdX6_isNumber : yX6_isNumber.cls ≠ "java/lang/invoke/MethodHandle" ∧ yX6_isNumber.cls ≠ "java/lang/invoke/VarHandle" ∧ (parseMethodDescriptor yX6_isNumber.desc).map (fun d => d.parameters.length) = some 0 := by decide +kernel
theorem hdX6_isText : yX6_isText.cls ≠ "java/lang/invoke/MethodHandle" ∧ yX6_isText.cls ≠ "java/lang/invoke/VarHandle" ∧ (parseMethodDescriptor yX6_isText.desc).map (fun d => d.parameters.length) = some 0 := by decide +kernel
theorem hdX6_isEdited : yX6_isEdited.cls ≠ "java/lang/invoke/MethodHandle" ∧ yX6_isEdited.cls ≠ "java/lang/invoke/VarHandle" ∧ (parseMethodDescriptor yX6_isEdited.desc).map (fun d => d.parameters.length) = some 0 := by decide +kernel
theorem hdX6_digitFor : yX6_digitFor.cls ≠ "java/lang/invoke/MethodHandle" ∧ yX6_digitFor.cls ≠ "java/lang/invoke/VarHandle" ∧ (parseMethodDescriptor yX6_digitFor.desc).map (fun d => d.parameters.length) = some 2 := by decide +kernel
theorem hdX6_signFor : yX6_signFor.cls ≠ "java/lang/invoke/MethodHandle" ∧ yX6_signFor.cls ≠ "java/lang/invoke/VarHandle" ∧ (parseMethodDescriptor yX6_signFor.desc).map (fun d => d.parameters.length) = some 2 := by decide +kernel
theorem hdX6_isBelow : yX6_isBelow.cls ≠ "java/lang/invoke/MethodHandle" ∧ yX6_isBelow.cls ≠ "java/lang/invoke/VarHandle" ∧ (parseMethodDescriptor yX6_isBelow.desc).map (fun d => d.parameters.length) = some 1 := by decide +kernel
theorem hdX6_firstDigit : yX6_firstDigit.cls ≠ "java/lang/invoke/MethodHandle" ∧ yX6_firstDigit.cls ≠ "java/lang/invoke/VarHandle" ∧ (parseMethodDescriptor yX6_firstDigit.desc).map (fun d => d.parameters.length) = some 1 := by decide +kernel
theorem hdX6_zoneEnd : yX6_zoneEnd.cls ≠ "java/lang/invoke/MethodHandle" ∧ yX6_zoneEnd.cls ≠ "java/lang/invoke/VarHandle" ∧ (parseMethodDescriptor yX6_zoneEnd.desc).map (fun d => d.parameters.length) = some 2 := by decide +kernel
theorem hdX6_plain : yX6_plain.cls ≠ "java/lang/invoke/MethodHandle" ∧ yX6_plain.cls ≠ "java/lang/invoke/VarHandle" ∧ (parseMethodDescriptor yX6_plain.desc).map (fun d => d.parameters.length) = some 3 := by decide +kernel
theorem hdX6_edit : yX6_edit.cls ≠ "java/lang/invoke/MethodHandle" ∧ yX6_edit.cls ≠ "java/lang/invoke/VarHandle" ∧ (parseMethodDescriptor yX6_edit.desc).map (fun d => d.parameters.length) = some 1 := by decide +kernel
theorem hdX6_fails : yX6_fails.cls ≠ "java/lang/invoke/MethodHandle" ∧ yX6_fails.cls ≠ "java/lang/invoke/VarHandle" ∧ (parseMethodDescriptor yX6_fails.desc).map (fun d => d.parameters.length) = some 3 := by decide +kernel
theorem hdX6_reads : yX6_reads.cls ≠ "java/lang/invoke/MethodHandle" ∧ yX6_reads.cls ≠ "java/lang/invoke/VarHandle" ∧ (parseMethodDescriptor yX6_reads.desc).map (fun d => d.parameters.length) = some 0 := by decide +kernel
theorem hdX6_nothing : yX6_nothing.cls ≠ "java/lang/invoke/MethodHandle" ∧ yX6_nothing.cls ≠ "java/lang/invoke/VarHandle" ∧ (parseMethodDescriptor yX6_nothing.desc).map (fun d => d.parameters.length) = some 0 := by decide +kernel
theorem hdX6_storeNumber : yX6_storeNumber.cls ≠ "java/lang/invoke/MethodHandle" ∧ yX6_storeNumber.cls ≠ "java/lang/invoke/VarHandle" ∧ (parseMethodDescriptor yX6_storeNumber.desc).map (fun d => d.parameters.length) = some 1 := by decide +kernel
theorem hdX6_storeText : yX6_storeText.cls ≠ "java/lang/invoke/MethodHandle" ∧ yX6_storeText.cls ≠ "java/lang/invoke/VarHandle" ∧ (parseMethodDescriptor yX6_storeText.desc).map (fun d => d.parameters.length) = some 1 := by decide +kernel
theorem hdX6_isField : yX6_isField.cls ≠ "java/lang/invoke/MethodHandle" ∧ yX6_isField.cls ≠ "java/lang/invoke/VarHandle" ∧ (parseMethodDescriptor yX6_isField.desc).map (fun d => d.parameters.length) = some 1 := by decide +kernel
theorem hdX6_isByte : yX6_isByte.cls ≠ "java/lang/invoke/MethodHandle" ∧ yX6_isByte.cls ≠ "java/lang/invoke/VarHandle" ∧ (parseMethodDescriptor yX6_isByte.desc).map (fun d => d.parameters.length) = some 2 := by decide +kernel
theorem hdX6_takeDigits : yX6_takeDigits.cls ≠ "java/lang/invoke/MethodHandle" ∧ yX6_takeDigits.cls ≠ "java/lang/invoke/VarHandle" ∧ (parseMethodDescriptor yX6_takeDigits.desc).map (fun d => d.parameters.length) = some 1 := by decide +kernel
theorem hdX6_takeEdited : yX6_takeEdited.cls ≠ "java/lang/invoke/MethodHandle" ∧ yX6_takeEdited.cls ≠ "java/lang/invoke/VarHandle" ∧ (parseMethodDescriptor yX6_takeEdited.desc).map (fun d => d.parameters.length) = some 1 := by decide +kernel
theorem hdX6_takeNumber : yX6_takeNumber.cls ≠ "java/lang/invoke/MethodHandle" ∧ yX6_takeNumber.cls ≠ "java/lang/invoke/VarHandle" ∧ (parseMethodDescriptor yX6_takeNumber.desc).map (fun d => d.parameters.length) = some 1 := by decide +kernel
theorem hdX6_takeCharacters : yX6_takeCharacters.cls ≠ "java/lang/invoke/MethodHandle" ∧ yX6_takeCharacters.cls ≠ "java/lang/invoke/VarHandle" ∧ (parseMethodDescriptor yX6_takeCharacters.desc).map (fun d => d.parameters.length) = some 1 := by decide +kernel
theorem hdX5_isDigit : yX5_isDigit.cls ≠ "java/lang/invoke/MethodHandle" ∧ yX5_isDigit.cls ≠ "java/lang/invoke/VarHandle" ∧ (parseMethodDescriptor yX5_isDigit.desc).map (fun d => d.parameters.length) = some 1 := by decide +kernel
theorem hdX3_append : yX3_append.cls ≠ "java/lang/invoke/MethodHandle" ∧ yX3_append.cls ≠ "java/lang/invoke/VarHandle" ∧ (parseMethodDescriptor yX3_append.desc).map (fun d => d.parameters.length) = some 2 := by decide +kernel
theorem hdX3_closingPlace : yX3_closingPlace.cls ≠ "java/lang/invoke/MethodHandle" ∧ yX3_closingPlace.cls ≠ "java/lang/invoke/VarHandle" ∧ (parseMethodDescriptor yX3_closingPlace.desc).map (fun d => d.parameters.length) = some 3 := by decide +kernel
theorem hdX3_writtenNumber : yX3_writtenNumber.cls ≠ "java/lang/invoke/MethodHandle" ∧ yX3_writtenNumber.cls ≠ "java/lang/invoke/VarHandle" ∧ (parseMethodDescriptor yX3_writtenNumber.desc).map (fun d => d.parameters.length) = some 3 := by decide +kernel
theorem hdX3_expandOne : yX3_expandOne.cls ≠ "java/lang/invoke/MethodHandle" ∧ yX3_expandOne.cls ≠ "java/lang/invoke/VarHandle" ∧ (parseMethodDescriptor yX3_expandOne.desc).map (fun d => d.parameters.length) = some 3 := by decide +kernel
theorem hdX3_runEnd : yX3_runEnd.cls ≠ "java/lang/invoke/MethodHandle" ∧ yX3_runEnd.cls ≠ "java/lang/invoke/VarHandle" ∧ (parseMethodDescriptor yX3_runEnd.desc).map (fun d => d.parameters.length) = some 2 := by decide +kernel
theorem hdX3_symbolAt : yX3_symbolAt.cls ≠ "java/lang/invoke/MethodHandle" ∧ yX3_symbolAt.cls ≠ "java/lang/invoke/VarHandle" ∧ (parseMethodDescriptor yX3_symbolAt.desc).map (fun d => d.parameters.length) = some 1 := by decide +kernel
theorem hdX2_fitsUnscaled : yX2_fitsUnscaled.cls ≠ "java/lang/invoke/MethodHandle" ∧ yX2_fitsUnscaled.cls ≠ "java/lang/invoke/VarHandle" ∧ (parseMethodDescriptor yX2_fitsUnscaled.desc).map (fun d => d.parameters.length) = some 2 := by decide +kernel
theorem hdX2_fitsScaledBefore : yX2_fitsScaledBefore.cls ≠ "java/lang/invoke/MethodHandle" ∧ yX2_fitsScaledBefore.cls ≠ "java/lang/invoke/VarHandle" ∧ (parseMethodDescriptor yX2_fitsScaledBefore.desc).map (fun d => d.parameters.length) = some 2 := by decide +kernel
theorem hdX2_fitsScaledBehind : yX2_fitsScaledBehind.cls ≠ "java/lang/invoke/MethodHandle" ∧ yX2_fitsScaledBehind.cls ≠ "java/lang/invoke/VarHandle" ∧ (parseMethodDescriptor yX2_fitsScaledBehind.desc).map (fun d => d.parameters.length) = some 2 := by decide +kernel
theorem hdX2_isBelowZero : yX2_isBelowZero.cls ≠ "java/lang/invoke/MethodHandle" ∧ yX2_isBelowZero.cls ≠ "java/lang/invoke/VarHandle" ∧ (parseMethodDescriptor yX2_isBelowZero.desc).map (fun d => d.parameters.length) = some 0 := by decide +kernel
theorem hdX2_byteOf : yX2_byteOf.cls ≠ "java/lang/invoke/MethodHandle" ∧ yX2_byteOf.cls ≠ "java/lang/invoke/VarHandle" ∧ (parseMethodDescriptor yX2_byteOf.desc).map (fun d => d.parameters.length) = some 1 := by decide +kernel
theorem hdX2_shiftOf : yX2_shiftOf.cls ≠ "java/lang/invoke/MethodHandle" ∧ yX2_shiftOf.cls ≠ "java/lang/invoke/VarHandle" ∧ (parseMethodDescriptor yX2_shiftOf.desc).map (fun d => d.parameters.length) = some 1 := by decide +kernel
theorem hdX2_signBits : yX2_signBits.cls ≠ "java/lang/invoke/MethodHandle" ∧ yX2_signBits.cls ≠ "java/lang/invoke/VarHandle" ∧ (parseMethodDescriptor yX2_signBits.desc).map (fun d => d.parameters.length) = some 1 := by decide +kernel
theorem hdX5_digitAt : yX5_digitAt.cls ≠ "java/lang/invoke/MethodHandle" ∧ yX5_digitAt.cls ≠ "java/lang/invoke/VarHandle" ∧ (parseMethodDescriptor yX5_digitAt.desc).map (fun d => d.parameters.length) = some 3 := by decide +kernel
theorem hdX0_firstOfRest : yX0_firstOfRest.cls ≠ "java/lang/invoke/MethodHandle" ∧ yX0_firstOfRest.cls ≠ "java/lang/invoke/VarHandle" ∧ (parseMethodDescriptor yX0_firstOfRest.desc).map (fun d => d.parameters.length) = some 0 := by decide +kernel
theorem hdX0_isSign : yX0_isSign.cls ≠ "java/lang/invoke/MethodHandle" ∧ yX0_isSign.cls ≠ "java/lang/invoke/VarHandle" ∧ (parseMethodDescriptor yX0_isSign.desc).map (fun d => d.parameters.length) = some 1 := by decide +kernel
theorem hdX0_standsOnce : yX0_standsOnce.cls ≠ "java/lang/invoke/MethodHandle" ∧ yX0_standsOnce.cls ≠ "java/lang/invoke/VarHandle" ∧ (parseMethodDescriptor yX0_standsOnce.desc).map (fun d => d.parameters.length) = some 1 := by decide +kernel
theorem hdX0_countFill : yX0_countFill.cls ≠ "java/lang/invoke/MethodHandle" ∧ yX0_countFill.cls ≠ "java/lang/invoke/VarHandle" ∧ (parseMethodDescriptor yX0_countFill.desc).map (fun d => d.parameters.length) = some 1 := by decide +kernel
theorem hdX0_countSymbol : yX0_countSymbol.cls ≠ "java/lang/invoke/MethodHandle" ∧ yX0_countSymbol.cls ≠ "java/lang/invoke/VarHandle" ∧ (parseMethodDescriptor yX0_countSymbol.desc).map (fun d => d.parameters.length) = some 1 := by decide +kernel
theorem hdX0_isFloating : yX0_isFloating.cls ≠ "java/lang/invoke/MethodHandle" ∧ yX0_isFloating.cls ≠ "java/lang/invoke/VarHandle" ∧ (parseMethodDescriptor yX0_isFloating.desc).map (fun d => d.parameters.length) = some 0 := by decide +kernel
theorem hdX0_isDigitPlace : yX0_isDigitPlace.cls ≠ "java/lang/invoke/MethodHandle" ∧ yX0_isDigitPlace.cls ≠ "java/lang/invoke/VarHandle" ∧ (parseMethodDescriptor yX0_isDigitPlace.desc).map (fun d => d.parameters.length) = some 1 := by decide +kernel
theorem hdX0_hasHiddenPoint : yX0_hasHiddenPoint.cls ≠ "java/lang/invoke/MethodHandle" ∧ yX0_hasHiddenPoint.cls ≠ "java/lang/invoke/VarHandle" ∧ (parseMethodDescriptor yX0_hasHiddenPoint.desc).map (fun d => d.parameters.length) = some 0 := by decide +kernel
theorem hdX0_isLetterSign : yX0_isLetterSign.cls ≠ "java/lang/invoke/MethodHandle" ∧ yX0_isLetterSign.cls ≠ "java/lang/invoke/VarHandle" ∧ (parseMethodDescriptor yX0_isLetterSign.desc).map (fun d => d.parameters.length) = some 0 := by decide +kernel
theorem hdX0_secondLetter : yX0_secondLetter.cls ≠ "java/lang/invoke/MethodHandle" ∧ yX0_secondLetter.cls ≠ "java/lang/invoke/VarHandle" ∧ (parseMethodDescriptor yX0_secondLetter.desc).map (fun d => d.parameters.length) = some 0 := by decide +kernel
theorem hdX0_isBelowZero : yX0_isBelowZero.cls ≠ "java/lang/invoke/MethodHandle" ∧ yX0_isBelowZero.cls ≠ "java/lang/invoke/VarHandle" ∧ (parseMethodDescriptor yX0_isBelowZero.desc).map (fun d => d.parameters.length) = some 0 := by decide +kernel
theorem hdX0_byteOf : yX0_byteOf.cls ≠ "java/lang/invoke/MethodHandle" ∧ yX0_byteOf.cls ≠ "java/lang/invoke/VarHandle" ∧ (parseMethodDescriptor yX0_byteOf.desc).map (fun d => d.parameters.length) = some 1 := by decide +kernel
theorem hdX0_suppressed : yX0_suppressed.cls ≠ "java/lang/invoke/MethodHandle" ∧ yX0_suppressed.cls ≠ "java/lang/invoke/VarHandle" ∧ (parseMethodDescriptor yX0_suppressed.desc).map (fun d => d.parameters.length) = some 0 := by decide +kernel
theorem hdX0_fixedCharacter : yX0_fixedCharacter.cls ≠ "java/lang/invoke/MethodHandle" ∧ yX0_fixedCharacter.cls ≠ "java/lang/invoke/VarHandle" ∧ (parseMethodDescriptor yX0_fixedCharacter.desc).map (fun d => d.parameters.length) = some 2 := by decide +kernel
theorem hdX0_takeApart : yX0_takeApart.cls ≠ "java/lang/invoke/MethodHandle" ∧ yX0_takeApart.cls ≠ "java/lang/invoke/VarHandle" ∧ (parseMethodDescriptor yX0_takeApart.desc).map (fun d => d.parameters.length) = some 1 := by decide +kernel
theorem hdX0_countBody : yX0_countBody.cls ≠ "java/lang/invoke/MethodHandle" ∧ yX0_countBody.cls ≠ "java/lang/invoke/VarHandle" ∧ (parseMethodDescriptor yX0_countBody.desc).map (fun d => d.parameters.length) = some 0 := by decide +kernel
theorem hdX0_signsAgree : yX0_signsAgree.cls ≠ "java/lang/invoke/MethodHandle" ∧ yX0_signsAgree.cls ≠ "java/lang/invoke/VarHandle" ∧ (parseMethodDescriptor yX0_signsAgree.desc).map (fun d => d.parameters.length) = some 0 := by decide +kernel
theorem hdX0_fillsStandRight : yX0_fillsStandRight.cls ≠ "java/lang/invoke/MethodHandle" ∧ yX0_fillsStandRight.cls ≠ "java/lang/invoke/VarHandle" ∧ (parseMethodDescriptor yX0_fillsStandRight.desc).map (fun d => d.parameters.length) = some 0 := by decide +kernel
theorem hdX0_placeDigits : yX0_placeDigits.cls ≠ "java/lang/invoke/MethodHandle" ∧ yX0_placeDigits.cls ≠ "java/lang/invoke/VarHandle" ∧ (parseMethodDescriptor yX0_placeDigits.desc).map (fun d => d.parameters.length) = some 0 := by decide +kernel
theorem hdX0_standsForMore : yX0_standsForMore.cls ≠ "java/lang/invoke/MethodHandle" ∧ yX0_standsForMore.cls ≠ "java/lang/invoke/VarHandle" ∧ (parseMethodDescriptor yX0_standsForMore.desc).map (fun d => d.parameters.length) = some 3 := by decide +kernel
theorem hdX0_leavesDigit : yX0_leavesDigit.cls ≠ "java/lang/invoke/MethodHandle" ∧ yX0_leavesDigit.cls ≠ "java/lang/invoke/VarHandle" ∧ (parseMethodDescriptor yX0_leavesDigit.desc).map (fun d => d.parameters.length) = some 2 := by decide +kernel
theorem hdX0_writeBody : yX0_writeBody.cls ≠ "java/lang/invoke/MethodHandle" ∧ yX0_writeBody.cls ≠ "java/lang/invoke/VarHandle" ∧ (parseMethodDescriptor yX0_writeBody.desc).map (fun d => d.parameters.length) = some 2 := by decide +kernel
theorem hdX0_zoneEnd : yX0_zoneEnd.cls ≠ "java/lang/invoke/MethodHandle" ∧ yX0_zoneEnd.cls ≠ "java/lang/invoke/VarHandle" ∧ (parseMethodDescriptor yX0_zoneEnd.desc).map (fun d => d.parameters.length) = some 2 := by decide +kernel
theorem hdX0_suppressZone : yX0_suppressZone.cls ≠ "java/lang/invoke/MethodHandle" ∧ yX0_suppressZone.cls ≠ "java/lang/invoke/VarHandle" ∧ (parseMethodDescriptor yX0_suppressZone.desc).map (fun d => d.parameters.length) = some 2 := by decide +kernel
theorem hdX0_writeTrailing : yX0_writeTrailing.cls ≠ "java/lang/invoke/MethodHandle" ∧ yX0_writeTrailing.cls ≠ "java/lang/invoke/VarHandle" ∧ (parseMethodDescriptor yX0_writeTrailing.desc).map (fun d => d.parameters.length) = some 1 := by decide +kernel
theorem hdX0_suppressAll : yX0_suppressAll.cls ≠ "java/lang/invoke/MethodHandle" ∧ yX0_suppressAll.cls ≠ "java/lang/invoke/VarHandle" ∧ (parseMethodDescriptor yX0_suppressAll.desc).map (fun d => d.parameters.length) = some 0 := by decide +kernel
theorem hdX2_takeNumber : yX2_takeNumber.cls ≠ "java/lang/invoke/MethodHandle" ∧ yX2_takeNumber.cls ≠ "java/lang/invoke/VarHandle" ∧ (parseMethodDescriptor yX2_takeNumber.desc).map (fun d => d.parameters.length) = some 2 := by decide +kernel
theorem hdX0_takeNumber : yX0_takeNumber.cls ≠ "java/lang/invoke/MethodHandle" ∧ yX0_takeNumber.cls ≠ "java/lang/invoke/VarHandle" ∧ (parseMethodDescriptor yX0_takeNumber.desc).map (fun d => d.parameters.length) = some 2 := by decide +kernel
theorem hdX2_number : yX2_number.cls ≠ "java/lang/invoke/MethodHandle" ∧ yX2_number.cls ≠ "java/lang/invoke/VarHandle" ∧ (parseMethodDescriptor yX2_number.desc).map (fun d => d.parameters.length) = some 0 := by decide +kernel
theorem hdX4_number : yX4_number.cls ≠ "java/lang/invoke/MethodHandle" ∧ yX4_number.cls ≠ "java/lang/invoke/VarHandle" ∧ (parseMethodDescriptor yX4_number.desc).map (fun d => d.parameters.length) = some 0 := by decide +kernel
theorem hdX0_number : yX0_number.cls ≠ "java/lang/invoke/MethodHandle" ∧ yX0_number.cls ≠ "java/lang/invoke/VarHandle" ∧ (parseMethodDescriptor yX0_number.desc).map (fun d => d.parameters.length) = some 0 := by decide +kernel
theorem hdX1_spell : yX1_spell.cls ≠ "java/lang/invoke/MethodHandle" ∧ yX1_spell.cls ≠ "java/lang/invoke/VarHandle" ∧ (parseMethodDescriptor yX1_spell.desc).map (fun d => d.parameters.length) = some 2 := by decide +kernel
theorem hdX2_spell : yX2_spell.cls ≠ "java/lang/invoke/MethodHandle" ∧ yX2_spell.cls ≠ "java/lang/invoke/VarHandle" ∧ (parseMethodDescriptor yX2_spell.desc).map (fun d => d.parameters.length) = some 2 := by decide +kernel
theorem hdX5_existing : yX5_existing.cls ≠ "java/lang/invoke/MethodHandle" ∧ yX5_existing.cls ≠ "java/lang/invoke/VarHandle" ∧ (parseMethodDescriptor yX5_existing.desc).map (fun d => d.parameters.length) = some 1 := by decide +kernel
theorem hdX2_kind : yX2_kind.cls ≠ "java/lang/invoke/MethodHandle" ∧ yX2_kind.cls ≠ "java/lang/invoke/VarHandle" ∧ (parseMethodDescriptor yX2_kind.desc).map (fun d => d.parameters.length) = some 0 := by decide +kernel
theorem hdX1_hasByte : yX1_hasByte.cls ≠ "java/lang/invoke/MethodHandle" ∧ yX1_hasByte.cls ≠ "java/lang/invoke/VarHandle" ∧ (parseMethodDescriptor yX1_hasByte.desc).map (fun d => d.parameters.length) = some 1 := by decide +kernel
theorem hdX4_kind : yX4_kind.cls ≠ "java/lang/invoke/MethodHandle" ∧ yX4_kind.cls ≠ "java/lang/invoke/VarHandle" ∧ (parseMethodDescriptor yX4_kind.desc).map (fun d => d.parameters.length) = some 0 := by decide +kernel
theorem hdX0_kind : yX0_kind.cls ≠ "java/lang/invoke/MethodHandle" ∧ yX0_kind.cls ≠ "java/lang/invoke/VarHandle" ∧ (parseMethodDescriptor yX0_kind.desc).map (fun d => d.parameters.length) = some 0 := by decide +kernel
theorem hdX1_takeField : yX1_takeField.cls ≠ "java/lang/invoke/MethodHandle" ∧ yX1_takeField.cls ≠ "java/lang/invoke/VarHandle" ∧ (parseMethodDescriptor yX1_takeField.desc).map (fun d => d.parameters.length) = some 1 := by decide +kernel
theorem hdX4_takeField : yX4_takeField.cls ≠ "java/lang/invoke/MethodHandle" ∧ yX4_takeField.cls ≠ "java/lang/invoke/VarHandle" ∧ (parseMethodDescriptor yX4_takeField.desc).map (fun d => d.parameters.length) = some 1 := by decide +kernel
theorem hdX2_fits : yX2_fits.cls ≠ "java/lang/invoke/MethodHandle" ∧ yX2_fits.cls ≠ "java/lang/invoke/VarHandle" ∧ (parseMethodDescriptor yX2_fits.desc).map (fun d => d.parameters.length) = some 1 := by decide +kernel
theorem hdX4_fits : yX4_fits.cls ≠ "java/lang/invoke/MethodHandle" ∧ yX4_fits.cls ≠ "java/lang/invoke/VarHandle" ∧ (parseMethodDescriptor yX4_fits.desc).map (fun d => d.parameters.length) = some 1 := by decide +kernel
theorem hdX0_fits : yX0_fits.cls ≠ "java/lang/invoke/MethodHandle" ∧ yX0_fits.cls ≠ "java/lang/invoke/VarHandle" ∧ (parseMethodDescriptor yX0_fits.desc).map (fun d => d.parameters.length) = some 1 := by decide +kernel
theorem hdX2_takesUsage : yX2_takesUsage.cls ≠ "java/lang/invoke/MethodHandle" ∧ yX2_takesUsage.cls ≠ "java/lang/invoke/VarHandle" ∧ (parseMethodDescriptor yX2_takesUsage.desc).map (fun d => d.parameters.length) = some 1 := by decide +kernel
theorem hdX3_expand : yX3_expand.cls ≠ "java/lang/invoke/MethodHandle" ∧ yX3_expand.cls ≠ "java/lang/invoke/VarHandle" ∧ (parseMethodDescriptor yX3_expand.desc).map (fun d => d.parameters.length) = some 2 := by decide +kernel
theorem hdX5_fittingField : yX5_fittingField.cls ≠ "java/lang/invoke/MethodHandle" ∧ yX5_fittingField.cls ≠ "java/lang/invoke/VarHandle" ∧ (parseMethodDescriptor yX5_fittingField.desc).map (fun d => d.parameters.length) = some 2 := by decide +kernel
theorem hdX1_empty : yX1_empty.cls ≠ "java/lang/invoke/MethodHandle" ∧ yX1_empty.cls ≠ "java/lang/invoke/VarHandle" ∧ (parseMethodDescriptor yX1_empty.desc).map (fun d => d.parameters.length) = some 0 := by decide +kernel
theorem hdX4_empty : yX4_empty.cls ≠ "java/lang/invoke/MethodHandle" ∧ yX4_empty.cls ≠ "java/lang/invoke/VarHandle" ∧ (parseMethodDescriptor yX4_empty.desc).map (fun d => d.parameters.length) = some 0 := by decide +kernel
theorem hdX4_takeNumber : yX4_takeNumber.cls ≠ "java/lang/invoke/MethodHandle" ∧ yX4_takeNumber.cls ≠ "java/lang/invoke/VarHandle" ∧ (parseMethodDescriptor yX4_takeNumber.desc).map (fun d => d.parameters.length) = some 2 := by decide +kernel
theorem hdX5_declare : yX5_declare.cls ≠ "java/lang/invoke/MethodHandle" ∧ yX5_declare.cls ≠ "java/lang/invoke/VarHandle" ∧ (parseMethodDescriptor yX5_declare.desc).map (fun d => d.parameters.length) = some 1 := by decide +kernel
theorem hdX5_look : yX5_look.cls ≠ "java/lang/invoke/MethodHandle" ∧ yX5_look.cls ≠ "java/lang/invoke/VarHandle" ∧ (parseMethodDescriptor yX5_look.desc).map (fun d => d.parameters.length) = some 2 := by decide +kernel
theorem hdX5_get : yX5_get.cls ≠ "java/lang/invoke/MethodHandle" ∧ yX5_get.cls ≠ "java/lang/invoke/VarHandle" ∧ (parseMethodDescriptor yX5_get.desc).map (fun d => d.parameters.length) = some 2 := by decide +kernel
theorem hdX5_set : yX5_set.cls ≠ "java/lang/invoke/MethodHandle" ∧ yX5_set.cls ≠ "java/lang/invoke/VarHandle" ∧ (parseMethodDescriptor yX5_set.desc).map (fun d => d.parameters.length) = some 3 := by decide +kernel
theorem hdX5_value : yX5_value.cls ≠ "java/lang/invoke/MethodHandle" ∧ yX5_value.cls ≠ "java/lang/invoke/VarHandle" ∧ (parseMethodDescriptor yX5_value.desc).map (fun d => d.parameters.length) = some 1 := by decide +kernel
theorem hdX5_put : yX5_put.cls ≠ "java/lang/invoke/MethodHandle" ∧ yX5_put.cls ≠ "java/lang/invoke/VarHandle" ∧ (parseMethodDescriptor yX5_put.desc).map (fun d => d.parameters.length) = some 3 := by decide +kernel
theorem hdX5_move : yX5_move.cls ≠ "java/lang/invoke/MethodHandle" ∧ yX5_move.cls ≠ "java/lang/invoke/VarHandle" ∧ (parseMethodDescriptor yX5_move.desc).map (fun d => d.parameters.length) = some 2 := by decide +kernel
theorem hdX1_init : yX1_init.cls ≠ "java/lang/invoke/MethodHandle" ∧ yX1_init.cls ≠ "java/lang/invoke/VarHandle" ∧ (parseMethodDescriptor yX1_init.desc).map (fun d => d.parameters.length) = some 0 := by decide +kernel
theorem hdX3_init : yX3_init.cls ≠ "java/lang/invoke/MethodHandle" ∧ yX3_init.cls ≠ "java/lang/invoke/VarHandle" ∧ (parseMethodDescriptor yX3_init.desc).map (fun d => d.parameters.length) = some 0 := by decide +kernel
theorem hdX2_init : yX2_init.cls ≠ "java/lang/invoke/MethodHandle" ∧ yX2_init.cls ≠ "java/lang/invoke/VarHandle" ∧ (parseMethodDescriptor yX2_init.desc).map (fun d => d.parameters.length) = some 0 := by decide +kernel
theorem hdX4_init : yX4_init.cls ≠ "java/lang/invoke/MethodHandle" ∧ yX4_init.cls ≠ "java/lang/invoke/VarHandle" ∧ (parseMethodDescriptor yX4_init.desc).map (fun d => d.parameters.length) = some 0 := by decide +kernel
theorem hdX0_init : yX0_init.cls ≠ "java/lang/invoke/MethodHandle" ∧ yX0_init.cls ≠ "java/lang/invoke/VarHandle" ∧ (parseMethodDescriptor yX0_init.desc).map (fun d => d.parameters.length) = some 0 := by decide +kernel
theorem hdX5_init : yX5_init.cls ≠ "java/lang/invoke/MethodHandle" ∧ yX5_init.cls ≠ "java/lang/invoke/VarHandle" ∧ (parseMethodDescriptor yX5_init.desc).map (fun d => d.parameters.length) = some 0 := by decide +kernel
theorem hdX6_init : yX6_init.cls ≠ "java/lang/invoke/MethodHandle" ∧ yX6_init.cls ≠ "java/lang/invoke/VarHandle" ∧ (parseMethodDescriptor yX6_init.desc).map (fun d => d.parameters.length) = some 0 := by decide +kernel
theorem hdX5_type : yX5_type.cls ≠ "java/lang/invoke/MethodHandle" ∧ yX5_type.cls ≠ "java/lang/invoke/VarHandle" ∧ (parseMethodDescriptor yX5_type.desc).map (fun d => d.parameters.length) = some 1 := by decide +kernel
theorem hdX6_type : yX6_type.cls ≠ "java/lang/invoke/MethodHandle" ∧ yX6_type.cls ≠ "java/lang/invoke/VarHandle" ∧ (parseMethodDescriptor yX6_type.desc).map (fun d => d.parameters.length) = some 1 := by decide +kernel
theorem hdL_declare : yL_declare.cls ≠ "java/lang/invoke/MethodHandle" ∧ yL_declare.cls ≠ "java/lang/invoke/VarHandle" ∧ (parseMethodDescriptor yL_declare.desc).map (fun d => d.parameters.length) = some 3 := by decide +kernel
theorem hdX6_declare : yX6_declare.cls ≠ "java/lang/invoke/MethodHandle" ∧ yX6_declare.cls ≠ "java/lang/invoke/VarHandle" ∧ (parseMethodDescriptor yX6_declare.desc).map (fun d => d.parameters.length) = some 1 := by decide +kernel
theorem hdX6_thrown : yX6_thrown.cls ≠ "java/lang/invoke/MethodHandle" ∧ yX6_thrown.cls ≠ "java/lang/invoke/VarHandle" ∧ (parseMethodDescriptor yX6_thrown.desc).map (fun d => d.parameters.length) = some 0 := by decide +kernel
theorem hdX5_clear : yX5_clear.cls ≠ "java/lang/invoke/MethodHandle" ∧ yX5_clear.cls ≠ "java/lang/invoke/VarHandle" ∧ (parseMethodDescriptor yX5_clear.desc).map (fun d => d.parameters.length) = some 0 := by decide +kernel
theorem hdX6_clear : yX6_clear.cls ≠ "java/lang/invoke/MethodHandle" ∧ yX6_clear.cls ≠ "java/lang/invoke/VarHandle" ∧ (parseMethodDescriptor yX6_clear.desc).map (fun d => d.parameters.length) = some 0 := by decide +kernel
theorem hdX5_fields : yX5_fields.cls ≠ "java/lang/invoke/MethodHandle" ∧ yX5_fields.cls ≠ "java/lang/invoke/VarHandle" ∧ (parseMethodDescriptor yX5_fields.desc).map (fun d => d.parameters.length) = some 0 := by decide +kernel
theorem hdX6_fields : yX6_fields.cls ≠ "java/lang/invoke/MethodHandle" ∧ yX6_fields.cls ≠ "java/lang/invoke/VarHandle" ∧ (parseMethodDescriptor yX6_fields.desc).map (fun d => d.parameters.length) = some 0 := by decide +kernel
theorem hdL_look : yL_look.cls ≠ "java/lang/invoke/MethodHandle" ∧ yL_look.cls ≠ "java/lang/invoke/VarHandle" ∧ (parseMethodDescriptor yL_look.desc).map (fun d => d.parameters.length) = some 4 := by decide +kernel
theorem hdX6_look : yX6_look.cls ≠ "java/lang/invoke/MethodHandle" ∧ yX6_look.cls ≠ "java/lang/invoke/VarHandle" ∧ (parseMethodDescriptor yX6_look.desc).map (fun d => d.parameters.length) = some 2 := by decide +kernel
theorem hdL_get : yL_get.cls ≠ "java/lang/invoke/MethodHandle" ∧ yL_get.cls ≠ "java/lang/invoke/VarHandle" ∧ (parseMethodDescriptor yL_get.desc).map (fun d => d.parameters.length) = some 4 := by decide +kernel
theorem hdX6_get : yX6_get.cls ≠ "java/lang/invoke/MethodHandle" ∧ yX6_get.cls ≠ "java/lang/invoke/VarHandle" ∧ (parseMethodDescriptor yX6_get.desc).map (fun d => d.parameters.length) = some 2 := by decide +kernel
theorem hdL_set : yL_set.cls ≠ "java/lang/invoke/MethodHandle" ∧ yL_set.cls ≠ "java/lang/invoke/VarHandle" ∧ (parseMethodDescriptor yL_set.desc).map (fun d => d.parameters.length) = some 4 := by decide +kernel
theorem hdX6_set : yX6_set.cls ≠ "java/lang/invoke/MethodHandle" ∧ yX6_set.cls ≠ "java/lang/invoke/VarHandle" ∧ (parseMethodDescriptor yX6_set.desc).map (fun d => d.parameters.length) = some 3 := by decide +kernel
theorem hdL_put : yL_put.cls ≠ "java/lang/invoke/MethodHandle" ∧ yL_put.cls ≠ "java/lang/invoke/VarHandle" ∧ (parseMethodDescriptor yL_put.desc).map (fun d => d.parameters.length) = some 4 := by decide +kernel
theorem hdX6_put2 : yX6_put2.cls ≠ "java/lang/invoke/MethodHandle" ∧ yX6_put2.cls ≠ "java/lang/invoke/VarHandle" ∧ (parseMethodDescriptor yX6_put2.desc).map (fun d => d.parameters.length) = some 3 := by decide +kernel
theorem hdL_move : yL_move.cls ≠ "java/lang/invoke/MethodHandle" ∧ yL_move.cls ≠ "java/lang/invoke/VarHandle" ∧ (parseMethodDescriptor yL_move.desc).map (fun d => d.parameters.length) = some 3 := by decide +kernel
theorem hdX6_move : yX6_move.cls ≠ "java/lang/invoke/MethodHandle" ∧ yX6_move.cls ≠ "java/lang/invoke/VarHandle" ∧ (parseMethodDescriptor yX6_move.desc).map (fun d => d.parameters.length) = some 2 := by decide +kernel
theorem hdL_value : yL_value.cls ≠ "java/lang/invoke/MethodHandle" ∧ yL_value.cls ≠ "java/lang/invoke/VarHandle" ∧ (parseMethodDescriptor yL_value.desc).map (fun d => d.parameters.length) = some 3 := by decide +kernel
theorem hdX6_value : yX6_value.cls ≠ "java/lang/invoke/MethodHandle" ∧ yX6_value.cls ≠ "java/lang/invoke/VarHandle" ∧ (parseMethodDescriptor yX6_value.desc).map (fun d => d.parameters.length) = some 1 := by decide +kernel
