/-! ===== BEGIN printed: names, fields, word lists, decode rows ===== -/
def RX0 : String := "BitNotation$Kind"
def TX0 : u_T := fun k => match k with
  | _ => ("", "", "", false)
def tyX0 : Nat → FieldType := fun k => match k with
  | _ => .int
abbrev wsX00 : List Cond := u_ws RX0 TX0 0
theorem nmX0 : ∀ a, a < 0 → ∀ b, b < 0 → a ≠ b → (TX0 a).2.1 ≠ (TX0 b).2.1 := by decide +kernel
theorem tyX0_ok : ∀ k, k < 0 → parseFieldDescriptor (TX0 k).2.2.1 = some (tyX0 k) := by decide +kernel
def RX1 : String := "BitNotation$Reader"
def TX1 : u_T := fun k => match k with
  | 0 => ("BitNotation$Reader", "heard", "LBitNotation$Row;", true)
  | 1 => ("BitNotation$Reader", "additionsKnown", "I", false)
  | 2 => ("BitNotation$Reader", "place", "I", false)
  | _ => ("BitNotation$Reader", "fault", "I", false)
def tyX1 : Nat → FieldType := fun k => match k with
  | 0 => .object "BitNotation$Row"
  | 1 => .int
  | 2 => .int
  | _ => .int
abbrev wsX10 : List Cond := u_ws RX1 TX1 4
theorem nmX1 : ∀ a, a < 4 → ∀ b, b < 4 → a ≠ b → (TX1 a).2.1 ≠ (TX1 b).2.1 := by decide +kernel
theorem tyX1_ok : ∀ k, k < 4 → parseFieldDescriptor (TX1 k).2.2.1 = some (tyX1 k) := by decide +kernel
abbrev cX1_init : ByteArray := prog_3_method_1_code
def yX1_init : MethodName := ⟨RX1, "<init>", "()V"⟩
abbrev cX1_walk : ByteArray := prog_3_method_2_code
def yX1_walk : MethodName := ⟨RX1, "walk", "(LBitNotation$Type;LBitNotation$Row;I)I"⟩
abbrev cX1_getValue : ByteArray := prog_3_method_3_code
def yX1_getValue : MethodName := ⟨RX1, "getValue", "(LBitNotation$Type;LBitNotation$Row;I)V"⟩
abbrev cX1_getSequence : ByteArray := prog_3_method_4_code
def yX1_getSequence : MethodName := ⟨RX1, "getSequence", "(LBitNotation$Type;LBitNotation$Row;I)V"⟩
abbrev cX1_nextParts : ByteArray := prog_3_method_5_code
def yX1_nextParts : MethodName := ⟨RX1, "nextParts", "(LBitNotation$Type;LBitNotation$Row;)I"⟩
abbrev cX1_getAdditions : ByteArray := prog_3_method_6_code
def yX1_getAdditions : MethodName := ⟨RX1, "getAdditions", "(LBitNotation$Type;ILBitNotation$Row;I)V"⟩
abbrev cX1_getAddition : ByteArray := prog_3_method_7_code
def yX1_getAddition : MethodName := ⟨RX1, "getAddition", "(LBitNotation$Type;ILBitNotation$Row;I)V"⟩
abbrev cX1_skip : ByteArray := prog_3_method_8_code
def yX1_skip : MethodName := ⟨RX1, "skip", "(ILBitNotation$Row;)V"⟩
abbrev cX1_next : ByteArray := prog_3_method_9_code
def yX1_next : MethodName := ⟨RX1, "next", "(LBitNotation$Row;II)I"⟩
def RX2 : String := "BitNotation$Row"
def TX2 : u_T := fun k => match k with
  | 0 => ("BitNotation$Row", "items", "[I", true)
  | _ => ("BitNotation$Row", "count", "I", false)
def tyX2 : Nat → FieldType := fun k => match k with
  | 0 => .array .int
  | _ => .int
abbrev wsX20 : List Cond := u_ws RX2 TX2 2
theorem nmX2 : ∀ a, a < 2 → ∀ b, b < 2 → a ≠ b → (TX2 a).2.1 ≠ (TX2 b).2.1 := by decide +kernel
theorem tyX2_ok : ∀ k, k < 2 → parseFieldDescriptor (TX2 k).2.2.1 = some (tyX2 k) := by decide +kernel
abbrev cX2_init : ByteArray := prog_4_method_1_code
def yX2_init : MethodName := ⟨RX2, "<init>", "(I)V"⟩
abbrev cX2_size : ByteArray := prog_4_method_2_code
def yX2_size : MethodName := ⟨RX2, "size", "()I"⟩
abbrev cX2_isFull : ByteArray := prog_4_method_3_code
def yX2_isFull : MethodName := ⟨RX2, "isFull", "()Z"⟩
abbrev cX2_has : ByteArray := prog_4_method_4_code
def yX2_has : MethodName := ⟨RX2, "has", "(I)Z"⟩
abbrev cX2_at : ByteArray := prog_4_method_5_code
def yX2_at : MethodName := ⟨RX2, "at", "(I)I"⟩
abbrev cX2_append : ByteArray := prog_4_method_6_code
def yX2_append : MethodName := ⟨RX2, "append", "(I)V"⟩
abbrev cX2_replace : ByteArray := prog_4_method_7_code
def yX2_replace : MethodName := ⟨RX2, "replace", "(II)V"⟩
abbrev cX2_keepFirst : ByteArray := prog_4_method_8_code
def yX2_keepFirst : MethodName := ⟨RX2, "keepFirst", "(I)V"⟩
abbrev cX2_becomeCopyOf : ByteArray := prog_4_method_9_code
def yX2_becomeCopyOf : MethodName := ⟨RX2, "becomeCopyOf", "(LBitNotation$Row;)V"⟩
def RX3 : String := "BitNotation$Type"
def TX3 : u_T := fun k => match k with
  | 0 => ("BitNotation$Type", "kind", "LBitNotation$Kind;", true)
  | 1 => ("BitNotation$Type", "least", "I", true)
  | 2 => ("BitNotation$Type", "greatest", "I", true)
  | 3 => ("BitNotation$Type", "width", "I", true)
  | 4 => ("BitNotation$Type", "parts", "LBitNotation$TypeRow;", true)
  | 5 => ("BitNotation$Type", "optional", "I", true)
  | 6 => ("BitNotation$Type", "additions", "LBitNotation$TypeRow;", true)
  | 7 => ("BitNotation$Type", "fewestBits", "I", false)
  | 8 => ("BitNotation$Type", "mostBits", "I", false)
  | _ => ("BitNotation$Type", "mostNumbers", "I", false)
def tyX3 : Nat → FieldType := fun k => match k with
  | 0 => .object "BitNotation$Kind"
  | 1 => .int
  | 2 => .int
  | 3 => .int
  | 4 => .object "BitNotation$TypeRow"
  | 5 => .int
  | 6 => .object "BitNotation$TypeRow"
  | 7 => .int
  | 8 => .int
  | _ => .int
abbrev wsX30 : List Cond := u_ws RX3 TX3 10
theorem nmX3 : ∀ a, a < 10 → ∀ b, b < 10 → a ≠ b → (TX3 a).2.1 ≠ (TX3 b).2.1 := by decide +kernel
theorem tyX3_ok : ∀ k, k < 10 → parseFieldDescriptor (TX3 k).2.2.1 = some (tyX3 k) := by decide +kernel
abbrev cX3_init : ByteArray := prog_5_method_1_code
def yX3_init : MethodName := ⟨RX3, "<init>", "(LBitNotation$Kind;IILBitNotation$TypeRow;I)V"⟩
abbrev cX3_isOptional : ByteArray := prog_5_method_2_code
def yX3_isOptional : MethodName := ⟨RX3, "isOptional", "(I)Z"⟩
abbrev cX3_measure : ByteArray := prog_5_method_3_code
def yX3_measure : MethodName := ⟨RX3, "measure", "()Z"⟩
abbrev cX3_measureThings : ByteArray := prog_5_method_4_code
def yX3_measureThings : MethodName := ⟨RX3, "measureThings", "()V"⟩
abbrev cX3_measureChoices : ByteArray := prog_5_method_5_code
def yX3_measureChoices : MethodName := ⟨RX3, "measureChoices", "()V"⟩
abbrev cX3_measureParts : ByteArray := prog_5_method_6_code
def yX3_measureParts : MethodName := ⟨RX3, "measureParts", "()V"⟩
abbrev cX3_measureAdditions : ByteArray := prog_5_method_7_code
def yX3_measureAdditions : MethodName := ⟨RX3, "measureAdditions", "()V"⟩
def RX4 : String := "BitNotation$TypeRow"
def TX4 : u_T := fun k => match k with
  | 0 => ("BitNotation$TypeRow", "items", "[LBitNotation$Type;", true)
  | _ => ("BitNotation$TypeRow", "count", "I", false)
def tyX4 : Nat → FieldType := fun k => match k with
  | 0 => .array (.object "BitNotation$Type")
  | _ => .int
abbrev wsX40 : List Cond := u_ws RX4 TX4 2
theorem nmX4 : ∀ a, a < 2 → ∀ b, b < 2 → a ≠ b → (TX4 a).2.1 ≠ (TX4 b).2.1 := by decide +kernel
theorem tyX4_ok : ∀ k, k < 2 → parseFieldDescriptor (TX4 k).2.2.1 = some (tyX4 k) := by decide +kernel
abbrev cX4_init : ByteArray := prog_6_method_1_code
def yX4_init : MethodName := ⟨RX4, "<init>", "(I)V"⟩
abbrev cX4_size : ByteArray := prog_6_method_2_code
def yX4_size : MethodName := ⟨RX4, "size", "()I"⟩
abbrev cX4_isFull : ByteArray := prog_6_method_3_code
def yX4_isFull : MethodName := ⟨RX4, "isFull", "()Z"⟩
abbrev cX4_at : ByteArray := prog_6_method_4_code
def yX4_at : MethodName := ⟨RX4, "at", "(I)LBitNotation$Type;"⟩
abbrev cX4_append : ByteArray := prog_6_method_5_code
def yX4_append : MethodName := ⟨RX4, "append", "(LBitNotation$Type;)V"⟩
abbrev cX4_dropLast : ByteArray := prog_6_method_6_code
def yX4_dropLast : MethodName := ⟨RX4, "dropLast", "()V"⟩
abbrev cX4_measureAll : ByteArray := prog_6_method_7_code
def yX4_measureAll : MethodName := ⟨RX4, "measureAll", "()Z"⟩
def RX5 : String := "BitNotation$Writer"
def TX5 : u_T := fun k => match k with
  | 0 => ("BitNotation$Writer", "written", "LBitNotation$Row;", true)
  | 1 => ("BitNotation$Writer", "place", "I", false)
  | _ => ("BitNotation$Writer", "wrong", "I", false)
def tyX5 : Nat → FieldType := fun k => match k with
  | 0 => .object "BitNotation$Row"
  | 1 => .int
  | _ => .int
abbrev wsX50 : List Cond := u_ws RX5 TX5 3
theorem nmX5 : ∀ a, a < 3 → ∀ b, b < 3 → a ≠ b → (TX5 a).2.1 ≠ (TX5 b).2.1 := by decide +kernel
theorem tyX5_ok : ∀ k, k < 3 → parseFieldDescriptor (TX5 k).2.2.1 = some (tyX5 k) := by decide +kernel
abbrev cX5_init : ByteArray := prog_7_method_1_code
def yX5_init : MethodName := ⟨RX5, "<init>", "()V"⟩
abbrev cX5_walk : ByteArray := prog_7_method_2_code
def yX5_walk : MethodName := ⟨RX5, "walk", "(LBitNotation$Type;LBitNotation$Row;)I"⟩
abbrev cX5_putValue : ByteArray := prog_7_method_3_code
def yX5_putValue : MethodName := ⟨RX5, "putValue", "(LBitNotation$Type;LBitNotation$Row;I)V"⟩
abbrev cX5_putSequence : ByteArray := prog_7_method_4_code
def yX5_putSequence : MethodName := ⟨RX5, "putSequence", "(LBitNotation$Type;LBitNotation$Row;I)V"⟩
abbrev cX5_nextParts : ByteArray := prog_7_method_5_code
def yX5_nextParts : MethodName := ⟨RX5, "nextParts", "(LBitNotation$Type;LBitNotation$Row;)I"⟩
abbrev cX5_putAddition : ByteArray := prog_7_method_6_code
def yX5_putAddition : MethodName := ⟨RX5, "putAddition", "(LBitNotation$Type;LBitNotation$Row;I)V"⟩
abbrev cX5_next : ByteArray := prog_7_method_7_code
def yX5_next : MethodName := ⟨RX5, "next", "(LBitNotation$Row;II)I"⟩
abbrev cX5_put : ByteArray := prog_7_method_8_code
def yX5_put : MethodName := ⟨RX5, "put", "(II)V"⟩
def RX6 : String := "BitNotation"
def TX6 : u_T := fun k => match k with
  | 0 => ("BitNotation", "notation", "LBitNotation$TypeRow;", true)
  | 1 => ("BitNotation", "tale", "LBitNotation$Row;", true)
  | 2 => ("BitNotation", "message", "LBitNotation$Row;", true)
  | 3 => ("BitNotation", "writer", "LBitNotation$Writer;", true)
  | 4 => ("BitNotation", "reader", "LBitNotation$Reader;", true)
  | 5 => ("BitNotation", "draft", "LBitNotation$TypeRow;", false)
  | _ => ("BitNotation", "draftOptional", "I", false)
def tyX6 : Nat → FieldType := fun k => match k with
  | 0 => .object "BitNotation$TypeRow"
  | 1 => .object "BitNotation$Row"
  | 2 => .object "BitNotation$Row"
  | 3 => .object "BitNotation$Writer"
  | 4 => .object "BitNotation$Reader"
  | 5 => .object "BitNotation$TypeRow"
  | _ => .int
abbrev wsX60 : List Cond := u_ws RX6 TX6 7
theorem nmX6 : ∀ a, a < 7 → ∀ b, b < 7 → a ≠ b → (TX6 a).2.1 ≠ (TX6 b).2.1 := by decide +kernel
theorem tyX6_ok : ∀ k, k < 7 → parseFieldDescriptor (TX6 k).2.2.1 = some (tyX6 k) := by decide +kernel
abbrev cX6_init : ByteArray := prog_1_method_1_code
def yX6_init : MethodName := ⟨RX6, "<init>", "()V"⟩
abbrev cX6_addNumber : ByteArray := prog_1_method_2_code
def yX6_addNumber : MethodName := ⟨RX6, "addNumber", "(II)I"⟩
abbrev cX6_addList : ByteArray := prog_1_method_3_code
def yX6_addList : MethodName := ⟨RX6, "addList", "(III)I"⟩
abbrev cX6_part : ByteArray := prog_1_method_4_code
def yX6_part : MethodName := ⟨RX6, "part", "(IZ)I"⟩
abbrev cX6_addSequence : ByteArray := prog_1_method_5_code
def yX6_addSequence : MethodName := ⟨RX6, "addSequence", "()I"⟩
abbrev cX6_addChoice : ByteArray := prog_1_method_6_code
def yX6_addChoice : MethodName := ⟨RX6, "addChoice", "()I"⟩
abbrev cX6_extend : ByteArray := prog_1_method_7_code
def yX6_extend : MethodName := ⟨RX6, "extend", "(II)I"⟩
abbrev cX6_types : ByteArray := prog_1_method_8_code
def yX6_types : MethodName := ⟨RX6, "types", "()I"⟩
abbrev cX6_leastBits : ByteArray := prog_1_method_9_code
def yX6_leastBits : MethodName := ⟨RX6, "leastBits", "(I)I"⟩
abbrev cX6_mostBits : ByteArray := prog_1_method_10_code
def yX6_mostBits : MethodName := ⟨RX6, "mostBits", "(I)I"⟩
abbrev cX6_tell : ByteArray := prog_1_method_11_code
def yX6_tell : MethodName := ⟨RX6, "tell", "(I)I"⟩
abbrev cX6_forget : ByteArray := prog_1_method_12_code
def yX6_forget : MethodName := ⟨RX6, "forget", "()I"⟩
abbrev cX6_length : ByteArray := prog_1_method_13_code
def yX6_length : MethodName := ⟨RX6, "length", "()I"⟩
abbrev cX6_told : ByteArray := prog_1_method_14_code
def yX6_told : MethodName := ⟨RX6, "told", "(I)I"⟩
abbrev cX6_wrongAt : ByteArray := prog_1_method_15_code
def yX6_wrongAt : MethodName := ⟨RX6, "wrongAt", "(I)I"⟩
abbrev cX6_write : ByteArray := prog_1_method_16_code
def yX6_write : MethodName := ⟨RX6, "write", "(I)I"⟩
abbrev cX6_bits : ByteArray := prog_1_method_17_code
def yX6_bits : MethodName := ⟨RX6, "bits", "()I"⟩
abbrev cX6_bit : ByteArray := prog_1_method_18_code
def yX6_bit : MethodName := ⟨RX6, "bit", "(I)I"⟩
abbrev cX6_flip : ByteArray := prog_1_method_19_code
def yX6_flip : MethodName := ⟨RX6, "flip", "(I)I"⟩
abbrev cX6_cut : ByteArray := prog_1_method_20_code
def yX6_cut : MethodName := ⟨RX6, "cut", "(I)I"⟩
abbrev cX6_read : ByteArray := prog_1_method_21_code
def yX6_read : MethodName := ⟨RX6, "read", "(II)I"⟩
abbrev cX6_faultAt : ByteArray := prog_1_method_22_code
def yX6_faultAt : MethodName := ⟨RX6, "faultAt", "(II)I"⟩
abbrev cX6_isOutside : ByteArray := prog_1_method_23_code
def yX6_isOutside : MethodName := ⟨RX6, "isOutside", "(III)Z"⟩
abbrev cX6_typeNumbered : ByteArray := prog_1_method_24_code
def yX6_typeNumbered : MethodName := ⟨RX6, "typeNumbered", "(I)LBitNotation$Type;"⟩
abbrev cX6_keep : ByteArray := prog_1_method_25_code
def yX6_keep : MethodName := ⟨RX6, "keep", "(LBitNotation$Type;)I"⟩
abbrev cX6_keepDraft : ByteArray := prog_1_method_26_code
def yX6_keepDraft : MethodName := ⟨RX6, "keepDraft", "(LBitNotation$Type;)I"⟩
abbrev cX6_placeOfFault : ByteArray := prog_1_method_27_code
def yX6_placeOfFault : MethodName := ⟨RX6, "placeOfFault", "(II)I"⟩
abbrev cX6_widthFor : ByteArray := prog_1_method_28_code
def yX6_widthFor : MethodName := ⟨RX6, "widthFor", "(I)I"⟩
def RX7 : String := "BitNotationModel"
def TX7 : u_T := fun k => match k with
  | 0 => ("BitNotationModel", "refusal", "I", false)
  | 1 => ("BitNotationModel", "types", "I", false)
  | 2 => ("BitNotationModel", "kinds", "[I", true)
  | 3 => ("BitNotationModel", "leasts", "[I", true)
  | 4 => ("BitNotationModel", "greatests", "[I", true)
  | 5 => ("BitNotationModel", "parts", "[I", true)
  | 6 => ("BitNotationModel", "counts", "[I", true)
  | 7 => ("BitNotationModel", "additions", "[I", true)
  | 8 => ("BitNotationModel", "added", "[I", true)
  | 9 => ("BitNotationModel", "low", "[I", true)
  | 10 => ("BitNotationModel", "high", "[I", true)
  | 11 => ("BitNotationModel", "longest", "[I", true)
  | 12 => ("BitNotationModel", "drafted", "I", false)
  | 13 => ("BitNotationModel", "draft", "[I", true)
  | 14 => ("BitNotationModel", "told", "I", false)
  | 15 => ("BitNotationModel", "tale", "[I", true)
  | 16 => ("BitNotationModel", "written", "I", false)
  | 17 => ("BitNotationModel", "row", "[I", true)
  | 18 => ("BitNotationModel", "found", "I", false)
  | 19 => ("BitNotationModel", "read", "[I", true)
  | 20 => ("BitNotationModel", "depth", "I", false)
  | 21 => ("BitNotationModel", "piled", "[I", true)
  | 22 => ("BitNotationModel", "steps", "[I", true)
  | 23 => ("BitNotationModel", "left", "[I", true)
  | 24 => ("BitNotationModel", "more", "[I", true)
  | 25 => ("BitNotationModel", "marks", "[I", true)
  | 26 => ("BitNotationModel", "lengths", "[I", true)
  | 27 => ("BitNotationModel", "slots", "[I", true)
  | 28 => ("BitNotationModel", "place", "I", false)
  | _ => ("BitNotationModel", "fault", "I", false)
def tyX7 : Nat → FieldType := fun k => match k with
  | 0 => .int
  | 1 => .int
  | 2 => .array .int
  | 3 => .array .int
  | 4 => .array .int
  | 5 => .array .int
  | 6 => .array .int
  | 7 => .array .int
  | 8 => .array .int
  | 9 => .array .int
  | 10 => .array .int
  | 11 => .array .int
  | 12 => .int
  | 13 => .array .int
  | 14 => .int
  | 15 => .array .int
  | 16 => .int
  | 17 => .array .int
  | 18 => .int
  | 19 => .array .int
  | 20 => .int
  | 21 => .array .int
  | 22 => .array .int
  | 23 => .array .int
  | 24 => .array .int
  | 25 => .array .int
  | 26 => .array .int
  | 27 => .array .int
  | 28 => .int
  | _ => .int
abbrev wsX70 : List Cond := u_ws RX7 TX7 30
theorem nmX7 : ∀ a, a < 30 → ∀ b, b < 30 → a ≠ b → (TX7 a).2.1 ≠ (TX7 b).2.1 := by decide +kernel
theorem tyX7_ok : ∀ k, k < 30 → parseFieldDescriptor (TX7 k).2.2.1 = some (tyX7 k) := by decide +kernel
abbrev cX7_init : ByteArray := prog_9_method_1_code
def yX7_init : MethodName := ⟨RX7, "<init>", "()V"⟩
abbrev cX7_thrown : ByteArray := prog_9_method_2_code
def yX7_thrown : MethodName := ⟨RX7, "thrown", "()I"⟩
abbrev cX7_refused : ByteArray := prog_9_method_3_code
def yX7_refused : MethodName := ⟨RX7, "refused", "(I)Z"⟩
abbrev cX7_fine : ByteArray := prog_9_method_4_code
def yX7_fine : MethodName := ⟨RX7, "fine", "(I)I"⟩
abbrev cX7_in : ByteArray := prog_9_method_5_code
def yX7_in : MethodName := ⟨RX7, "in", "(III)Z"⟩
abbrev cX7_isType : ByteArray := prog_9_method_6_code
def yX7_isType : MethodName := ⟨RX7, "isType", "(I)Z"⟩
abbrev cX7_width : ByteArray := prog_9_method_7_code
def yX7_width : MethodName := ⟨RX7, "width", "(I)I"⟩
abbrev cX7_widthOf : ByteArray := prog_9_method_8_code
def yX7_widthOf : MethodName := ⟨RX7, "widthOf", "(I)I"⟩
abbrev cX7_partOf : ByteArray := prog_9_method_9_code
def yX7_partOf : MethodName := ⟨RX7, "partOf", "(II)I"⟩
abbrev cX7_isOptional : ByteArray := prog_9_method_10_code
def yX7_isOptional : MethodName := ⟨RX7, "isOptional", "(II)Z"⟩
abbrev cX7_optionals : ByteArray := prog_9_method_11_code
def yX7_optionals : MethodName := ⟨RX7, "optionals", "(I)I"⟩
abbrev cX7_measureSequence : ByteArray := prog_9_method_12_code
def yX7_measureSequence : MethodName := ⟨RX7, "measureSequence", "(I)V"⟩
abbrev cX7_measureChoice : ByteArray := prog_9_method_13_code
def yX7_measureChoice : MethodName := ⟨RX7, "measureChoice", "(I)V"⟩
abbrev cX7_measure : ByteArray := prog_9_method_14_code
def yX7_measure : MethodName := ⟨RX7, "measure", "(I)Z"⟩
abbrev cX7_lay : ByteArray := prog_9_method_15_code
def yX7_lay : MethodName := ⟨RX7, "lay", "(IIII)V"⟩
abbrev cX7_addNumber : ByteArray := prog_9_method_16_code
def yX7_addNumber : MethodName := ⟨RX7, "addNumber", "(II)I"⟩
abbrev cX7_addList : ByteArray := prog_9_method_17_code
def yX7_addList : MethodName := ⟨RX7, "addList", "(III)I"⟩
abbrev cX7_part : ByteArray := prog_9_method_18_code
def yX7_part : MethodName := ⟨RX7, "part", "(IZ)I"⟩
abbrev cX7_addDraft : ByteArray := prog_9_method_19_code
def yX7_addDraft : MethodName := ⟨RX7, "addDraft", "(I)I"⟩
abbrev cX7_addSequence : ByteArray := prog_9_method_20_code
def yX7_addSequence : MethodName := ⟨RX7, "addSequence", "()I"⟩
abbrev cX7_addChoice : ByteArray := prog_9_method_21_code
def yX7_addChoice : MethodName := ⟨RX7, "addChoice", "()I"⟩
abbrev cX7_measureAll : ByteArray := prog_9_method_22_code
def yX7_measureAll : MethodName := ⟨RX7, "measureAll", "()Z"⟩
abbrev cX7_extend : ByteArray := prog_9_method_23_code
def yX7_extend : MethodName := ⟨RX7, "extend", "(II)I"⟩
abbrev cX7_types : ByteArray := prog_9_method_24_code
def yX7_types : MethodName := ⟨RX7, "types", "()I"⟩
abbrev cX7_noType : ByteArray := prog_9_method_25_code
def yX7_noType : MethodName := ⟨RX7, "noType", "(I)Z"⟩
abbrev cX7_leastBits : ByteArray := prog_9_method_26_code
def yX7_leastBits : MethodName := ⟨RX7, "leastBits", "(I)I"⟩
abbrev cX7_mostBits : ByteArray := prog_9_method_27_code
def yX7_mostBits : MethodName := ⟨RX7, "mostBits", "(I)I"⟩
abbrev cX7_tell : ByteArray := prog_9_method_28_code
def yX7_tell : MethodName := ⟨RX7, "tell", "(I)I"⟩
abbrev cX7_forget : ByteArray := prog_9_method_29_code
def yX7_forget : MethodName := ⟨RX7, "forget", "()I"⟩
abbrev cX7_length : ByteArray := prog_9_method_30_code
def yX7_length : MethodName := ⟨RX7, "length", "()I"⟩
abbrev cX7_told : ByteArray := prog_9_method_31_code
def yX7_told : MethodName := ⟨RX7, "told", "(I)I"⟩
abbrev cX7_push : ByteArray := prog_9_method_32_code
def yX7_push : MethodName := ⟨RX7, "push", "(I)V"⟩
abbrev cX7_emit : ByteArray := prog_9_method_33_code
def yX7_emit : MethodName := ⟨RX7, "emit", "(IIZ)V"⟩
abbrev cX7_isWrong : ByteArray := prog_9_method_34_code
def yX7_isWrong : MethodName := ⟨RX7, "isWrong", "(II)Z"⟩
abbrev cX7_goOverTale : ByteArray := prog_9_method_35_code
def yX7_goOverTale : MethodName := ⟨RX7, "goOverTale", "(Z)Z"⟩
abbrev cX7_headOfTale : ByteArray := prog_9_method_36_code
def yX7_headOfTale : MethodName := ⟨RX7, "headOfTale", "(IIZ)Z"⟩
abbrev cX7_sequenceOfTale : ByteArray := prog_9_method_37_code
def yX7_sequenceOfTale : MethodName := ⟨RX7, "sequenceOfTale", "(IIIZ)Z"⟩
abbrev cX7_walk : ByteArray := prog_9_method_38_code
def yX7_walk : MethodName := ⟨RX7, "walk", "(IZ)I"⟩
abbrev cX7_wrongAt : ByteArray := prog_9_method_39_code
def yX7_wrongAt : MethodName := ⟨RX7, "wrongAt", "(I)I"⟩
abbrev cX7_write : ByteArray := prog_9_method_40_code
def yX7_write : MethodName := ⟨RX7, "write", "(I)I"⟩
abbrev cX7_bits : ByteArray := prog_9_method_41_code
def yX7_bits : MethodName := ⟨RX7, "bits", "()I"⟩
abbrev cX7_noBit : ByteArray := prog_9_method_42_code
def yX7_noBit : MethodName := ⟨RX7, "noBit", "(I)Z"⟩
abbrev cX7_bit : ByteArray := prog_9_method_43_code
def yX7_bit : MethodName := ⟨RX7, "bit", "(I)I"⟩
abbrev cX7_flip : ByteArray := prog_9_method_44_code
def yX7_flip : MethodName := ⟨RX7, "flip", "(I)I"⟩
abbrev cX7_cut : ByteArray := prog_9_method_45_code
def yX7_cut : MethodName := ⟨RX7, "cut", "(I)I"⟩
abbrev cX7_take : ByteArray := prog_9_method_46_code
def yX7_take : MethodName := ⟨RX7, "take", "(I)I"⟩
abbrev cX7_takeBelow : ByteArray := prog_9_method_47_code
def yX7_takeBelow : MethodName := ⟨RX7, "takeBelow", "(II)I"⟩
abbrev cX7_note : ByteArray := prog_9_method_48_code
def yX7_note : MethodName := ⟨RX7, "note", "(I)V"⟩
abbrev cX7_goOverBits : ByteArray := prog_9_method_49_code
def yX7_goOverBits : MethodName := ⟨RX7, "goOverBits", "(I)V"⟩
abbrev cX7_headOfBits : ByteArray := prog_9_method_50_code
def yX7_headOfBits : MethodName := ⟨RX7, "headOfBits", "(II)V"⟩
abbrev cX7_sequenceOfBits : ByteArray := prog_9_method_51_code
def yX7_sequenceOfBits : MethodName := ⟨RX7, "sequenceOfBits", "(IIII)V"⟩
abbrev cX7_skip : ByteArray := prog_9_method_52_code
def yX7_skip : MethodName := ⟨RX7, "skip", "(I)V"⟩
abbrev cX7_walkBits : ByteArray := prog_9_method_53_code
def yX7_walkBits : MethodName := ⟨RX7, "walkBits", "(II)I"⟩
abbrev cX7_read : ByteArray := prog_9_method_54_code
def yX7_read : MethodName := ⟨RX7, "read", "(II)I"⟩
abbrev cX7_faultAt : ByteArray := prog_9_method_55_code
def yX7_faultAt : MethodName := ⟨RX7, "faultAt", "(II)I"⟩
def RJx29ce0 : String := "java/lang/Enum"
def TJx29ce0 : u_T := fun k => match k with
  | _ => ("", "", "", false)
def tyJx29ce0 : Nat → FieldType := fun k => match k with
  | _ => .int
abbrev wsJx29ce00 : List Cond := u_ws RJx29ce0 TJx29ce0 0
theorem nmJx29ce0 : ∀ a, a < 0 → ∀ b, b < 0 → a ≠ b → (TJx29ce0 a).2.1 ≠ (TJx29ce0 b).2.1 := by decide +kernel
theorem tyJx29ce0_ok : ∀ k, k < 0 → parseFieldDescriptor (TJx29ce0 k).2.2.1 = some (tyJx29ce0 k) := by decide +kernel
def RJ9 : String := "java/lang/Math"
def TJ9 : u_T := fun k => match k with
  | _ => ("", "", "", false)
def tyJ9 : Nat → FieldType := fun k => match k with
  | _ => .int
abbrev wsJ90 : List Cond := u_ws RJ9 TJ9 0
theorem nmJ9 : ∀ a, a < 0 → ∀ b, b < 0 → a ≠ b → (TJ9 a).2.1 ≠ (TJ9 b).2.1 := by decide +kernel
theorem tyJ9_ok : ∀ k, k < 0 → parseFieldDescriptor (TJ9 k).2.2.1 = some (tyJ9 k) := by decide +kernel
abbrev cJ9_max_7cf53 : ByteArray := prog_15_method_65_code
def yJ9_max_7cf53 : MethodName := ⟨RJ9, "max", "(II)I"⟩
abbrev cJ9_min_7cf53 : ByteArray := prog_15_method_69_code
def yJ9_min_7cf53 : MethodName := ⟨RJ9, "min", "(II)I"⟩
def RJ0 : String := "java/lang/String"
def TJ0 : u_T := fun k => match k with
  | _ => ("", "", "", false)
def tyJ0 : Nat → FieldType := fun k => match k with
  | _ => .int
abbrev wsJ00 : List Cond := u_ws RJ0 TJ0 0
theorem nmJ0 : ∀ a, a < 0 → ∀ b, b < 0 → a ≠ b → (TJ0 a).2.1 ≠ (TJ0 b).2.1 := by decide +kernel
theorem tyJ0_ok : ∀ k, k < 0 → parseFieldDescriptor (TJ0 k).2.2.1 = some (tyJ0 k) := by decide +kernel
def RL : String := "BitNotationLaw"
abbrev cL_addNumber : ByteArray := method_3_code
def yL_addNumber : MethodName := ⟨RL, "addNumber", "(LBitNotation;II[J)I"⟩
abbrev cL_addList : ByteArray := method_4_code
def yL_addList : MethodName := ⟨RL, "addList", "(LBitNotation;III[J)I"⟩
abbrev cL_part : ByteArray := method_5_code
def yL_part : MethodName := ⟨RL, "part", "(LBitNotation;IZ[J)I"⟩
abbrev cL_addSequence : ByteArray := method_6_code
def yL_addSequence : MethodName := ⟨RL, "addSequence", "(LBitNotation;[J)I"⟩
abbrev cL_addChoice : ByteArray := method_7_code
def yL_addChoice : MethodName := ⟨RL, "addChoice", "(LBitNotation;[J)I"⟩
abbrev cL_extend : ByteArray := method_8_code
def yL_extend : MethodName := ⟨RL, "extend", "(LBitNotation;II[J)I"⟩
abbrev cL_leastBits : ByteArray := method_9_code
def yL_leastBits : MethodName := ⟨RL, "leastBits", "(LBitNotation;I[J)I"⟩
abbrev cL_mostBits : ByteArray := method_10_code
def yL_mostBits : MethodName := ⟨RL, "mostBits", "(LBitNotation;I[J)I"⟩
abbrev cL_tell : ByteArray := method_11_code
def yL_tell : MethodName := ⟨RL, "tell", "(LBitNotation;I[J)I"⟩
abbrev cL_told : ByteArray := method_12_code
def yL_told : MethodName := ⟨RL, "told", "(LBitNotation;I[J)I"⟩
abbrev cL_wrongAt : ByteArray := method_13_code
def yL_wrongAt : MethodName := ⟨RL, "wrongAt", "(LBitNotation;I[J)I"⟩
abbrev cL_write : ByteArray := method_14_code
def yL_write : MethodName := ⟨RL, "write", "(LBitNotation;I[J)I"⟩
abbrev cL_bit : ByteArray := method_15_code
def yL_bit : MethodName := ⟨RL, "bit", "(LBitNotation;I[J)I"⟩
abbrev cL_flip : ByteArray := method_16_code
def yL_flip : MethodName := ⟨RL, "flip", "(LBitNotation;I[J)I"⟩
abbrev cL_cut : ByteArray := method_17_code
def yL_cut : MethodName := ⟨RL, "cut", "(LBitNotation;I[J)I"⟩
abbrev cL_read : ByteArray := method_18_code
def yL_read : MethodName := ⟨RL, "read", "(LBitNotation;II[J)I"⟩
abbrev cL_faultAt : ByteArray := method_19_code
def yL_faultAt : MethodName := ⟨RL, "faultAt", "(LBitNotation;II[J)I"⟩
abbrev cL_law : ByteArray := code
def yL_law : MethodName := ⟨RL, "law", "([I)Z"⟩
def wsX2_init : List Cond := .code yX2_init cX2_init 2 none :: ([.methodLink RX2 1 objectInit, .instanceMethod objectInit, .code objectInit ⟨#[0xb1]⟩ 1 none, .fieldLink RX2 7 "BitNotation$Row" "count" "I", .methodLink RX2 13 Lib.Math.max.name, .static Lib.Math.max.name, .initialized "java/lang/Math", .code Lib.Math.max.name Lib.Math.max.code 2 (some .int), .arrayClass .int, .fieldLink RX2 19 "BitNotation$Row" "items" "[I"] ++ wsX20)
def wsX1_init : List Cond := .code yX1_init cX1_init 1 none :: ([.methodLink RX1 3 objectInit, .instanceMethod objectInit, .code objectInit ⟨#[0xb1]⟩ 1 none, .classLink RX1 9 RX2, .instantiable RX2 2, .initialized RX2, .fieldLink RX1 14 "BitNotation$Reader" "heard" "LBitNotation$Row;", .fieldLink RX1 20 "BitNotation$Reader" "additionsKnown" "I", .fieldLink RX1 24 "BitNotation$Reader" "place" "I", .fieldLink RX1 27 "BitNotation$Reader" "fault" "I", .methodLink RX1 11 yX2_init, .instanceMethod yX2_init, .code yX2_init cX2_init 2 none, .methodLink RX2 1 objectInit, .fieldLink RX2 7 "BitNotation$Row" "count" "I", .methodLink RX2 13 Lib.Math.max.name, .static Lib.Math.max.name, .initialized "java/lang/Math", .code Lib.Math.max.name Lib.Math.max.code 2 (some .int), .arrayClass .int, .fieldLink RX2 19 "BitNotation$Row" "items" "[I"] ++ wsX20 ++ wsX10)
def wsX2_keepFirst : List Cond := .code yX2_keepFirst cX2_keepFirst 2 none :: ([.fieldLink RX2 7 "BitNotation$Row" "count" "I"] ++ wsX20)
def wsX2_has : List Cond := .code yX2_has cX2_has 2 (some .boolean) :: ([.fieldLink RX2 7 "BitNotation$Row" "count" "I", .fieldLink RX2 19 "BitNotation$Row" "items" "[I"] ++ wsX20)
def wsX2_at : List Cond := .code yX2_at cX2_at 2 (some .int) :: ([.fieldLink RX2 19 "BitNotation$Row" "items" "[I", .methodLink RX2 23 yX2_has, .instanceMethod yX2_has, .selects RX2 yX2_has yX2_has, .initialized RX2, .code yX2_has cX2_has 2 (some .boolean), .fieldLink RX2 7 "BitNotation$Row" "count" "I"] ++ wsX20)
def wsX2_size : List Cond := .code yX2_size cX2_size 1 (some .int) :: ([.fieldLink RX2 7 "BitNotation$Row" "count" "I"] ++ wsX20)
def wsX1_next : List Cond := .code yX1_next cX1_next 6 (some .int) :: ([.fieldLink RX1 24 "BitNotation$Reader" "place" "I", .fieldLink RX1 27 "BitNotation$Reader" "fault" "I", .methodLink RX1 120 yX2_at, .instanceMethod yX2_at, .selects RX2 yX2_at yX2_at, .initialized RX2, .code yX2_at cX2_at 2 (some .int), .fieldLink RX2 19 "BitNotation$Row" "items" "[I", .methodLink RX2 23 yX2_has, .instanceMethod yX2_has, .selects RX2 yX2_has yX2_has, .code yX2_has cX2_has 2 (some .boolean), .fieldLink RX2 7 "BitNotation$Row" "count" "I", .methodLink RX1 37 yX2_size, .instanceMethod yX2_size, .selects RX2 yX2_size yX2_size, .code yX2_size cX2_size 1 (some .int)] ++ wsX10 ++ wsX20)
def wsX4_at : List Cond := .code yX4_at cX4_at 2 (some (.object "BitNotation$Type")) :: ([.fieldLink RX4 7 "BitNotation$TypeRow" "count" "I", .fieldLink RX4 21 "BitNotation$TypeRow" "items" "[LBitNotation$Type;"] ++ wsX40)
def wsX1_skip : List Cond := .code yX1_skip cX1_skip 3 none :: ([.fieldLink RX1 27 "BitNotation$Reader" "fault" "I", .fieldLink RX1 24 "BitNotation$Reader" "place" "I", .methodLink RX1 37 yX2_size, .instanceMethod yX2_size, .selects RX2 yX2_size yX2_size, .initialized RX2, .code yX2_size cX2_size 1 (some .int), .fieldLink RX2 7 "BitNotation$Row" "count" "I"] ++ wsX10 ++ wsX20)
def wsX4_size : List Cond := .code yX4_size cX4_size 1 (some .int) :: ([.fieldLink RX4 7 "BitNotation$TypeRow" "count" "I"] ++ wsX40)
def wsX3_isOptional : List Cond := .code yX3_isOptional cX3_isOptional 2 (some .boolean) :: ([.fieldLink RX3 42 "BitNotation$Type" "optional" "I"] ++ wsX30)
def wsX2_append : List Cond := .code yX2_append cX2_append 2 none :: ([.fieldLink RX2 7 "BitNotation$Row" "count" "I", .fieldLink RX2 19 "BitNotation$Row" "items" "[I"] ++ wsX20)
def wsX1_nextParts_r1 : List Cond := [Cond.fieldLink RX1 14 "BitNotation$Reader" "heard" "LBitNotation$Row;", Cond.methodLink RX1 91 yX4_size, Cond.instanceMethod yX4_size, Cond.selects RX4 yX4_size yX4_size, Cond.initialized RX4, Cond.code yX4_size cX4_size 1 (some .int), Cond.fieldLink RX4 7 "BitNotation$TypeRow" "count" "I", Cond.methodLink RX1 109 yX3_isOptional, Cond.instanceMethod yX3_isOptional, Cond.selects RX3 yX3_isOptional yX3_isOptional, Cond.initialized RX3, Cond.code yX3_isOptional cX3_isOptional 2 (some .boolean), Cond.fieldLink RX3 42 "BitNotation$Type" "optional" "I", Cond.methodLink RX1 64 yX1_next, Cond.instanceMethod yX1_next, Cond.selects RX1 yX1_next yX1_next, Cond.initialized RX1, Cond.code yX1_next cX1_next 6 (some .int), Cond.fieldLink RX1 24 "BitNotation$Reader" "place" "I", Cond.fieldLink RX1 27 "BitNotation$Reader" "fault" "I", Cond.methodLink RX1 120 yX2_at, Cond.instanceMethod yX2_at, Cond.selects RX2 yX2_at yX2_at, Cond.initialized RX2]
def wsX1_nextParts_r2 : List Cond := [Cond.code yX2_at cX2_at 2 (some .int), Cond.fieldLink RX2 19 "BitNotation$Row" "items" "[I", Cond.methodLink RX2 23 yX2_has, Cond.instanceMethod yX2_has, Cond.selects RX2 yX2_has yX2_has, Cond.code yX2_has cX2_has 2 (some .boolean), Cond.fieldLink RX2 7 "BitNotation$Row" "count" "I", Cond.methodLink RX1 37 yX2_size, Cond.instanceMethod yX2_size, Cond.selects RX2 yX2_size yX2_size, Cond.code yX2_size cX2_size 1 (some .int), Cond.methodLink RX1 68 yX2_append, Cond.instanceMethod yX2_append, Cond.selects RX2 yX2_append yX2_append, Cond.code yX2_append cX2_append 2 none]
def wsX1_nextParts : List Cond := .code yX1_nextParts cX1_nextParts 6 (some .int) :: ((wsX1_nextParts_r1 ++ wsX1_nextParts_r2) ++ wsX30 ++ wsX10 ++ wsX40 ++ wsX20)
def wsX2_replace : List Cond := .code yX2_replace cX2_replace 3 none :: ([.fieldLink RX2 19 "BitNotation$Row" "items" "[I", .methodLink RX2 23 yX2_has, .instanceMethod yX2_has, .selects RX2 yX2_has yX2_has, .initialized RX2, .code yX2_has cX2_has 2 (some .boolean), .fieldLink RX2 7 "BitNotation$Row" "count" "I"] ++ wsX20)
def wsX1_getAddition_r1 : List Cond := [Cond.fieldLink RX1 24 "BitNotation$Reader" "place" "I", Cond.fieldLink RX1 27 "BitNotation$Reader" "fault" "I", Cond.methodLink RX1 33 yX1_getValue, Cond.instanceMethod yX1_getValue, Cond.selects RX1 yX1_getValue yX1_getValue, Cond.initialized RX1, Cond.code yX1_getAdditions cX1_getAdditions 7 none, Cond.fieldLink RX1 20 "BitNotation$Reader" "additionsKnown" "I", Cond.methodLink RX1 64 yX1_next, Cond.instanceMethod yX1_next, Cond.selects RX1 yX1_next yX1_next, Cond.code yX1_next cX1_next 6 (some .int), Cond.methodLink RX1 120 yX2_at, Cond.instanceMethod yX2_at, Cond.selects RX2 yX2_at yX2_at, Cond.initialized RX2, Cond.code yX2_at cX2_at 2 (some .int), Cond.fieldLink RX2 19 "BitNotation$Row" "items" "[I", Cond.methodLink RX2 23 yX2_has, Cond.instanceMethod yX2_has, Cond.selects RX2 yX2_has yX2_has, Cond.code yX2_has cX2_has 2 (some .boolean), Cond.fieldLink RX2 7 "BitNotation$Row" "count" "I", Cond.methodLink RX1 37 yX2_size]
def wsX1_getAddition_r2 : List Cond := [Cond.instanceMethod yX2_size, Cond.selects RX2 yX2_size yX2_size, Cond.code yX2_size cX2_size 1 (some .int), Cond.methodLink RX1 78 yX4_at, Cond.instanceMethod yX4_at, Cond.selects RX4 yX4_at yX4_at, Cond.initialized RX4, Cond.code yX4_at cX4_at 2 (some (.object "BitNotation$Type")), Cond.fieldLink RX4 7 "BitNotation$TypeRow" "count" "I", Cond.fieldLink RX4 21 "BitNotation$TypeRow" "items" "[LBitNotation$Type;", Cond.methodLink RX1 113 yX1_getAddition, Cond.instanceMethod yX1_getAddition, Cond.selects RX1 yX1_getAddition yX1_getAddition, Cond.methodLink RX1 116 yX1_skip, Cond.instanceMethod yX1_skip, Cond.selects RX1 yX1_skip yX1_skip, Cond.code yX1_skip cX1_skip 3 none, Cond.code yX1_getSequence cX1_getSequence 8 none, Cond.fieldLink RX1 14 "BitNotation$Reader" "heard" "LBitNotation$Row;", Cond.methodLink RX1 95 Lib.Math.min.name, Cond.static Lib.Math.min.name, Cond.initialized "java/lang/Math", Cond.code Lib.Math.min.name Lib.Math.min.code 2 (some .int), Cond.methodLink RX1 87 yX1_nextParts]
def wsX1_getAddition_r3 : List Cond := [Cond.instanceMethod yX1_nextParts, Cond.selects RX1 yX1_nextParts yX1_nextParts, Cond.code yX1_nextParts cX1_nextParts 6 (some .int), Cond.methodLink RX1 91 yX4_size, Cond.instanceMethod yX4_size, Cond.selects RX4 yX4_size yX4_size, Cond.code yX4_size cX4_size 1 (some .int), Cond.methodLink RX1 109 yX3_isOptional, Cond.instanceMethod yX3_isOptional, Cond.selects RX3 yX3_isOptional yX3_isOptional, Cond.initialized RX3, Cond.code yX3_isOptional cX3_isOptional 2 (some .boolean), Cond.fieldLink RX3 42 "BitNotation$Type" "optional" "I", Cond.methodLink RX1 68 yX2_append, Cond.instanceMethod yX2_append, Cond.selects RX2 yX2_append yX2_append, Cond.code yX2_append cX2_append 2 none, Cond.methodLink RX1 101 yX2_replace, Cond.instanceMethod yX2_replace, Cond.selects RX2 yX2_replace yX2_replace, Cond.code yX2_replace cX2_replace 3 none, Cond.methodLink RX1 105 yX1_getAdditions, Cond.instanceMethod yX1_getAdditions, Cond.selects RX1 yX1_getAdditions yX1_getAdditions]
def wsX1_getAddition_r4 : List Cond := [Cond.code yX1_getValue cX1_getValue 6 none, Cond.fieldLink RX1 47 "BitNotation$Kind" "SEQUENCE" "LBitNotation$Kind;", Cond.fieldLink RX1 71 "BitNotation$Kind" "LIST" "LBitNotation$Kind;", Cond.fieldLink RX1 84 "BitNotation$Kind" "CHOICE" "LBitNotation$Kind;", Cond.methodLink RX1 52 yX1_getSequence, Cond.instanceMethod yX1_getSequence, Cond.selects RX1 yX1_getSequence yX1_getSequence]
def wsX1_getAddition : List Cond := .code yX1_getAddition cX1_getAddition 6 none :: ((wsX1_getAddition_r1 ++ (wsX1_getAddition_r2 ++ (wsX1_getAddition_r3 ++ wsX1_getAddition_r4))) ++ wsX10 ++ wsX30 ++ wsX20 ++ wsX40)
def wsX1_getAdditions_r1 : List Cond := [Cond.fieldLink RX1 27 "BitNotation$Reader" "fault" "I", Cond.fieldLink RX1 20 "BitNotation$Reader" "additionsKnown" "I", Cond.methodLink RX1 64 yX1_next, Cond.instanceMethod yX1_next, Cond.selects RX1 yX1_next yX1_next, Cond.initialized RX1, Cond.code yX1_next cX1_next 6 (some .int), Cond.fieldLink RX1 24 "BitNotation$Reader" "place" "I", Cond.methodLink RX1 120 yX2_at, Cond.instanceMethod yX2_at, Cond.selects RX2 yX2_at yX2_at, Cond.initialized RX2, Cond.code yX2_at cX2_at 2 (some .int), Cond.fieldLink RX2 19 "BitNotation$Row" "items" "[I", Cond.methodLink RX2 23 yX2_has, Cond.instanceMethod yX2_has, Cond.selects RX2 yX2_has yX2_has, Cond.code yX2_has cX2_has 2 (some .boolean), Cond.fieldLink RX2 7 "BitNotation$Row" "count" "I", Cond.methodLink RX1 37 yX2_size, Cond.instanceMethod yX2_size, Cond.selects RX2 yX2_size yX2_size, Cond.code yX2_size cX2_size 1 (some .int), Cond.methodLink RX1 78 yX4_at]
def wsX1_getAdditions_r2 : List Cond := [Cond.instanceMethod yX4_at, Cond.selects RX4 yX4_at yX4_at, Cond.initialized RX4, Cond.code yX4_at cX4_at 2 (some (.object "BitNotation$Type")), Cond.fieldLink RX4 7 "BitNotation$TypeRow" "count" "I", Cond.fieldLink RX4 21 "BitNotation$TypeRow" "items" "[LBitNotation$Type;", Cond.methodLink RX1 113 yX1_getAddition, Cond.instanceMethod yX1_getAddition, Cond.selects RX1 yX1_getAddition yX1_getAddition, Cond.methodLink RX1 116 yX1_skip, Cond.instanceMethod yX1_skip, Cond.selects RX1 yX1_skip yX1_skip, Cond.code yX1_skip cX1_skip 3 none, Cond.code yX1_getAddition cX1_getAddition 6 none, Cond.methodLink RX1 33 yX1_getValue, Cond.instanceMethod yX1_getValue, Cond.selects RX1 yX1_getValue yX1_getValue, Cond.code yX1_getSequence cX1_getSequence 8 none, Cond.fieldLink RX1 14 "BitNotation$Reader" "heard" "LBitNotation$Row;", Cond.methodLink RX1 95 Lib.Math.min.name, Cond.static Lib.Math.min.name, Cond.initialized "java/lang/Math", Cond.code Lib.Math.min.name Lib.Math.min.code 2 (some .int), Cond.methodLink RX1 87 yX1_nextParts]
def wsX1_getAdditions_r3 : List Cond := [Cond.instanceMethod yX1_nextParts, Cond.selects RX1 yX1_nextParts yX1_nextParts, Cond.code yX1_nextParts cX1_nextParts 6 (some .int), Cond.methodLink RX1 91 yX4_size, Cond.instanceMethod yX4_size, Cond.selects RX4 yX4_size yX4_size, Cond.code yX4_size cX4_size 1 (some .int), Cond.methodLink RX1 109 yX3_isOptional, Cond.instanceMethod yX3_isOptional, Cond.selects RX3 yX3_isOptional yX3_isOptional, Cond.initialized RX3, Cond.code yX3_isOptional cX3_isOptional 2 (some .boolean), Cond.fieldLink RX3 42 "BitNotation$Type" "optional" "I", Cond.methodLink RX1 68 yX2_append, Cond.instanceMethod yX2_append, Cond.selects RX2 yX2_append yX2_append, Cond.code yX2_append cX2_append 2 none, Cond.methodLink RX1 101 yX2_replace, Cond.instanceMethod yX2_replace, Cond.selects RX2 yX2_replace yX2_replace, Cond.code yX2_replace cX2_replace 3 none, Cond.methodLink RX1 105 yX1_getAdditions, Cond.instanceMethod yX1_getAdditions, Cond.selects RX1 yX1_getAdditions yX1_getAdditions]
def wsX1_getAdditions_r4 : List Cond := [Cond.code yX1_getValue cX1_getValue 6 none, Cond.fieldLink RX1 47 "BitNotation$Kind" "SEQUENCE" "LBitNotation$Kind;", Cond.fieldLink RX1 71 "BitNotation$Kind" "LIST" "LBitNotation$Kind;", Cond.fieldLink RX1 84 "BitNotation$Kind" "CHOICE" "LBitNotation$Kind;", Cond.methodLink RX1 52 yX1_getSequence, Cond.instanceMethod yX1_getSequence, Cond.selects RX1 yX1_getSequence yX1_getSequence]
def wsX1_getAdditions : List Cond := .code yX1_getAdditions cX1_getAdditions 7 none :: ((wsX1_getAdditions_r1 ++ (wsX1_getAdditions_r2 ++ (wsX1_getAdditions_r3 ++ wsX1_getAdditions_r4))) ++ wsX10 ++ wsX30 ++ wsX20 ++ wsX40)
def wsX1_getSequence_r1 : List Cond := [Cond.fieldLink RX1 14 "BitNotation$Reader" "heard" "LBitNotation$Row;", Cond.fieldLink RX1 20 "BitNotation$Reader" "additionsKnown" "I", Cond.methodLink RX1 95 Lib.Math.min.name, Cond.static Lib.Math.min.name, Cond.initialized "java/lang/Math", Cond.code Lib.Math.min.name Lib.Math.min.code 2 (some .int), Cond.methodLink RX1 64 yX1_next, Cond.instanceMethod yX1_next, Cond.selects RX1 yX1_next yX1_next, Cond.initialized RX1, Cond.code yX1_next cX1_next 6 (some .int), Cond.fieldLink RX1 24 "BitNotation$Reader" "place" "I", Cond.fieldLink RX1 27 "BitNotation$Reader" "fault" "I", Cond.methodLink RX1 120 yX2_at, Cond.instanceMethod yX2_at, Cond.selects RX2 yX2_at yX2_at, Cond.initialized RX2, Cond.code yX2_at cX2_at 2 (some .int), Cond.fieldLink RX2 19 "BitNotation$Row" "items" "[I", Cond.methodLink RX2 23 yX2_has, Cond.instanceMethod yX2_has, Cond.selects RX2 yX2_has yX2_has, Cond.code yX2_has cX2_has 2 (some .boolean), Cond.fieldLink RX2 7 "BitNotation$Row" "count" "I"]
def wsX1_getSequence_r2 : List Cond := [Cond.methodLink RX1 37 yX2_size, Cond.instanceMethod yX2_size, Cond.selects RX2 yX2_size yX2_size, Cond.code yX2_size cX2_size 1 (some .int), Cond.methodLink RX1 87 yX1_nextParts, Cond.instanceMethod yX1_nextParts, Cond.selects RX1 yX1_nextParts yX1_nextParts, Cond.code yX1_nextParts cX1_nextParts 6 (some .int), Cond.methodLink RX1 91 yX4_size, Cond.instanceMethod yX4_size, Cond.selects RX4 yX4_size yX4_size, Cond.initialized RX4, Cond.code yX4_size cX4_size 1 (some .int), Cond.fieldLink RX4 7 "BitNotation$TypeRow" "count" "I", Cond.methodLink RX1 109 yX3_isOptional, Cond.instanceMethod yX3_isOptional, Cond.selects RX3 yX3_isOptional yX3_isOptional, Cond.initialized RX3, Cond.code yX3_isOptional cX3_isOptional 2 (some .boolean), Cond.fieldLink RX3 42 "BitNotation$Type" "optional" "I", Cond.methodLink RX1 68 yX2_append, Cond.instanceMethod yX2_append, Cond.selects RX2 yX2_append yX2_append, Cond.code yX2_append cX2_append 2 none]
def wsX1_getSequence_r3 : List Cond := [Cond.methodLink RX1 78 yX4_at, Cond.instanceMethod yX4_at, Cond.selects RX4 yX4_at yX4_at, Cond.code yX4_at cX4_at 2 (some (.object "BitNotation$Type")), Cond.fieldLink RX4 21 "BitNotation$TypeRow" "items" "[LBitNotation$Type;", Cond.methodLink RX1 33 yX1_getValue, Cond.instanceMethod yX1_getValue, Cond.selects RX1 yX1_getValue yX1_getValue, Cond.methodLink RX1 101 yX2_replace, Cond.instanceMethod yX2_replace, Cond.selects RX2 yX2_replace yX2_replace, Cond.code yX2_replace cX2_replace 3 none, Cond.methodLink RX1 105 yX1_getAdditions, Cond.instanceMethod yX1_getAdditions, Cond.selects RX1 yX1_getAdditions yX1_getAdditions, Cond.code yX1_getAddition cX1_getAddition 6 none, Cond.code yX1_getAdditions cX1_getAdditions 7 none, Cond.methodLink RX1 113 yX1_getAddition, Cond.instanceMethod yX1_getAddition, Cond.selects RX1 yX1_getAddition yX1_getAddition, Cond.methodLink RX1 116 yX1_skip, Cond.instanceMethod yX1_skip, Cond.selects RX1 yX1_skip yX1_skip, Cond.code yX1_skip cX1_skip 3 none]
def wsX1_getSequence_r4 : List Cond := [Cond.code yX1_getValue cX1_getValue 6 none, Cond.fieldLink RX1 47 "BitNotation$Kind" "SEQUENCE" "LBitNotation$Kind;", Cond.fieldLink RX1 71 "BitNotation$Kind" "LIST" "LBitNotation$Kind;", Cond.fieldLink RX1 84 "BitNotation$Kind" "CHOICE" "LBitNotation$Kind;", Cond.methodLink RX1 52 yX1_getSequence, Cond.instanceMethod yX1_getSequence, Cond.selects RX1 yX1_getSequence yX1_getSequence]
def wsX1_getSequence : List Cond := .code yX1_getSequence cX1_getSequence 8 none :: ((wsX1_getSequence_r1 ++ (wsX1_getSequence_r2 ++ (wsX1_getSequence_r3 ++ wsX1_getSequence_r4))) ++ wsX10 ++ wsX30 ++ wsX20 ++ wsX40)
def wsX1_getValue_r1 : List Cond := [Cond.fieldLink RX1 27 "BitNotation$Reader" "fault" "I", Cond.fieldLink RX1 24 "BitNotation$Reader" "place" "I", Cond.fieldLink RX1 47 "BitNotation$Kind" "SEQUENCE" "LBitNotation$Kind;", Cond.fieldLink RX1 14 "BitNotation$Reader" "heard" "LBitNotation$Row;", Cond.fieldLink RX1 71 "BitNotation$Kind" "LIST" "LBitNotation$Kind;", Cond.fieldLink RX1 84 "BitNotation$Kind" "CHOICE" "LBitNotation$Kind;", Cond.methodLink RX1 52 yX1_getSequence, Cond.instanceMethod yX1_getSequence, Cond.selects RX1 yX1_getSequence yX1_getSequence, Cond.initialized RX1, Cond.methodLink RX1 64 yX1_next, Cond.instanceMethod yX1_next, Cond.selects RX1 yX1_next yX1_next, Cond.code yX1_next cX1_next 6 (some .int), Cond.methodLink RX1 120 yX2_at, Cond.instanceMethod yX2_at, Cond.selects RX2 yX2_at yX2_at, Cond.initialized RX2, Cond.code yX2_at cX2_at 2 (some .int), Cond.fieldLink RX2 19 "BitNotation$Row" "items" "[I", Cond.methodLink RX2 23 yX2_has, Cond.instanceMethod yX2_has, Cond.selects RX2 yX2_has yX2_has, Cond.code yX2_has cX2_has 2 (some .boolean)]
def wsX1_getValue_r2 : List Cond := [Cond.fieldLink RX2 7 "BitNotation$Row" "count" "I", Cond.methodLink RX1 37 yX2_size, Cond.instanceMethod yX2_size, Cond.selects RX2 yX2_size yX2_size, Cond.code yX2_size cX2_size 1 (some .int), Cond.methodLink RX1 68 yX2_append, Cond.instanceMethod yX2_append, Cond.selects RX2 yX2_append yX2_append, Cond.code yX2_append cX2_append 2 none, Cond.methodLink RX1 78 yX4_at, Cond.instanceMethod yX4_at, Cond.selects RX4 yX4_at yX4_at, Cond.initialized RX4, Cond.code yX4_at cX4_at 2 (some (.object "BitNotation$Type")), Cond.fieldLink RX4 7 "BitNotation$TypeRow" "count" "I", Cond.fieldLink RX4 21 "BitNotation$TypeRow" "items" "[LBitNotation$Type;", Cond.methodLink RX1 33 yX1_getValue, Cond.instanceMethod yX1_getValue, Cond.selects RX1 yX1_getValue yX1_getValue, Cond.code yX1_getAddition cX1_getAddition 6 none, Cond.code yX1_getAdditions cX1_getAdditions 7 none, Cond.fieldLink RX1 20 "BitNotation$Reader" "additionsKnown" "I", Cond.methodLink RX1 113 yX1_getAddition, Cond.instanceMethod yX1_getAddition]
def wsX1_getValue_r3 : List Cond := [Cond.selects RX1 yX1_getAddition yX1_getAddition, Cond.methodLink RX1 116 yX1_skip, Cond.instanceMethod yX1_skip, Cond.selects RX1 yX1_skip yX1_skip, Cond.code yX1_skip cX1_skip 3 none, Cond.code yX1_getSequence cX1_getSequence 8 none, Cond.methodLink RX1 95 Lib.Math.min.name, Cond.static Lib.Math.min.name, Cond.initialized "java/lang/Math", Cond.code Lib.Math.min.name Lib.Math.min.code 2 (some .int), Cond.methodLink RX1 87 yX1_nextParts, Cond.instanceMethod yX1_nextParts, Cond.selects RX1 yX1_nextParts yX1_nextParts, Cond.code yX1_nextParts cX1_nextParts 6 (some .int), Cond.methodLink RX1 91 yX4_size, Cond.instanceMethod yX4_size, Cond.selects RX4 yX4_size yX4_size, Cond.code yX4_size cX4_size 1 (some .int), Cond.methodLink RX1 109 yX3_isOptional, Cond.instanceMethod yX3_isOptional, Cond.selects RX3 yX3_isOptional yX3_isOptional, Cond.initialized RX3, Cond.code yX3_isOptional cX3_isOptional 2 (some .boolean), Cond.fieldLink RX3 42 "BitNotation$Type" "optional" "I"]
def wsX1_getValue_r4 : List Cond := [Cond.methodLink RX1 101 yX2_replace, Cond.instanceMethod yX2_replace, Cond.selects RX2 yX2_replace yX2_replace, Cond.code yX2_replace cX2_replace 3 none, Cond.methodLink RX1 105 yX1_getAdditions, Cond.instanceMethod yX1_getAdditions, Cond.selects RX1 yX1_getAdditions yX1_getAdditions]
def wsX1_getValue : List Cond := .code yX1_getValue cX1_getValue 6 none :: ((wsX1_getValue_r1 ++ (wsX1_getValue_r2 ++ (wsX1_getValue_r3 ++ wsX1_getValue_r4))) ++ wsX10 ++ wsX30 ++ wsX20 ++ wsX40)
def wsX1_walk_r1 : List Cond := [Cond.fieldLink RX1 14 "BitNotation$Reader" "heard" "LBitNotation$Row;", Cond.fieldLink RX1 20 "BitNotation$Reader" "additionsKnown" "I", Cond.fieldLink RX1 24 "BitNotation$Reader" "place" "I", Cond.fieldLink RX1 27 "BitNotation$Reader" "fault" "I", Cond.methodLink RX1 30 yX2_keepFirst, Cond.instanceMethod yX2_keepFirst, Cond.selects RX2 yX2_keepFirst yX2_keepFirst, Cond.initialized RX2, Cond.code yX2_keepFirst cX2_keepFirst 2 none, Cond.fieldLink RX2 7 "BitNotation$Row" "count" "I", Cond.methodLink RX1 33 yX1_getValue, Cond.instanceMethod yX1_getValue, Cond.selects RX1 yX1_getValue yX1_getValue, Cond.initialized RX1, Cond.code yX1_getValue cX1_getValue 6 none, Cond.fieldLink RX1 47 "BitNotation$Kind" "SEQUENCE" "LBitNotation$Kind;", Cond.fieldLink RX1 71 "BitNotation$Kind" "LIST" "LBitNotation$Kind;", Cond.fieldLink RX1 84 "BitNotation$Kind" "CHOICE" "LBitNotation$Kind;", Cond.methodLink RX1 52 yX1_getSequence, Cond.instanceMethod yX1_getSequence, Cond.selects RX1 yX1_getSequence yX1_getSequence, Cond.methodLink RX1 64 yX1_next, Cond.instanceMethod yX1_next, Cond.selects RX1 yX1_next yX1_next]
def wsX1_walk_r2 : List Cond := [Cond.code yX1_next cX1_next 6 (some .int), Cond.methodLink RX1 120 yX2_at, Cond.instanceMethod yX2_at, Cond.selects RX2 yX2_at yX2_at, Cond.code yX2_at cX2_at 2 (some .int), Cond.fieldLink RX2 19 "BitNotation$Row" "items" "[I", Cond.methodLink RX2 23 yX2_has, Cond.instanceMethod yX2_has, Cond.selects RX2 yX2_has yX2_has, Cond.code yX2_has cX2_has 2 (some .boolean), Cond.methodLink RX1 37 yX2_size, Cond.instanceMethod yX2_size, Cond.selects RX2 yX2_size yX2_size, Cond.code yX2_size cX2_size 1 (some .int), Cond.methodLink RX1 68 yX2_append, Cond.instanceMethod yX2_append, Cond.selects RX2 yX2_append yX2_append, Cond.code yX2_append cX2_append 2 none, Cond.methodLink RX1 78 yX4_at, Cond.instanceMethod yX4_at, Cond.selects RX4 yX4_at yX4_at, Cond.initialized RX4, Cond.code yX4_at cX4_at 2 (some (.object "BitNotation$Type")), Cond.fieldLink RX4 7 "BitNotation$TypeRow" "count" "I"]
def wsX1_walk_r3 : List Cond := [Cond.fieldLink RX4 21 "BitNotation$TypeRow" "items" "[LBitNotation$Type;", Cond.code yX1_getAddition cX1_getAddition 6 none, Cond.code yX1_getAdditions cX1_getAdditions 7 none, Cond.methodLink RX1 113 yX1_getAddition, Cond.instanceMethod yX1_getAddition, Cond.selects RX1 yX1_getAddition yX1_getAddition, Cond.methodLink RX1 116 yX1_skip, Cond.instanceMethod yX1_skip, Cond.selects RX1 yX1_skip yX1_skip, Cond.code yX1_skip cX1_skip 3 none, Cond.code yX1_getSequence cX1_getSequence 8 none, Cond.methodLink RX1 95 Lib.Math.min.name, Cond.static Lib.Math.min.name, Cond.initialized "java/lang/Math", Cond.code Lib.Math.min.name Lib.Math.min.code 2 (some .int), Cond.methodLink RX1 87 yX1_nextParts, Cond.instanceMethod yX1_nextParts, Cond.selects RX1 yX1_nextParts yX1_nextParts, Cond.code yX1_nextParts cX1_nextParts 6 (some .int), Cond.methodLink RX1 91 yX4_size, Cond.instanceMethod yX4_size, Cond.selects RX4 yX4_size yX4_size, Cond.code yX4_size cX4_size 1 (some .int), Cond.methodLink RX1 109 yX3_isOptional]
def wsX1_walk_r4 : List Cond := [Cond.instanceMethod yX3_isOptional, Cond.selects RX3 yX3_isOptional yX3_isOptional, Cond.initialized RX3, Cond.code yX3_isOptional cX3_isOptional 2 (some .boolean), Cond.fieldLink RX3 42 "BitNotation$Type" "optional" "I", Cond.methodLink RX1 101 yX2_replace, Cond.instanceMethod yX2_replace, Cond.selects RX2 yX2_replace yX2_replace, Cond.code yX2_replace cX2_replace 3 none, Cond.methodLink RX1 105 yX1_getAdditions, Cond.instanceMethod yX1_getAdditions, Cond.selects RX1 yX1_getAdditions yX1_getAdditions]
def wsX1_walk : List Cond := .code yX1_walk cX1_walk 4 (some .int) :: ((wsX1_walk_r1 ++ (wsX1_walk_r2 ++ (wsX1_walk_r3 ++ wsX1_walk_r4))) ++ wsX10 ++ wsX20 ++ wsX30 ++ wsX40)
def wsX2_isFull : List Cond := .code yX2_isFull cX2_isFull 1 (some .boolean) :: ([.fieldLink RX2 7 "BitNotation$Row" "count" "I", .fieldLink RX2 19 "BitNotation$Row" "items" "[I"] ++ wsX20)
def wsX2_becomeCopyOf : List Cond := .code yX2_becomeCopyOf cX2_becomeCopyOf 3 none :: ([.methodLink RX2 27 yX2_keepFirst, .instanceMethod yX2_keepFirst, .selects RX2 yX2_keepFirst yX2_keepFirst, .initialized RX2, .code yX2_keepFirst cX2_keepFirst 2 none, .fieldLink RX2 7 "BitNotation$Row" "count" "I", .methodLink RX2 31 yX2_size, .instanceMethod yX2_size, .selects RX2 yX2_size yX2_size, .code yX2_size cX2_size 1 (some .int), .methodLink RX2 35 yX2_at, .instanceMethod yX2_at, .selects RX2 yX2_at yX2_at, .code yX2_at cX2_at 2 (some .int), .fieldLink RX2 19 "BitNotation$Row" "items" "[I", .methodLink RX2 23 yX2_has, .instanceMethod yX2_has, .selects RX2 yX2_has yX2_has, .code yX2_has cX2_has 2 (some .boolean), .methodLink RX2 39 yX2_append, .instanceMethod yX2_append, .selects RX2 yX2_append yX2_append, .code yX2_append cX2_append 2 none] ++ wsX20)
def wsX6_widthFor : List Cond := .code yX6_widthFor cX6_widthFor 2 (some .int) :: ([])
def wsX4_init : List Cond := .code yX4_init cX4_init 2 none :: ([.methodLink RX4 1 objectInit, .instanceMethod objectInit, .code objectInit ⟨#[0xb1]⟩ 1 none, .fieldLink RX4 7 "BitNotation$TypeRow" "count" "I", .methodLink RX4 13 Lib.Math.max.name, .static Lib.Math.max.name, .initialized "java/lang/Math", .code Lib.Math.max.name Lib.Math.max.code 2 (some .int), .classLink RX4 19 RX3, .fieldLink RX4 21 "BitNotation$TypeRow" "items" "[LBitNotation$Type;"] ++ wsX40)
def wsX3_init_r1 : List Cond := [Cond.methodLink RX3 3 objectInit, Cond.instanceMethod objectInit, Cond.code objectInit ⟨#[0xb1]⟩ 1 none, Cond.fieldLink RX3 9 "BitNotation$Type" "fewestBits" "I", Cond.fieldLink RX3 15 "BitNotation$Type" "mostBits" "I", Cond.fieldLink RX3 18 "BitNotation$Type" "mostNumbers" "I", Cond.fieldLink RX3 21 "BitNotation$Type" "kind" "LBitNotation$Kind;", Cond.fieldLink RX3 25 "BitNotation$Type" "least" "I", Cond.fieldLink RX3 28 "BitNotation$Type" "greatest" "I", Cond.fieldLink RX3 35 "BitNotation$Type" "width" "I", Cond.fieldLink RX3 38 "BitNotation$Type" "parts" "LBitNotation$TypeRow;", Cond.fieldLink RX3 42 "BitNotation$Type" "optional" "I", Cond.classLink RX3 45 RX4, Cond.instantiable RX4 2, Cond.initialized RX4, Cond.fieldLink RX3 47 "BitNotation$Kind" "SEQUENCE" "LBitNotation$Kind;", Cond.fieldLink RX3 55 "BitNotation$Type" "additions" "LBitNotation$TypeRow;", Cond.static yX6_widthFor, Cond.initialized RX6, Cond.code yX6_widthFor cX6_widthFor 2 (some .int), Cond.methodLink RX3 52 yX4_init, Cond.instanceMethod yX4_init, Cond.code yX4_init cX4_init 2 none, Cond.methodLink RX4 1 objectInit]
def wsX3_init_r2 : List Cond := [Cond.fieldLink RX4 7 "BitNotation$TypeRow" "count" "I", Cond.methodLink RX4 13 Lib.Math.max.name, Cond.static Lib.Math.max.name, Cond.initialized "java/lang/Math", Cond.code Lib.Math.max.name Lib.Math.max.code 2 (some .int), Cond.classLink RX4 19 RX3, Cond.fieldLink RX4 21 "BitNotation$TypeRow" "items" "[LBitNotation$Type;"]
def wsX3_init : List Cond := .code yX3_init cX3_init 6 none :: ((wsX3_init_r1 ++ wsX3_init_r2) ++ wsX30 ++ wsX40)
def wsX3_measureThings : List Cond := .code yX3_measureThings cX3_measureThings 2 none :: ([.fieldLink RX3 38 "BitNotation$Type" "parts" "LBitNotation$TypeRow;", .fieldLink RX3 9 "BitNotation$Type" "fewestBits" "I", .fieldLink RX3 25 "BitNotation$Type" "least" "I", .fieldLink RX3 15 "BitNotation$Type" "mostBits" "I", .fieldLink RX3 28 "BitNotation$Type" "greatest" "I", .fieldLink RX3 18 "BitNotation$Type" "mostNumbers" "I", .methodLink RX3 76 yX4_at, .instanceMethod yX4_at, .selects RX4 yX4_at yX4_at, .initialized RX4, .code yX4_at cX4_at 2 (some (.object "BitNotation$Type")), .fieldLink RX4 7 "BitNotation$TypeRow" "count" "I", .fieldLink RX4 21 "BitNotation$TypeRow" "items" "[LBitNotation$Type;"] ++ wsX30 ++ wsX40)
def wsX3_measureChoices : List Cond := .code yX3_measureChoices cX3_measureChoices 6 none :: ([.fieldLink RX3 38 "BitNotation$Type" "parts" "LBitNotation$TypeRow;", .fieldLink RX3 9 "BitNotation$Type" "fewestBits" "I", .methodLink RX3 84 Lib.Math.min.name, .static Lib.Math.min.name, .initialized "java/lang/Math", .code Lib.Math.min.name Lib.Math.min.code 2 (some .int), .fieldLink RX3 15 "BitNotation$Type" "mostBits" "I", .methodLink RX3 90 Lib.Math.max.name, .static Lib.Math.max.name, .code Lib.Math.max.name Lib.Math.max.code 2 (some .int), .fieldLink RX3 18 "BitNotation$Type" "mostNumbers" "I", .methodLink RX3 80 yX4_size, .instanceMethod yX4_size, .selects RX4 yX4_size yX4_size, .initialized RX4, .code yX4_size cX4_size 1 (some .int), .fieldLink RX4 7 "BitNotation$TypeRow" "count" "I", .methodLink RX3 76 yX4_at, .instanceMethod yX4_at, .selects RX4 yX4_at yX4_at, .code yX4_at cX4_at 2 (some (.object "BitNotation$Type")), .fieldLink RX4 21 "BitNotation$TypeRow" "items" "[LBitNotation$Type;"] ++ wsX30 ++ wsX40)
def wsX3_measureParts : List Cond := .code yX3_measureParts cX3_measureParts 4 none :: ([.fieldLink RX3 9 "BitNotation$Type" "fewestBits" "I", .fieldLink RX3 15 "BitNotation$Type" "mostBits" "I", .fieldLink RX3 38 "BitNotation$Type" "parts" "LBitNotation$TypeRow;", .fieldLink RX3 18 "BitNotation$Type" "mostNumbers" "I", .methodLink RX3 80 yX4_size, .instanceMethod yX4_size, .selects RX4 yX4_size yX4_size, .initialized RX4, .code yX4_size cX4_size 1 (some .int), .fieldLink RX4 7 "BitNotation$TypeRow" "count" "I", .methodLink RX3 76 yX4_at, .instanceMethod yX4_at, .selects RX4 yX4_at yX4_at, .code yX4_at cX4_at 2 (some (.object "BitNotation$Type")), .fieldLink RX4 21 "BitNotation$TypeRow" "items" "[LBitNotation$Type;", .methodLink RX3 93 yX3_isOptional, .instanceMethod yX3_isOptional, .selects RX3 yX3_isOptional yX3_isOptional, .initialized RX3, .code yX3_isOptional cX3_isOptional 2 (some .boolean), .fieldLink RX3 42 "BitNotation$Type" "optional" "I"] ++ wsX30 ++ wsX40)
def wsX3_measureAdditions : List Cond := .code yX3_measureAdditions cX3_measureAdditions 3 none :: ([.fieldLink RX3 55 "BitNotation$Type" "additions" "LBitNotation$TypeRow;", .fieldLink RX3 15 "BitNotation$Type" "mostBits" "I", .fieldLink RX3 18 "BitNotation$Type" "mostNumbers" "I", .methodLink RX3 80 yX4_size, .instanceMethod yX4_size, .selects RX4 yX4_size yX4_size, .initialized RX4, .code yX4_size cX4_size 1 (some .int), .fieldLink RX4 7 "BitNotation$TypeRow" "count" "I", .methodLink RX3 76 yX4_at, .instanceMethod yX4_at, .selects RX4 yX4_at yX4_at, .code yX4_at cX4_at 2 (some (.object "BitNotation$Type")), .fieldLink RX4 21 "BitNotation$TypeRow" "items" "[LBitNotation$Type;"] ++ wsX30 ++ wsX40)
def wsX3_measure_r1 : List Cond := [Cond.fieldLink RX3 35 "BitNotation$Type" "width" "I", Cond.fieldLink RX3 9 "BitNotation$Type" "fewestBits" "I", Cond.fieldLink RX3 15 "BitNotation$Type" "mostBits" "I", Cond.fieldLink RX3 18 "BitNotation$Type" "mostNumbers" "I", Cond.fieldLink RX3 21 "BitNotation$Type" "kind" "LBitNotation$Kind;", Cond.fieldLink RX3 58 "BitNotation$Kind" "LIST" "LBitNotation$Kind;", Cond.fieldLink RX3 64 "BitNotation$Kind" "CHOICE" "LBitNotation$Kind;", Cond.fieldLink RX3 47 "BitNotation$Kind" "SEQUENCE" "LBitNotation$Kind;", Cond.methodLink RX3 61 yX3_measureThings, Cond.instanceMethod yX3_measureThings, Cond.selects RX3 yX3_measureThings yX3_measureThings, Cond.initialized RX3, Cond.code yX3_measureThings cX3_measureThings 2 none, Cond.fieldLink RX3 38 "BitNotation$Type" "parts" "LBitNotation$TypeRow;", Cond.fieldLink RX3 25 "BitNotation$Type" "least" "I", Cond.fieldLink RX3 28 "BitNotation$Type" "greatest" "I", Cond.methodLink RX3 76 yX4_at, Cond.instanceMethod yX4_at, Cond.selects RX4 yX4_at yX4_at, Cond.initialized RX4, Cond.code yX4_at cX4_at 2 (some (.object "BitNotation$Type")), Cond.fieldLink RX4 7 "BitNotation$TypeRow" "count" "I", Cond.fieldLink RX4 21 "BitNotation$TypeRow" "items" "[LBitNotation$Type;", Cond.methodLink RX3 67 yX3_measureChoices]
def wsX3_measure_r2 : List Cond := [Cond.instanceMethod yX3_measureChoices, Cond.selects RX3 yX3_measureChoices yX3_measureChoices, Cond.code yX3_measureChoices cX3_measureChoices 6 none, Cond.methodLink RX3 84 Lib.Math.min.name, Cond.static Lib.Math.min.name, Cond.initialized "java/lang/Math", Cond.code Lib.Math.min.name Lib.Math.min.code 2 (some .int), Cond.methodLink RX3 90 Lib.Math.max.name, Cond.static Lib.Math.max.name, Cond.code Lib.Math.max.name Lib.Math.max.code 2 (some .int), Cond.methodLink RX3 80 yX4_size, Cond.instanceMethod yX4_size, Cond.selects RX4 yX4_size yX4_size, Cond.code yX4_size cX4_size 1 (some .int), Cond.methodLink RX3 70 yX3_measureParts, Cond.instanceMethod yX3_measureParts, Cond.selects RX3 yX3_measureParts yX3_measureParts, Cond.code yX3_measureParts cX3_measureParts 4 none, Cond.methodLink RX3 93 yX3_isOptional, Cond.instanceMethod yX3_isOptional, Cond.selects RX3 yX3_isOptional yX3_isOptional, Cond.code yX3_isOptional cX3_isOptional 2 (some .boolean), Cond.fieldLink RX3 42 "BitNotation$Type" "optional" "I", Cond.methodLink RX3 73 yX3_measureAdditions]
def wsX3_measure_r3 : List Cond := [Cond.instanceMethod yX3_measureAdditions, Cond.selects RX3 yX3_measureAdditions yX3_measureAdditions, Cond.code yX3_measureAdditions cX3_measureAdditions 3 none, Cond.fieldLink RX3 55 "BitNotation$Type" "additions" "LBitNotation$TypeRow;"]
def wsX3_measure : List Cond := .code yX3_measure cX3_measure 1 (some .boolean) :: ((wsX3_measure_r1 ++ (wsX3_measure_r2 ++ wsX3_measure_r3)) ++ wsX30 ++ wsX40)
def wsX4_isFull : List Cond := .code yX4_isFull cX4_isFull 1 (some .boolean) :: ([.fieldLink RX4 7 "BitNotation$TypeRow" "count" "I", .fieldLink RX4 21 "BitNotation$TypeRow" "items" "[LBitNotation$Type;"] ++ wsX40)
def wsX4_append : List Cond := .code yX4_append cX4_append 2 none :: ([.fieldLink RX4 7 "BitNotation$TypeRow" "count" "I", .fieldLink RX4 21 "BitNotation$TypeRow" "items" "[LBitNotation$Type;"] ++ wsX40)
def wsX4_dropLast : List Cond := .code yX4_dropLast cX4_dropLast 1 none :: ([.fieldLink RX4 7 "BitNotation$TypeRow" "count" "I"] ++ wsX40)
def wsX4_measureAll_r1 : List Cond := [Cond.fieldLink RX4 7 "BitNotation$TypeRow" "count" "I", Cond.methodLink RX4 25 yX4_at, Cond.instanceMethod yX4_at, Cond.selects RX4 yX4_at yX4_at, Cond.initialized RX4, Cond.code yX4_at cX4_at 2 (some (.object "BitNotation$Type")), Cond.fieldLink RX4 21 "BitNotation$TypeRow" "items" "[LBitNotation$Type;", Cond.methodLink RX4 29 yX3_measure, Cond.instanceMethod yX3_measure, Cond.selects RX3 yX3_measure yX3_measure, Cond.initialized RX3, Cond.code yX3_measure cX3_measure 1 (some .boolean), Cond.fieldLink RX3 35 "BitNotation$Type" "width" "I", Cond.fieldLink RX3 9 "BitNotation$Type" "fewestBits" "I", Cond.fieldLink RX3 15 "BitNotation$Type" "mostBits" "I", Cond.fieldLink RX3 18 "BitNotation$Type" "mostNumbers" "I", Cond.fieldLink RX3 21 "BitNotation$Type" "kind" "LBitNotation$Kind;", Cond.fieldLink RX3 58 "BitNotation$Kind" "LIST" "LBitNotation$Kind;", Cond.fieldLink RX3 64 "BitNotation$Kind" "CHOICE" "LBitNotation$Kind;", Cond.fieldLink RX3 47 "BitNotation$Kind" "SEQUENCE" "LBitNotation$Kind;", Cond.methodLink RX3 61 yX3_measureThings, Cond.instanceMethod yX3_measureThings, Cond.selects RX3 yX3_measureThings yX3_measureThings, Cond.code yX3_measureThings cX3_measureThings 2 none]
def wsX4_measureAll_r2 : List Cond := [Cond.fieldLink RX3 38 "BitNotation$Type" "parts" "LBitNotation$TypeRow;", Cond.fieldLink RX3 25 "BitNotation$Type" "least" "I", Cond.fieldLink RX3 28 "BitNotation$Type" "greatest" "I", Cond.methodLink RX3 76 yX4_at, Cond.methodLink RX3 67 yX3_measureChoices, Cond.instanceMethod yX3_measureChoices, Cond.selects RX3 yX3_measureChoices yX3_measureChoices, Cond.code yX3_measureChoices cX3_measureChoices 6 none, Cond.methodLink RX3 84 Lib.Math.min.name, Cond.static Lib.Math.min.name, Cond.initialized "java/lang/Math", Cond.code Lib.Math.min.name Lib.Math.min.code 2 (some .int), Cond.methodLink RX3 90 Lib.Math.max.name, Cond.static Lib.Math.max.name, Cond.code Lib.Math.max.name Lib.Math.max.code 2 (some .int), Cond.methodLink RX3 80 yX4_size, Cond.instanceMethod yX4_size, Cond.selects RX4 yX4_size yX4_size, Cond.code yX4_size cX4_size 1 (some .int), Cond.methodLink RX3 70 yX3_measureParts, Cond.instanceMethod yX3_measureParts, Cond.selects RX3 yX3_measureParts yX3_measureParts, Cond.code yX3_measureParts cX3_measureParts 4 none, Cond.methodLink RX3 93 yX3_isOptional]
def wsX4_measureAll_r3 : List Cond := [Cond.instanceMethod yX3_isOptional, Cond.selects RX3 yX3_isOptional yX3_isOptional, Cond.code yX3_isOptional cX3_isOptional 2 (some .boolean), Cond.fieldLink RX3 42 "BitNotation$Type" "optional" "I", Cond.methodLink RX3 73 yX3_measureAdditions, Cond.instanceMethod yX3_measureAdditions, Cond.selects RX3 yX3_measureAdditions yX3_measureAdditions, Cond.code yX3_measureAdditions cX3_measureAdditions 3 none, Cond.fieldLink RX3 55 "BitNotation$Type" "additions" "LBitNotation$TypeRow;"]
def wsX4_measureAll : List Cond := .code yX4_measureAll cX4_measureAll 3 (some .boolean) :: ((wsX4_measureAll_r1 ++ (wsX4_measureAll_r2 ++ wsX4_measureAll_r3)) ++ wsX40 ++ wsX30)
def wsX5_init : List Cond := .code yX5_init cX5_init 1 none :: ([.methodLink RX5 3 objectInit, .instanceMethod objectInit, .code objectInit ⟨#[0xb1]⟩ 1 none, .classLink RX5 9 RX2, .instantiable RX2 2, .initialized RX2, .fieldLink RX5 14 "BitNotation$Writer" "written" "LBitNotation$Row;", .fieldLink RX5 20 "BitNotation$Writer" "place" "I", .fieldLink RX5 24 "BitNotation$Writer" "wrong" "I", .methodLink RX5 11 yX2_init, .instanceMethod yX2_init, .code yX2_init cX2_init 2 none, .methodLink RX2 1 objectInit, .fieldLink RX2 7 "BitNotation$Row" "count" "I", .methodLink RX2 13 Lib.Math.max.name, .static Lib.Math.max.name, .initialized "java/lang/Math", .code Lib.Math.max.name Lib.Math.max.code 2 (some .int), .arrayClass .int, .fieldLink RX2 19 "BitNotation$Row" "items" "[I"] ++ wsX20 ++ wsX50)
def wsX5_put : List Cond := .code yX5_put cX5_put 4 none :: ([.fieldLink RX5 14 "BitNotation$Writer" "written" "LBitNotation$Row;", .methodLink RX5 113 yX2_append, .instanceMethod yX2_append, .selects RX2 yX2_append yX2_append, .initialized RX2, .code yX2_append cX2_append 2 none, .fieldLink RX2 7 "BitNotation$Row" "count" "I", .fieldLink RX2 19 "BitNotation$Row" "items" "[I"] ++ wsX50 ++ wsX20)
def wsX6_isOutside : List Cond := .code yX6_isOutside cX6_isOutside 3 (some .boolean) :: ([])
def wsX5_next : List Cond := .code yX5_next cX5_next 5 (some .int) :: ([.fieldLink RX5 20 "BitNotation$Writer" "place" "I", .fieldLink RX5 24 "BitNotation$Writer" "wrong" "I", .methodLink RX5 103 yX2_at, .instanceMethod yX2_at, .selects RX2 yX2_at yX2_at, .initialized RX2, .code yX2_at cX2_at 2 (some .int), .fieldLink RX2 19 "BitNotation$Row" "items" "[I", .methodLink RX2 23 yX2_has, .instanceMethod yX2_has, .selects RX2 yX2_has yX2_has, .code yX2_has cX2_has 2 (some .boolean), .fieldLink RX2 7 "BitNotation$Row" "count" "I", .methodLink RX5 106 yX2_has, .static yX6_isOutside, .initialized RX6, .code yX6_isOutside cX6_isOutside 3 (some .boolean)] ++ wsX50 ++ wsX20)
def wsX5_nextParts_r1 : List Cond := [Cond.methodLink RX5 92 yX4_size, Cond.instanceMethod yX4_size, Cond.selects RX4 yX4_size yX4_size, Cond.initialized RX4, Cond.code yX4_size cX4_size 1 (some .int), Cond.fieldLink RX4 7 "BitNotation$TypeRow" "count" "I", Cond.methodLink RX5 93 yX3_isOptional, Cond.instanceMethod yX3_isOptional, Cond.selects RX3 yX3_isOptional yX3_isOptional, Cond.initialized RX3, Cond.code yX3_isOptional cX3_isOptional 2 (some .boolean), Cond.fieldLink RX3 42 "BitNotation$Type" "optional" "I", Cond.methodLink RX5 58 yX5_next, Cond.instanceMethod yX5_next, Cond.selects RX5 yX5_next yX5_next, Cond.initialized RX5, Cond.code yX5_next cX5_next 5 (some .int), Cond.fieldLink RX5 20 "BitNotation$Writer" "place" "I", Cond.fieldLink RX5 24 "BitNotation$Writer" "wrong" "I", Cond.methodLink RX5 103 yX2_at, Cond.instanceMethod yX2_at, Cond.selects RX2 yX2_at yX2_at, Cond.initialized RX2, Cond.code yX2_at cX2_at 2 (some .int)]
def wsX5_nextParts_r2 : List Cond := [Cond.fieldLink RX2 19 "BitNotation$Row" "items" "[I", Cond.methodLink RX2 23 yX2_has, Cond.instanceMethod yX2_has, Cond.selects RX2 yX2_has yX2_has, Cond.code yX2_has cX2_has 2 (some .boolean), Cond.fieldLink RX2 7 "BitNotation$Row" "count" "I", Cond.methodLink RX5 106 yX2_has, Cond.static yX6_isOutside, Cond.initialized RX6, Cond.code yX6_isOutside cX6_isOutside 3 (some .boolean)]
def wsX5_nextParts : List Cond := .code yX5_nextParts cX5_nextParts 5 (some .int) :: ((wsX5_nextParts_r1 ++ wsX5_nextParts_r2) ++ wsX30 ++ wsX40 ++ wsX50 ++ wsX20)
def wsX5_putAddition_r1 : List Cond := [Cond.fieldLink RX5 14 "BitNotation$Writer" "written" "LBitNotation$Row;", Cond.methodLink RX5 34 yX2_size, Cond.instanceMethod yX2_size, Cond.selects RX2 yX2_size yX2_size, Cond.initialized RX2, Cond.code yX2_size cX2_size 1 (some .int), Cond.fieldLink RX2 7 "BitNotation$Row" "count" "I", Cond.methodLink RX5 65 yX5_put, Cond.instanceMethod yX5_put, Cond.selects RX5 yX5_put yX5_put, Cond.initialized RX5, Cond.code yX5_put cX5_put 4 none, Cond.methodLink RX5 113 yX2_append, Cond.instanceMethod yX2_append, Cond.selects RX2 yX2_append yX2_append, Cond.code yX2_append cX2_append 2 none, Cond.fieldLink RX2 19 "BitNotation$Row" "items" "[I", Cond.methodLink RX5 30 yX5_putValue, Cond.instanceMethod yX5_putValue, Cond.selects RX5 yX5_putValue yX5_putValue, Cond.methodLink RX5 100 yX2_replace, Cond.instanceMethod yX2_replace, Cond.selects RX2 yX2_replace yX2_replace, Cond.code yX2_replace cX2_replace 3 none]
def wsX5_putAddition_r2 : List Cond := [Cond.methodLink RX2 23 yX2_has, Cond.instanceMethod yX2_has, Cond.selects RX2 yX2_has yX2_has, Cond.code yX2_has cX2_has 2 (some .boolean), Cond.code yX5_putSequence cX5_putSequence 7 none, Cond.methodLink RX5 85 yX5_nextParts, Cond.instanceMethod yX5_nextParts, Cond.selects RX5 yX5_nextParts yX5_nextParts, Cond.code yX5_nextParts cX5_nextParts 5 (some .int), Cond.methodLink RX5 92 yX4_size, Cond.instanceMethod yX4_size, Cond.selects RX4 yX4_size yX4_size, Cond.initialized RX4, Cond.code yX4_size cX4_size 1 (some .int), Cond.fieldLink RX4 7 "BitNotation$TypeRow" "count" "I", Cond.methodLink RX5 93 yX3_isOptional, Cond.instanceMethod yX3_isOptional, Cond.selects RX3 yX3_isOptional yX3_isOptional, Cond.initialized RX3, Cond.code yX3_isOptional cX3_isOptional 2 (some .boolean), Cond.fieldLink RX3 42 "BitNotation$Type" "optional" "I", Cond.methodLink RX5 58 yX5_next, Cond.instanceMethod yX5_next, Cond.selects RX5 yX5_next yX5_next]
def wsX5_putAddition_r3 : List Cond := [Cond.code yX5_next cX5_next 5 (some .int), Cond.fieldLink RX5 20 "BitNotation$Writer" "place" "I", Cond.fieldLink RX5 24 "BitNotation$Writer" "wrong" "I", Cond.methodLink RX5 103 yX2_at, Cond.instanceMethod yX2_at, Cond.selects RX2 yX2_at yX2_at, Cond.code yX2_at cX2_at 2 (some .int), Cond.methodLink RX5 106 yX2_has, Cond.static yX6_isOutside, Cond.initialized RX6, Cond.code yX6_isOutside cX6_isOutside 3 (some .boolean), Cond.methodLink RX5 76 yX4_at, Cond.instanceMethod yX4_at, Cond.selects RX4 yX4_at yX4_at, Cond.code yX4_at cX4_at 2 (some (.object "BitNotation$Type")), Cond.fieldLink RX4 21 "BitNotation$TypeRow" "items" "[LBitNotation$Type;", Cond.methodLink RX5 97 yX5_putAddition, Cond.instanceMethod yX5_putAddition, Cond.selects RX5 yX5_putAddition yX5_putAddition, Cond.code yX5_putValue cX5_putValue 6 none, Cond.fieldLink RX5 44 "BitNotation$Kind" "SEQUENCE" "LBitNotation$Kind;", Cond.fieldLink RX5 69 "BitNotation$Kind" "LIST" "LBitNotation$Kind;", Cond.fieldLink RX5 82 "BitNotation$Kind" "CHOICE" "LBitNotation$Kind;", Cond.methodLink RX5 49 yX5_putSequence]
def wsX5_putAddition_r4 : List Cond := [Cond.instanceMethod yX5_putSequence, Cond.selects RX5 yX5_putSequence yX5_putSequence]
def wsX5_putAddition : List Cond := .code yX5_putAddition cX5_putAddition 8 none :: ((wsX5_putAddition_r1 ++ (wsX5_putAddition_r2 ++ (wsX5_putAddition_r3 ++ wsX5_putAddition_r4))) ++ wsX50 ++ wsX20 ++ wsX30 ++ wsX40)
def wsX5_putSequence_r1 : List Cond := [Cond.methodLink RX5 85 yX5_nextParts, Cond.instanceMethod yX5_nextParts, Cond.selects RX5 yX5_nextParts yX5_nextParts, Cond.initialized RX5, Cond.code yX5_nextParts cX5_nextParts 5 (some .int), Cond.methodLink RX5 92 yX4_size, Cond.instanceMethod yX4_size, Cond.selects RX4 yX4_size yX4_size, Cond.initialized RX4, Cond.code yX4_size cX4_size 1 (some .int), Cond.fieldLink RX4 7 "BitNotation$TypeRow" "count" "I", Cond.methodLink RX5 93 yX3_isOptional, Cond.instanceMethod yX3_isOptional, Cond.selects RX3 yX3_isOptional yX3_isOptional, Cond.initialized RX3, Cond.code yX3_isOptional cX3_isOptional 2 (some .boolean), Cond.fieldLink RX3 42 "BitNotation$Type" "optional" "I", Cond.methodLink RX5 58 yX5_next, Cond.instanceMethod yX5_next, Cond.selects RX5 yX5_next yX5_next, Cond.code yX5_next cX5_next 5 (some .int), Cond.fieldLink RX5 20 "BitNotation$Writer" "place" "I", Cond.fieldLink RX5 24 "BitNotation$Writer" "wrong" "I", Cond.methodLink RX5 103 yX2_at]
def wsX5_putSequence_r2 : List Cond := [Cond.instanceMethod yX2_at, Cond.selects RX2 yX2_at yX2_at, Cond.initialized RX2, Cond.code yX2_at cX2_at 2 (some .int), Cond.fieldLink RX2 19 "BitNotation$Row" "items" "[I", Cond.methodLink RX2 23 yX2_has, Cond.instanceMethod yX2_has, Cond.selects RX2 yX2_has yX2_has, Cond.code yX2_has cX2_has 2 (some .boolean), Cond.fieldLink RX2 7 "BitNotation$Row" "count" "I", Cond.methodLink RX5 106 yX2_has, Cond.static yX6_isOutside, Cond.initialized RX6, Cond.code yX6_isOutside cX6_isOutside 3 (some .boolean), Cond.methodLink RX5 65 yX5_put, Cond.instanceMethod yX5_put, Cond.selects RX5 yX5_put yX5_put, Cond.code yX5_put cX5_put 4 none, Cond.fieldLink RX5 14 "BitNotation$Writer" "written" "LBitNotation$Row;", Cond.methodLink RX5 113 yX2_append, Cond.instanceMethod yX2_append, Cond.selects RX2 yX2_append yX2_append, Cond.code yX2_append cX2_append 2 none, Cond.methodLink RX5 76 yX4_at]
def wsX5_putSequence_r3 : List Cond := [Cond.instanceMethod yX4_at, Cond.selects RX4 yX4_at yX4_at, Cond.code yX4_at cX4_at 2 (some (.object "BitNotation$Type")), Cond.fieldLink RX4 21 "BitNotation$TypeRow" "items" "[LBitNotation$Type;", Cond.methodLink RX5 30 yX5_putValue, Cond.instanceMethod yX5_putValue, Cond.selects RX5 yX5_putValue yX5_putValue, Cond.methodLink RX5 97 yX5_putAddition, Cond.instanceMethod yX5_putAddition, Cond.selects RX5 yX5_putAddition yX5_putAddition, Cond.code yX5_putAddition cX5_putAddition 8 none, Cond.methodLink RX5 34 yX2_size, Cond.instanceMethod yX2_size, Cond.selects RX2 yX2_size yX2_size, Cond.code yX2_size cX2_size 1 (some .int), Cond.methodLink RX5 100 yX2_replace, Cond.instanceMethod yX2_replace, Cond.selects RX2 yX2_replace yX2_replace, Cond.code yX2_replace cX2_replace 3 none, Cond.code yX5_putValue cX5_putValue 6 none, Cond.fieldLink RX5 44 "BitNotation$Kind" "SEQUENCE" "LBitNotation$Kind;", Cond.fieldLink RX5 69 "BitNotation$Kind" "LIST" "LBitNotation$Kind;", Cond.fieldLink RX5 82 "BitNotation$Kind" "CHOICE" "LBitNotation$Kind;", Cond.methodLink RX5 49 yX5_putSequence]
def wsX5_putSequence_r4 : List Cond := [Cond.instanceMethod yX5_putSequence, Cond.selects RX5 yX5_putSequence yX5_putSequence]
def wsX5_putSequence : List Cond := .code yX5_putSequence cX5_putSequence 7 none :: ((wsX5_putSequence_r1 ++ (wsX5_putSequence_r2 ++ (wsX5_putSequence_r3 ++ wsX5_putSequence_r4))) ++ wsX50 ++ wsX20 ++ wsX30 ++ wsX40)
def wsX5_putValue_r1 : List Cond := [Cond.fieldLink RX5 24 "BitNotation$Writer" "wrong" "I", Cond.fieldLink RX5 20 "BitNotation$Writer" "place" "I", Cond.fieldLink RX5 44 "BitNotation$Kind" "SEQUENCE" "LBitNotation$Kind;", Cond.fieldLink RX5 69 "BitNotation$Kind" "LIST" "LBitNotation$Kind;", Cond.fieldLink RX5 82 "BitNotation$Kind" "CHOICE" "LBitNotation$Kind;", Cond.methodLink RX5 49 yX5_putSequence, Cond.instanceMethod yX5_putSequence, Cond.selects RX5 yX5_putSequence yX5_putSequence, Cond.initialized RX5, Cond.methodLink RX5 58 yX5_next, Cond.instanceMethod yX5_next, Cond.selects RX5 yX5_next yX5_next, Cond.code yX5_next cX5_next 5 (some .int), Cond.methodLink RX5 103 yX2_at, Cond.instanceMethod yX2_at, Cond.selects RX2 yX2_at yX2_at, Cond.initialized RX2, Cond.code yX2_at cX2_at 2 (some .int), Cond.fieldLink RX2 19 "BitNotation$Row" "items" "[I", Cond.methodLink RX2 23 yX2_has, Cond.instanceMethod yX2_has, Cond.selects RX2 yX2_has yX2_has, Cond.code yX2_has cX2_has 2 (some .boolean), Cond.fieldLink RX2 7 "BitNotation$Row" "count" "I"]
def wsX5_putValue_r2 : List Cond := [Cond.methodLink RX5 106 yX2_has, Cond.static yX6_isOutside, Cond.initialized RX6, Cond.code yX6_isOutside cX6_isOutside 3 (some .boolean), Cond.methodLink RX5 65 yX5_put, Cond.instanceMethod yX5_put, Cond.selects RX5 yX5_put yX5_put, Cond.code yX5_put cX5_put 4 none, Cond.fieldLink RX5 14 "BitNotation$Writer" "written" "LBitNotation$Row;", Cond.methodLink RX5 113 yX2_append, Cond.instanceMethod yX2_append, Cond.selects RX2 yX2_append yX2_append, Cond.code yX2_append cX2_append 2 none, Cond.methodLink RX5 76 yX4_at, Cond.instanceMethod yX4_at, Cond.selects RX4 yX4_at yX4_at, Cond.initialized RX4, Cond.code yX4_at cX4_at 2 (some (.object "BitNotation$Type")), Cond.fieldLink RX4 7 "BitNotation$TypeRow" "count" "I", Cond.fieldLink RX4 21 "BitNotation$TypeRow" "items" "[LBitNotation$Type;", Cond.methodLink RX5 30 yX5_putValue, Cond.instanceMethod yX5_putValue, Cond.selects RX5 yX5_putValue yX5_putValue, Cond.code yX5_putAddition cX5_putAddition 8 none]
def wsX5_putValue_r3 : List Cond := [Cond.methodLink RX5 34 yX2_size, Cond.instanceMethod yX2_size, Cond.selects RX2 yX2_size yX2_size, Cond.code yX2_size cX2_size 1 (some .int), Cond.methodLink RX5 100 yX2_replace, Cond.instanceMethod yX2_replace, Cond.selects RX2 yX2_replace yX2_replace, Cond.code yX2_replace cX2_replace 3 none, Cond.code yX5_putSequence cX5_putSequence 7 none, Cond.methodLink RX5 85 yX5_nextParts, Cond.instanceMethod yX5_nextParts, Cond.selects RX5 yX5_nextParts yX5_nextParts, Cond.code yX5_nextParts cX5_nextParts 5 (some .int), Cond.methodLink RX5 92 yX4_size, Cond.instanceMethod yX4_size, Cond.selects RX4 yX4_size yX4_size, Cond.code yX4_size cX4_size 1 (some .int), Cond.methodLink RX5 93 yX3_isOptional, Cond.instanceMethod yX3_isOptional, Cond.selects RX3 yX3_isOptional yX3_isOptional, Cond.initialized RX3, Cond.code yX3_isOptional cX3_isOptional 2 (some .boolean), Cond.fieldLink RX3 42 "BitNotation$Type" "optional" "I", Cond.methodLink RX5 97 yX5_putAddition]
def wsX5_putValue_r4 : List Cond := [Cond.instanceMethod yX5_putAddition, Cond.selects RX5 yX5_putAddition yX5_putAddition]
def wsX5_putValue : List Cond := .code yX5_putValue cX5_putValue 6 none :: ((wsX5_putValue_r1 ++ (wsX5_putValue_r2 ++ (wsX5_putValue_r3 ++ wsX5_putValue_r4))) ++ wsX50 ++ wsX20 ++ wsX30 ++ wsX40)
def wsX5_walk_r1 : List Cond := [Cond.fieldLink RX5 14 "BitNotation$Writer" "written" "LBitNotation$Row;", Cond.fieldLink RX5 20 "BitNotation$Writer" "place" "I", Cond.fieldLink RX5 24 "BitNotation$Writer" "wrong" "I", Cond.methodLink RX5 27 yX2_keepFirst, Cond.instanceMethod yX2_keepFirst, Cond.selects RX2 yX2_keepFirst yX2_keepFirst, Cond.initialized RX2, Cond.code yX2_keepFirst cX2_keepFirst 2 none, Cond.fieldLink RX2 7 "BitNotation$Row" "count" "I", Cond.methodLink RX5 30 yX5_putValue, Cond.instanceMethod yX5_putValue, Cond.selects RX5 yX5_putValue yX5_putValue, Cond.initialized RX5, Cond.code yX5_putValue cX5_putValue 6 none, Cond.fieldLink RX5 44 "BitNotation$Kind" "SEQUENCE" "LBitNotation$Kind;", Cond.fieldLink RX5 69 "BitNotation$Kind" "LIST" "LBitNotation$Kind;", Cond.fieldLink RX5 82 "BitNotation$Kind" "CHOICE" "LBitNotation$Kind;", Cond.methodLink RX5 49 yX5_putSequence, Cond.instanceMethod yX5_putSequence, Cond.selects RX5 yX5_putSequence yX5_putSequence, Cond.methodLink RX5 58 yX5_next, Cond.instanceMethod yX5_next, Cond.selects RX5 yX5_next yX5_next, Cond.code yX5_next cX5_next 5 (some .int)]
def wsX5_walk_r2 : List Cond := [Cond.methodLink RX5 103 yX2_at, Cond.instanceMethod yX2_at, Cond.selects RX2 yX2_at yX2_at, Cond.code yX2_at cX2_at 2 (some .int), Cond.fieldLink RX2 19 "BitNotation$Row" "items" "[I", Cond.methodLink RX2 23 yX2_has, Cond.instanceMethod yX2_has, Cond.selects RX2 yX2_has yX2_has, Cond.code yX2_has cX2_has 2 (some .boolean), Cond.methodLink RX5 106 yX2_has, Cond.static yX6_isOutside, Cond.initialized RX6, Cond.code yX6_isOutside cX6_isOutside 3 (some .boolean), Cond.methodLink RX5 65 yX5_put, Cond.instanceMethod yX5_put, Cond.selects RX5 yX5_put yX5_put, Cond.code yX5_put cX5_put 4 none, Cond.methodLink RX5 113 yX2_append, Cond.instanceMethod yX2_append, Cond.selects RX2 yX2_append yX2_append, Cond.code yX2_append cX2_append 2 none, Cond.methodLink RX5 76 yX4_at, Cond.instanceMethod yX4_at, Cond.selects RX4 yX4_at yX4_at]
def wsX5_walk_r3 : List Cond := [Cond.initialized RX4, Cond.code yX4_at cX4_at 2 (some (.object "BitNotation$Type")), Cond.fieldLink RX4 7 "BitNotation$TypeRow" "count" "I", Cond.fieldLink RX4 21 "BitNotation$TypeRow" "items" "[LBitNotation$Type;", Cond.code yX5_putAddition cX5_putAddition 8 none, Cond.methodLink RX5 34 yX2_size, Cond.instanceMethod yX2_size, Cond.selects RX2 yX2_size yX2_size, Cond.code yX2_size cX2_size 1 (some .int), Cond.methodLink RX5 100 yX2_replace, Cond.instanceMethod yX2_replace, Cond.selects RX2 yX2_replace yX2_replace, Cond.code yX2_replace cX2_replace 3 none, Cond.code yX5_putSequence cX5_putSequence 7 none, Cond.methodLink RX5 85 yX5_nextParts, Cond.instanceMethod yX5_nextParts, Cond.selects RX5 yX5_nextParts yX5_nextParts, Cond.code yX5_nextParts cX5_nextParts 5 (some .int), Cond.methodLink RX5 92 yX4_size, Cond.instanceMethod yX4_size, Cond.selects RX4 yX4_size yX4_size, Cond.code yX4_size cX4_size 1 (some .int), Cond.methodLink RX5 93 yX3_isOptional, Cond.instanceMethod yX3_isOptional]
def wsX5_walk_r4 : List Cond := [Cond.selects RX3 yX3_isOptional yX3_isOptional, Cond.initialized RX3, Cond.code yX3_isOptional cX3_isOptional 2 (some .boolean), Cond.fieldLink RX3 42 "BitNotation$Type" "optional" "I", Cond.methodLink RX5 97 yX5_putAddition, Cond.instanceMethod yX5_putAddition, Cond.selects RX5 yX5_putAddition yX5_putAddition]
def wsX5_walk : List Cond := .code yX5_walk cX5_walk 3 (some .int) :: ((wsX5_walk_r1 ++ (wsX5_walk_r2 ++ (wsX5_walk_r3 ++ wsX5_walk_r4))) ++ wsX50 ++ wsX20 ++ wsX30 ++ wsX40)
def wsX6_init_r1 : List Cond := [Cond.methodLink RX6 1 objectInit, Cond.instanceMethod objectInit, Cond.code objectInit ⟨#[0xb1]⟩ 1 none, Cond.classLink RX6 7 RX4, Cond.instantiable RX4 2, Cond.initialized RX4, Cond.fieldLink RX6 14 "BitNotation" "notation" "LBitNotation$TypeRow;", Cond.classLink RX6 18 RX2, Cond.instantiable RX2 2, Cond.initialized RX2, Cond.fieldLink RX6 21 "BitNotation" "tale" "LBitNotation$Row;", Cond.fieldLink RX6 25 "BitNotation" "message" "LBitNotation$Row;", Cond.classLink RX6 28 RX5, Cond.instantiable RX5 3, Cond.initialized RX5, Cond.fieldLink RX6 31 "BitNotation" "writer" "LBitNotation$Writer;", Cond.classLink RX6 35 RX1, Cond.instantiable RX1 4, Cond.initialized RX1, Cond.fieldLink RX6 38 "BitNotation" "reader" "LBitNotation$Reader;", Cond.fieldLink RX6 42 "BitNotation" "draft" "LBitNotation$TypeRow;", Cond.fieldLink RX6 45 "BitNotation" "draftOptional" "I", Cond.methodLink RX6 11 yX4_init, Cond.instanceMethod yX4_init]
def wsX6_init_r2 : List Cond := [Cond.code yX4_init cX4_init 2 none, Cond.methodLink RX4 1 objectInit, Cond.fieldLink RX4 7 "BitNotation$TypeRow" "count" "I", Cond.methodLink RX4 13 Lib.Math.max.name, Cond.static Lib.Math.max.name, Cond.initialized "java/lang/Math", Cond.code Lib.Math.max.name Lib.Math.max.code 2 (some .int), Cond.classLink RX4 19 RX3, Cond.fieldLink RX4 21 "BitNotation$TypeRow" "items" "[LBitNotation$Type;", Cond.methodLink RX6 20 yX2_init, Cond.instanceMethod yX2_init, Cond.code yX2_init cX2_init 2 none, Cond.methodLink RX2 1 objectInit, Cond.fieldLink RX2 7 "BitNotation$Row" "count" "I", Cond.methodLink RX2 13 Lib.Math.max.name, Cond.arrayClass .int, Cond.fieldLink RX2 19 "BitNotation$Row" "items" "[I", Cond.instanceMethod yX5_init, Cond.code yX5_init cX5_init 1 none, Cond.methodLink RX5 3 objectInit, Cond.classLink RX5 9 RX2, Cond.fieldLink RX5 14 "BitNotation$Writer" "written" "LBitNotation$Row;", Cond.fieldLink RX5 20 "BitNotation$Writer" "place" "I", Cond.fieldLink RX5 24 "BitNotation$Writer" "wrong" "I"]
def wsX6_init_r3 : List Cond := [Cond.methodLink RX5 11 yX2_init, Cond.instanceMethod yX1_init, Cond.code yX1_init cX1_init 1 none, Cond.methodLink RX1 3 objectInit, Cond.classLink RX1 9 RX2, Cond.fieldLink RX1 14 "BitNotation$Reader" "heard" "LBitNotation$Row;", Cond.fieldLink RX1 20 "BitNotation$Reader" "additionsKnown" "I", Cond.fieldLink RX1 24 "BitNotation$Reader" "place" "I", Cond.fieldLink RX1 27 "BitNotation$Reader" "fault" "I", Cond.methodLink RX1 11 yX2_init]
def wsX6_init : List Cond := .code yX6_init cX6_init 1 none :: ((wsX6_init_r1 ++ (wsX6_init_r2 ++ wsX6_init_r3)) ++ wsX40 ++ wsX60 ++ wsX20 ++ wsX50 ++ wsX10)
def wsX6_keep_r1 : List Cond := [Cond.classLink RX6 92 "java/lang/IllegalStateException", Cond.initialized "java/lang/IllegalStateException", Cond.fieldLink RX6 14 "BitNotation" "notation" "LBitNotation$TypeRow;", Cond.methodLink RX6 88 yX4_isFull, Cond.instanceMethod yX4_isFull, Cond.selects RX4 yX4_isFull yX4_isFull, Cond.initialized RX4, Cond.code yX4_isFull cX4_isFull 1 (some .boolean), Cond.fieldLink RX4 7 "BitNotation$TypeRow" "count" "I", Cond.fieldLink RX4 21 "BitNotation$TypeRow" "items" "[LBitNotation$Type;", Cond.methodLink RX6 192 yX3_measure, Cond.instanceMethod yX3_measure, Cond.selects RX3 yX3_measure yX3_measure, Cond.initialized RX3, Cond.code yX3_measure cX3_measure 1 (some .boolean), Cond.fieldLink RX3 35 "BitNotation$Type" "width" "I", Cond.fieldLink RX3 9 "BitNotation$Type" "fewestBits" "I", Cond.fieldLink RX3 15 "BitNotation$Type" "mostBits" "I", Cond.fieldLink RX3 18 "BitNotation$Type" "mostNumbers" "I", Cond.fieldLink RX3 21 "BitNotation$Type" "kind" "LBitNotation$Kind;", Cond.fieldLink RX3 58 "BitNotation$Kind" "LIST" "LBitNotation$Kind;", Cond.fieldLink RX3 64 "BitNotation$Kind" "CHOICE" "LBitNotation$Kind;", Cond.fieldLink RX3 47 "BitNotation$Kind" "SEQUENCE" "LBitNotation$Kind;", Cond.methodLink RX3 61 yX3_measureThings]
def wsX6_keep_r2 : List Cond := [Cond.instanceMethod yX3_measureThings, Cond.selects RX3 yX3_measureThings yX3_measureThings, Cond.code yX3_measureThings cX3_measureThings 2 none, Cond.fieldLink RX3 38 "BitNotation$Type" "parts" "LBitNotation$TypeRow;", Cond.fieldLink RX3 25 "BitNotation$Type" "least" "I", Cond.fieldLink RX3 28 "BitNotation$Type" "greatest" "I", Cond.methodLink RX3 76 yX4_at, Cond.instanceMethod yX4_at, Cond.selects RX4 yX4_at yX4_at, Cond.code yX4_at cX4_at 2 (some (.object "BitNotation$Type")), Cond.methodLink RX3 67 yX3_measureChoices, Cond.instanceMethod yX3_measureChoices, Cond.selects RX3 yX3_measureChoices yX3_measureChoices, Cond.code yX3_measureChoices cX3_measureChoices 6 none, Cond.methodLink RX3 84 Lib.Math.min.name, Cond.static Lib.Math.min.name, Cond.initialized "java/lang/Math", Cond.code Lib.Math.min.name Lib.Math.min.code 2 (some .int), Cond.methodLink RX3 90 Lib.Math.max.name, Cond.static Lib.Math.max.name, Cond.code Lib.Math.max.name Lib.Math.max.code 2 (some .int), Cond.methodLink RX3 80 yX4_size, Cond.instanceMethod yX4_size, Cond.selects RX4 yX4_size yX4_size]
def wsX6_keep_r3 : List Cond := [Cond.code yX4_size cX4_size 1 (some .int), Cond.methodLink RX3 70 yX3_measureParts, Cond.instanceMethod yX3_measureParts, Cond.selects RX3 yX3_measureParts yX3_measureParts, Cond.code yX3_measureParts cX3_measureParts 4 none, Cond.methodLink RX3 93 yX3_isOptional, Cond.instanceMethod yX3_isOptional, Cond.selects RX3 yX3_isOptional yX3_isOptional, Cond.code yX3_isOptional cX3_isOptional 2 (some .boolean), Cond.fieldLink RX3 42 "BitNotation$Type" "optional" "I", Cond.methodLink RX3 73 yX3_measureAdditions, Cond.instanceMethod yX3_measureAdditions, Cond.selects RX3 yX3_measureAdditions yX3_measureAdditions, Cond.code yX3_measureAdditions cX3_measureAdditions 3 none, Cond.fieldLink RX3 55 "BitNotation$Type" "additions" "LBitNotation$TypeRow;", Cond.methodLink RX6 81 yX4_append, Cond.instanceMethod yX4_append, Cond.selects RX4 yX4_append yX4_append, Cond.code yX4_append cX4_append 2 none, Cond.methodLink RX6 97 yX4_size]
def wsX6_keep : List Cond := .code yX6_keep cX6_keep 2 (some .int) :: ((wsX6_keep_r1 ++ (wsX6_keep_r2 ++ wsX6_keep_r3)) ++ wsX60 ++ wsX40 ++ wsX30 ++ (vx_atS RX6 96 "java/lang/IllegalStateException" ["java/lang/RuntimeException", "java/lang/Exception"]).filter goodWord)
def wsX6_addNumber_r1 : List Cond := [Cond.classLink RX6 53 "java/lang/IllegalArgumentException", Cond.initialized "java/lang/IllegalArgumentException", Cond.classLink RX6 60 RX3, Cond.instantiable RX3 10, Cond.initialized RX3, Cond.fieldLink RX6 62 "BitNotation$Kind" "NUMBER" "LBitNotation$Kind;", Cond.classLink RX6 7 RX4, Cond.instantiable RX4 2, Cond.initialized RX4, Cond.methodLink RX6 49 yX6_isOutside, Cond.static yX6_isOutside, Cond.initialized RX6, Cond.code yX6_isOutside cX6_isOutside 3 (some .boolean), Cond.methodLink RX6 11 yX4_init, Cond.instanceMethod yX4_init, Cond.code yX4_init cX4_init 2 none, Cond.methodLink RX4 1 objectInit, Cond.instanceMethod objectInit, Cond.code objectInit ⟨#[0xb1]⟩ 1 none, Cond.fieldLink RX4 7 "BitNotation$TypeRow" "count" "I", Cond.methodLink RX4 13 Lib.Math.max.name, Cond.static Lib.Math.max.name, Cond.initialized "java/lang/Math", Cond.code Lib.Math.max.name Lib.Math.max.code 2 (some .int)]
def wsX6_addNumber_r2 : List Cond := [Cond.classLink RX4 19 RX3, Cond.fieldLink RX4 21 "BitNotation$TypeRow" "items" "[LBitNotation$Type;", Cond.methodLink RX6 68 yX3_init, Cond.instanceMethod yX3_init, Cond.code yX3_init cX3_init 6 none, Cond.methodLink RX3 3 objectInit, Cond.fieldLink RX3 9 "BitNotation$Type" "fewestBits" "I", Cond.fieldLink RX3 15 "BitNotation$Type" "mostBits" "I", Cond.fieldLink RX3 18 "BitNotation$Type" "mostNumbers" "I", Cond.fieldLink RX3 21 "BitNotation$Type" "kind" "LBitNotation$Kind;", Cond.fieldLink RX3 25 "BitNotation$Type" "least" "I", Cond.fieldLink RX3 28 "BitNotation$Type" "greatest" "I", Cond.fieldLink RX3 35 "BitNotation$Type" "width" "I", Cond.fieldLink RX3 38 "BitNotation$Type" "parts" "LBitNotation$TypeRow;", Cond.fieldLink RX3 42 "BitNotation$Type" "optional" "I", Cond.classLink RX3 45 RX4, Cond.fieldLink RX3 47 "BitNotation$Kind" "SEQUENCE" "LBitNotation$Kind;", Cond.fieldLink RX3 55 "BitNotation$Type" "additions" "LBitNotation$TypeRow;", Cond.static yX6_widthFor, Cond.code yX6_widthFor cX6_widthFor 2 (some .int), Cond.methodLink RX3 52 yX4_init, Cond.methodLink RX6 71 yX6_keep, Cond.instanceMethod yX6_keep, Cond.selects RX6 yX6_keep yX6_keep]
def wsX6_addNumber_r3 : List Cond := [Cond.code yX6_keep cX6_keep 2 (some .int), Cond.classLink RX6 92 "java/lang/IllegalStateException", Cond.initialized "java/lang/IllegalStateException", Cond.fieldLink RX6 14 "BitNotation" "notation" "LBitNotation$TypeRow;", Cond.methodLink RX6 88 yX4_isFull, Cond.instanceMethod yX4_isFull, Cond.selects RX4 yX4_isFull yX4_isFull, Cond.code yX4_isFull cX4_isFull 1 (some .boolean), Cond.methodLink RX6 192 yX3_measure, Cond.instanceMethod yX3_measure, Cond.selects RX3 yX3_measure yX3_measure, Cond.code yX3_measure cX3_measure 1 (some .boolean), Cond.fieldLink RX3 58 "BitNotation$Kind" "LIST" "LBitNotation$Kind;", Cond.fieldLink RX3 64 "BitNotation$Kind" "CHOICE" "LBitNotation$Kind;", Cond.methodLink RX3 61 yX3_measureThings, Cond.instanceMethod yX3_measureThings, Cond.selects RX3 yX3_measureThings yX3_measureThings, Cond.code yX3_measureThings cX3_measureThings 2 none, Cond.methodLink RX3 76 yX4_at, Cond.instanceMethod yX4_at, Cond.selects RX4 yX4_at yX4_at, Cond.code yX4_at cX4_at 2 (some (.object "BitNotation$Type")), Cond.methodLink RX3 67 yX3_measureChoices, Cond.instanceMethod yX3_measureChoices]
def wsX6_addNumber_r4 : List Cond := [Cond.selects RX3 yX3_measureChoices yX3_measureChoices, Cond.code yX3_measureChoices cX3_measureChoices 6 none, Cond.methodLink RX3 84 Lib.Math.min.name, Cond.static Lib.Math.min.name, Cond.code Lib.Math.min.name Lib.Math.min.code 2 (some .int), Cond.methodLink RX3 90 Lib.Math.max.name, Cond.methodLink RX3 80 yX4_size, Cond.instanceMethod yX4_size, Cond.selects RX4 yX4_size yX4_size, Cond.code yX4_size cX4_size 1 (some .int), Cond.methodLink RX3 70 yX3_measureParts, Cond.instanceMethod yX3_measureParts, Cond.selects RX3 yX3_measureParts yX3_measureParts, Cond.code yX3_measureParts cX3_measureParts 4 none, Cond.methodLink RX3 93 yX3_isOptional, Cond.instanceMethod yX3_isOptional, Cond.selects RX3 yX3_isOptional yX3_isOptional, Cond.code yX3_isOptional cX3_isOptional 2 (some .boolean), Cond.methodLink RX3 73 yX3_measureAdditions, Cond.instanceMethod yX3_measureAdditions, Cond.selects RX3 yX3_measureAdditions yX3_measureAdditions, Cond.code yX3_measureAdditions cX3_measureAdditions 3 none, Cond.methodLink RX6 81 yX4_append, Cond.instanceMethod yX4_append]
def wsX6_addNumber_r5 : List Cond := [Cond.selects RX4 yX4_append yX4_append, Cond.code yX4_append cX4_append 2 none, Cond.methodLink RX6 97 yX4_size]
def wsX6_addNumber : List Cond := .code yX6_addNumber cX6_addNumber 3 (some .int) :: ((wsX6_addNumber_r1 ++ (wsX6_addNumber_r2 ++ (wsX6_addNumber_r3 ++ (wsX6_addNumber_r4 ++ wsX6_addNumber_r5)))) ++ wsX30 ++ wsX40 ++ wsX60 ++ (vx_atS RX6 57 "java/lang/IllegalArgumentException" ["java/lang/RuntimeException", "java/lang/Exception"]).filter goodWord ++ (vx_atS RX6 96 "java/lang/IllegalStateException" ["java/lang/RuntimeException", "java/lang/Exception"]).filter goodWord)
def wsX6_typeNumbered : List Cond := .code yX6_typeNumbered cX6_typeNumbered 3 (some (.object "BitNotation$Type")) :: ([.classLink RX6 149 "java/lang/IndexOutOfBoundsException", .initialized "java/lang/IndexOutOfBoundsException", .fieldLink RX6 14 "BitNotation" "notation" "LBitNotation$TypeRow;", .methodLink RX6 188 yX4_at, .instanceMethod yX4_at, .selects RX4 yX4_at yX4_at, .initialized RX4, .code yX4_at cX4_at 2 (some (.object "BitNotation$Type")), .fieldLink RX4 7 "BitNotation$TypeRow" "count" "I", .fieldLink RX4 21 "BitNotation$TypeRow" "items" "[LBitNotation$Type;"] ++ wsX60 ++ wsX40 ++ (vx_atS RX6 153 "java/lang/IndexOutOfBoundsException" ["java/lang/RuntimeException", "java/lang/Exception"]).filter goodWord)
def wsX6_addList_r1 : List Cond := [Cond.classLink RX6 53 "java/lang/IllegalArgumentException", Cond.initialized "java/lang/IllegalArgumentException", Cond.classLink RX6 7 RX4, Cond.instantiable RX4 2, Cond.initialized RX4, Cond.classLink RX6 60 RX3, Cond.instantiable RX3 10, Cond.initialized RX3, Cond.fieldLink RX6 85 "BitNotation$Kind" "LIST" "LBitNotation$Kind;", Cond.methodLink RX6 75 yX6_typeNumbered, Cond.instanceMethod yX6_typeNumbered, Cond.selects RX6 yX6_typeNumbered yX6_typeNumbered, Cond.initialized RX6, Cond.code yX6_typeNumbered cX6_typeNumbered 3 (some (.object "BitNotation$Type")), Cond.classLink RX6 149 "java/lang/IndexOutOfBoundsException", Cond.initialized "java/lang/IndexOutOfBoundsException", Cond.fieldLink RX6 14 "BitNotation" "notation" "LBitNotation$TypeRow;", Cond.methodLink RX6 188 yX4_at, Cond.instanceMethod yX4_at, Cond.selects RX4 yX4_at yX4_at, Cond.code yX4_at cX4_at 2 (some (.object "BitNotation$Type")), Cond.fieldLink RX4 7 "BitNotation$TypeRow" "count" "I", Cond.fieldLink RX4 21 "BitNotation$TypeRow" "items" "[LBitNotation$Type;", Cond.methodLink RX6 49 yX6_isOutside]
def wsX6_addList_r2 : List Cond := [Cond.static yX6_isOutside, Cond.code yX6_isOutside cX6_isOutside 3 (some .boolean), Cond.methodLink RX6 11 yX4_init, Cond.instanceMethod yX4_init, Cond.code yX4_init cX4_init 2 none, Cond.methodLink RX4 1 objectInit, Cond.instanceMethod objectInit, Cond.code objectInit ⟨#[0xb1]⟩ 1 none, Cond.methodLink RX4 13 Lib.Math.max.name, Cond.static Lib.Math.max.name, Cond.initialized "java/lang/Math", Cond.code Lib.Math.max.name Lib.Math.max.code 2 (some .int), Cond.classLink RX4 19 RX3, Cond.methodLink RX6 81 yX4_append, Cond.instanceMethod yX4_append, Cond.selects RX4 yX4_append yX4_append, Cond.code yX4_append cX4_append 2 none, Cond.methodLink RX6 68 yX3_init, Cond.instanceMethod yX3_init, Cond.code yX3_init cX3_init 6 none, Cond.methodLink RX3 3 objectInit, Cond.fieldLink RX3 9 "BitNotation$Type" "fewestBits" "I", Cond.fieldLink RX3 15 "BitNotation$Type" "mostBits" "I", Cond.fieldLink RX3 18 "BitNotation$Type" "mostNumbers" "I"]
def wsX6_addList_r3 : List Cond := [Cond.fieldLink RX3 21 "BitNotation$Type" "kind" "LBitNotation$Kind;", Cond.fieldLink RX3 25 "BitNotation$Type" "least" "I", Cond.fieldLink RX3 28 "BitNotation$Type" "greatest" "I", Cond.fieldLink RX3 35 "BitNotation$Type" "width" "I", Cond.fieldLink RX3 38 "BitNotation$Type" "parts" "LBitNotation$TypeRow;", Cond.fieldLink RX3 42 "BitNotation$Type" "optional" "I", Cond.classLink RX3 45 RX4, Cond.fieldLink RX3 47 "BitNotation$Kind" "SEQUENCE" "LBitNotation$Kind;", Cond.fieldLink RX3 55 "BitNotation$Type" "additions" "LBitNotation$TypeRow;", Cond.static yX6_widthFor, Cond.code yX6_widthFor cX6_widthFor 2 (some .int), Cond.methodLink RX3 52 yX4_init, Cond.methodLink RX6 71 yX6_keep, Cond.instanceMethod yX6_keep, Cond.selects RX6 yX6_keep yX6_keep, Cond.code yX6_keep cX6_keep 2 (some .int), Cond.classLink RX6 92 "java/lang/IllegalStateException", Cond.initialized "java/lang/IllegalStateException", Cond.methodLink RX6 88 yX4_isFull, Cond.instanceMethod yX4_isFull, Cond.selects RX4 yX4_isFull yX4_isFull, Cond.code yX4_isFull cX4_isFull 1 (some .boolean), Cond.methodLink RX6 192 yX3_measure, Cond.instanceMethod yX3_measure]
def wsX6_addList_r4 : List Cond := [Cond.selects RX3 yX3_measure yX3_measure, Cond.code yX3_measure cX3_measure 1 (some .boolean), Cond.fieldLink RX3 58 "BitNotation$Kind" "LIST" "LBitNotation$Kind;", Cond.fieldLink RX3 64 "BitNotation$Kind" "CHOICE" "LBitNotation$Kind;", Cond.methodLink RX3 61 yX3_measureThings, Cond.instanceMethod yX3_measureThings, Cond.selects RX3 yX3_measureThings yX3_measureThings, Cond.code yX3_measureThings cX3_measureThings 2 none, Cond.methodLink RX3 76 yX4_at, Cond.methodLink RX3 67 yX3_measureChoices, Cond.instanceMethod yX3_measureChoices, Cond.selects RX3 yX3_measureChoices yX3_measureChoices, Cond.code yX3_measureChoices cX3_measureChoices 6 none, Cond.methodLink RX3 84 Lib.Math.min.name, Cond.static Lib.Math.min.name, Cond.code Lib.Math.min.name Lib.Math.min.code 2 (some .int), Cond.methodLink RX3 90 Lib.Math.max.name, Cond.methodLink RX3 80 yX4_size, Cond.instanceMethod yX4_size, Cond.selects RX4 yX4_size yX4_size, Cond.code yX4_size cX4_size 1 (some .int), Cond.methodLink RX3 70 yX3_measureParts, Cond.instanceMethod yX3_measureParts, Cond.selects RX3 yX3_measureParts yX3_measureParts]
def wsX6_addList_r5 : List Cond := [Cond.code yX3_measureParts cX3_measureParts 4 none, Cond.methodLink RX3 93 yX3_isOptional, Cond.instanceMethod yX3_isOptional, Cond.selects RX3 yX3_isOptional yX3_isOptional, Cond.code yX3_isOptional cX3_isOptional 2 (some .boolean), Cond.methodLink RX3 73 yX3_measureAdditions, Cond.instanceMethod yX3_measureAdditions, Cond.selects RX3 yX3_measureAdditions yX3_measureAdditions, Cond.code yX3_measureAdditions cX3_measureAdditions 3 none, Cond.methodLink RX6 97 yX4_size]
def wsX6_addList : List Cond := .code yX6_addList cX6_addList 6 (some .int) :: ((wsX6_addList_r1 ++ (wsX6_addList_r2 ++ (wsX6_addList_r3 ++ (wsX6_addList_r4 ++ wsX6_addList_r5)))) ++ wsX40 ++ wsX30 ++ wsX60 ++ (vx_atS RX6 57 "java/lang/IllegalArgumentException" ["java/lang/RuntimeException", "java/lang/Exception"]).filter goodWord ++ (vx_atS RX6 153 "java/lang/IndexOutOfBoundsException" ["java/lang/RuntimeException", "java/lang/Exception"]).filter goodWord ++ (vx_atS RX6 96 "java/lang/IllegalStateException" ["java/lang/RuntimeException", "java/lang/Exception"]).filter goodWord)
def wsX6_part_r1 : List Cond := [Cond.classLink RX6 92 "java/lang/IllegalStateException", Cond.initialized "java/lang/IllegalStateException", Cond.fieldLink RX6 42 "BitNotation" "draft" "LBitNotation$TypeRow;", Cond.fieldLink RX6 45 "BitNotation" "draftOptional" "I", Cond.methodLink RX6 75 yX6_typeNumbered, Cond.instanceMethod yX6_typeNumbered, Cond.selects RX6 yX6_typeNumbered yX6_typeNumbered, Cond.initialized RX6, Cond.code yX6_typeNumbered cX6_typeNumbered 3 (some (.object "BitNotation$Type")), Cond.classLink RX6 149 "java/lang/IndexOutOfBoundsException", Cond.initialized "java/lang/IndexOutOfBoundsException", Cond.fieldLink RX6 14 "BitNotation" "notation" "LBitNotation$TypeRow;", Cond.methodLink RX6 188 yX4_at, Cond.instanceMethod yX4_at, Cond.selects RX4 yX4_at yX4_at, Cond.initialized RX4, Cond.code yX4_at cX4_at 2 (some (.object "BitNotation$Type")), Cond.fieldLink RX4 7 "BitNotation$TypeRow" "count" "I", Cond.fieldLink RX4 21 "BitNotation$TypeRow" "items" "[LBitNotation$Type;", Cond.methodLink RX6 88 yX4_isFull, Cond.instanceMethod yX4_isFull, Cond.selects RX4 yX4_isFull yX4_isFull, Cond.code yX4_isFull cX4_isFull 1 (some .boolean), Cond.methodLink RX6 97 yX4_size]
def wsX6_part_r2 : List Cond := [Cond.instanceMethod yX4_size, Cond.selects RX4 yX4_size yX4_size, Cond.code yX4_size cX4_size 1 (some .int), Cond.methodLink RX6 81 yX4_append, Cond.instanceMethod yX4_append, Cond.selects RX4 yX4_append yX4_append, Cond.code yX4_append cX4_append 2 none]
def wsX6_part : List Cond := .code yX6_part cX6_part 4 (some .int) :: ((wsX6_part_r1 ++ wsX6_part_r2) ++ wsX60 ++ wsX40 ++ (vx_atS RX6 96 "java/lang/IllegalStateException" ["java/lang/RuntimeException", "java/lang/Exception"]).filter goodWord ++ (vx_atS RX6 153 "java/lang/IndexOutOfBoundsException" ["java/lang/RuntimeException", "java/lang/Exception"]).filter goodWord)
def wsX6_keepDraft_r1 : List Cond := [Cond.classLink RX6 92 "java/lang/IllegalStateException", Cond.initialized "java/lang/IllegalStateException", Cond.fieldLink RX6 42 "BitNotation" "draft" "LBitNotation$TypeRow;", Cond.classLink RX6 7 RX4, Cond.instantiable RX4 2, Cond.initialized RX4, Cond.fieldLink RX6 45 "BitNotation" "draftOptional" "I", Cond.methodLink RX6 97 yX4_size, Cond.instanceMethod yX4_size, Cond.selects RX4 yX4_size yX4_size, Cond.code yX4_size cX4_size 1 (some .int), Cond.fieldLink RX4 7 "BitNotation$TypeRow" "count" "I", Cond.methodLink RX6 71 yX6_keep, Cond.instanceMethod yX6_keep, Cond.selects RX6 yX6_keep yX6_keep, Cond.initialized RX6, Cond.code yX6_keep cX6_keep 2 (some .int), Cond.fieldLink RX6 14 "BitNotation" "notation" "LBitNotation$TypeRow;", Cond.methodLink RX6 88 yX4_isFull, Cond.instanceMethod yX4_isFull, Cond.selects RX4 yX4_isFull yX4_isFull, Cond.code yX4_isFull cX4_isFull 1 (some .boolean), Cond.fieldLink RX4 21 "BitNotation$TypeRow" "items" "[LBitNotation$Type;", Cond.methodLink RX6 192 yX3_measure]
def wsX6_keepDraft_r2 : List Cond := [Cond.instanceMethod yX3_measure, Cond.selects RX3 yX3_measure yX3_measure, Cond.initialized RX3, Cond.code yX3_measure cX3_measure 1 (some .boolean), Cond.fieldLink RX3 35 "BitNotation$Type" "width" "I", Cond.fieldLink RX3 9 "BitNotation$Type" "fewestBits" "I", Cond.fieldLink RX3 15 "BitNotation$Type" "mostBits" "I", Cond.fieldLink RX3 18 "BitNotation$Type" "mostNumbers" "I", Cond.fieldLink RX3 21 "BitNotation$Type" "kind" "LBitNotation$Kind;", Cond.fieldLink RX3 58 "BitNotation$Kind" "LIST" "LBitNotation$Kind;", Cond.fieldLink RX3 64 "BitNotation$Kind" "CHOICE" "LBitNotation$Kind;", Cond.fieldLink RX3 47 "BitNotation$Kind" "SEQUENCE" "LBitNotation$Kind;", Cond.methodLink RX3 61 yX3_measureThings, Cond.instanceMethod yX3_measureThings, Cond.selects RX3 yX3_measureThings yX3_measureThings, Cond.code yX3_measureThings cX3_measureThings 2 none, Cond.fieldLink RX3 38 "BitNotation$Type" "parts" "LBitNotation$TypeRow;", Cond.fieldLink RX3 25 "BitNotation$Type" "least" "I", Cond.fieldLink RX3 28 "BitNotation$Type" "greatest" "I", Cond.methodLink RX3 76 yX4_at, Cond.instanceMethod yX4_at, Cond.selects RX4 yX4_at yX4_at, Cond.code yX4_at cX4_at 2 (some (.object "BitNotation$Type")), Cond.methodLink RX3 67 yX3_measureChoices]
def wsX6_keepDraft_r3 : List Cond := [Cond.instanceMethod yX3_measureChoices, Cond.selects RX3 yX3_measureChoices yX3_measureChoices, Cond.code yX3_measureChoices cX3_measureChoices 6 none, Cond.methodLink RX3 84 Lib.Math.min.name, Cond.static Lib.Math.min.name, Cond.initialized "java/lang/Math", Cond.code Lib.Math.min.name Lib.Math.min.code 2 (some .int), Cond.methodLink RX3 90 Lib.Math.max.name, Cond.static Lib.Math.max.name, Cond.code Lib.Math.max.name Lib.Math.max.code 2 (some .int), Cond.methodLink RX3 80 yX4_size, Cond.methodLink RX3 70 yX3_measureParts, Cond.instanceMethod yX3_measureParts, Cond.selects RX3 yX3_measureParts yX3_measureParts, Cond.code yX3_measureParts cX3_measureParts 4 none, Cond.methodLink RX3 93 yX3_isOptional, Cond.instanceMethod yX3_isOptional, Cond.selects RX3 yX3_isOptional yX3_isOptional, Cond.code yX3_isOptional cX3_isOptional 2 (some .boolean), Cond.fieldLink RX3 42 "BitNotation$Type" "optional" "I", Cond.methodLink RX3 73 yX3_measureAdditions, Cond.instanceMethod yX3_measureAdditions, Cond.selects RX3 yX3_measureAdditions yX3_measureAdditions, Cond.code yX3_measureAdditions cX3_measureAdditions 3 none]
def wsX6_keepDraft_r4 : List Cond := [Cond.fieldLink RX3 55 "BitNotation$Type" "additions" "LBitNotation$TypeRow;", Cond.methodLink RX6 81 yX4_append, Cond.instanceMethod yX4_append, Cond.selects RX4 yX4_append yX4_append, Cond.code yX4_append cX4_append 2 none, Cond.methodLink RX6 11 yX4_init, Cond.instanceMethod yX4_init, Cond.code yX4_init cX4_init 2 none, Cond.methodLink RX4 1 objectInit, Cond.instanceMethod objectInit, Cond.code objectInit ⟨#[0xb1]⟩ 1 none, Cond.methodLink RX4 13 Lib.Math.max.name, Cond.classLink RX4 19 RX3]
def wsX6_keepDraft : List Cond := .code yX6_keepDraft cX6_keepDraft 3 (some .int) :: ((wsX6_keepDraft_r1 ++ (wsX6_keepDraft_r2 ++ (wsX6_keepDraft_r3 ++ wsX6_keepDraft_r4))) ++ wsX60 ++ wsX40 ++ wsX30 ++ (vx_atS RX6 96 "java/lang/IllegalStateException" ["java/lang/RuntimeException", "java/lang/Exception"]).filter goodWord)
def wsX6_addSequence_r1 : List Cond := [Cond.classLink RX6 60 RX3, Cond.instantiable RX3 10, Cond.initialized RX3, Cond.fieldLink RX6 101 "BitNotation$Kind" "SEQUENCE" "LBitNotation$Kind;", Cond.fieldLink RX6 42 "BitNotation" "draft" "LBitNotation$TypeRow;", Cond.fieldLink RX6 45 "BitNotation" "draftOptional" "I", Cond.methodLink RX6 68 yX3_init, Cond.instanceMethod yX3_init, Cond.code yX3_init cX3_init 6 none, Cond.methodLink RX3 3 objectInit, Cond.instanceMethod objectInit, Cond.code objectInit ⟨#[0xb1]⟩ 1 none, Cond.fieldLink RX3 9 "BitNotation$Type" "fewestBits" "I", Cond.fieldLink RX3 15 "BitNotation$Type" "mostBits" "I", Cond.fieldLink RX3 18 "BitNotation$Type" "mostNumbers" "I", Cond.fieldLink RX3 21 "BitNotation$Type" "kind" "LBitNotation$Kind;", Cond.fieldLink RX3 25 "BitNotation$Type" "least" "I", Cond.fieldLink RX3 28 "BitNotation$Type" "greatest" "I", Cond.fieldLink RX3 35 "BitNotation$Type" "width" "I", Cond.fieldLink RX3 38 "BitNotation$Type" "parts" "LBitNotation$TypeRow;", Cond.fieldLink RX3 42 "BitNotation$Type" "optional" "I", Cond.classLink RX3 45 RX4, Cond.instantiable RX4 2, Cond.initialized RX4]
def wsX6_addSequence_r2 : List Cond := [Cond.fieldLink RX3 47 "BitNotation$Kind" "SEQUENCE" "LBitNotation$Kind;", Cond.fieldLink RX3 55 "BitNotation$Type" "additions" "LBitNotation$TypeRow;", Cond.static yX6_widthFor, Cond.initialized RX6, Cond.code yX6_widthFor cX6_widthFor 2 (some .int), Cond.methodLink RX3 52 yX4_init, Cond.instanceMethod yX4_init, Cond.code yX4_init cX4_init 2 none, Cond.methodLink RX4 1 objectInit, Cond.fieldLink RX4 7 "BitNotation$TypeRow" "count" "I", Cond.methodLink RX4 13 Lib.Math.max.name, Cond.static Lib.Math.max.name, Cond.initialized "java/lang/Math", Cond.code Lib.Math.max.name Lib.Math.max.code 2 (some .int), Cond.classLink RX4 19 RX3, Cond.fieldLink RX4 21 "BitNotation$TypeRow" "items" "[LBitNotation$Type;", Cond.methodLink RX6 104 yX6_keepDraft, Cond.instanceMethod yX6_keepDraft, Cond.selects RX6 yX6_keepDraft yX6_keepDraft, Cond.code yX6_keepDraft cX6_keepDraft 3 (some .int), Cond.classLink RX6 92 "java/lang/IllegalStateException", Cond.initialized "java/lang/IllegalStateException", Cond.classLink RX6 7 RX4, Cond.methodLink RX6 97 yX4_size]
def wsX6_addSequence_r3 : List Cond := [Cond.instanceMethod yX4_size, Cond.selects RX4 yX4_size yX4_size, Cond.code yX4_size cX4_size 1 (some .int), Cond.methodLink RX6 71 yX6_keep, Cond.instanceMethod yX6_keep, Cond.selects RX6 yX6_keep yX6_keep, Cond.code yX6_keep cX6_keep 2 (some .int), Cond.fieldLink RX6 14 "BitNotation" "notation" "LBitNotation$TypeRow;", Cond.methodLink RX6 88 yX4_isFull, Cond.instanceMethod yX4_isFull, Cond.selects RX4 yX4_isFull yX4_isFull, Cond.code yX4_isFull cX4_isFull 1 (some .boolean), Cond.methodLink RX6 192 yX3_measure, Cond.instanceMethod yX3_measure, Cond.selects RX3 yX3_measure yX3_measure, Cond.code yX3_measure cX3_measure 1 (some .boolean), Cond.fieldLink RX3 58 "BitNotation$Kind" "LIST" "LBitNotation$Kind;", Cond.fieldLink RX3 64 "BitNotation$Kind" "CHOICE" "LBitNotation$Kind;", Cond.methodLink RX3 61 yX3_measureThings, Cond.instanceMethod yX3_measureThings, Cond.selects RX3 yX3_measureThings yX3_measureThings, Cond.code yX3_measureThings cX3_measureThings 2 none, Cond.methodLink RX3 76 yX4_at, Cond.instanceMethod yX4_at]
def wsX6_addSequence_r4 : List Cond := [Cond.selects RX4 yX4_at yX4_at, Cond.code yX4_at cX4_at 2 (some (.object "BitNotation$Type")), Cond.methodLink RX3 67 yX3_measureChoices, Cond.instanceMethod yX3_measureChoices, Cond.selects RX3 yX3_measureChoices yX3_measureChoices, Cond.code yX3_measureChoices cX3_measureChoices 6 none, Cond.methodLink RX3 84 Lib.Math.min.name, Cond.static Lib.Math.min.name, Cond.code Lib.Math.min.name Lib.Math.min.code 2 (some .int), Cond.methodLink RX3 90 Lib.Math.max.name, Cond.methodLink RX3 80 yX4_size, Cond.methodLink RX3 70 yX3_measureParts, Cond.instanceMethod yX3_measureParts, Cond.selects RX3 yX3_measureParts yX3_measureParts, Cond.code yX3_measureParts cX3_measureParts 4 none, Cond.methodLink RX3 93 yX3_isOptional, Cond.instanceMethod yX3_isOptional, Cond.selects RX3 yX3_isOptional yX3_isOptional, Cond.code yX3_isOptional cX3_isOptional 2 (some .boolean), Cond.methodLink RX3 73 yX3_measureAdditions, Cond.instanceMethod yX3_measureAdditions, Cond.selects RX3 yX3_measureAdditions yX3_measureAdditions, Cond.code yX3_measureAdditions cX3_measureAdditions 3 none, Cond.methodLink RX6 81 yX4_append]
def wsX6_addSequence_r5 : List Cond := [Cond.instanceMethod yX4_append, Cond.selects RX4 yX4_append yX4_append, Cond.code yX4_append cX4_append 2 none, Cond.methodLink RX6 11 yX4_init]
def wsX6_addSequence : List Cond := .code yX6_addSequence cX6_addSequence 1 (some .int) :: ((wsX6_addSequence_r1 ++ (wsX6_addSequence_r2 ++ (wsX6_addSequence_r3 ++ (wsX6_addSequence_r4 ++ wsX6_addSequence_r5)))) ++ wsX30 ++ wsX60 ++ wsX40 ++ (vx_atS RX6 96 "java/lang/IllegalStateException" ["java/lang/RuntimeException", "java/lang/Exception"]).filter goodWord)
def wsX6_addChoice_r1 : List Cond := [Cond.classLink RX6 60 RX3, Cond.instantiable RX3 10, Cond.initialized RX3, Cond.fieldLink RX6 107 "BitNotation$Kind" "CHOICE" "LBitNotation$Kind;", Cond.fieldLink RX6 42 "BitNotation" "draft" "LBitNotation$TypeRow;", Cond.methodLink RX6 97 yX4_size, Cond.instanceMethod yX4_size, Cond.selects RX4 yX4_size yX4_size, Cond.initialized RX4, Cond.code yX4_size cX4_size 1 (some .int), Cond.fieldLink RX4 7 "BitNotation$TypeRow" "count" "I", Cond.methodLink RX6 68 yX3_init, Cond.instanceMethod yX3_init, Cond.code yX3_init cX3_init 6 none, Cond.methodLink RX3 3 objectInit, Cond.instanceMethod objectInit, Cond.code objectInit ⟨#[0xb1]⟩ 1 none, Cond.fieldLink RX3 9 "BitNotation$Type" "fewestBits" "I", Cond.fieldLink RX3 15 "BitNotation$Type" "mostBits" "I", Cond.fieldLink RX3 18 "BitNotation$Type" "mostNumbers" "I", Cond.fieldLink RX3 21 "BitNotation$Type" "kind" "LBitNotation$Kind;", Cond.fieldLink RX3 25 "BitNotation$Type" "least" "I", Cond.fieldLink RX3 28 "BitNotation$Type" "greatest" "I", Cond.fieldLink RX3 35 "BitNotation$Type" "width" "I"]
def wsX6_addChoice_r2 : List Cond := [Cond.fieldLink RX3 38 "BitNotation$Type" "parts" "LBitNotation$TypeRow;", Cond.fieldLink RX3 42 "BitNotation$Type" "optional" "I", Cond.classLink RX3 45 RX4, Cond.instantiable RX4 2, Cond.fieldLink RX3 47 "BitNotation$Kind" "SEQUENCE" "LBitNotation$Kind;", Cond.fieldLink RX3 55 "BitNotation$Type" "additions" "LBitNotation$TypeRow;", Cond.static yX6_widthFor, Cond.initialized RX6, Cond.code yX6_widthFor cX6_widthFor 2 (some .int), Cond.methodLink RX3 52 yX4_init, Cond.instanceMethod yX4_init, Cond.code yX4_init cX4_init 2 none, Cond.methodLink RX4 1 objectInit, Cond.methodLink RX4 13 Lib.Math.max.name, Cond.static Lib.Math.max.name, Cond.initialized "java/lang/Math", Cond.code Lib.Math.max.name Lib.Math.max.code 2 (some .int), Cond.classLink RX4 19 RX3, Cond.fieldLink RX4 21 "BitNotation$TypeRow" "items" "[LBitNotation$Type;", Cond.methodLink RX6 104 yX6_keepDraft, Cond.instanceMethod yX6_keepDraft, Cond.selects RX6 yX6_keepDraft yX6_keepDraft, Cond.code yX6_keepDraft cX6_keepDraft 3 (some .int), Cond.classLink RX6 92 "java/lang/IllegalStateException"]
def wsX6_addChoice_r3 : List Cond := [Cond.initialized "java/lang/IllegalStateException", Cond.classLink RX6 7 RX4, Cond.fieldLink RX6 45 "BitNotation" "draftOptional" "I", Cond.methodLink RX6 71 yX6_keep, Cond.instanceMethod yX6_keep, Cond.selects RX6 yX6_keep yX6_keep, Cond.code yX6_keep cX6_keep 2 (some .int), Cond.fieldLink RX6 14 "BitNotation" "notation" "LBitNotation$TypeRow;", Cond.methodLink RX6 88 yX4_isFull, Cond.instanceMethod yX4_isFull, Cond.selects RX4 yX4_isFull yX4_isFull, Cond.code yX4_isFull cX4_isFull 1 (some .boolean), Cond.methodLink RX6 192 yX3_measure, Cond.instanceMethod yX3_measure, Cond.selects RX3 yX3_measure yX3_measure, Cond.code yX3_measure cX3_measure 1 (some .boolean), Cond.fieldLink RX3 58 "BitNotation$Kind" "LIST" "LBitNotation$Kind;", Cond.fieldLink RX3 64 "BitNotation$Kind" "CHOICE" "LBitNotation$Kind;", Cond.methodLink RX3 61 yX3_measureThings, Cond.instanceMethod yX3_measureThings, Cond.selects RX3 yX3_measureThings yX3_measureThings, Cond.code yX3_measureThings cX3_measureThings 2 none, Cond.methodLink RX3 76 yX4_at, Cond.instanceMethod yX4_at]
def wsX6_addChoice_r4 : List Cond := [Cond.selects RX4 yX4_at yX4_at, Cond.code yX4_at cX4_at 2 (some (.object "BitNotation$Type")), Cond.methodLink RX3 67 yX3_measureChoices, Cond.instanceMethod yX3_measureChoices, Cond.selects RX3 yX3_measureChoices yX3_measureChoices, Cond.code yX3_measureChoices cX3_measureChoices 6 none, Cond.methodLink RX3 84 Lib.Math.min.name, Cond.static Lib.Math.min.name, Cond.code Lib.Math.min.name Lib.Math.min.code 2 (some .int), Cond.methodLink RX3 90 Lib.Math.max.name, Cond.methodLink RX3 80 yX4_size, Cond.methodLink RX3 70 yX3_measureParts, Cond.instanceMethod yX3_measureParts, Cond.selects RX3 yX3_measureParts yX3_measureParts, Cond.code yX3_measureParts cX3_measureParts 4 none, Cond.methodLink RX3 93 yX3_isOptional, Cond.instanceMethod yX3_isOptional, Cond.selects RX3 yX3_isOptional yX3_isOptional, Cond.code yX3_isOptional cX3_isOptional 2 (some .boolean), Cond.methodLink RX3 73 yX3_measureAdditions, Cond.instanceMethod yX3_measureAdditions, Cond.selects RX3 yX3_measureAdditions yX3_measureAdditions, Cond.code yX3_measureAdditions cX3_measureAdditions 3 none, Cond.methodLink RX6 81 yX4_append]
def wsX6_addChoice_r5 : List Cond := [Cond.instanceMethod yX4_append, Cond.selects RX4 yX4_append yX4_append, Cond.code yX4_append cX4_append 2 none, Cond.methodLink RX6 11 yX4_init]
def wsX6_addChoice : List Cond := .code yX6_addChoice cX6_addChoice 1 (some .int) :: ((wsX6_addChoice_r1 ++ (wsX6_addChoice_r2 ++ (wsX6_addChoice_r3 ++ (wsX6_addChoice_r4 ++ wsX6_addChoice_r5)))) ++ wsX30 ++ wsX60 ++ wsX40 ++ (vx_atS RX6 96 "java/lang/IllegalStateException" ["java/lang/RuntimeException", "java/lang/Exception"]).filter goodWord)
def wsX6_extend_r1 : List Cond := [Cond.classLink RX6 53 "java/lang/IllegalArgumentException", Cond.initialized "java/lang/IllegalArgumentException", Cond.classLink RX6 92 "java/lang/IllegalStateException", Cond.initialized "java/lang/IllegalStateException", Cond.fieldLink RX6 101 "BitNotation$Kind" "SEQUENCE" "LBitNotation$Kind;", Cond.fieldLink RX6 14 "BitNotation" "notation" "LBitNotation$TypeRow;", Cond.methodLink RX6 75 yX6_typeNumbered, Cond.instanceMethod yX6_typeNumbered, Cond.selects RX6 yX6_typeNumbered yX6_typeNumbered, Cond.initialized RX6, Cond.code yX6_typeNumbered cX6_typeNumbered 3 (some (.object "BitNotation$Type")), Cond.classLink RX6 149 "java/lang/IndexOutOfBoundsException", Cond.initialized "java/lang/IndexOutOfBoundsException", Cond.methodLink RX6 188 yX4_at, Cond.instanceMethod yX4_at, Cond.selects RX4 yX4_at yX4_at, Cond.initialized RX4, Cond.code yX4_at cX4_at 2 (some (.object "BitNotation$Type")), Cond.fieldLink RX4 7 "BitNotation$TypeRow" "count" "I", Cond.fieldLink RX4 21 "BitNotation$TypeRow" "items" "[LBitNotation$Type;", Cond.methodLink RX6 88 yX4_isFull, Cond.instanceMethod yX4_isFull, Cond.selects RX4 yX4_isFull yX4_isFull, Cond.code yX4_isFull cX4_isFull 1 (some .boolean)]
def wsX6_extend_r2 : List Cond := [Cond.methodLink RX6 81 yX4_append, Cond.instanceMethod yX4_append, Cond.selects RX4 yX4_append yX4_append, Cond.code yX4_append cX4_append 2 none, Cond.methodLink RX6 120 yX4_measureAll, Cond.instanceMethod yX4_measureAll, Cond.selects RX4 yX4_measureAll yX4_measureAll, Cond.code yX4_measureAll cX4_measureAll 3 (some .boolean), Cond.methodLink RX4 25 yX4_at, Cond.methodLink RX4 29 yX3_measure, Cond.instanceMethod yX3_measure, Cond.selects RX3 yX3_measure yX3_measure, Cond.initialized RX3, Cond.code yX3_measure cX3_measure 1 (some .boolean), Cond.fieldLink RX3 35 "BitNotation$Type" "width" "I", Cond.fieldLink RX3 9 "BitNotation$Type" "fewestBits" "I", Cond.fieldLink RX3 15 "BitNotation$Type" "mostBits" "I", Cond.fieldLink RX3 18 "BitNotation$Type" "mostNumbers" "I", Cond.fieldLink RX3 21 "BitNotation$Type" "kind" "LBitNotation$Kind;", Cond.fieldLink RX3 58 "BitNotation$Kind" "LIST" "LBitNotation$Kind;", Cond.fieldLink RX3 64 "BitNotation$Kind" "CHOICE" "LBitNotation$Kind;", Cond.fieldLink RX3 47 "BitNotation$Kind" "SEQUENCE" "LBitNotation$Kind;", Cond.methodLink RX3 61 yX3_measureThings, Cond.instanceMethod yX3_measureThings]
def wsX6_extend_r3 : List Cond := [Cond.selects RX3 yX3_measureThings yX3_measureThings, Cond.code yX3_measureThings cX3_measureThings 2 none, Cond.fieldLink RX3 38 "BitNotation$Type" "parts" "LBitNotation$TypeRow;", Cond.fieldLink RX3 25 "BitNotation$Type" "least" "I", Cond.fieldLink RX3 28 "BitNotation$Type" "greatest" "I", Cond.methodLink RX3 76 yX4_at, Cond.methodLink RX3 67 yX3_measureChoices, Cond.instanceMethod yX3_measureChoices, Cond.selects RX3 yX3_measureChoices yX3_measureChoices, Cond.code yX3_measureChoices cX3_measureChoices 6 none, Cond.methodLink RX3 84 Lib.Math.min.name, Cond.static Lib.Math.min.name, Cond.initialized "java/lang/Math", Cond.code Lib.Math.min.name Lib.Math.min.code 2 (some .int), Cond.methodLink RX3 90 Lib.Math.max.name, Cond.static Lib.Math.max.name, Cond.code Lib.Math.max.name Lib.Math.max.code 2 (some .int), Cond.methodLink RX3 80 yX4_size, Cond.instanceMethod yX4_size, Cond.selects RX4 yX4_size yX4_size, Cond.code yX4_size cX4_size 1 (some .int), Cond.methodLink RX3 70 yX3_measureParts, Cond.instanceMethod yX3_measureParts, Cond.selects RX3 yX3_measureParts yX3_measureParts]
def wsX6_extend_r4 : List Cond := [Cond.code yX3_measureParts cX3_measureParts 4 none, Cond.methodLink RX3 93 yX3_isOptional, Cond.instanceMethod yX3_isOptional, Cond.selects RX3 yX3_isOptional yX3_isOptional, Cond.code yX3_isOptional cX3_isOptional 2 (some .boolean), Cond.fieldLink RX3 42 "BitNotation$Type" "optional" "I", Cond.methodLink RX3 73 yX3_measureAdditions, Cond.instanceMethod yX3_measureAdditions, Cond.selects RX3 yX3_measureAdditions yX3_measureAdditions, Cond.code yX3_measureAdditions cX3_measureAdditions 3 none, Cond.fieldLink RX3 55 "BitNotation$Type" "additions" "LBitNotation$TypeRow;", Cond.methodLink RX6 123 yX4_dropLast, Cond.instanceMethod yX4_dropLast, Cond.selects RX4 yX4_dropLast yX4_dropLast, Cond.code yX4_dropLast cX4_dropLast 1 none, Cond.methodLink RX6 97 yX4_size]
def wsX6_extend : List Cond := .code yX6_extend cX6_extend 5 (some .int) :: ((wsX6_extend_r1 ++ (wsX6_extend_r2 ++ (wsX6_extend_r3 ++ wsX6_extend_r4))) ++ wsX30 ++ wsX60 ++ wsX40 ++ (vx_atS RX6 57 "java/lang/IllegalArgumentException" ["java/lang/RuntimeException", "java/lang/Exception"]).filter goodWord ++ (vx_atS RX6 96 "java/lang/IllegalStateException" ["java/lang/RuntimeException", "java/lang/Exception"]).filter goodWord ++ (vx_atS RX6 153 "java/lang/IndexOutOfBoundsException" ["java/lang/RuntimeException", "java/lang/Exception"]).filter goodWord)
def wsX6_types : List Cond := .code yX6_types cX6_types 1 (some .int) :: ([.fieldLink RX6 14 "BitNotation" "notation" "LBitNotation$TypeRow;", .methodLink RX6 97 yX4_size, .instanceMethod yX4_size, .selects RX4 yX4_size yX4_size, .initialized RX4, .code yX4_size cX4_size 1 (some .int), .fieldLink RX4 7 "BitNotation$TypeRow" "count" "I"] ++ wsX60 ++ wsX40)
def wsX6_leastBits : List Cond := .code yX6_leastBits cX6_leastBits 2 (some .int) :: ([.methodLink RX6 75 yX6_typeNumbered, .instanceMethod yX6_typeNumbered, .selects RX6 yX6_typeNumbered yX6_typeNumbered, .initialized RX6, .code yX6_typeNumbered cX6_typeNumbered 3 (some (.object "BitNotation$Type")), .classLink RX6 149 "java/lang/IndexOutOfBoundsException", .initialized "java/lang/IndexOutOfBoundsException", .fieldLink RX6 14 "BitNotation" "notation" "LBitNotation$TypeRow;", .methodLink RX6 188 yX4_at, .instanceMethod yX4_at, .selects RX4 yX4_at yX4_at, .initialized RX4, .code yX4_at cX4_at 2 (some (.object "BitNotation$Type")), .fieldLink RX4 7 "BitNotation$TypeRow" "count" "I", .fieldLink RX4 21 "BitNotation$TypeRow" "items" "[LBitNotation$Type;"] ++ wsX30 ++ wsX60 ++ wsX40 ++ (vx_atS RX6 153 "java/lang/IndexOutOfBoundsException" ["java/lang/RuntimeException", "java/lang/Exception"]).filter goodWord)
def wsX6_mostBits : List Cond := .code yX6_mostBits cX6_mostBits 2 (some .int) :: ([.methodLink RX6 75 yX6_typeNumbered, .instanceMethod yX6_typeNumbered, .selects RX6 yX6_typeNumbered yX6_typeNumbered, .initialized RX6, .code yX6_typeNumbered cX6_typeNumbered 3 (some (.object "BitNotation$Type")), .classLink RX6 149 "java/lang/IndexOutOfBoundsException", .initialized "java/lang/IndexOutOfBoundsException", .fieldLink RX6 14 "BitNotation" "notation" "LBitNotation$TypeRow;", .methodLink RX6 188 yX4_at, .instanceMethod yX4_at, .selects RX4 yX4_at yX4_at, .initialized RX4, .code yX4_at cX4_at 2 (some (.object "BitNotation$Type")), .fieldLink RX4 7 "BitNotation$TypeRow" "count" "I", .fieldLink RX4 21 "BitNotation$TypeRow" "items" "[LBitNotation$Type;"] ++ wsX30 ++ wsX60 ++ wsX40 ++ (vx_atS RX6 153 "java/lang/IndexOutOfBoundsException" ["java/lang/RuntimeException", "java/lang/Exception"]).filter goodWord)
def wsX6_tell : List Cond := .code yX6_tell cX6_tell 2 (some .int) :: ([.classLink RX6 53 "java/lang/IllegalArgumentException", .initialized "java/lang/IllegalArgumentException", .classLink RX6 92 "java/lang/IllegalStateException", .initialized "java/lang/IllegalStateException", .fieldLink RX6 21 "BitNotation" "tale" "LBitNotation$Row;", .methodLink RX6 49 yX6_isOutside, .static yX6_isOutside, .initialized RX6, .code yX6_isOutside cX6_isOutside 3 (some .boolean), .methodLink RX6 136 yX2_isFull, .instanceMethod yX2_isFull, .selects RX2 yX2_isFull yX2_isFull, .initialized RX2, .code yX2_isFull cX2_isFull 1 (some .boolean), .fieldLink RX2 7 "BitNotation$Row" "count" "I", .fieldLink RX2 19 "BitNotation$Row" "items" "[I", .methodLink RX6 139 yX2_append, .instanceMethod yX2_append, .selects RX2 yX2_append yX2_append, .code yX2_append cX2_append 2 none, .methodLink RX6 141 yX2_size, .instanceMethod yX2_size, .selects RX2 yX2_size yX2_size, .code yX2_size cX2_size 1 (some .int)] ++ wsX60 ++ wsX20 ++ (vx_atS RX6 57 "java/lang/IllegalArgumentException" ["java/lang/RuntimeException", "java/lang/Exception"]).filter goodWord ++ (vx_atS RX6 96 "java/lang/IllegalStateException" ["java/lang/RuntimeException", "java/lang/Exception"]).filter goodWord)
def wsX6_forget : List Cond := .code yX6_forget cX6_forget 2 (some .int) :: ([.fieldLink RX6 21 "BitNotation" "tale" "LBitNotation$Row;", .methodLink RX6 141 yX2_size, .instanceMethod yX2_size, .selects RX2 yX2_size yX2_size, .initialized RX2, .code yX2_size cX2_size 1 (some .int), .fieldLink RX2 7 "BitNotation$Row" "count" "I", .methodLink RX6 142 yX2_keepFirst, .instanceMethod yX2_keepFirst, .selects RX2 yX2_keepFirst yX2_keepFirst, .code yX2_keepFirst cX2_keepFirst 2 none] ++ wsX60 ++ wsX20)
def wsX6_length : List Cond := .code yX6_length cX6_length 1 (some .int) :: ([.fieldLink RX6 21 "BitNotation" "tale" "LBitNotation$Row;", .methodLink RX6 141 yX2_size, .instanceMethod yX2_size, .selects RX2 yX2_size yX2_size, .initialized RX2, .code yX2_size cX2_size 1 (some .int), .fieldLink RX2 7 "BitNotation$Row" "count" "I"] ++ wsX60 ++ wsX20)
def wsX6_told : List Cond := .code yX6_told cX6_told 2 (some .int) :: ([.classLink RX6 149 "java/lang/IndexOutOfBoundsException", .initialized "java/lang/IndexOutOfBoundsException", .fieldLink RX6 21 "BitNotation" "tale" "LBitNotation$Row;", .methodLink RX6 145 yX2_has, .instanceMethod yX2_has, .selects RX2 yX2_has yX2_has, .initialized RX2, .code yX2_has cX2_has 2 (some .boolean), .fieldLink RX2 7 "BitNotation$Row" "count" "I", .fieldLink RX2 19 "BitNotation$Row" "items" "[I", .methodLink RX6 154 yX2_at, .instanceMethod yX2_at, .selects RX2 yX2_at yX2_at, .code yX2_at cX2_at 2 (some .int), .methodLink RX2 23 yX2_has] ++ wsX60 ++ wsX20 ++ (vx_atS RX6 153 "java/lang/IndexOutOfBoundsException" ["java/lang/RuntimeException", "java/lang/Exception"]).filter goodWord)
def wsX6_wrongAt_r1 : List Cond := [Cond.fieldLink RX6 31 "BitNotation" "writer" "LBitNotation$Writer;", Cond.fieldLink RX6 21 "BitNotation" "tale" "LBitNotation$Row;", Cond.methodLink RX6 75 yX6_typeNumbered, Cond.instanceMethod yX6_typeNumbered, Cond.selects RX6 yX6_typeNumbered yX6_typeNumbered, Cond.initialized RX6, Cond.code yX6_typeNumbered cX6_typeNumbered 3 (some (.object "BitNotation$Type")), Cond.classLink RX6 149 "java/lang/IndexOutOfBoundsException", Cond.initialized "java/lang/IndexOutOfBoundsException", Cond.fieldLink RX6 14 "BitNotation" "notation" "LBitNotation$TypeRow;", Cond.methodLink RX6 188 yX4_at, Cond.instanceMethod yX4_at, Cond.selects RX4 yX4_at yX4_at, Cond.initialized RX4, Cond.code yX4_at cX4_at 2 (some (.object "BitNotation$Type")), Cond.fieldLink RX4 7 "BitNotation$TypeRow" "count" "I", Cond.fieldLink RX4 21 "BitNotation$TypeRow" "items" "[LBitNotation$Type;", Cond.methodLink RX6 158 yX5_walk, Cond.instanceMethod yX5_walk, Cond.selects RX5 yX5_walk yX5_walk, Cond.initialized RX5, Cond.code yX5_walk cX5_walk 3 (some .int), Cond.fieldLink RX5 14 "BitNotation$Writer" "written" "LBitNotation$Row;", Cond.fieldLink RX5 20 "BitNotation$Writer" "place" "I"]
def wsX6_wrongAt_r2 : List Cond := [Cond.fieldLink RX5 24 "BitNotation$Writer" "wrong" "I", Cond.methodLink RX5 27 yX2_keepFirst, Cond.instanceMethod yX2_keepFirst, Cond.selects RX2 yX2_keepFirst yX2_keepFirst, Cond.initialized RX2, Cond.code yX2_keepFirst cX2_keepFirst 2 none, Cond.fieldLink RX2 7 "BitNotation$Row" "count" "I", Cond.methodLink RX5 30 yX5_putValue, Cond.instanceMethod yX5_putValue, Cond.selects RX5 yX5_putValue yX5_putValue, Cond.code yX5_putValue cX5_putValue 6 none, Cond.fieldLink RX5 44 "BitNotation$Kind" "SEQUENCE" "LBitNotation$Kind;", Cond.fieldLink RX5 69 "BitNotation$Kind" "LIST" "LBitNotation$Kind;", Cond.fieldLink RX5 82 "BitNotation$Kind" "CHOICE" "LBitNotation$Kind;", Cond.methodLink RX5 49 yX5_putSequence, Cond.instanceMethod yX5_putSequence, Cond.selects RX5 yX5_putSequence yX5_putSequence, Cond.methodLink RX5 58 yX5_next, Cond.instanceMethod yX5_next, Cond.selects RX5 yX5_next yX5_next, Cond.code yX5_next cX5_next 5 (some .int), Cond.methodLink RX5 103 yX2_at, Cond.instanceMethod yX2_at, Cond.selects RX2 yX2_at yX2_at]
def wsX6_wrongAt_r3 : List Cond := [Cond.code yX2_at cX2_at 2 (some .int), Cond.fieldLink RX2 19 "BitNotation$Row" "items" "[I", Cond.methodLink RX2 23 yX2_has, Cond.instanceMethod yX2_has, Cond.selects RX2 yX2_has yX2_has, Cond.code yX2_has cX2_has 2 (some .boolean), Cond.methodLink RX5 106 yX2_has, Cond.static yX6_isOutside, Cond.code yX6_isOutside cX6_isOutside 3 (some .boolean), Cond.methodLink RX5 65 yX5_put, Cond.instanceMethod yX5_put, Cond.selects RX5 yX5_put yX5_put, Cond.code yX5_put cX5_put 4 none, Cond.methodLink RX5 113 yX2_append, Cond.instanceMethod yX2_append, Cond.selects RX2 yX2_append yX2_append, Cond.code yX2_append cX2_append 2 none, Cond.methodLink RX5 76 yX4_at, Cond.code yX5_putAddition cX5_putAddition 8 none, Cond.methodLink RX5 34 yX2_size, Cond.instanceMethod yX2_size, Cond.selects RX2 yX2_size yX2_size, Cond.code yX2_size cX2_size 1 (some .int), Cond.methodLink RX5 100 yX2_replace]
def wsX6_wrongAt_r4 : List Cond := [Cond.instanceMethod yX2_replace, Cond.selects RX2 yX2_replace yX2_replace, Cond.code yX2_replace cX2_replace 3 none, Cond.code yX5_putSequence cX5_putSequence 7 none, Cond.methodLink RX5 85 yX5_nextParts, Cond.instanceMethod yX5_nextParts, Cond.selects RX5 yX5_nextParts yX5_nextParts, Cond.code yX5_nextParts cX5_nextParts 5 (some .int), Cond.methodLink RX5 92 yX4_size, Cond.instanceMethod yX4_size, Cond.selects RX4 yX4_size yX4_size, Cond.code yX4_size cX4_size 1 (some .int), Cond.methodLink RX5 93 yX3_isOptional, Cond.instanceMethod yX3_isOptional, Cond.selects RX3 yX3_isOptional yX3_isOptional, Cond.initialized RX3, Cond.code yX3_isOptional cX3_isOptional 2 (some .boolean), Cond.fieldLink RX3 42 "BitNotation$Type" "optional" "I", Cond.methodLink RX5 97 yX5_putAddition, Cond.instanceMethod yX5_putAddition, Cond.selects RX5 yX5_putAddition yX5_putAddition]
def wsX6_wrongAt : List Cond := .code yX6_wrongAt cX6_wrongAt 2 (some .int) :: ((wsX6_wrongAt_r1 ++ (wsX6_wrongAt_r2 ++ (wsX6_wrongAt_r3 ++ wsX6_wrongAt_r4))) ++ wsX60 ++ wsX40 ++ wsX50 ++ wsX20 ++ wsX30 ++ (vx_atS RX6 153 "java/lang/IndexOutOfBoundsException" ["java/lang/RuntimeException", "java/lang/Exception"]).filter goodWord)
def wsX6_write_r1 : List Cond := [Cond.classLink RX6 92 "java/lang/IllegalStateException", Cond.initialized "java/lang/IllegalStateException", Cond.fieldLink RX6 31 "BitNotation" "writer" "LBitNotation$Writer;", Cond.fieldLink RX6 21 "BitNotation" "tale" "LBitNotation$Row;", Cond.fieldLink RX6 25 "BitNotation" "message" "LBitNotation$Row;", Cond.methodLink RX6 75 yX6_typeNumbered, Cond.instanceMethod yX6_typeNumbered, Cond.selects RX6 yX6_typeNumbered yX6_typeNumbered, Cond.initialized RX6, Cond.code yX6_typeNumbered cX6_typeNumbered 3 (some (.object "BitNotation$Type")), Cond.classLink RX6 149 "java/lang/IndexOutOfBoundsException", Cond.initialized "java/lang/IndexOutOfBoundsException", Cond.fieldLink RX6 14 "BitNotation" "notation" "LBitNotation$TypeRow;", Cond.methodLink RX6 188 yX4_at, Cond.instanceMethod yX4_at, Cond.selects RX4 yX4_at yX4_at, Cond.initialized RX4, Cond.code yX4_at cX4_at 2 (some (.object "BitNotation$Type")), Cond.fieldLink RX4 7 "BitNotation$TypeRow" "count" "I", Cond.fieldLink RX4 21 "BitNotation$TypeRow" "items" "[LBitNotation$Type;", Cond.methodLink RX6 158 yX5_walk, Cond.instanceMethod yX5_walk, Cond.selects RX5 yX5_walk yX5_walk, Cond.initialized RX5]
def wsX6_write_r2 : List Cond := [Cond.code yX5_walk cX5_walk 3 (some .int), Cond.fieldLink RX5 14 "BitNotation$Writer" "written" "LBitNotation$Row;", Cond.fieldLink RX5 20 "BitNotation$Writer" "place" "I", Cond.fieldLink RX5 24 "BitNotation$Writer" "wrong" "I", Cond.methodLink RX5 27 yX2_keepFirst, Cond.instanceMethod yX2_keepFirst, Cond.selects RX2 yX2_keepFirst yX2_keepFirst, Cond.initialized RX2, Cond.code yX2_keepFirst cX2_keepFirst 2 none, Cond.fieldLink RX2 7 "BitNotation$Row" "count" "I", Cond.methodLink RX5 30 yX5_putValue, Cond.instanceMethod yX5_putValue, Cond.selects RX5 yX5_putValue yX5_putValue, Cond.code yX5_putValue cX5_putValue 6 none, Cond.fieldLink RX5 44 "BitNotation$Kind" "SEQUENCE" "LBitNotation$Kind;", Cond.fieldLink RX5 69 "BitNotation$Kind" "LIST" "LBitNotation$Kind;", Cond.fieldLink RX5 82 "BitNotation$Kind" "CHOICE" "LBitNotation$Kind;", Cond.methodLink RX5 49 yX5_putSequence, Cond.instanceMethod yX5_putSequence, Cond.selects RX5 yX5_putSequence yX5_putSequence, Cond.methodLink RX5 58 yX5_next, Cond.instanceMethod yX5_next, Cond.selects RX5 yX5_next yX5_next, Cond.code yX5_next cX5_next 5 (some .int)]
def wsX6_write_r3 : List Cond := [Cond.methodLink RX5 103 yX2_at, Cond.instanceMethod yX2_at, Cond.selects RX2 yX2_at yX2_at, Cond.code yX2_at cX2_at 2 (some .int), Cond.fieldLink RX2 19 "BitNotation$Row" "items" "[I", Cond.methodLink RX2 23 yX2_has, Cond.instanceMethod yX2_has, Cond.selects RX2 yX2_has yX2_has, Cond.code yX2_has cX2_has 2 (some .boolean), Cond.methodLink RX5 106 yX2_has, Cond.static yX6_isOutside, Cond.code yX6_isOutside cX6_isOutside 3 (some .boolean), Cond.methodLink RX5 65 yX5_put, Cond.instanceMethod yX5_put, Cond.selects RX5 yX5_put yX5_put, Cond.code yX5_put cX5_put 4 none, Cond.methodLink RX5 113 yX2_append, Cond.instanceMethod yX2_append, Cond.selects RX2 yX2_append yX2_append, Cond.code yX2_append cX2_append 2 none, Cond.methodLink RX5 76 yX4_at, Cond.code yX5_putAddition cX5_putAddition 8 none, Cond.methodLink RX5 34 yX2_size, Cond.instanceMethod yX2_size]
def wsX6_write_r4 : List Cond := [Cond.selects RX2 yX2_size yX2_size, Cond.code yX2_size cX2_size 1 (some .int), Cond.methodLink RX5 100 yX2_replace, Cond.instanceMethod yX2_replace, Cond.selects RX2 yX2_replace yX2_replace, Cond.code yX2_replace cX2_replace 3 none, Cond.code yX5_putSequence cX5_putSequence 7 none, Cond.methodLink RX5 85 yX5_nextParts, Cond.instanceMethod yX5_nextParts, Cond.selects RX5 yX5_nextParts yX5_nextParts, Cond.code yX5_nextParts cX5_nextParts 5 (some .int), Cond.methodLink RX5 92 yX4_size, Cond.instanceMethod yX4_size, Cond.selects RX4 yX4_size yX4_size, Cond.code yX4_size cX4_size 1 (some .int), Cond.methodLink RX5 93 yX3_isOptional, Cond.instanceMethod yX3_isOptional, Cond.selects RX3 yX3_isOptional yX3_isOptional, Cond.initialized RX3, Cond.code yX3_isOptional cX3_isOptional 2 (some .boolean), Cond.fieldLink RX3 42 "BitNotation$Type" "optional" "I", Cond.methodLink RX5 97 yX5_putAddition, Cond.instanceMethod yX5_putAddition, Cond.selects RX5 yX5_putAddition yX5_putAddition]
def wsX6_write_r5 : List Cond := [Cond.methodLink RX6 167 yX2_becomeCopyOf, Cond.instanceMethod yX2_becomeCopyOf, Cond.selects RX2 yX2_becomeCopyOf yX2_becomeCopyOf, Cond.code yX2_becomeCopyOf cX2_becomeCopyOf 3 none, Cond.methodLink RX2 27 yX2_keepFirst, Cond.methodLink RX2 31 yX2_size, Cond.methodLink RX2 35 yX2_at, Cond.methodLink RX2 39 yX2_append, Cond.methodLink RX6 141 yX2_size]
def wsX6_write : List Cond := .code yX6_write cX6_write 2 (some .int) :: ((wsX6_write_r1 ++ (wsX6_write_r2 ++ (wsX6_write_r3 ++ (wsX6_write_r4 ++ wsX6_write_r5)))) ++ wsX60 ++ wsX50 ++ wsX40 ++ wsX20 ++ wsX30 ++ (vx_atS RX6 96 "java/lang/IllegalStateException" ["java/lang/RuntimeException", "java/lang/Exception"]).filter goodWord ++ (vx_atS RX6 153 "java/lang/IndexOutOfBoundsException" ["java/lang/RuntimeException", "java/lang/Exception"]).filter goodWord)
def wsX6_bits : List Cond := .code yX6_bits cX6_bits 1 (some .int) :: ([.fieldLink RX6 25 "BitNotation" "message" "LBitNotation$Row;", .methodLink RX6 141 yX2_size, .instanceMethod yX2_size, .selects RX2 yX2_size yX2_size, .initialized RX2, .code yX2_size cX2_size 1 (some .int), .fieldLink RX2 7 "BitNotation$Row" "count" "I"] ++ wsX60 ++ wsX20)
def wsX6_bit : List Cond := .code yX6_bit cX6_bit 2 (some .int) :: ([.classLink RX6 149 "java/lang/IndexOutOfBoundsException", .initialized "java/lang/IndexOutOfBoundsException", .fieldLink RX6 25 "BitNotation" "message" "LBitNotation$Row;", .methodLink RX6 145 yX2_has, .instanceMethod yX2_has, .selects RX2 yX2_has yX2_has, .initialized RX2, .code yX2_has cX2_has 2 (some .boolean), .fieldLink RX2 7 "BitNotation$Row" "count" "I", .fieldLink RX2 19 "BitNotation$Row" "items" "[I", .methodLink RX6 154 yX2_at, .instanceMethod yX2_at, .selects RX2 yX2_at yX2_at, .code yX2_at cX2_at 2 (some .int), .methodLink RX2 23 yX2_has] ++ wsX60 ++ wsX20 ++ (vx_atS RX6 153 "java/lang/IndexOutOfBoundsException" ["java/lang/RuntimeException", "java/lang/Exception"]).filter goodWord)
def wsX6_flip : List Cond := .code yX6_flip cX6_flip 2 (some .int) :: ([.classLink RX6 149 "java/lang/IndexOutOfBoundsException", .initialized "java/lang/IndexOutOfBoundsException", .fieldLink RX6 25 "BitNotation" "message" "LBitNotation$Row;", .methodLink RX6 145 yX2_has, .instanceMethod yX2_has, .selects RX2 yX2_has yX2_has, .initialized RX2, .code yX2_has cX2_has 2 (some .boolean), .fieldLink RX2 7 "BitNotation$Row" "count" "I", .fieldLink RX2 19 "BitNotation$Row" "items" "[I", .methodLink RX6 154 yX2_at, .instanceMethod yX2_at, .selects RX2 yX2_at yX2_at, .code yX2_at cX2_at 2 (some .int), .methodLink RX2 23 yX2_has, .methodLink RX6 173 yX2_replace, .instanceMethod yX2_replace, .selects RX2 yX2_replace yX2_replace, .code yX2_replace cX2_replace 3 none] ++ wsX60 ++ wsX20 ++ (vx_atS RX6 153 "java/lang/IndexOutOfBoundsException" ["java/lang/RuntimeException", "java/lang/Exception"]).filter goodWord)
def wsX6_cut : List Cond := .code yX6_cut cX6_cut 3 (some .int) :: ([.classLink RX6 53 "java/lang/IllegalArgumentException", .initialized "java/lang/IllegalArgumentException", .fieldLink RX6 25 "BitNotation" "message" "LBitNotation$Row;", .methodLink RX6 141 yX2_size, .instanceMethod yX2_size, .selects RX2 yX2_size yX2_size, .initialized RX2, .code yX2_size cX2_size 1 (some .int), .fieldLink RX2 7 "BitNotation$Row" "count" "I", .methodLink RX6 49 yX6_isOutside, .static yX6_isOutside, .initialized RX6, .code yX6_isOutside cX6_isOutside 3 (some .boolean), .methodLink RX6 142 yX2_keepFirst, .instanceMethod yX2_keepFirst, .selects RX2 yX2_keepFirst yX2_keepFirst, .code yX2_keepFirst cX2_keepFirst 2 none] ++ wsX60 ++ wsX20 ++ (vx_atS RX6 57 "java/lang/IllegalArgumentException" ["java/lang/RuntimeException", "java/lang/Exception"]).filter goodWord)
def wsX6_placeOfFault_r1 : List Cond := [Cond.classLink RX6 53 "java/lang/IllegalArgumentException", Cond.initialized "java/lang/IllegalArgumentException", Cond.fieldLink RX6 38 "BitNotation" "reader" "LBitNotation$Reader;", Cond.fieldLink RX6 25 "BitNotation" "message" "LBitNotation$Row;", Cond.methodLink RX6 75 yX6_typeNumbered, Cond.instanceMethod yX6_typeNumbered, Cond.selects RX6 yX6_typeNumbered yX6_typeNumbered, Cond.initialized RX6, Cond.code yX6_typeNumbered cX6_typeNumbered 3 (some (.object "BitNotation$Type")), Cond.classLink RX6 149 "java/lang/IndexOutOfBoundsException", Cond.initialized "java/lang/IndexOutOfBoundsException", Cond.fieldLink RX6 14 "BitNotation" "notation" "LBitNotation$TypeRow;", Cond.methodLink RX6 188 yX4_at, Cond.instanceMethod yX4_at, Cond.selects RX4 yX4_at yX4_at, Cond.initialized RX4, Cond.code yX4_at cX4_at 2 (some (.object "BitNotation$Type")), Cond.fieldLink RX4 7 "BitNotation$TypeRow" "count" "I", Cond.fieldLink RX4 21 "BitNotation$TypeRow" "items" "[LBitNotation$Type;", Cond.methodLink RX6 49 yX6_isOutside, Cond.static yX6_isOutside, Cond.code yX6_isOutside cX6_isOutside 3 (some .boolean), Cond.methodLink RX6 201 yX1_walk, Cond.instanceMethod yX1_walk]
def wsX6_placeOfFault_r2 : List Cond := [Cond.selects RX1 yX1_walk yX1_walk, Cond.initialized RX1, Cond.code yX1_walk cX1_walk 4 (some .int), Cond.fieldLink RX1 14 "BitNotation$Reader" "heard" "LBitNotation$Row;", Cond.fieldLink RX1 20 "BitNotation$Reader" "additionsKnown" "I", Cond.fieldLink RX1 24 "BitNotation$Reader" "place" "I", Cond.fieldLink RX1 27 "BitNotation$Reader" "fault" "I", Cond.methodLink RX1 30 yX2_keepFirst, Cond.instanceMethod yX2_keepFirst, Cond.selects RX2 yX2_keepFirst yX2_keepFirst, Cond.initialized RX2, Cond.code yX2_keepFirst cX2_keepFirst 2 none, Cond.fieldLink RX2 7 "BitNotation$Row" "count" "I", Cond.methodLink RX1 33 yX1_getValue, Cond.instanceMethod yX1_getValue, Cond.selects RX1 yX1_getValue yX1_getValue, Cond.code yX1_getValue cX1_getValue 6 none, Cond.fieldLink RX1 47 "BitNotation$Kind" "SEQUENCE" "LBitNotation$Kind;", Cond.fieldLink RX1 71 "BitNotation$Kind" "LIST" "LBitNotation$Kind;", Cond.fieldLink RX1 84 "BitNotation$Kind" "CHOICE" "LBitNotation$Kind;", Cond.methodLink RX1 52 yX1_getSequence, Cond.instanceMethod yX1_getSequence, Cond.selects RX1 yX1_getSequence yX1_getSequence, Cond.methodLink RX1 64 yX1_next]
def wsX6_placeOfFault_r3 : List Cond := [Cond.instanceMethod yX1_next, Cond.selects RX1 yX1_next yX1_next, Cond.code yX1_next cX1_next 6 (some .int), Cond.methodLink RX1 120 yX2_at, Cond.instanceMethod yX2_at, Cond.selects RX2 yX2_at yX2_at, Cond.code yX2_at cX2_at 2 (some .int), Cond.fieldLink RX2 19 "BitNotation$Row" "items" "[I", Cond.methodLink RX2 23 yX2_has, Cond.instanceMethod yX2_has, Cond.selects RX2 yX2_has yX2_has, Cond.code yX2_has cX2_has 2 (some .boolean), Cond.methodLink RX1 37 yX2_size, Cond.instanceMethod yX2_size, Cond.selects RX2 yX2_size yX2_size, Cond.code yX2_size cX2_size 1 (some .int), Cond.methodLink RX1 68 yX2_append, Cond.instanceMethod yX2_append, Cond.selects RX2 yX2_append yX2_append, Cond.code yX2_append cX2_append 2 none, Cond.methodLink RX1 78 yX4_at, Cond.code yX1_getAddition cX1_getAddition 6 none, Cond.code yX1_getAdditions cX1_getAdditions 7 none, Cond.methodLink RX1 113 yX1_getAddition]
def wsX6_placeOfFault_r4 : List Cond := [Cond.instanceMethod yX1_getAddition, Cond.selects RX1 yX1_getAddition yX1_getAddition, Cond.methodLink RX1 116 yX1_skip, Cond.instanceMethod yX1_skip, Cond.selects RX1 yX1_skip yX1_skip, Cond.code yX1_skip cX1_skip 3 none, Cond.code yX1_getSequence cX1_getSequence 8 none, Cond.methodLink RX1 95 Lib.Math.min.name, Cond.static Lib.Math.min.name, Cond.initialized "java/lang/Math", Cond.code Lib.Math.min.name Lib.Math.min.code 2 (some .int), Cond.methodLink RX1 87 yX1_nextParts, Cond.instanceMethod yX1_nextParts, Cond.selects RX1 yX1_nextParts yX1_nextParts, Cond.code yX1_nextParts cX1_nextParts 6 (some .int), Cond.methodLink RX1 91 yX4_size, Cond.instanceMethod yX4_size, Cond.selects RX4 yX4_size yX4_size, Cond.code yX4_size cX4_size 1 (some .int), Cond.methodLink RX1 109 yX3_isOptional, Cond.instanceMethod yX3_isOptional, Cond.selects RX3 yX3_isOptional yX3_isOptional, Cond.initialized RX3, Cond.code yX3_isOptional cX3_isOptional 2 (some .boolean)]
def wsX6_placeOfFault_r5 : List Cond := [Cond.fieldLink RX3 42 "BitNotation$Type" "optional" "I", Cond.methodLink RX1 101 yX2_replace, Cond.instanceMethod yX2_replace, Cond.selects RX2 yX2_replace yX2_replace, Cond.code yX2_replace cX2_replace 3 none, Cond.methodLink RX1 105 yX1_getAdditions, Cond.instanceMethod yX1_getAdditions, Cond.selects RX1 yX1_getAdditions yX1_getAdditions]
def wsX6_placeOfFault : List Cond := .code yX6_placeOfFault cX6_placeOfFault 4 (some .int) :: ((wsX6_placeOfFault_r1 ++ (wsX6_placeOfFault_r2 ++ (wsX6_placeOfFault_r3 ++ (wsX6_placeOfFault_r4 ++ wsX6_placeOfFault_r5)))) ++ wsX60 ++ wsX40 ++ wsX10 ++ wsX20 ++ wsX30 ++ (vx_atS RX6 57 "java/lang/IllegalArgumentException" ["java/lang/RuntimeException", "java/lang/Exception"]).filter goodWord ++ (vx_atS RX6 153 "java/lang/IndexOutOfBoundsException" ["java/lang/RuntimeException", "java/lang/Exception"]).filter goodWord)
def wsX6_read_r1 : List Cond := [Cond.classLink RX6 92 "java/lang/IllegalStateException", Cond.initialized "java/lang/IllegalStateException", Cond.fieldLink RX6 21 "BitNotation" "tale" "LBitNotation$Row;", Cond.fieldLink RX6 38 "BitNotation" "reader" "LBitNotation$Reader;", Cond.methodLink RX6 179 yX6_placeOfFault, Cond.instanceMethod yX6_placeOfFault, Cond.selects RX6 yX6_placeOfFault yX6_placeOfFault, Cond.initialized RX6, Cond.code yX6_placeOfFault cX6_placeOfFault 4 (some .int), Cond.classLink RX6 53 "java/lang/IllegalArgumentException", Cond.initialized "java/lang/IllegalArgumentException", Cond.fieldLink RX6 25 "BitNotation" "message" "LBitNotation$Row;", Cond.methodLink RX6 75 yX6_typeNumbered, Cond.instanceMethod yX6_typeNumbered, Cond.selects RX6 yX6_typeNumbered yX6_typeNumbered, Cond.code yX6_typeNumbered cX6_typeNumbered 3 (some (.object "BitNotation$Type")), Cond.classLink RX6 149 "java/lang/IndexOutOfBoundsException", Cond.initialized "java/lang/IndexOutOfBoundsException", Cond.fieldLink RX6 14 "BitNotation" "notation" "LBitNotation$TypeRow;", Cond.methodLink RX6 188 yX4_at, Cond.instanceMethod yX4_at, Cond.selects RX4 yX4_at yX4_at, Cond.initialized RX4, Cond.code yX4_at cX4_at 2 (some (.object "BitNotation$Type"))]
def wsX6_read_r2 : List Cond := [Cond.fieldLink RX4 7 "BitNotation$TypeRow" "count" "I", Cond.fieldLink RX4 21 "BitNotation$TypeRow" "items" "[LBitNotation$Type;", Cond.methodLink RX6 49 yX6_isOutside, Cond.static yX6_isOutside, Cond.code yX6_isOutside cX6_isOutside 3 (some .boolean), Cond.methodLink RX6 201 yX1_walk, Cond.instanceMethod yX1_walk, Cond.selects RX1 yX1_walk yX1_walk, Cond.initialized RX1, Cond.code yX1_walk cX1_walk 4 (some .int), Cond.fieldLink RX1 14 "BitNotation$Reader" "heard" "LBitNotation$Row;", Cond.fieldLink RX1 20 "BitNotation$Reader" "additionsKnown" "I", Cond.fieldLink RX1 24 "BitNotation$Reader" "place" "I", Cond.fieldLink RX1 27 "BitNotation$Reader" "fault" "I", Cond.methodLink RX1 30 yX2_keepFirst, Cond.instanceMethod yX2_keepFirst, Cond.selects RX2 yX2_keepFirst yX2_keepFirst, Cond.initialized RX2, Cond.code yX2_keepFirst cX2_keepFirst 2 none, Cond.fieldLink RX2 7 "BitNotation$Row" "count" "I", Cond.methodLink RX1 33 yX1_getValue, Cond.instanceMethod yX1_getValue, Cond.selects RX1 yX1_getValue yX1_getValue, Cond.code yX1_getValue cX1_getValue 6 none]
def wsX6_read_r3 : List Cond := [Cond.fieldLink RX1 47 "BitNotation$Kind" "SEQUENCE" "LBitNotation$Kind;", Cond.fieldLink RX1 71 "BitNotation$Kind" "LIST" "LBitNotation$Kind;", Cond.fieldLink RX1 84 "BitNotation$Kind" "CHOICE" "LBitNotation$Kind;", Cond.methodLink RX1 52 yX1_getSequence, Cond.instanceMethod yX1_getSequence, Cond.selects RX1 yX1_getSequence yX1_getSequence, Cond.methodLink RX1 64 yX1_next, Cond.instanceMethod yX1_next, Cond.selects RX1 yX1_next yX1_next, Cond.code yX1_next cX1_next 6 (some .int), Cond.methodLink RX1 120 yX2_at, Cond.instanceMethod yX2_at, Cond.selects RX2 yX2_at yX2_at, Cond.code yX2_at cX2_at 2 (some .int), Cond.fieldLink RX2 19 "BitNotation$Row" "items" "[I", Cond.methodLink RX2 23 yX2_has, Cond.instanceMethod yX2_has, Cond.selects RX2 yX2_has yX2_has, Cond.code yX2_has cX2_has 2 (some .boolean), Cond.methodLink RX1 37 yX2_size, Cond.instanceMethod yX2_size, Cond.selects RX2 yX2_size yX2_size, Cond.code yX2_size cX2_size 1 (some .int), Cond.methodLink RX1 68 yX2_append]
def wsX6_read_r4 : List Cond := [Cond.instanceMethod yX2_append, Cond.selects RX2 yX2_append yX2_append, Cond.code yX2_append cX2_append 2 none, Cond.methodLink RX1 78 yX4_at, Cond.code yX1_getAddition cX1_getAddition 6 none, Cond.code yX1_getAdditions cX1_getAdditions 7 none, Cond.methodLink RX1 113 yX1_getAddition, Cond.instanceMethod yX1_getAddition, Cond.selects RX1 yX1_getAddition yX1_getAddition, Cond.methodLink RX1 116 yX1_skip, Cond.instanceMethod yX1_skip, Cond.selects RX1 yX1_skip yX1_skip, Cond.code yX1_skip cX1_skip 3 none, Cond.code yX1_getSequence cX1_getSequence 8 none, Cond.methodLink RX1 95 Lib.Math.min.name, Cond.static Lib.Math.min.name, Cond.initialized "java/lang/Math", Cond.code Lib.Math.min.name Lib.Math.min.code 2 (some .int), Cond.methodLink RX1 87 yX1_nextParts, Cond.instanceMethod yX1_nextParts, Cond.selects RX1 yX1_nextParts yX1_nextParts, Cond.code yX1_nextParts cX1_nextParts 6 (some .int), Cond.methodLink RX1 91 yX4_size, Cond.instanceMethod yX4_size]
def wsX6_read_r5 : List Cond := [Cond.selects RX4 yX4_size yX4_size, Cond.code yX4_size cX4_size 1 (some .int), Cond.methodLink RX1 109 yX3_isOptional, Cond.instanceMethod yX3_isOptional, Cond.selects RX3 yX3_isOptional yX3_isOptional, Cond.initialized RX3, Cond.code yX3_isOptional cX3_isOptional 2 (some .boolean), Cond.fieldLink RX3 42 "BitNotation$Type" "optional" "I", Cond.methodLink RX1 101 yX2_replace, Cond.instanceMethod yX2_replace, Cond.selects RX2 yX2_replace yX2_replace, Cond.code yX2_replace cX2_replace 3 none, Cond.methodLink RX1 105 yX1_getAdditions, Cond.instanceMethod yX1_getAdditions, Cond.selects RX1 yX1_getAdditions yX1_getAdditions, Cond.methodLink RX6 167 yX2_becomeCopyOf, Cond.instanceMethod yX2_becomeCopyOf, Cond.selects RX2 yX2_becomeCopyOf yX2_becomeCopyOf, Cond.code yX2_becomeCopyOf cX2_becomeCopyOf 3 none, Cond.methodLink RX2 27 yX2_keepFirst, Cond.methodLink RX2 31 yX2_size, Cond.methodLink RX2 35 yX2_at, Cond.methodLink RX2 39 yX2_append, Cond.methodLink RX6 141 yX2_size]
def wsX6_read : List Cond := .code yX6_read cX6_read 3 (some .int) :: ((wsX6_read_r1 ++ (wsX6_read_r2 ++ (wsX6_read_r3 ++ (wsX6_read_r4 ++ wsX6_read_r5)))) ++ wsX60 ++ wsX10 ++ wsX40 ++ wsX20 ++ wsX30 ++ (vx_atS RX6 96 "java/lang/IllegalStateException" ["java/lang/RuntimeException", "java/lang/Exception"]).filter goodWord ++ (vx_atS RX6 57 "java/lang/IllegalArgumentException" ["java/lang/RuntimeException", "java/lang/Exception"]).filter goodWord ++ (vx_atS RX6 153 "java/lang/IndexOutOfBoundsException" ["java/lang/RuntimeException", "java/lang/Exception"]).filter goodWord)
def wsX6_faultAt_r1 : List Cond := [Cond.methodLink RX6 179 yX6_placeOfFault, Cond.instanceMethod yX6_placeOfFault, Cond.selects RX6 yX6_placeOfFault yX6_placeOfFault, Cond.initialized RX6, Cond.code yX6_placeOfFault cX6_placeOfFault 4 (some .int), Cond.classLink RX6 53 "java/lang/IllegalArgumentException", Cond.initialized "java/lang/IllegalArgumentException", Cond.fieldLink RX6 38 "BitNotation" "reader" "LBitNotation$Reader;", Cond.fieldLink RX6 25 "BitNotation" "message" "LBitNotation$Row;", Cond.methodLink RX6 75 yX6_typeNumbered, Cond.instanceMethod yX6_typeNumbered, Cond.selects RX6 yX6_typeNumbered yX6_typeNumbered, Cond.code yX6_typeNumbered cX6_typeNumbered 3 (some (.object "BitNotation$Type")), Cond.classLink RX6 149 "java/lang/IndexOutOfBoundsException", Cond.initialized "java/lang/IndexOutOfBoundsException", Cond.fieldLink RX6 14 "BitNotation" "notation" "LBitNotation$TypeRow;", Cond.methodLink RX6 188 yX4_at, Cond.instanceMethod yX4_at, Cond.selects RX4 yX4_at yX4_at, Cond.initialized RX4, Cond.code yX4_at cX4_at 2 (some (.object "BitNotation$Type")), Cond.fieldLink RX4 7 "BitNotation$TypeRow" "count" "I", Cond.fieldLink RX4 21 "BitNotation$TypeRow" "items" "[LBitNotation$Type;", Cond.methodLink RX6 49 yX6_isOutside]
def wsX6_faultAt_r2 : List Cond := [Cond.static yX6_isOutside, Cond.code yX6_isOutside cX6_isOutside 3 (some .boolean), Cond.methodLink RX6 201 yX1_walk, Cond.instanceMethod yX1_walk, Cond.selects RX1 yX1_walk yX1_walk, Cond.initialized RX1, Cond.code yX1_walk cX1_walk 4 (some .int), Cond.fieldLink RX1 14 "BitNotation$Reader" "heard" "LBitNotation$Row;", Cond.fieldLink RX1 20 "BitNotation$Reader" "additionsKnown" "I", Cond.fieldLink RX1 24 "BitNotation$Reader" "place" "I", Cond.fieldLink RX1 27 "BitNotation$Reader" "fault" "I", Cond.methodLink RX1 30 yX2_keepFirst, Cond.instanceMethod yX2_keepFirst, Cond.selects RX2 yX2_keepFirst yX2_keepFirst, Cond.initialized RX2, Cond.code yX2_keepFirst cX2_keepFirst 2 none, Cond.fieldLink RX2 7 "BitNotation$Row" "count" "I", Cond.methodLink RX1 33 yX1_getValue, Cond.instanceMethod yX1_getValue, Cond.selects RX1 yX1_getValue yX1_getValue, Cond.code yX1_getValue cX1_getValue 6 none, Cond.fieldLink RX1 47 "BitNotation$Kind" "SEQUENCE" "LBitNotation$Kind;", Cond.fieldLink RX1 71 "BitNotation$Kind" "LIST" "LBitNotation$Kind;", Cond.fieldLink RX1 84 "BitNotation$Kind" "CHOICE" "LBitNotation$Kind;"]
def wsX6_faultAt_r3 : List Cond := [Cond.methodLink RX1 52 yX1_getSequence, Cond.instanceMethod yX1_getSequence, Cond.selects RX1 yX1_getSequence yX1_getSequence, Cond.methodLink RX1 64 yX1_next, Cond.instanceMethod yX1_next, Cond.selects RX1 yX1_next yX1_next, Cond.code yX1_next cX1_next 6 (some .int), Cond.methodLink RX1 120 yX2_at, Cond.instanceMethod yX2_at, Cond.selects RX2 yX2_at yX2_at, Cond.code yX2_at cX2_at 2 (some .int), Cond.fieldLink RX2 19 "BitNotation$Row" "items" "[I", Cond.methodLink RX2 23 yX2_has, Cond.instanceMethod yX2_has, Cond.selects RX2 yX2_has yX2_has, Cond.code yX2_has cX2_has 2 (some .boolean), Cond.methodLink RX1 37 yX2_size, Cond.instanceMethod yX2_size, Cond.selects RX2 yX2_size yX2_size, Cond.code yX2_size cX2_size 1 (some .int), Cond.methodLink RX1 68 yX2_append, Cond.instanceMethod yX2_append, Cond.selects RX2 yX2_append yX2_append, Cond.code yX2_append cX2_append 2 none]
def wsX6_faultAt_r4 : List Cond := [Cond.methodLink RX1 78 yX4_at, Cond.code yX1_getAddition cX1_getAddition 6 none, Cond.code yX1_getAdditions cX1_getAdditions 7 none, Cond.methodLink RX1 113 yX1_getAddition, Cond.instanceMethod yX1_getAddition, Cond.selects RX1 yX1_getAddition yX1_getAddition, Cond.methodLink RX1 116 yX1_skip, Cond.instanceMethod yX1_skip, Cond.selects RX1 yX1_skip yX1_skip, Cond.code yX1_skip cX1_skip 3 none, Cond.code yX1_getSequence cX1_getSequence 8 none, Cond.methodLink RX1 95 Lib.Math.min.name, Cond.static Lib.Math.min.name, Cond.initialized "java/lang/Math", Cond.code Lib.Math.min.name Lib.Math.min.code 2 (some .int), Cond.methodLink RX1 87 yX1_nextParts, Cond.instanceMethod yX1_nextParts, Cond.selects RX1 yX1_nextParts yX1_nextParts, Cond.code yX1_nextParts cX1_nextParts 6 (some .int), Cond.methodLink RX1 91 yX4_size, Cond.instanceMethod yX4_size, Cond.selects RX4 yX4_size yX4_size, Cond.code yX4_size cX4_size 1 (some .int), Cond.methodLink RX1 109 yX3_isOptional]
def wsX6_faultAt_r5 : List Cond := [Cond.instanceMethod yX3_isOptional, Cond.selects RX3 yX3_isOptional yX3_isOptional, Cond.initialized RX3, Cond.code yX3_isOptional cX3_isOptional 2 (some .boolean), Cond.fieldLink RX3 42 "BitNotation$Type" "optional" "I", Cond.methodLink RX1 101 yX2_replace, Cond.instanceMethod yX2_replace, Cond.selects RX2 yX2_replace yX2_replace, Cond.code yX2_replace cX2_replace 3 none, Cond.methodLink RX1 105 yX1_getAdditions, Cond.instanceMethod yX1_getAdditions, Cond.selects RX1 yX1_getAdditions yX1_getAdditions]
def wsX6_faultAt : List Cond := .code yX6_faultAt cX6_faultAt 3 (some .int) :: ((wsX6_faultAt_r1 ++ (wsX6_faultAt_r2 ++ (wsX6_faultAt_r3 ++ (wsX6_faultAt_r4 ++ wsX6_faultAt_r5)))) ++ wsX60 ++ wsX40 ++ wsX10 ++ wsX20 ++ wsX30 ++ (vx_atS RX6 57 "java/lang/IllegalArgumentException" ["java/lang/RuntimeException", "java/lang/Exception"]).filter goodWord ++ (vx_atS RX6 153 "java/lang/IndexOutOfBoundsException" ["java/lang/RuntimeException", "java/lang/Exception"]).filter goodWord)
def wsX7_init_r1 : List Cond := [Cond.methodLink RX7 1 objectInit, Cond.instanceMethod objectInit, Cond.code objectInit ⟨#[0xb1]⟩ 1 none, Cond.arrayClass .int, Cond.fieldLink RX7 7 "BitNotationModel" "kinds" "[I", Cond.fieldLink RX7 13 "BitNotationModel" "leasts" "[I", Cond.fieldLink RX7 16 "BitNotationModel" "greatests" "[I", Cond.fieldLink RX7 19 "BitNotationModel" "parts" "[I", Cond.fieldLink RX7 22 "BitNotationModel" "counts" "[I", Cond.fieldLink RX7 25 "BitNotationModel" "additions" "[I", Cond.fieldLink RX7 28 "BitNotationModel" "added" "[I", Cond.fieldLink RX7 31 "BitNotationModel" "low" "[I", Cond.fieldLink RX7 34 "BitNotationModel" "high" "[I", Cond.fieldLink RX7 37 "BitNotationModel" "longest" "[I", Cond.fieldLink RX7 40 "BitNotationModel" "draft" "[I", Cond.fieldLink RX7 43 "BitNotationModel" "tale" "[I", Cond.fieldLink RX7 46 "BitNotationModel" "row" "[I", Cond.fieldLink RX7 49 "BitNotationModel" "read" "[I", Cond.fieldLink RX7 52 "BitNotationModel" "piled" "[I", Cond.fieldLink RX7 55 "BitNotationModel" "steps" "[I", Cond.fieldLink RX7 58 "BitNotationModel" "left" "[I", Cond.fieldLink RX7 61 "BitNotationModel" "more" "[I", Cond.fieldLink RX7 64 "BitNotationModel" "marks" "[I", Cond.fieldLink RX7 67 "BitNotationModel" "lengths" "[I"]
def wsX7_init_r2 : List Cond := [Cond.fieldLink RX7 70 "BitNotationModel" "slots" "[I"]
def wsX7_init : List Cond := .code yX7_init cX7_init 1 none :: ((wsX7_init_r1 ++ wsX7_init_r2) ++ wsX70)
def wsX7_thrown : List Cond := .code yX7_thrown cX7_thrown 1 (some .int) :: ([.fieldLink RX7 73 "BitNotationModel" "refusal" "I"] ++ wsX70)
def wsX7_refused : List Cond := .code yX7_refused cX7_refused 2 (some .boolean) :: ([.fieldLink RX7 73 "BitNotationModel" "refusal" "I"] ++ wsX70)
def wsX7_fine : List Cond := .code yX7_fine cX7_fine 2 (some .int) :: ([.fieldLink RX7 73 "BitNotationModel" "refusal" "I"] ++ wsX70)
def wsX7_in : List Cond := .code yX7_in cX7_in 3 (some .boolean) :: ([])
def wsX7_isType : List Cond := .code yX7_isType cX7_isType 2 (some .boolean) :: ([.fieldLink RX7 77 "BitNotationModel" "types" "I", .methodLink RX7 80 yX7_in, .static yX7_in, .initialized RX7, .code yX7_in cX7_in 3 (some .boolean)] ++ wsX70)
def wsX7_width : List Cond := .code yX7_width cX7_width 2 (some .int) :: ([])
def wsX7_widthOf : List Cond := .code yX7_widthOf cX7_widthOf 2 (some .int) :: ([.fieldLink RX7 7 "BitNotationModel" "kinds" "[I", .fieldLink RX7 22 "BitNotationModel" "counts" "[I", .fieldLink RX7 16 "BitNotationModel" "greatests" "[I", .fieldLink RX7 13 "BitNotationModel" "leasts" "[I", .methodLink RX7 84 yX7_width, .static yX7_width, .initialized RX7, .code yX7_width cX7_width 2 (some .int)] ++ wsX70)
def wsX7_partOf : List Cond := .code yX7_partOf cX7_partOf 3 (some .int) :: ([.fieldLink RX7 19 "BitNotationModel" "parts" "[I"] ++ wsX70)
def wsX7_isOptional : List Cond := .code yX7_isOptional cX7_isOptional 3 (some .boolean) :: ([.fieldLink RX7 19 "BitNotationModel" "parts" "[I"] ++ wsX70)
def wsX7_optionals : List Cond := .code yX7_optionals cX7_optionals 4 (some .int) :: ([.fieldLink RX7 22 "BitNotationModel" "counts" "[I", .methodLink RX7 88 yX7_isOptional, .instanceMethod yX7_isOptional, .selects RX7 yX7_isOptional yX7_isOptional, .initialized RX7, .code yX7_isOptional cX7_isOptional 3 (some .boolean), .fieldLink RX7 19 "BitNotationModel" "parts" "[I"] ++ wsX70)
def wsX7_measureSequence : List Cond := .code yX7_measureSequence cX7_measureSequence 5 none :: ([.fieldLink RX7 31 "BitNotationModel" "low" "[I", .fieldLink RX7 34 "BitNotationModel" "high" "[I", .fieldLink RX7 28 "BitNotationModel" "added" "[I", .fieldLink RX7 37 "BitNotationModel" "longest" "[I", .fieldLink RX7 22 "BitNotationModel" "counts" "[I", .fieldLink RX7 25 "BitNotationModel" "additions" "[I", .methodLink RX7 92 yX7_optionals, .instanceMethod yX7_optionals, .selects RX7 yX7_optionals yX7_optionals, .initialized RX7, .code yX7_optionals cX7_optionals 4 (some .int), .methodLink RX7 88 yX7_isOptional, .instanceMethod yX7_isOptional, .selects RX7 yX7_isOptional yX7_isOptional, .code yX7_isOptional cX7_isOptional 3 (some .boolean), .fieldLink RX7 19 "BitNotationModel" "parts" "[I", .methodLink RX7 95 yX7_partOf, .instanceMethod yX7_partOf, .selects RX7 yX7_partOf yX7_partOf, .code yX7_partOf cX7_partOf 3 (some .int)] ++ wsX70)
def wsX7_measureChoice : List Cond := .code yX7_measureChoice cX7_measureChoice 7 none :: ([.fieldLink RX7 22 "BitNotationModel" "counts" "[I", .fieldLink RX7 31 "BitNotationModel" "low" "[I", .fieldLink RX7 34 "BitNotationModel" "high" "[I", .fieldLink RX7 37 "BitNotationModel" "longest" "[I", .methodLink RX7 95 yX7_partOf, .instanceMethod yX7_partOf, .selects RX7 yX7_partOf yX7_partOf, .initialized RX7, .code yX7_partOf cX7_partOf 3 (some .int), .fieldLink RX7 19 "BitNotationModel" "parts" "[I", .methodLink RX7 99 yX7_widthOf, .instanceMethod yX7_widthOf, .selects RX7 yX7_widthOf yX7_widthOf, .code yX7_widthOf cX7_widthOf 2 (some .int), .fieldLink RX7 7 "BitNotationModel" "kinds" "[I", .fieldLink RX7 16 "BitNotationModel" "greatests" "[I", .fieldLink RX7 13 "BitNotationModel" "leasts" "[I", .methodLink RX7 84 yX7_width, .static yX7_width, .code yX7_width cX7_width 2 (some .int)] ++ wsX70)
def wsX7_measure_r1 : List Cond := [Cond.fieldLink RX7 7 "BitNotationModel" "kinds" "[I", Cond.fieldLink RX7 31 "BitNotationModel" "low" "[I", Cond.fieldLink RX7 13 "BitNotationModel" "leasts" "[I", Cond.fieldLink RX7 34 "BitNotationModel" "high" "[I", Cond.fieldLink RX7 16 "BitNotationModel" "greatests" "[I", Cond.fieldLink RX7 37 "BitNotationModel" "longest" "[I", Cond.methodLink RX7 102 yX7_measureSequence, Cond.instanceMethod yX7_measureSequence, Cond.selects RX7 yX7_measureSequence yX7_measureSequence, Cond.initialized RX7, Cond.code yX7_measureSequence cX7_measureSequence 5 none, Cond.fieldLink RX7 28 "BitNotationModel" "added" "[I", Cond.fieldLink RX7 22 "BitNotationModel" "counts" "[I", Cond.fieldLink RX7 25 "BitNotationModel" "additions" "[I", Cond.methodLink RX7 92 yX7_optionals, Cond.instanceMethod yX7_optionals, Cond.selects RX7 yX7_optionals yX7_optionals, Cond.code yX7_optionals cX7_optionals 4 (some .int), Cond.methodLink RX7 88 yX7_isOptional, Cond.instanceMethod yX7_isOptional, Cond.selects RX7 yX7_isOptional yX7_isOptional, Cond.code yX7_isOptional cX7_isOptional 3 (some .boolean), Cond.fieldLink RX7 19 "BitNotationModel" "parts" "[I", Cond.methodLink RX7 95 yX7_partOf]
def wsX7_measure_r2 : List Cond := [Cond.instanceMethod yX7_partOf, Cond.selects RX7 yX7_partOf yX7_partOf, Cond.code yX7_partOf cX7_partOf 3 (some .int), Cond.methodLink RX7 106 yX7_measureChoice, Cond.instanceMethod yX7_measureChoice, Cond.selects RX7 yX7_measureChoice yX7_measureChoice, Cond.code yX7_measureChoice cX7_measureChoice 7 none, Cond.methodLink RX7 99 yX7_widthOf, Cond.instanceMethod yX7_widthOf, Cond.selects RX7 yX7_widthOf yX7_widthOf, Cond.code yX7_widthOf cX7_widthOf 2 (some .int), Cond.methodLink RX7 84 yX7_width, Cond.static yX7_width, Cond.code yX7_width cX7_width 2 (some .int)]
def wsX7_measure : List Cond := .code yX7_measure cX7_measure 4 (some .boolean) :: ((wsX7_measure_r1 ++ wsX7_measure_r2) ++ wsX70)
def wsX7_lay : List Cond := .code yX7_lay cX7_lay 5 none :: ([.fieldLink RX7 77 "BitNotationModel" "types" "I", .fieldLink RX7 7 "BitNotationModel" "kinds" "[I", .fieldLink RX7 13 "BitNotationModel" "leasts" "[I", .fieldLink RX7 16 "BitNotationModel" "greatests" "[I", .fieldLink RX7 22 "BitNotationModel" "counts" "[I", .fieldLink RX7 28 "BitNotationModel" "added" "[I"] ++ wsX70)
def wsX7_addNumber_r1 : List Cond := [Cond.fieldLink RX7 77 "BitNotationModel" "types" "I", Cond.methodLink RX7 80 yX7_in, Cond.static yX7_in, Cond.initialized RX7, Cond.code yX7_in cX7_in 3 (some .boolean), Cond.methodLink RX7 109 yX7_refused, Cond.instanceMethod yX7_refused, Cond.selects RX7 yX7_refused yX7_refused, Cond.code yX7_refused cX7_refused 2 (some .boolean), Cond.fieldLink RX7 73 "BitNotationModel" "refusal" "I", Cond.methodLink RX7 113 yX7_lay, Cond.instanceMethod yX7_lay, Cond.selects RX7 yX7_lay yX7_lay, Cond.code yX7_lay cX7_lay 5 none, Cond.fieldLink RX7 7 "BitNotationModel" "kinds" "[I", Cond.fieldLink RX7 13 "BitNotationModel" "leasts" "[I", Cond.fieldLink RX7 16 "BitNotationModel" "greatests" "[I", Cond.fieldLink RX7 22 "BitNotationModel" "counts" "[I", Cond.fieldLink RX7 28 "BitNotationModel" "added" "[I", Cond.methodLink RX7 117 yX7_measure, Cond.instanceMethod yX7_measure, Cond.selects RX7 yX7_measure yX7_measure, Cond.code yX7_measure cX7_measure 4 (some .boolean), Cond.fieldLink RX7 31 "BitNotationModel" "low" "[I"]
def wsX7_addNumber_r2 : List Cond := [Cond.fieldLink RX7 34 "BitNotationModel" "high" "[I", Cond.fieldLink RX7 37 "BitNotationModel" "longest" "[I", Cond.methodLink RX7 102 yX7_measureSequence, Cond.instanceMethod yX7_measureSequence, Cond.selects RX7 yX7_measureSequence yX7_measureSequence, Cond.code yX7_measureSequence cX7_measureSequence 5 none, Cond.fieldLink RX7 25 "BitNotationModel" "additions" "[I", Cond.methodLink RX7 92 yX7_optionals, Cond.instanceMethod yX7_optionals, Cond.selects RX7 yX7_optionals yX7_optionals, Cond.code yX7_optionals cX7_optionals 4 (some .int), Cond.methodLink RX7 88 yX7_isOptional, Cond.instanceMethod yX7_isOptional, Cond.selects RX7 yX7_isOptional yX7_isOptional, Cond.code yX7_isOptional cX7_isOptional 3 (some .boolean), Cond.fieldLink RX7 19 "BitNotationModel" "parts" "[I", Cond.methodLink RX7 95 yX7_partOf, Cond.instanceMethod yX7_partOf, Cond.selects RX7 yX7_partOf yX7_partOf, Cond.code yX7_partOf cX7_partOf 3 (some .int), Cond.methodLink RX7 106 yX7_measureChoice, Cond.instanceMethod yX7_measureChoice, Cond.selects RX7 yX7_measureChoice yX7_measureChoice, Cond.code yX7_measureChoice cX7_measureChoice 7 none]
def wsX7_addNumber_r3 : List Cond := [Cond.methodLink RX7 99 yX7_widthOf, Cond.instanceMethod yX7_widthOf, Cond.selects RX7 yX7_widthOf yX7_widthOf, Cond.code yX7_widthOf cX7_widthOf 2 (some .int), Cond.methodLink RX7 84 yX7_width, Cond.static yX7_width, Cond.code yX7_width cX7_width 2 (some .int)]
def wsX7_addNumber : List Cond := .code yX7_addNumber cX7_addNumber 4 (some .int) :: ((wsX7_addNumber_r1 ++ (wsX7_addNumber_r2 ++ wsX7_addNumber_r3)) ++ wsX70)
def wsX7_addList_r1 : List Cond := [Cond.fieldLink RX7 77 "BitNotationModel" "types" "I", Cond.fieldLink RX7 19 "BitNotationModel" "parts" "[I", Cond.methodLink RX7 80 yX7_in, Cond.static yX7_in, Cond.initialized RX7, Cond.code yX7_in cX7_in 3 (some .boolean), Cond.methodLink RX7 120 yX7_isType, Cond.instanceMethod yX7_isType, Cond.selects RX7 yX7_isType yX7_isType, Cond.code yX7_isType cX7_isType 2 (some .boolean), Cond.methodLink RX7 113 yX7_lay, Cond.instanceMethod yX7_lay, Cond.selects RX7 yX7_lay yX7_lay, Cond.code yX7_lay cX7_lay 5 none, Cond.fieldLink RX7 7 "BitNotationModel" "kinds" "[I", Cond.fieldLink RX7 13 "BitNotationModel" "leasts" "[I", Cond.fieldLink RX7 16 "BitNotationModel" "greatests" "[I", Cond.fieldLink RX7 22 "BitNotationModel" "counts" "[I", Cond.fieldLink RX7 28 "BitNotationModel" "added" "[I", Cond.methodLink RX7 117 yX7_measure, Cond.instanceMethod yX7_measure, Cond.selects RX7 yX7_measure yX7_measure, Cond.code yX7_measure cX7_measure 4 (some .boolean), Cond.fieldLink RX7 31 "BitNotationModel" "low" "[I"]
def wsX7_addList_r2 : List Cond := [Cond.fieldLink RX7 34 "BitNotationModel" "high" "[I", Cond.fieldLink RX7 37 "BitNotationModel" "longest" "[I", Cond.methodLink RX7 102 yX7_measureSequence, Cond.instanceMethod yX7_measureSequence, Cond.selects RX7 yX7_measureSequence yX7_measureSequence, Cond.code yX7_measureSequence cX7_measureSequence 5 none, Cond.fieldLink RX7 25 "BitNotationModel" "additions" "[I", Cond.methodLink RX7 92 yX7_optionals, Cond.instanceMethod yX7_optionals, Cond.selects RX7 yX7_optionals yX7_optionals, Cond.code yX7_optionals cX7_optionals 4 (some .int), Cond.methodLink RX7 88 yX7_isOptional, Cond.instanceMethod yX7_isOptional, Cond.selects RX7 yX7_isOptional yX7_isOptional, Cond.code yX7_isOptional cX7_isOptional 3 (some .boolean), Cond.methodLink RX7 95 yX7_partOf, Cond.instanceMethod yX7_partOf, Cond.selects RX7 yX7_partOf yX7_partOf, Cond.code yX7_partOf cX7_partOf 3 (some .int), Cond.methodLink RX7 106 yX7_measureChoice, Cond.instanceMethod yX7_measureChoice, Cond.selects RX7 yX7_measureChoice yX7_measureChoice, Cond.code yX7_measureChoice cX7_measureChoice 7 none, Cond.methodLink RX7 99 yX7_widthOf]
def wsX7_addList_r3 : List Cond := [Cond.instanceMethod yX7_widthOf, Cond.selects RX7 yX7_widthOf yX7_widthOf, Cond.code yX7_widthOf cX7_widthOf 2 (some .int), Cond.methodLink RX7 84 yX7_width, Cond.static yX7_width, Cond.code yX7_width cX7_width 2 (some .int), Cond.methodLink RX7 109 yX7_refused, Cond.instanceMethod yX7_refused, Cond.selects RX7 yX7_refused yX7_refused, Cond.code yX7_refused cX7_refused 2 (some .boolean), Cond.fieldLink RX7 73 "BitNotationModel" "refusal" "I"]
def wsX7_addList : List Cond := .code yX7_addList cX7_addList 6 (some .int) :: ((wsX7_addList_r1 ++ (wsX7_addList_r2 ++ wsX7_addList_r3)) ++ wsX70)
def wsX7_part : List Cond := .code yX7_part cX7_part 3 (some .int) :: ([.fieldLink RX7 123 "BitNotationModel" "drafted" "I", .fieldLink RX7 40 "BitNotationModel" "draft" "[I", .methodLink RX7 120 yX7_isType, .instanceMethod yX7_isType, .selects RX7 yX7_isType yX7_isType, .initialized RX7, .code yX7_isType cX7_isType 2 (some .boolean), .fieldLink RX7 77 "BitNotationModel" "types" "I", .methodLink RX7 80 yX7_in, .static yX7_in, .code yX7_in cX7_in 3 (some .boolean), .methodLink RX7 109 yX7_refused, .instanceMethod yX7_refused, .selects RX7 yX7_refused yX7_refused, .code yX7_refused cX7_refused 2 (some .boolean), .fieldLink RX7 73 "BitNotationModel" "refusal" "I"] ++ wsX70)
def wsX7_addDraft_r1 : List Cond := [Cond.fieldLink RX7 123 "BitNotationModel" "drafted" "I", Cond.fieldLink RX7 77 "BitNotationModel" "types" "I", Cond.fieldLink RX7 19 "BitNotationModel" "parts" "[I", Cond.fieldLink RX7 40 "BitNotationModel" "draft" "[I", Cond.methodLink RX7 113 yX7_lay, Cond.instanceMethod yX7_lay, Cond.selects RX7 yX7_lay yX7_lay, Cond.initialized RX7, Cond.code yX7_lay cX7_lay 5 none, Cond.fieldLink RX7 7 "BitNotationModel" "kinds" "[I", Cond.fieldLink RX7 13 "BitNotationModel" "leasts" "[I", Cond.fieldLink RX7 16 "BitNotationModel" "greatests" "[I", Cond.fieldLink RX7 22 "BitNotationModel" "counts" "[I", Cond.fieldLink RX7 28 "BitNotationModel" "added" "[I", Cond.methodLink RX7 117 yX7_measure, Cond.instanceMethod yX7_measure, Cond.selects RX7 yX7_measure yX7_measure, Cond.code yX7_measure cX7_measure 4 (some .boolean), Cond.fieldLink RX7 31 "BitNotationModel" "low" "[I", Cond.fieldLink RX7 34 "BitNotationModel" "high" "[I", Cond.fieldLink RX7 37 "BitNotationModel" "longest" "[I", Cond.methodLink RX7 102 yX7_measureSequence, Cond.instanceMethod yX7_measureSequence, Cond.selects RX7 yX7_measureSequence yX7_measureSequence]
def wsX7_addDraft_r2 : List Cond := [Cond.code yX7_measureSequence cX7_measureSequence 5 none, Cond.fieldLink RX7 25 "BitNotationModel" "additions" "[I", Cond.methodLink RX7 92 yX7_optionals, Cond.instanceMethod yX7_optionals, Cond.selects RX7 yX7_optionals yX7_optionals, Cond.code yX7_optionals cX7_optionals 4 (some .int), Cond.methodLink RX7 88 yX7_isOptional, Cond.instanceMethod yX7_isOptional, Cond.selects RX7 yX7_isOptional yX7_isOptional, Cond.code yX7_isOptional cX7_isOptional 3 (some .boolean), Cond.methodLink RX7 95 yX7_partOf, Cond.instanceMethod yX7_partOf, Cond.selects RX7 yX7_partOf yX7_partOf, Cond.code yX7_partOf cX7_partOf 3 (some .int), Cond.methodLink RX7 106 yX7_measureChoice, Cond.instanceMethod yX7_measureChoice, Cond.selects RX7 yX7_measureChoice yX7_measureChoice, Cond.code yX7_measureChoice cX7_measureChoice 7 none, Cond.methodLink RX7 99 yX7_widthOf, Cond.instanceMethod yX7_widthOf, Cond.selects RX7 yX7_widthOf yX7_widthOf, Cond.code yX7_widthOf cX7_widthOf 2 (some .int), Cond.methodLink RX7 84 yX7_width, Cond.static yX7_width]
def wsX7_addDraft_r3 : List Cond := [Cond.code yX7_width cX7_width 2 (some .int), Cond.methodLink RX7 109 yX7_refused, Cond.instanceMethod yX7_refused, Cond.selects RX7 yX7_refused yX7_refused, Cond.code yX7_refused cX7_refused 2 (some .boolean), Cond.fieldLink RX7 73 "BitNotationModel" "refusal" "I"]
def wsX7_addDraft : List Cond := .code yX7_addDraft cX7_addDraft 4 (some .int) :: ((wsX7_addDraft_r1 ++ (wsX7_addDraft_r2 ++ wsX7_addDraft_r3)) ++ wsX70)
def wsX7_addSequence_r1 : List Cond := [Cond.methodLink RX7 126 yX7_addDraft, Cond.instanceMethod yX7_addDraft, Cond.selects RX7 yX7_addDraft yX7_addDraft, Cond.initialized RX7, Cond.code yX7_addDraft cX7_addDraft 4 (some .int), Cond.fieldLink RX7 123 "BitNotationModel" "drafted" "I", Cond.fieldLink RX7 77 "BitNotationModel" "types" "I", Cond.fieldLink RX7 19 "BitNotationModel" "parts" "[I", Cond.fieldLink RX7 40 "BitNotationModel" "draft" "[I", Cond.methodLink RX7 113 yX7_lay, Cond.instanceMethod yX7_lay, Cond.selects RX7 yX7_lay yX7_lay, Cond.code yX7_lay cX7_lay 5 none, Cond.fieldLink RX7 7 "BitNotationModel" "kinds" "[I", Cond.fieldLink RX7 13 "BitNotationModel" "leasts" "[I", Cond.fieldLink RX7 16 "BitNotationModel" "greatests" "[I", Cond.fieldLink RX7 22 "BitNotationModel" "counts" "[I", Cond.fieldLink RX7 28 "BitNotationModel" "added" "[I", Cond.methodLink RX7 117 yX7_measure, Cond.instanceMethod yX7_measure, Cond.selects RX7 yX7_measure yX7_measure, Cond.code yX7_measure cX7_measure 4 (some .boolean), Cond.fieldLink RX7 31 "BitNotationModel" "low" "[I", Cond.fieldLink RX7 34 "BitNotationModel" "high" "[I"]
def wsX7_addSequence_r2 : List Cond := [Cond.fieldLink RX7 37 "BitNotationModel" "longest" "[I", Cond.methodLink RX7 102 yX7_measureSequence, Cond.instanceMethod yX7_measureSequence, Cond.selects RX7 yX7_measureSequence yX7_measureSequence, Cond.code yX7_measureSequence cX7_measureSequence 5 none, Cond.fieldLink RX7 25 "BitNotationModel" "additions" "[I", Cond.methodLink RX7 92 yX7_optionals, Cond.instanceMethod yX7_optionals, Cond.selects RX7 yX7_optionals yX7_optionals, Cond.code yX7_optionals cX7_optionals 4 (some .int), Cond.methodLink RX7 88 yX7_isOptional, Cond.instanceMethod yX7_isOptional, Cond.selects RX7 yX7_isOptional yX7_isOptional, Cond.code yX7_isOptional cX7_isOptional 3 (some .boolean), Cond.methodLink RX7 95 yX7_partOf, Cond.instanceMethod yX7_partOf, Cond.selects RX7 yX7_partOf yX7_partOf, Cond.code yX7_partOf cX7_partOf 3 (some .int), Cond.methodLink RX7 106 yX7_measureChoice, Cond.instanceMethod yX7_measureChoice, Cond.selects RX7 yX7_measureChoice yX7_measureChoice, Cond.code yX7_measureChoice cX7_measureChoice 7 none, Cond.methodLink RX7 99 yX7_widthOf, Cond.instanceMethod yX7_widthOf]
def wsX7_addSequence_r3 : List Cond := [Cond.selects RX7 yX7_widthOf yX7_widthOf, Cond.code yX7_widthOf cX7_widthOf 2 (some .int), Cond.methodLink RX7 84 yX7_width, Cond.static yX7_width, Cond.code yX7_width cX7_width 2 (some .int), Cond.methodLink RX7 109 yX7_refused, Cond.instanceMethod yX7_refused, Cond.selects RX7 yX7_refused yX7_refused, Cond.code yX7_refused cX7_refused 2 (some .boolean), Cond.fieldLink RX7 73 "BitNotationModel" "refusal" "I"]
def wsX7_addSequence : List Cond := .code yX7_addSequence cX7_addSequence 1 (some .int) :: ((wsX7_addSequence_r1 ++ (wsX7_addSequence_r2 ++ wsX7_addSequence_r3)) ++ wsX70)
def wsX7_addChoice_r1 : List Cond := [Cond.methodLink RX7 126 yX7_addDraft, Cond.instanceMethod yX7_addDraft, Cond.selects RX7 yX7_addDraft yX7_addDraft, Cond.initialized RX7, Cond.code yX7_addDraft cX7_addDraft 4 (some .int), Cond.fieldLink RX7 123 "BitNotationModel" "drafted" "I", Cond.fieldLink RX7 77 "BitNotationModel" "types" "I", Cond.fieldLink RX7 19 "BitNotationModel" "parts" "[I", Cond.fieldLink RX7 40 "BitNotationModel" "draft" "[I", Cond.methodLink RX7 113 yX7_lay, Cond.instanceMethod yX7_lay, Cond.selects RX7 yX7_lay yX7_lay, Cond.code yX7_lay cX7_lay 5 none, Cond.fieldLink RX7 7 "BitNotationModel" "kinds" "[I", Cond.fieldLink RX7 13 "BitNotationModel" "leasts" "[I", Cond.fieldLink RX7 16 "BitNotationModel" "greatests" "[I", Cond.fieldLink RX7 22 "BitNotationModel" "counts" "[I", Cond.fieldLink RX7 28 "BitNotationModel" "added" "[I", Cond.methodLink RX7 117 yX7_measure, Cond.instanceMethod yX7_measure, Cond.selects RX7 yX7_measure yX7_measure, Cond.code yX7_measure cX7_measure 4 (some .boolean), Cond.fieldLink RX7 31 "BitNotationModel" "low" "[I", Cond.fieldLink RX7 34 "BitNotationModel" "high" "[I"]
def wsX7_addChoice_r2 : List Cond := [Cond.fieldLink RX7 37 "BitNotationModel" "longest" "[I", Cond.methodLink RX7 102 yX7_measureSequence, Cond.instanceMethod yX7_measureSequence, Cond.selects RX7 yX7_measureSequence yX7_measureSequence, Cond.code yX7_measureSequence cX7_measureSequence 5 none, Cond.fieldLink RX7 25 "BitNotationModel" "additions" "[I", Cond.methodLink RX7 92 yX7_optionals, Cond.instanceMethod yX7_optionals, Cond.selects RX7 yX7_optionals yX7_optionals, Cond.code yX7_optionals cX7_optionals 4 (some .int), Cond.methodLink RX7 88 yX7_isOptional, Cond.instanceMethod yX7_isOptional, Cond.selects RX7 yX7_isOptional yX7_isOptional, Cond.code yX7_isOptional cX7_isOptional 3 (some .boolean), Cond.methodLink RX7 95 yX7_partOf, Cond.instanceMethod yX7_partOf, Cond.selects RX7 yX7_partOf yX7_partOf, Cond.code yX7_partOf cX7_partOf 3 (some .int), Cond.methodLink RX7 106 yX7_measureChoice, Cond.instanceMethod yX7_measureChoice, Cond.selects RX7 yX7_measureChoice yX7_measureChoice, Cond.code yX7_measureChoice cX7_measureChoice 7 none, Cond.methodLink RX7 99 yX7_widthOf, Cond.instanceMethod yX7_widthOf]
def wsX7_addChoice_r3 : List Cond := [Cond.selects RX7 yX7_widthOf yX7_widthOf, Cond.code yX7_widthOf cX7_widthOf 2 (some .int), Cond.methodLink RX7 84 yX7_width, Cond.static yX7_width, Cond.code yX7_width cX7_width 2 (some .int), Cond.methodLink RX7 109 yX7_refused, Cond.instanceMethod yX7_refused, Cond.selects RX7 yX7_refused yX7_refused, Cond.code yX7_refused cX7_refused 2 (some .boolean), Cond.fieldLink RX7 73 "BitNotationModel" "refusal" "I"]
def wsX7_addChoice : List Cond := .code yX7_addChoice cX7_addChoice 1 (some .int) :: ((wsX7_addChoice_r1 ++ (wsX7_addChoice_r2 ++ wsX7_addChoice_r3)) ++ wsX70)
def wsX7_measureAll_r1 : List Cond := [Cond.fieldLink RX7 77 "BitNotationModel" "types" "I", Cond.methodLink RX7 117 yX7_measure, Cond.instanceMethod yX7_measure, Cond.selects RX7 yX7_measure yX7_measure, Cond.initialized RX7, Cond.code yX7_measure cX7_measure 4 (some .boolean), Cond.fieldLink RX7 7 "BitNotationModel" "kinds" "[I", Cond.fieldLink RX7 31 "BitNotationModel" "low" "[I", Cond.fieldLink RX7 13 "BitNotationModel" "leasts" "[I", Cond.fieldLink RX7 34 "BitNotationModel" "high" "[I", Cond.fieldLink RX7 16 "BitNotationModel" "greatests" "[I", Cond.fieldLink RX7 37 "BitNotationModel" "longest" "[I", Cond.methodLink RX7 102 yX7_measureSequence, Cond.instanceMethod yX7_measureSequence, Cond.selects RX7 yX7_measureSequence yX7_measureSequence, Cond.code yX7_measureSequence cX7_measureSequence 5 none, Cond.fieldLink RX7 28 "BitNotationModel" "added" "[I", Cond.fieldLink RX7 22 "BitNotationModel" "counts" "[I", Cond.fieldLink RX7 25 "BitNotationModel" "additions" "[I", Cond.methodLink RX7 92 yX7_optionals, Cond.instanceMethod yX7_optionals, Cond.selects RX7 yX7_optionals yX7_optionals, Cond.code yX7_optionals cX7_optionals 4 (some .int), Cond.methodLink RX7 88 yX7_isOptional]
def wsX7_measureAll_r2 : List Cond := [Cond.instanceMethod yX7_isOptional, Cond.selects RX7 yX7_isOptional yX7_isOptional, Cond.code yX7_isOptional cX7_isOptional 3 (some .boolean), Cond.fieldLink RX7 19 "BitNotationModel" "parts" "[I", Cond.methodLink RX7 95 yX7_partOf, Cond.instanceMethod yX7_partOf, Cond.selects RX7 yX7_partOf yX7_partOf, Cond.code yX7_partOf cX7_partOf 3 (some .int), Cond.methodLink RX7 106 yX7_measureChoice, Cond.instanceMethod yX7_measureChoice, Cond.selects RX7 yX7_measureChoice yX7_measureChoice, Cond.code yX7_measureChoice cX7_measureChoice 7 none, Cond.methodLink RX7 99 yX7_widthOf, Cond.instanceMethod yX7_widthOf, Cond.selects RX7 yX7_widthOf yX7_widthOf, Cond.code yX7_widthOf cX7_widthOf 2 (some .int), Cond.methodLink RX7 84 yX7_width, Cond.static yX7_width, Cond.code yX7_width cX7_width 2 (some .int)]
def wsX7_measureAll : List Cond := .code yX7_measureAll cX7_measureAll 3 (some .boolean) :: ((wsX7_measureAll_r1 ++ wsX7_measureAll_r2) ++ wsX70)
def wsX7_extend_r1 : List Cond := [Cond.fieldLink RX7 7 "BitNotationModel" "kinds" "[I", Cond.fieldLink RX7 28 "BitNotationModel" "added" "[I", Cond.fieldLink RX7 25 "BitNotationModel" "additions" "[I", Cond.methodLink RX7 120 yX7_isType, Cond.instanceMethod yX7_isType, Cond.selects RX7 yX7_isType yX7_isType, Cond.initialized RX7, Cond.code yX7_isType cX7_isType 2 (some .boolean), Cond.fieldLink RX7 77 "BitNotationModel" "types" "I", Cond.methodLink RX7 80 yX7_in, Cond.static yX7_in, Cond.code yX7_in cX7_in 3 (some .boolean), Cond.methodLink RX7 129 yX7_measureAll, Cond.instanceMethod yX7_measureAll, Cond.selects RX7 yX7_measureAll yX7_measureAll, Cond.code yX7_measureAll cX7_measureAll 3 (some .boolean), Cond.methodLink RX7 117 yX7_measure, Cond.instanceMethod yX7_measure, Cond.selects RX7 yX7_measure yX7_measure, Cond.code yX7_measure cX7_measure 4 (some .boolean), Cond.fieldLink RX7 31 "BitNotationModel" "low" "[I", Cond.fieldLink RX7 13 "BitNotationModel" "leasts" "[I", Cond.fieldLink RX7 34 "BitNotationModel" "high" "[I", Cond.fieldLink RX7 16 "BitNotationModel" "greatests" "[I"]
def wsX7_extend_r2 : List Cond := [Cond.fieldLink RX7 37 "BitNotationModel" "longest" "[I", Cond.methodLink RX7 102 yX7_measureSequence, Cond.instanceMethod yX7_measureSequence, Cond.selects RX7 yX7_measureSequence yX7_measureSequence, Cond.code yX7_measureSequence cX7_measureSequence 5 none, Cond.fieldLink RX7 22 "BitNotationModel" "counts" "[I", Cond.methodLink RX7 92 yX7_optionals, Cond.instanceMethod yX7_optionals, Cond.selects RX7 yX7_optionals yX7_optionals, Cond.code yX7_optionals cX7_optionals 4 (some .int), Cond.methodLink RX7 88 yX7_isOptional, Cond.instanceMethod yX7_isOptional, Cond.selects RX7 yX7_isOptional yX7_isOptional, Cond.code yX7_isOptional cX7_isOptional 3 (some .boolean), Cond.fieldLink RX7 19 "BitNotationModel" "parts" "[I", Cond.methodLink RX7 95 yX7_partOf, Cond.instanceMethod yX7_partOf, Cond.selects RX7 yX7_partOf yX7_partOf, Cond.code yX7_partOf cX7_partOf 3 (some .int), Cond.methodLink RX7 106 yX7_measureChoice, Cond.instanceMethod yX7_measureChoice, Cond.selects RX7 yX7_measureChoice yX7_measureChoice, Cond.code yX7_measureChoice cX7_measureChoice 7 none, Cond.methodLink RX7 99 yX7_widthOf]
def wsX7_extend_r3 : List Cond := [Cond.instanceMethod yX7_widthOf, Cond.selects RX7 yX7_widthOf yX7_widthOf, Cond.code yX7_widthOf cX7_widthOf 2 (some .int), Cond.methodLink RX7 84 yX7_width, Cond.static yX7_width, Cond.code yX7_width cX7_width 2 (some .int), Cond.methodLink RX7 109 yX7_refused, Cond.instanceMethod yX7_refused, Cond.selects RX7 yX7_refused yX7_refused, Cond.code yX7_refused cX7_refused 2 (some .boolean), Cond.fieldLink RX7 73 "BitNotationModel" "refusal" "I"]
def wsX7_extend : List Cond := .code yX7_extend cX7_extend 6 (some .int) :: ((wsX7_extend_r1 ++ (wsX7_extend_r2 ++ wsX7_extend_r3)) ++ wsX70)
def wsX7_types : List Cond := .code yX7_types cX7_types 1 (some .int) :: ([.fieldLink RX7 77 "BitNotationModel" "types" "I", .methodLink RX7 133 yX7_fine, .instanceMethod yX7_fine, .selects RX7 yX7_fine yX7_fine, .initialized RX7, .code yX7_fine cX7_fine 2 (some .int), .fieldLink RX7 73 "BitNotationModel" "refusal" "I"] ++ wsX70)
def wsX7_noType : List Cond := .code yX7_noType cX7_noType 2 (some .boolean) :: ([.methodLink RX7 120 yX7_isType, .instanceMethod yX7_isType, .selects RX7 yX7_isType yX7_isType, .initialized RX7, .code yX7_isType cX7_isType 2 (some .boolean), .fieldLink RX7 77 "BitNotationModel" "types" "I", .methodLink RX7 80 yX7_in, .static yX7_in, .code yX7_in cX7_in 3 (some .boolean), .methodLink RX7 109 yX7_refused, .instanceMethod yX7_refused, .selects RX7 yX7_refused yX7_refused, .code yX7_refused cX7_refused 2 (some .boolean), .fieldLink RX7 73 "BitNotationModel" "refusal" "I"] ++ wsX70)
def wsX7_leastBits : List Cond := .code yX7_leastBits cX7_leastBits 2 (some .int) :: ([.fieldLink RX7 31 "BitNotationModel" "low" "[I", .methodLink RX7 136 yX7_noType, .instanceMethod yX7_noType, .selects RX7 yX7_noType yX7_noType, .initialized RX7, .code yX7_noType cX7_noType 2 (some .boolean), .methodLink RX7 120 yX7_isType, .instanceMethod yX7_isType, .selects RX7 yX7_isType yX7_isType, .code yX7_isType cX7_isType 2 (some .boolean), .fieldLink RX7 77 "BitNotationModel" "types" "I", .methodLink RX7 80 yX7_in, .static yX7_in, .code yX7_in cX7_in 3 (some .boolean), .methodLink RX7 109 yX7_refused, .instanceMethod yX7_refused, .selects RX7 yX7_refused yX7_refused, .code yX7_refused cX7_refused 2 (some .boolean), .fieldLink RX7 73 "BitNotationModel" "refusal" "I"] ++ wsX70)
def wsX7_mostBits : List Cond := .code yX7_mostBits cX7_mostBits 2 (some .int) :: ([.fieldLink RX7 34 "BitNotationModel" "high" "[I", .methodLink RX7 136 yX7_noType, .instanceMethod yX7_noType, .selects RX7 yX7_noType yX7_noType, .initialized RX7, .code yX7_noType cX7_noType 2 (some .boolean), .methodLink RX7 120 yX7_isType, .instanceMethod yX7_isType, .selects RX7 yX7_isType yX7_isType, .code yX7_isType cX7_isType 2 (some .boolean), .fieldLink RX7 77 "BitNotationModel" "types" "I", .methodLink RX7 80 yX7_in, .static yX7_in, .code yX7_in cX7_in 3 (some .boolean), .methodLink RX7 109 yX7_refused, .instanceMethod yX7_refused, .selects RX7 yX7_refused yX7_refused, .code yX7_refused cX7_refused 2 (some .boolean), .fieldLink RX7 73 "BitNotationModel" "refusal" "I"] ++ wsX70)
def wsX7_tell : List Cond := .code yX7_tell cX7_tell 2 (some .int) :: ([.fieldLink RX7 139 "BitNotationModel" "told" "I", .fieldLink RX7 43 "BitNotationModel" "tale" "[I", .methodLink RX7 80 yX7_in, .static yX7_in, .initialized RX7, .code yX7_in cX7_in 3 (some .boolean), .methodLink RX7 109 yX7_refused, .instanceMethod yX7_refused, .selects RX7 yX7_refused yX7_refused, .code yX7_refused cX7_refused 2 (some .boolean), .fieldLink RX7 73 "BitNotationModel" "refusal" "I"] ++ wsX70)
def wsX7_forget : List Cond := .code yX7_forget cX7_forget 2 (some .int) :: ([.fieldLink RX7 139 "BitNotationModel" "told" "I", .methodLink RX7 133 yX7_fine, .instanceMethod yX7_fine, .selects RX7 yX7_fine yX7_fine, .initialized RX7, .code yX7_fine cX7_fine 2 (some .int), .fieldLink RX7 73 "BitNotationModel" "refusal" "I"] ++ wsX70)
def wsX7_length : List Cond := .code yX7_length cX7_length 1 (some .int) :: ([.fieldLink RX7 139 "BitNotationModel" "told" "I", .methodLink RX7 133 yX7_fine, .instanceMethod yX7_fine, .selects RX7 yX7_fine yX7_fine, .initialized RX7, .code yX7_fine cX7_fine 2 (some .int), .fieldLink RX7 73 "BitNotationModel" "refusal" "I"] ++ wsX70)
def wsX7_told : List Cond := .code yX7_told cX7_told 2 (some .int) :: ([.fieldLink RX7 139 "BitNotationModel" "told" "I", .fieldLink RX7 43 "BitNotationModel" "tale" "[I", .methodLink RX7 80 yX7_in, .static yX7_in, .initialized RX7, .code yX7_in cX7_in 3 (some .boolean), .methodLink RX7 109 yX7_refused, .instanceMethod yX7_refused, .selects RX7 yX7_refused yX7_refused, .code yX7_refused cX7_refused 2 (some .boolean), .fieldLink RX7 73 "BitNotationModel" "refusal" "I"] ++ wsX70)
def wsX7_push : List Cond := .code yX7_push cX7_push 2 none :: ([.fieldLink RX7 52 "BitNotationModel" "piled" "[I", .fieldLink RX7 142 "BitNotationModel" "depth" "I", .fieldLink RX7 55 "BitNotationModel" "steps" "[I", .fieldLink RX7 64 "BitNotationModel" "marks" "[I"] ++ wsX70)
def wsX7_emit : List Cond := .code yX7_emit cX7_emit 5 none :: ([.fieldLink RX7 46 "BitNotationModel" "row" "[I", .fieldLink RX7 145 "BitNotationModel" "written" "I"] ++ wsX70)
def wsX7_isWrong : List Cond := .code yX7_isWrong cX7_isWrong 4 (some .boolean) :: ([.fieldLink RX7 148 "BitNotationModel" "place" "I", .fieldLink RX7 139 "BitNotationModel" "told" "I", .fieldLink RX7 43 "BitNotationModel" "tale" "[I", .fieldLink RX7 151 "BitNotationModel" "fault" "I", .methodLink RX7 80 yX7_in, .static yX7_in, .initialized RX7, .code yX7_in cX7_in 3 (some .boolean)] ++ wsX70)
def wsX7_headOfTale_r1 : List Cond := [Cond.fieldLink RX7 58 "BitNotationModel" "left" "[I", Cond.fieldLink RX7 22 "BitNotationModel" "counts" "[I", Cond.fieldLink RX7 43 "BitNotationModel" "tale" "[I", Cond.fieldLink RX7 148 "BitNotationModel" "place" "I", Cond.fieldLink RX7 28 "BitNotationModel" "added" "[I", Cond.fieldLink RX7 61 "BitNotationModel" "more" "[I", Cond.methodLink RX7 88 yX7_isOptional, Cond.instanceMethod yX7_isOptional, Cond.selects RX7 yX7_isOptional yX7_isOptional, Cond.initialized RX7, Cond.code yX7_isOptional cX7_isOptional 3 (some .boolean), Cond.fieldLink RX7 19 "BitNotationModel" "parts" "[I", Cond.methodLink RX7 162 yX7_isWrong, Cond.instanceMethod yX7_isWrong, Cond.selects RX7 yX7_isWrong yX7_isWrong, Cond.code yX7_isWrong cX7_isWrong 4 (some .boolean), Cond.fieldLink RX7 139 "BitNotationModel" "told" "I", Cond.fieldLink RX7 151 "BitNotationModel" "fault" "I", Cond.methodLink RX7 80 yX7_in, Cond.static yX7_in, Cond.code yX7_in cX7_in 3 (some .boolean), Cond.methodLink RX7 165 yX7_emit, Cond.instanceMethod yX7_emit, Cond.selects RX7 yX7_emit yX7_emit]
def wsX7_headOfTale_r2 : List Cond := [Cond.code yX7_emit cX7_emit 5 none, Cond.fieldLink RX7 46 "BitNotationModel" "row" "[I", Cond.fieldLink RX7 145 "BitNotationModel" "written" "I"]
def wsX7_headOfTale : List Cond := .code yX7_headOfTale cX7_headOfTale 6 (some .boolean) :: ((wsX7_headOfTale_r1 ++ wsX7_headOfTale_r2) ++ wsX70)
def wsX7_sequenceOfTale : List Cond := .code yX7_sequenceOfTale cX7_sequenceOfTale 6 (some .boolean) :: ([.fieldLink RX7 64 "BitNotationModel" "marks" "[I", .fieldLink RX7 46 "BitNotationModel" "row" "[I", .fieldLink RX7 145 "BitNotationModel" "written" "I", .fieldLink RX7 22 "BitNotationModel" "counts" "[I", .fieldLink RX7 58 "BitNotationModel" "left" "[I", .fieldLink RX7 61 "BitNotationModel" "more" "[I", .fieldLink RX7 142 "BitNotationModel" "depth" "I", .fieldLink RX7 25 "BitNotationModel" "additions" "[I", .methodLink RX7 95 yX7_partOf, .instanceMethod yX7_partOf, .selects RX7 yX7_partOf yX7_partOf, .initialized RX7, .code yX7_partOf cX7_partOf 3 (some .int), .fieldLink RX7 19 "BitNotationModel" "parts" "[I", .methodLink RX7 169 yX7_push, .instanceMethod yX7_push, .selects RX7 yX7_push yX7_push, .code yX7_push cX7_push 2 none, .fieldLink RX7 52 "BitNotationModel" "piled" "[I", .fieldLink RX7 55 "BitNotationModel" "steps" "[I", .methodLink RX7 165 yX7_emit, .instanceMethod yX7_emit, .selects RX7 yX7_emit yX7_emit, .code yX7_emit cX7_emit 5 none] ++ wsX70)
def wsX7_goOverTale_r1 : List Cond := [Cond.fieldLink RX7 142 "BitNotationModel" "depth" "I", Cond.fieldLink RX7 52 "BitNotationModel" "piled" "[I", Cond.fieldLink RX7 55 "BitNotationModel" "steps" "[I", Cond.fieldLink RX7 7 "BitNotationModel" "kinds" "[I", Cond.fieldLink RX7 13 "BitNotationModel" "leasts" "[I", Cond.fieldLink RX7 22 "BitNotationModel" "counts" "[I", Cond.fieldLink RX7 16 "BitNotationModel" "greatests" "[I", Cond.fieldLink RX7 58 "BitNotationModel" "left" "[I", Cond.fieldLink RX7 43 "BitNotationModel" "tale" "[I", Cond.fieldLink RX7 148 "BitNotationModel" "place" "I", Cond.methodLink RX7 154 yX7_headOfTale, Cond.instanceMethod yX7_headOfTale, Cond.selects RX7 yX7_headOfTale yX7_headOfTale, Cond.initialized RX7, Cond.code yX7_headOfTale cX7_headOfTale 6 (some .boolean), Cond.fieldLink RX7 28 "BitNotationModel" "added" "[I", Cond.fieldLink RX7 61 "BitNotationModel" "more" "[I", Cond.methodLink RX7 88 yX7_isOptional, Cond.instanceMethod yX7_isOptional, Cond.selects RX7 yX7_isOptional yX7_isOptional, Cond.code yX7_isOptional cX7_isOptional 3 (some .boolean), Cond.fieldLink RX7 19 "BitNotationModel" "parts" "[I", Cond.methodLink RX7 162 yX7_isWrong, Cond.instanceMethod yX7_isWrong]
def wsX7_goOverTale_r2 : List Cond := [Cond.selects RX7 yX7_isWrong yX7_isWrong, Cond.code yX7_isWrong cX7_isWrong 4 (some .boolean), Cond.fieldLink RX7 139 "BitNotationModel" "told" "I", Cond.fieldLink RX7 151 "BitNotationModel" "fault" "I", Cond.methodLink RX7 80 yX7_in, Cond.static yX7_in, Cond.code yX7_in cX7_in 3 (some .boolean), Cond.methodLink RX7 165 yX7_emit, Cond.instanceMethod yX7_emit, Cond.selects RX7 yX7_emit yX7_emit, Cond.code yX7_emit cX7_emit 5 none, Cond.fieldLink RX7 46 "BitNotationModel" "row" "[I", Cond.fieldLink RX7 145 "BitNotationModel" "written" "I", Cond.methodLink RX7 158 yX7_sequenceOfTale, Cond.instanceMethod yX7_sequenceOfTale, Cond.selects RX7 yX7_sequenceOfTale yX7_sequenceOfTale, Cond.code yX7_sequenceOfTale cX7_sequenceOfTale 6 (some .boolean), Cond.fieldLink RX7 64 "BitNotationModel" "marks" "[I", Cond.fieldLink RX7 25 "BitNotationModel" "additions" "[I", Cond.methodLink RX7 95 yX7_partOf, Cond.instanceMethod yX7_partOf, Cond.selects RX7 yX7_partOf yX7_partOf, Cond.code yX7_partOf cX7_partOf 3 (some .int), Cond.methodLink RX7 169 yX7_push]
def wsX7_goOverTale_r3 : List Cond := [Cond.instanceMethod yX7_push, Cond.selects RX7 yX7_push yX7_push, Cond.code yX7_push cX7_push 2 none, Cond.methodLink RX7 99 yX7_widthOf, Cond.instanceMethod yX7_widthOf, Cond.selects RX7 yX7_widthOf yX7_widthOf, Cond.code yX7_widthOf cX7_widthOf 2 (some .int), Cond.methodLink RX7 84 yX7_width, Cond.static yX7_width, Cond.code yX7_width cX7_width 2 (some .int)]
def wsX7_goOverTale : List Cond := .code yX7_goOverTale cX7_goOverTale 7 (some .boolean) :: ((wsX7_goOverTale_r1 ++ (wsX7_goOverTale_r2 ++ wsX7_goOverTale_r3)) ++ wsX70)
def wsX7_walk_r1 : List Cond := [Cond.fieldLink RX7 142 "BitNotationModel" "depth" "I", Cond.fieldLink RX7 148 "BitNotationModel" "place" "I", Cond.fieldLink RX7 151 "BitNotationModel" "fault" "I", Cond.fieldLink RX7 139 "BitNotationModel" "told" "I", Cond.methodLink RX7 169 yX7_push, Cond.instanceMethod yX7_push, Cond.selects RX7 yX7_push yX7_push, Cond.initialized RX7, Cond.code yX7_push cX7_push 2 none, Cond.fieldLink RX7 52 "BitNotationModel" "piled" "[I", Cond.fieldLink RX7 55 "BitNotationModel" "steps" "[I", Cond.fieldLink RX7 64 "BitNotationModel" "marks" "[I", Cond.methodLink RX7 172 yX7_goOverTale, Cond.instanceMethod yX7_goOverTale, Cond.selects RX7 yX7_goOverTale yX7_goOverTale, Cond.code yX7_goOverTale cX7_goOverTale 7 (some .boolean), Cond.fieldLink RX7 7 "BitNotationModel" "kinds" "[I", Cond.fieldLink RX7 13 "BitNotationModel" "leasts" "[I", Cond.fieldLink RX7 22 "BitNotationModel" "counts" "[I", Cond.fieldLink RX7 16 "BitNotationModel" "greatests" "[I", Cond.fieldLink RX7 58 "BitNotationModel" "left" "[I", Cond.fieldLink RX7 43 "BitNotationModel" "tale" "[I", Cond.methodLink RX7 154 yX7_headOfTale, Cond.instanceMethod yX7_headOfTale]
def wsX7_walk_r2 : List Cond := [Cond.selects RX7 yX7_headOfTale yX7_headOfTale, Cond.code yX7_headOfTale cX7_headOfTale 6 (some .boolean), Cond.fieldLink RX7 28 "BitNotationModel" "added" "[I", Cond.fieldLink RX7 61 "BitNotationModel" "more" "[I", Cond.methodLink RX7 88 yX7_isOptional, Cond.instanceMethod yX7_isOptional, Cond.selects RX7 yX7_isOptional yX7_isOptional, Cond.code yX7_isOptional cX7_isOptional 3 (some .boolean), Cond.fieldLink RX7 19 "BitNotationModel" "parts" "[I", Cond.methodLink RX7 162 yX7_isWrong, Cond.instanceMethod yX7_isWrong, Cond.selects RX7 yX7_isWrong yX7_isWrong, Cond.code yX7_isWrong cX7_isWrong 4 (some .boolean), Cond.methodLink RX7 80 yX7_in, Cond.static yX7_in, Cond.code yX7_in cX7_in 3 (some .boolean), Cond.methodLink RX7 165 yX7_emit, Cond.instanceMethod yX7_emit, Cond.selects RX7 yX7_emit yX7_emit, Cond.code yX7_emit cX7_emit 5 none, Cond.fieldLink RX7 46 "BitNotationModel" "row" "[I", Cond.fieldLink RX7 145 "BitNotationModel" "written" "I", Cond.methodLink RX7 158 yX7_sequenceOfTale, Cond.instanceMethod yX7_sequenceOfTale]
def wsX7_walk_r3 : List Cond := [Cond.selects RX7 yX7_sequenceOfTale yX7_sequenceOfTale, Cond.code yX7_sequenceOfTale cX7_sequenceOfTale 6 (some .boolean), Cond.fieldLink RX7 25 "BitNotationModel" "additions" "[I", Cond.methodLink RX7 95 yX7_partOf, Cond.instanceMethod yX7_partOf, Cond.selects RX7 yX7_partOf yX7_partOf, Cond.code yX7_partOf cX7_partOf 3 (some .int), Cond.methodLink RX7 99 yX7_widthOf, Cond.instanceMethod yX7_widthOf, Cond.selects RX7 yX7_widthOf yX7_widthOf, Cond.code yX7_widthOf cX7_widthOf 2 (some .int), Cond.methodLink RX7 84 yX7_width, Cond.static yX7_width, Cond.code yX7_width cX7_width 2 (some .int)]
def wsX7_walk : List Cond := .code yX7_walk cX7_walk 4 (some .int) :: ((wsX7_walk_r1 ++ (wsX7_walk_r2 ++ wsX7_walk_r3)) ++ wsX70)
def wsX7_wrongAt_r1 : List Cond := [Cond.methodLink RX7 136 yX7_noType, Cond.instanceMethod yX7_noType, Cond.selects RX7 yX7_noType yX7_noType, Cond.initialized RX7, Cond.code yX7_noType cX7_noType 2 (some .boolean), Cond.methodLink RX7 120 yX7_isType, Cond.instanceMethod yX7_isType, Cond.selects RX7 yX7_isType yX7_isType, Cond.code yX7_isType cX7_isType 2 (some .boolean), Cond.fieldLink RX7 77 "BitNotationModel" "types" "I", Cond.methodLink RX7 80 yX7_in, Cond.static yX7_in, Cond.code yX7_in cX7_in 3 (some .boolean), Cond.methodLink RX7 109 yX7_refused, Cond.instanceMethod yX7_refused, Cond.selects RX7 yX7_refused yX7_refused, Cond.code yX7_refused cX7_refused 2 (some .boolean), Cond.fieldLink RX7 73 "BitNotationModel" "refusal" "I", Cond.methodLink RX7 176 yX7_walk, Cond.instanceMethod yX7_walk, Cond.selects RX7 yX7_walk yX7_walk, Cond.code yX7_walk cX7_walk 4 (some .int), Cond.fieldLink RX7 142 "BitNotationModel" "depth" "I", Cond.fieldLink RX7 148 "BitNotationModel" "place" "I"]
def wsX7_wrongAt_r2 : List Cond := [Cond.fieldLink RX7 151 "BitNotationModel" "fault" "I", Cond.fieldLink RX7 139 "BitNotationModel" "told" "I", Cond.methodLink RX7 169 yX7_push, Cond.instanceMethod yX7_push, Cond.selects RX7 yX7_push yX7_push, Cond.code yX7_push cX7_push 2 none, Cond.fieldLink RX7 52 "BitNotationModel" "piled" "[I", Cond.fieldLink RX7 55 "BitNotationModel" "steps" "[I", Cond.fieldLink RX7 64 "BitNotationModel" "marks" "[I", Cond.methodLink RX7 172 yX7_goOverTale, Cond.instanceMethod yX7_goOverTale, Cond.selects RX7 yX7_goOverTale yX7_goOverTale, Cond.code yX7_goOverTale cX7_goOverTale 7 (some .boolean), Cond.fieldLink RX7 7 "BitNotationModel" "kinds" "[I", Cond.fieldLink RX7 13 "BitNotationModel" "leasts" "[I", Cond.fieldLink RX7 22 "BitNotationModel" "counts" "[I", Cond.fieldLink RX7 16 "BitNotationModel" "greatests" "[I", Cond.fieldLink RX7 58 "BitNotationModel" "left" "[I", Cond.fieldLink RX7 43 "BitNotationModel" "tale" "[I", Cond.methodLink RX7 154 yX7_headOfTale, Cond.instanceMethod yX7_headOfTale, Cond.selects RX7 yX7_headOfTale yX7_headOfTale, Cond.code yX7_headOfTale cX7_headOfTale 6 (some .boolean), Cond.fieldLink RX7 28 "BitNotationModel" "added" "[I"]
def wsX7_wrongAt_r3 : List Cond := [Cond.fieldLink RX7 61 "BitNotationModel" "more" "[I", Cond.methodLink RX7 88 yX7_isOptional, Cond.instanceMethod yX7_isOptional, Cond.selects RX7 yX7_isOptional yX7_isOptional, Cond.code yX7_isOptional cX7_isOptional 3 (some .boolean), Cond.fieldLink RX7 19 "BitNotationModel" "parts" "[I", Cond.methodLink RX7 162 yX7_isWrong, Cond.instanceMethod yX7_isWrong, Cond.selects RX7 yX7_isWrong yX7_isWrong, Cond.code yX7_isWrong cX7_isWrong 4 (some .boolean), Cond.methodLink RX7 165 yX7_emit, Cond.instanceMethod yX7_emit, Cond.selects RX7 yX7_emit yX7_emit, Cond.code yX7_emit cX7_emit 5 none, Cond.fieldLink RX7 46 "BitNotationModel" "row" "[I", Cond.fieldLink RX7 145 "BitNotationModel" "written" "I", Cond.methodLink RX7 158 yX7_sequenceOfTale, Cond.instanceMethod yX7_sequenceOfTale, Cond.selects RX7 yX7_sequenceOfTale yX7_sequenceOfTale, Cond.code yX7_sequenceOfTale cX7_sequenceOfTale 6 (some .boolean), Cond.fieldLink RX7 25 "BitNotationModel" "additions" "[I", Cond.methodLink RX7 95 yX7_partOf, Cond.instanceMethod yX7_partOf, Cond.selects RX7 yX7_partOf yX7_partOf]
def wsX7_wrongAt_r4 : List Cond := [Cond.code yX7_partOf cX7_partOf 3 (some .int), Cond.methodLink RX7 99 yX7_widthOf, Cond.instanceMethod yX7_widthOf, Cond.selects RX7 yX7_widthOf yX7_widthOf, Cond.code yX7_widthOf cX7_widthOf 2 (some .int), Cond.methodLink RX7 84 yX7_width, Cond.static yX7_width, Cond.code yX7_width cX7_width 2 (some .int)]
def wsX7_wrongAt : List Cond := .code yX7_wrongAt cX7_wrongAt 2 (some .int) :: ((wsX7_wrongAt_r1 ++ (wsX7_wrongAt_r2 ++ (wsX7_wrongAt_r3 ++ wsX7_wrongAt_r4))) ++ wsX70)
def wsX7_write_r1 : List Cond := [Cond.fieldLink RX7 145 "BitNotationModel" "written" "I", Cond.methodLink RX7 120 yX7_isType, Cond.instanceMethod yX7_isType, Cond.selects RX7 yX7_isType yX7_isType, Cond.initialized RX7, Cond.code yX7_isType cX7_isType 2 (some .boolean), Cond.fieldLink RX7 77 "BitNotationModel" "types" "I", Cond.methodLink RX7 80 yX7_in, Cond.static yX7_in, Cond.code yX7_in cX7_in 3 (some .boolean), Cond.methodLink RX7 176 yX7_walk, Cond.instanceMethod yX7_walk, Cond.selects RX7 yX7_walk yX7_walk, Cond.code yX7_walk cX7_walk 4 (some .int), Cond.fieldLink RX7 142 "BitNotationModel" "depth" "I", Cond.fieldLink RX7 148 "BitNotationModel" "place" "I", Cond.fieldLink RX7 151 "BitNotationModel" "fault" "I", Cond.fieldLink RX7 139 "BitNotationModel" "told" "I", Cond.methodLink RX7 169 yX7_push, Cond.instanceMethod yX7_push, Cond.selects RX7 yX7_push yX7_push, Cond.code yX7_push cX7_push 2 none, Cond.fieldLink RX7 52 "BitNotationModel" "piled" "[I", Cond.fieldLink RX7 55 "BitNotationModel" "steps" "[I"]
def wsX7_write_r2 : List Cond := [Cond.fieldLink RX7 64 "BitNotationModel" "marks" "[I", Cond.methodLink RX7 172 yX7_goOverTale, Cond.instanceMethod yX7_goOverTale, Cond.selects RX7 yX7_goOverTale yX7_goOverTale, Cond.code yX7_goOverTale cX7_goOverTale 7 (some .boolean), Cond.fieldLink RX7 7 "BitNotationModel" "kinds" "[I", Cond.fieldLink RX7 13 "BitNotationModel" "leasts" "[I", Cond.fieldLink RX7 22 "BitNotationModel" "counts" "[I", Cond.fieldLink RX7 16 "BitNotationModel" "greatests" "[I", Cond.fieldLink RX7 58 "BitNotationModel" "left" "[I", Cond.fieldLink RX7 43 "BitNotationModel" "tale" "[I", Cond.methodLink RX7 154 yX7_headOfTale, Cond.instanceMethod yX7_headOfTale, Cond.selects RX7 yX7_headOfTale yX7_headOfTale, Cond.code yX7_headOfTale cX7_headOfTale 6 (some .boolean), Cond.fieldLink RX7 28 "BitNotationModel" "added" "[I", Cond.fieldLink RX7 61 "BitNotationModel" "more" "[I", Cond.methodLink RX7 88 yX7_isOptional, Cond.instanceMethod yX7_isOptional, Cond.selects RX7 yX7_isOptional yX7_isOptional, Cond.code yX7_isOptional cX7_isOptional 3 (some .boolean), Cond.fieldLink RX7 19 "BitNotationModel" "parts" "[I", Cond.methodLink RX7 162 yX7_isWrong, Cond.instanceMethod yX7_isWrong]
def wsX7_write_r3 : List Cond := [Cond.selects RX7 yX7_isWrong yX7_isWrong, Cond.code yX7_isWrong cX7_isWrong 4 (some .boolean), Cond.methodLink RX7 165 yX7_emit, Cond.instanceMethod yX7_emit, Cond.selects RX7 yX7_emit yX7_emit, Cond.code yX7_emit cX7_emit 5 none, Cond.fieldLink RX7 46 "BitNotationModel" "row" "[I", Cond.methodLink RX7 158 yX7_sequenceOfTale, Cond.instanceMethod yX7_sequenceOfTale, Cond.selects RX7 yX7_sequenceOfTale yX7_sequenceOfTale, Cond.code yX7_sequenceOfTale cX7_sequenceOfTale 6 (some .boolean), Cond.fieldLink RX7 25 "BitNotationModel" "additions" "[I", Cond.methodLink RX7 95 yX7_partOf, Cond.instanceMethod yX7_partOf, Cond.selects RX7 yX7_partOf yX7_partOf, Cond.code yX7_partOf cX7_partOf 3 (some .int), Cond.methodLink RX7 99 yX7_widthOf, Cond.instanceMethod yX7_widthOf, Cond.selects RX7 yX7_widthOf yX7_widthOf, Cond.code yX7_widthOf cX7_widthOf 2 (some .int), Cond.methodLink RX7 84 yX7_width, Cond.static yX7_width, Cond.code yX7_width cX7_width 2 (some .int), Cond.methodLink RX7 109 yX7_refused]
def wsX7_write_r4 : List Cond := [Cond.instanceMethod yX7_refused, Cond.selects RX7 yX7_refused yX7_refused, Cond.code yX7_refused cX7_refused 2 (some .boolean), Cond.fieldLink RX7 73 "BitNotationModel" "refusal" "I"]
def wsX7_write : List Cond := .code yX7_write cX7_write 2 (some .int) :: ((wsX7_write_r1 ++ (wsX7_write_r2 ++ (wsX7_write_r3 ++ wsX7_write_r4))) ++ wsX70)
def wsX7_bits : List Cond := .code yX7_bits cX7_bits 1 (some .int) :: ([.fieldLink RX7 145 "BitNotationModel" "written" "I", .methodLink RX7 133 yX7_fine, .instanceMethod yX7_fine, .selects RX7 yX7_fine yX7_fine, .initialized RX7, .code yX7_fine cX7_fine 2 (some .int), .fieldLink RX7 73 "BitNotationModel" "refusal" "I"] ++ wsX70)
def wsX7_noBit : List Cond := .code yX7_noBit cX7_noBit 2 (some .boolean) :: ([.fieldLink RX7 145 "BitNotationModel" "written" "I", .methodLink RX7 80 yX7_in, .static yX7_in, .initialized RX7, .code yX7_in cX7_in 3 (some .boolean), .methodLink RX7 109 yX7_refused, .instanceMethod yX7_refused, .selects RX7 yX7_refused yX7_refused, .code yX7_refused cX7_refused 2 (some .boolean), .fieldLink RX7 73 "BitNotationModel" "refusal" "I"] ++ wsX70)
def wsX7_bit : List Cond := .code yX7_bit cX7_bit 2 (some .int) :: ([.fieldLink RX7 46 "BitNotationModel" "row" "[I", .methodLink RX7 180 yX7_noBit, .instanceMethod yX7_noBit, .selects RX7 yX7_noBit yX7_noBit, .initialized RX7, .code yX7_noBit cX7_noBit 2 (some .boolean), .fieldLink RX7 145 "BitNotationModel" "written" "I", .methodLink RX7 80 yX7_in, .static yX7_in, .code yX7_in cX7_in 3 (some .boolean), .methodLink RX7 109 yX7_refused, .instanceMethod yX7_refused, .selects RX7 yX7_refused yX7_refused, .code yX7_refused cX7_refused 2 (some .boolean), .fieldLink RX7 73 "BitNotationModel" "refusal" "I"] ++ wsX70)
def wsX7_flip : List Cond := .code yX7_flip cX7_flip 2 (some .int) :: ([.fieldLink RX7 46 "BitNotationModel" "row" "[I", .methodLink RX7 180 yX7_noBit, .instanceMethod yX7_noBit, .selects RX7 yX7_noBit yX7_noBit, .initialized RX7, .code yX7_noBit cX7_noBit 2 (some .boolean), .fieldLink RX7 145 "BitNotationModel" "written" "I", .methodLink RX7 80 yX7_in, .static yX7_in, .code yX7_in cX7_in 3 (some .boolean), .methodLink RX7 109 yX7_refused, .instanceMethod yX7_refused, .selects RX7 yX7_refused yX7_refused, .code yX7_refused cX7_refused 2 (some .boolean), .fieldLink RX7 73 "BitNotationModel" "refusal" "I"] ++ wsX70)
def wsX7_cut : List Cond := .code yX7_cut cX7_cut 3 (some .int) :: ([.fieldLink RX7 145 "BitNotationModel" "written" "I", .methodLink RX7 80 yX7_in, .static yX7_in, .initialized RX7, .code yX7_in cX7_in 3 (some .boolean), .methodLink RX7 109 yX7_refused, .instanceMethod yX7_refused, .selects RX7 yX7_refused yX7_refused, .code yX7_refused cX7_refused 2 (some .boolean), .fieldLink RX7 73 "BitNotationModel" "refusal" "I"] ++ wsX70)
def wsX7_take : List Cond := .code yX7_take cX7_take 4 (some .int) :: ([.fieldLink RX7 151 "BitNotationModel" "fault" "I", .fieldLink RX7 148 "BitNotationModel" "place" "I", .fieldLink RX7 145 "BitNotationModel" "written" "I", .fieldLink RX7 46 "BitNotationModel" "row" "[I"] ++ wsX70)
def wsX7_takeBelow : List Cond := .code yX7_takeBelow cX7_takeBelow 5 (some .int) :: ([.fieldLink RX7 148 "BitNotationModel" "place" "I", .fieldLink RX7 151 "BitNotationModel" "fault" "I", .methodLink RX7 183 yX7_take, .instanceMethod yX7_take, .selects RX7 yX7_take yX7_take, .initialized RX7, .code yX7_take cX7_take 4 (some .int), .fieldLink RX7 145 "BitNotationModel" "written" "I", .fieldLink RX7 46 "BitNotationModel" "row" "[I"] ++ wsX70)
def wsX7_note : List Cond := .code yX7_note cX7_note 2 none :: ([.fieldLink RX7 49 "BitNotationModel" "read" "[I", .fieldLink RX7 186 "BitNotationModel" "found" "I"] ++ wsX70)
def wsX7_headOfBits : List Cond := .code yX7_headOfBits cX7_headOfBits 6 none :: ([.fieldLink RX7 61 "BitNotationModel" "more" "[I", .fieldLink RX7 58 "BitNotationModel" "left" "[I", .fieldLink RX7 22 "BitNotationModel" "counts" "[I", .fieldLink RX7 70 "BitNotationModel" "slots" "[I", .fieldLink RX7 186 "BitNotationModel" "found" "I", .methodLink RX7 183 yX7_take, .instanceMethod yX7_take, .selects RX7 yX7_take yX7_take, .initialized RX7, .code yX7_take cX7_take 4 (some .int), .fieldLink RX7 151 "BitNotationModel" "fault" "I", .fieldLink RX7 148 "BitNotationModel" "place" "I", .fieldLink RX7 145 "BitNotationModel" "written" "I", .fieldLink RX7 46 "BitNotationModel" "row" "[I", .methodLink RX7 88 yX7_isOptional, .instanceMethod yX7_isOptional, .selects RX7 yX7_isOptional yX7_isOptional, .code yX7_isOptional cX7_isOptional 3 (some .boolean), .fieldLink RX7 19 "BitNotationModel" "parts" "[I", .methodLink RX7 199 yX7_note, .instanceMethod yX7_note, .selects RX7 yX7_note yX7_note, .code yX7_note cX7_note 2 none, .fieldLink RX7 49 "BitNotationModel" "read" "[I"] ++ wsX70)
def wsX7_skip : List Cond := .code yX7_skip cX7_skip 2 none :: ([.fieldLink RX7 151 "BitNotationModel" "fault" "I", .fieldLink RX7 148 "BitNotationModel" "place" "I", .fieldLink RX7 145 "BitNotationModel" "written" "I"] ++ wsX70)
def wsX7_sequenceOfBits_r1 : List Cond := [Cond.fieldLink RX7 64 "BitNotationModel" "marks" "[I", Cond.fieldLink RX7 148 "BitNotationModel" "place" "I", Cond.fieldLink RX7 67 "BitNotationModel" "lengths" "[I", Cond.fieldLink RX7 151 "BitNotationModel" "fault" "I", Cond.fieldLink RX7 22 "BitNotationModel" "counts" "[I", Cond.fieldLink RX7 58 "BitNotationModel" "left" "[I", Cond.fieldLink RX7 61 "BitNotationModel" "more" "[I", Cond.fieldLink RX7 28 "BitNotationModel" "added" "[I", Cond.fieldLink RX7 49 "BitNotationModel" "read" "[I", Cond.fieldLink RX7 70 "BitNotationModel" "slots" "[I", Cond.fieldLink RX7 142 "BitNotationModel" "depth" "I", Cond.fieldLink RX7 25 "BitNotationModel" "additions" "[I", Cond.methodLink RX7 95 yX7_partOf, Cond.instanceMethod yX7_partOf, Cond.selects RX7 yX7_partOf yX7_partOf, Cond.initialized RX7, Cond.code yX7_partOf cX7_partOf 3 (some .int), Cond.fieldLink RX7 19 "BitNotationModel" "parts" "[I", Cond.methodLink RX7 169 yX7_push, Cond.instanceMethod yX7_push, Cond.selects RX7 yX7_push yX7_push, Cond.code yX7_push cX7_push 2 none, Cond.fieldLink RX7 52 "BitNotationModel" "piled" "[I", Cond.fieldLink RX7 55 "BitNotationModel" "steps" "[I"]
def wsX7_sequenceOfBits_r2 : List Cond := [Cond.methodLink RX7 196 yX7_takeBelow, Cond.instanceMethod yX7_takeBelow, Cond.selects RX7 yX7_takeBelow yX7_takeBelow, Cond.code yX7_takeBelow cX7_takeBelow 5 (some .int), Cond.methodLink RX7 183 yX7_take, Cond.instanceMethod yX7_take, Cond.selects RX7 yX7_take yX7_take, Cond.code yX7_take cX7_take 4 (some .int), Cond.fieldLink RX7 145 "BitNotationModel" "written" "I", Cond.fieldLink RX7 46 "BitNotationModel" "row" "[I", Cond.methodLink RX7 202 yX7_skip, Cond.instanceMethod yX7_skip, Cond.selects RX7 yX7_skip yX7_skip, Cond.code yX7_skip cX7_skip 2 none]
def wsX7_sequenceOfBits : List Cond := .code yX7_sequenceOfBits cX7_sequenceOfBits 7 none :: ((wsX7_sequenceOfBits_r1 ++ wsX7_sequenceOfBits_r2) ++ wsX70)
def wsX7_goOverBits_r1 : List Cond := [Cond.fieldLink RX7 142 "BitNotationModel" "depth" "I", Cond.fieldLink RX7 52 "BitNotationModel" "piled" "[I", Cond.fieldLink RX7 55 "BitNotationModel" "steps" "[I", Cond.fieldLink RX7 7 "BitNotationModel" "kinds" "[I", Cond.fieldLink RX7 22 "BitNotationModel" "counts" "[I", Cond.fieldLink RX7 16 "BitNotationModel" "greatests" "[I", Cond.fieldLink RX7 13 "BitNotationModel" "leasts" "[I", Cond.fieldLink RX7 58 "BitNotationModel" "left" "[I", Cond.methodLink RX7 189 yX7_headOfBits, Cond.instanceMethod yX7_headOfBits, Cond.selects RX7 yX7_headOfBits yX7_headOfBits, Cond.initialized RX7, Cond.code yX7_headOfBits cX7_headOfBits 6 none, Cond.fieldLink RX7 61 "BitNotationModel" "more" "[I", Cond.fieldLink RX7 70 "BitNotationModel" "slots" "[I", Cond.fieldLink RX7 186 "BitNotationModel" "found" "I", Cond.methodLink RX7 183 yX7_take, Cond.instanceMethod yX7_take, Cond.selects RX7 yX7_take yX7_take, Cond.code yX7_take cX7_take 4 (some .int), Cond.fieldLink RX7 151 "BitNotationModel" "fault" "I", Cond.fieldLink RX7 148 "BitNotationModel" "place" "I", Cond.fieldLink RX7 145 "BitNotationModel" "written" "I", Cond.fieldLink RX7 46 "BitNotationModel" "row" "[I"]
def wsX7_goOverBits_r2 : List Cond := [Cond.methodLink RX7 88 yX7_isOptional, Cond.instanceMethod yX7_isOptional, Cond.selects RX7 yX7_isOptional yX7_isOptional, Cond.code yX7_isOptional cX7_isOptional 3 (some .boolean), Cond.fieldLink RX7 19 "BitNotationModel" "parts" "[I", Cond.methodLink RX7 199 yX7_note, Cond.instanceMethod yX7_note, Cond.selects RX7 yX7_note yX7_note, Cond.code yX7_note cX7_note 2 none, Cond.fieldLink RX7 49 "BitNotationModel" "read" "[I", Cond.methodLink RX7 193 yX7_sequenceOfBits, Cond.instanceMethod yX7_sequenceOfBits, Cond.selects RX7 yX7_sequenceOfBits yX7_sequenceOfBits, Cond.code yX7_sequenceOfBits cX7_sequenceOfBits 7 none, Cond.fieldLink RX7 64 "BitNotationModel" "marks" "[I", Cond.fieldLink RX7 67 "BitNotationModel" "lengths" "[I", Cond.fieldLink RX7 28 "BitNotationModel" "added" "[I", Cond.fieldLink RX7 25 "BitNotationModel" "additions" "[I", Cond.methodLink RX7 95 yX7_partOf, Cond.instanceMethod yX7_partOf, Cond.selects RX7 yX7_partOf yX7_partOf, Cond.code yX7_partOf cX7_partOf 3 (some .int), Cond.methodLink RX7 169 yX7_push, Cond.instanceMethod yX7_push]
def wsX7_goOverBits_r3 : List Cond := [Cond.selects RX7 yX7_push yX7_push, Cond.code yX7_push cX7_push 2 none, Cond.methodLink RX7 196 yX7_takeBelow, Cond.instanceMethod yX7_takeBelow, Cond.selects RX7 yX7_takeBelow yX7_takeBelow, Cond.code yX7_takeBelow cX7_takeBelow 5 (some .int), Cond.methodLink RX7 202 yX7_skip, Cond.instanceMethod yX7_skip, Cond.selects RX7 yX7_skip yX7_skip, Cond.code yX7_skip cX7_skip 2 none, Cond.methodLink RX7 99 yX7_widthOf, Cond.instanceMethod yX7_widthOf, Cond.selects RX7 yX7_widthOf yX7_widthOf, Cond.code yX7_widthOf cX7_widthOf 2 (some .int), Cond.methodLink RX7 84 yX7_width, Cond.static yX7_width, Cond.code yX7_width cX7_width 2 (some .int)]
def wsX7_goOverBits : List Cond := .code yX7_goOverBits cX7_goOverBits 7 none :: ((wsX7_goOverBits_r1 ++ (wsX7_goOverBits_r2 ++ wsX7_goOverBits_r3)) ++ wsX70)
def wsX7_walkBits_r1 : List Cond := [Cond.fieldLink RX7 142 "BitNotationModel" "depth" "I", Cond.fieldLink RX7 148 "BitNotationModel" "place" "I", Cond.fieldLink RX7 151 "BitNotationModel" "fault" "I", Cond.fieldLink RX7 186 "BitNotationModel" "found" "I", Cond.fieldLink RX7 145 "BitNotationModel" "written" "I", Cond.methodLink RX7 169 yX7_push, Cond.instanceMethod yX7_push, Cond.selects RX7 yX7_push yX7_push, Cond.initialized RX7, Cond.code yX7_push cX7_push 2 none, Cond.fieldLink RX7 52 "BitNotationModel" "piled" "[I", Cond.fieldLink RX7 55 "BitNotationModel" "steps" "[I", Cond.fieldLink RX7 64 "BitNotationModel" "marks" "[I", Cond.methodLink RX7 205 yX7_goOverBits, Cond.instanceMethod yX7_goOverBits, Cond.selects RX7 yX7_goOverBits yX7_goOverBits, Cond.code yX7_goOverBits cX7_goOverBits 7 none, Cond.fieldLink RX7 7 "BitNotationModel" "kinds" "[I", Cond.fieldLink RX7 22 "BitNotationModel" "counts" "[I", Cond.fieldLink RX7 16 "BitNotationModel" "greatests" "[I", Cond.fieldLink RX7 13 "BitNotationModel" "leasts" "[I", Cond.fieldLink RX7 58 "BitNotationModel" "left" "[I", Cond.methodLink RX7 189 yX7_headOfBits, Cond.instanceMethod yX7_headOfBits]
def wsX7_walkBits_r2 : List Cond := [Cond.selects RX7 yX7_headOfBits yX7_headOfBits, Cond.code yX7_headOfBits cX7_headOfBits 6 none, Cond.fieldLink RX7 61 "BitNotationModel" "more" "[I", Cond.fieldLink RX7 70 "BitNotationModel" "slots" "[I", Cond.methodLink RX7 183 yX7_take, Cond.instanceMethod yX7_take, Cond.selects RX7 yX7_take yX7_take, Cond.code yX7_take cX7_take 4 (some .int), Cond.fieldLink RX7 46 "BitNotationModel" "row" "[I", Cond.methodLink RX7 88 yX7_isOptional, Cond.instanceMethod yX7_isOptional, Cond.selects RX7 yX7_isOptional yX7_isOptional, Cond.code yX7_isOptional cX7_isOptional 3 (some .boolean), Cond.fieldLink RX7 19 "BitNotationModel" "parts" "[I", Cond.methodLink RX7 199 yX7_note, Cond.instanceMethod yX7_note, Cond.selects RX7 yX7_note yX7_note, Cond.code yX7_note cX7_note 2 none, Cond.fieldLink RX7 49 "BitNotationModel" "read" "[I", Cond.methodLink RX7 193 yX7_sequenceOfBits, Cond.instanceMethod yX7_sequenceOfBits, Cond.selects RX7 yX7_sequenceOfBits yX7_sequenceOfBits, Cond.code yX7_sequenceOfBits cX7_sequenceOfBits 7 none, Cond.fieldLink RX7 67 "BitNotationModel" "lengths" "[I"]
def wsX7_walkBits_r3 : List Cond := [Cond.fieldLink RX7 28 "BitNotationModel" "added" "[I", Cond.fieldLink RX7 25 "BitNotationModel" "additions" "[I", Cond.methodLink RX7 95 yX7_partOf, Cond.instanceMethod yX7_partOf, Cond.selects RX7 yX7_partOf yX7_partOf, Cond.code yX7_partOf cX7_partOf 3 (some .int), Cond.methodLink RX7 196 yX7_takeBelow, Cond.instanceMethod yX7_takeBelow, Cond.selects RX7 yX7_takeBelow yX7_takeBelow, Cond.code yX7_takeBelow cX7_takeBelow 5 (some .int), Cond.methodLink RX7 202 yX7_skip, Cond.instanceMethod yX7_skip, Cond.selects RX7 yX7_skip yX7_skip, Cond.code yX7_skip cX7_skip 2 none, Cond.methodLink RX7 99 yX7_widthOf, Cond.instanceMethod yX7_widthOf, Cond.selects RX7 yX7_widthOf yX7_widthOf, Cond.code yX7_widthOf cX7_widthOf 2 (some .int), Cond.methodLink RX7 84 yX7_width, Cond.static yX7_width, Cond.code yX7_width cX7_width 2 (some .int)]
def wsX7_walkBits : List Cond := .code yX7_walkBits cX7_walkBits 3 (some .int) :: ((wsX7_walkBits_r1 ++ (wsX7_walkBits_r2 ++ wsX7_walkBits_r3)) ++ wsX70)
def wsX7_read_r1 : List Cond := [Cond.fieldLink RX7 186 "BitNotationModel" "found" "I", Cond.fieldLink RX7 43 "BitNotationModel" "tale" "[I", Cond.fieldLink RX7 49 "BitNotationModel" "read" "[I", Cond.fieldLink RX7 139 "BitNotationModel" "told" "I", Cond.methodLink RX7 80 yX7_in, Cond.static yX7_in, Cond.initialized RX7, Cond.code yX7_in cX7_in 3 (some .boolean), Cond.methodLink RX7 120 yX7_isType, Cond.instanceMethod yX7_isType, Cond.selects RX7 yX7_isType yX7_isType, Cond.code yX7_isType cX7_isType 2 (some .boolean), Cond.fieldLink RX7 77 "BitNotationModel" "types" "I", Cond.methodLink RX7 208 yX7_walkBits, Cond.instanceMethod yX7_walkBits, Cond.selects RX7 yX7_walkBits yX7_walkBits, Cond.code yX7_walkBits cX7_walkBits 3 (some .int), Cond.fieldLink RX7 142 "BitNotationModel" "depth" "I", Cond.fieldLink RX7 148 "BitNotationModel" "place" "I", Cond.fieldLink RX7 151 "BitNotationModel" "fault" "I", Cond.fieldLink RX7 145 "BitNotationModel" "written" "I", Cond.methodLink RX7 169 yX7_push, Cond.instanceMethod yX7_push, Cond.selects RX7 yX7_push yX7_push]
def wsX7_read_r2 : List Cond := [Cond.code yX7_push cX7_push 2 none, Cond.fieldLink RX7 52 "BitNotationModel" "piled" "[I", Cond.fieldLink RX7 55 "BitNotationModel" "steps" "[I", Cond.fieldLink RX7 64 "BitNotationModel" "marks" "[I", Cond.methodLink RX7 205 yX7_goOverBits, Cond.instanceMethod yX7_goOverBits, Cond.selects RX7 yX7_goOverBits yX7_goOverBits, Cond.code yX7_goOverBits cX7_goOverBits 7 none, Cond.fieldLink RX7 7 "BitNotationModel" "kinds" "[I", Cond.fieldLink RX7 22 "BitNotationModel" "counts" "[I", Cond.fieldLink RX7 16 "BitNotationModel" "greatests" "[I", Cond.fieldLink RX7 13 "BitNotationModel" "leasts" "[I", Cond.fieldLink RX7 58 "BitNotationModel" "left" "[I", Cond.methodLink RX7 189 yX7_headOfBits, Cond.instanceMethod yX7_headOfBits, Cond.selects RX7 yX7_headOfBits yX7_headOfBits, Cond.code yX7_headOfBits cX7_headOfBits 6 none, Cond.fieldLink RX7 61 "BitNotationModel" "more" "[I", Cond.fieldLink RX7 70 "BitNotationModel" "slots" "[I", Cond.methodLink RX7 183 yX7_take, Cond.instanceMethod yX7_take, Cond.selects RX7 yX7_take yX7_take, Cond.code yX7_take cX7_take 4 (some .int), Cond.fieldLink RX7 46 "BitNotationModel" "row" "[I"]
def wsX7_read_r3 : List Cond := [Cond.methodLink RX7 88 yX7_isOptional, Cond.instanceMethod yX7_isOptional, Cond.selects RX7 yX7_isOptional yX7_isOptional, Cond.code yX7_isOptional cX7_isOptional 3 (some .boolean), Cond.fieldLink RX7 19 "BitNotationModel" "parts" "[I", Cond.methodLink RX7 199 yX7_note, Cond.instanceMethod yX7_note, Cond.selects RX7 yX7_note yX7_note, Cond.code yX7_note cX7_note 2 none, Cond.methodLink RX7 193 yX7_sequenceOfBits, Cond.instanceMethod yX7_sequenceOfBits, Cond.selects RX7 yX7_sequenceOfBits yX7_sequenceOfBits, Cond.code yX7_sequenceOfBits cX7_sequenceOfBits 7 none, Cond.fieldLink RX7 67 "BitNotationModel" "lengths" "[I", Cond.fieldLink RX7 28 "BitNotationModel" "added" "[I", Cond.fieldLink RX7 25 "BitNotationModel" "additions" "[I", Cond.methodLink RX7 95 yX7_partOf, Cond.instanceMethod yX7_partOf, Cond.selects RX7 yX7_partOf yX7_partOf, Cond.code yX7_partOf cX7_partOf 3 (some .int), Cond.methodLink RX7 196 yX7_takeBelow, Cond.instanceMethod yX7_takeBelow, Cond.selects RX7 yX7_takeBelow yX7_takeBelow, Cond.code yX7_takeBelow cX7_takeBelow 5 (some .int)]
def wsX7_read_r4 : List Cond := [Cond.methodLink RX7 202 yX7_skip, Cond.instanceMethod yX7_skip, Cond.selects RX7 yX7_skip yX7_skip, Cond.code yX7_skip cX7_skip 2 none, Cond.methodLink RX7 99 yX7_widthOf, Cond.instanceMethod yX7_widthOf, Cond.selects RX7 yX7_widthOf yX7_widthOf, Cond.code yX7_widthOf cX7_widthOf 2 (some .int), Cond.methodLink RX7 84 yX7_width, Cond.static yX7_width, Cond.code yX7_width cX7_width 2 (some .int), Cond.methodLink RX7 109 yX7_refused, Cond.instanceMethod yX7_refused, Cond.selects RX7 yX7_refused yX7_refused, Cond.code yX7_refused cX7_refused 2 (some .boolean), Cond.fieldLink RX7 73 "BitNotationModel" "refusal" "I"]
def wsX7_read : List Cond := .code yX7_read cX7_read 5 (some .int) :: ((wsX7_read_r1 ++ (wsX7_read_r2 ++ (wsX7_read_r3 ++ wsX7_read_r4))) ++ wsX70)
def wsX7_faultAt_r1 : List Cond := [Cond.methodLink RX7 120 yX7_isType, Cond.instanceMethod yX7_isType, Cond.selects RX7 yX7_isType yX7_isType, Cond.initialized RX7, Cond.code yX7_isType cX7_isType 2 (some .boolean), Cond.fieldLink RX7 77 "BitNotationModel" "types" "I", Cond.methodLink RX7 80 yX7_in, Cond.static yX7_in, Cond.code yX7_in cX7_in 3 (some .boolean), Cond.methodLink RX7 109 yX7_refused, Cond.instanceMethod yX7_refused, Cond.selects RX7 yX7_refused yX7_refused, Cond.code yX7_refused cX7_refused 2 (some .boolean), Cond.fieldLink RX7 73 "BitNotationModel" "refusal" "I", Cond.methodLink RX7 208 yX7_walkBits, Cond.instanceMethod yX7_walkBits, Cond.selects RX7 yX7_walkBits yX7_walkBits, Cond.code yX7_walkBits cX7_walkBits 3 (some .int), Cond.fieldLink RX7 142 "BitNotationModel" "depth" "I", Cond.fieldLink RX7 148 "BitNotationModel" "place" "I", Cond.fieldLink RX7 151 "BitNotationModel" "fault" "I", Cond.fieldLink RX7 186 "BitNotationModel" "found" "I", Cond.fieldLink RX7 145 "BitNotationModel" "written" "I", Cond.methodLink RX7 169 yX7_push]
def wsX7_faultAt_r2 : List Cond := [Cond.instanceMethod yX7_push, Cond.selects RX7 yX7_push yX7_push, Cond.code yX7_push cX7_push 2 none, Cond.fieldLink RX7 52 "BitNotationModel" "piled" "[I", Cond.fieldLink RX7 55 "BitNotationModel" "steps" "[I", Cond.fieldLink RX7 64 "BitNotationModel" "marks" "[I", Cond.methodLink RX7 205 yX7_goOverBits, Cond.instanceMethod yX7_goOverBits, Cond.selects RX7 yX7_goOverBits yX7_goOverBits, Cond.code yX7_goOverBits cX7_goOverBits 7 none, Cond.fieldLink RX7 7 "BitNotationModel" "kinds" "[I", Cond.fieldLink RX7 22 "BitNotationModel" "counts" "[I", Cond.fieldLink RX7 16 "BitNotationModel" "greatests" "[I", Cond.fieldLink RX7 13 "BitNotationModel" "leasts" "[I", Cond.fieldLink RX7 58 "BitNotationModel" "left" "[I", Cond.methodLink RX7 189 yX7_headOfBits, Cond.instanceMethod yX7_headOfBits, Cond.selects RX7 yX7_headOfBits yX7_headOfBits, Cond.code yX7_headOfBits cX7_headOfBits 6 none, Cond.fieldLink RX7 61 "BitNotationModel" "more" "[I", Cond.fieldLink RX7 70 "BitNotationModel" "slots" "[I", Cond.methodLink RX7 183 yX7_take, Cond.instanceMethod yX7_take, Cond.selects RX7 yX7_take yX7_take]
def wsX7_faultAt_r3 : List Cond := [Cond.code yX7_take cX7_take 4 (some .int), Cond.fieldLink RX7 46 "BitNotationModel" "row" "[I", Cond.methodLink RX7 88 yX7_isOptional, Cond.instanceMethod yX7_isOptional, Cond.selects RX7 yX7_isOptional yX7_isOptional, Cond.code yX7_isOptional cX7_isOptional 3 (some .boolean), Cond.fieldLink RX7 19 "BitNotationModel" "parts" "[I", Cond.methodLink RX7 199 yX7_note, Cond.instanceMethod yX7_note, Cond.selects RX7 yX7_note yX7_note, Cond.code yX7_note cX7_note 2 none, Cond.fieldLink RX7 49 "BitNotationModel" "read" "[I", Cond.methodLink RX7 193 yX7_sequenceOfBits, Cond.instanceMethod yX7_sequenceOfBits, Cond.selects RX7 yX7_sequenceOfBits yX7_sequenceOfBits, Cond.code yX7_sequenceOfBits cX7_sequenceOfBits 7 none, Cond.fieldLink RX7 67 "BitNotationModel" "lengths" "[I", Cond.fieldLink RX7 28 "BitNotationModel" "added" "[I", Cond.fieldLink RX7 25 "BitNotationModel" "additions" "[I", Cond.methodLink RX7 95 yX7_partOf, Cond.instanceMethod yX7_partOf, Cond.selects RX7 yX7_partOf yX7_partOf, Cond.code yX7_partOf cX7_partOf 3 (some .int), Cond.methodLink RX7 196 yX7_takeBelow]
def wsX7_faultAt_r4 : List Cond := [Cond.instanceMethod yX7_takeBelow, Cond.selects RX7 yX7_takeBelow yX7_takeBelow, Cond.code yX7_takeBelow cX7_takeBelow 5 (some .int), Cond.methodLink RX7 202 yX7_skip, Cond.instanceMethod yX7_skip, Cond.selects RX7 yX7_skip yX7_skip, Cond.code yX7_skip cX7_skip 2 none, Cond.methodLink RX7 99 yX7_widthOf, Cond.instanceMethod yX7_widthOf, Cond.selects RX7 yX7_widthOf yX7_widthOf, Cond.code yX7_widthOf cX7_widthOf 2 (some .int), Cond.methodLink RX7 84 yX7_width, Cond.static yX7_width, Cond.code yX7_width cX7_width 2 (some .int)]
def wsX7_faultAt : List Cond := .code yX7_faultAt cX7_faultAt 3 (some .int) :: ((wsX7_faultAt_r1 ++ (wsX7_faultAt_r2 ++ (wsX7_faultAt_r3 ++ wsX7_faultAt_r4))) ++ wsX70)
def wsJ9_max_7cf53 : List Cond := .code yJ9_max_7cf53 cJ9_max_7cf53 2 (some .int) :: ([])
def wsJ9_min_7cf53 : List Cond := .code yJ9_min_7cf53 cJ9_min_7cf53 2 (some .int) :: ([])
def wsL_addNumber_r1 : List Cond := [Cond.classLink RL 13 "java/lang/IllegalArgumentException", Cond.classLink RL 15 "java/lang/IllegalStateException", Cond.methodLink RL 7 yX6_addNumber, Cond.instanceMethod yX6_addNumber, Cond.selects RX6 yX6_addNumber yX6_addNumber, Cond.initialized RX6, Cond.code yX6_addNumber cX6_addNumber 3 (some .int), Cond.classLink RX6 53 "java/lang/IllegalArgumentException", Cond.initialized "java/lang/IllegalArgumentException", Cond.classLink RX6 60 RX3, Cond.instantiable RX3 10, Cond.initialized RX3, Cond.fieldLink RX6 62 "BitNotation$Kind" "NUMBER" "LBitNotation$Kind;", Cond.classLink RX6 7 RX4, Cond.instantiable RX4 2, Cond.initialized RX4, Cond.methodLink RX6 49 yX6_isOutside, Cond.static yX6_isOutside, Cond.code yX6_isOutside cX6_isOutside 3 (some .boolean), Cond.methodLink RX6 11 yX4_init, Cond.instanceMethod yX4_init, Cond.code yX4_init cX4_init 2 none, Cond.methodLink RX4 1 objectInit, Cond.instanceMethod objectInit]
def wsL_addNumber_r2 : List Cond := [Cond.code objectInit ⟨#[0xb1]⟩ 1 none, Cond.fieldLink RX4 7 "BitNotation$TypeRow" "count" "I", Cond.methodLink RX4 13 Lib.Math.max.name, Cond.static Lib.Math.max.name, Cond.initialized "java/lang/Math", Cond.code Lib.Math.max.name Lib.Math.max.code 2 (some .int), Cond.classLink RX4 19 RX3, Cond.fieldLink RX4 21 "BitNotation$TypeRow" "items" "[LBitNotation$Type;", Cond.methodLink RX6 68 yX3_init, Cond.instanceMethod yX3_init, Cond.code yX3_init cX3_init 6 none, Cond.methodLink RX3 3 objectInit, Cond.fieldLink RX3 9 "BitNotation$Type" "fewestBits" "I", Cond.fieldLink RX3 15 "BitNotation$Type" "mostBits" "I", Cond.fieldLink RX3 18 "BitNotation$Type" "mostNumbers" "I", Cond.fieldLink RX3 21 "BitNotation$Type" "kind" "LBitNotation$Kind;", Cond.fieldLink RX3 25 "BitNotation$Type" "least" "I", Cond.fieldLink RX3 28 "BitNotation$Type" "greatest" "I", Cond.fieldLink RX3 35 "BitNotation$Type" "width" "I", Cond.fieldLink RX3 38 "BitNotation$Type" "parts" "LBitNotation$TypeRow;", Cond.fieldLink RX3 42 "BitNotation$Type" "optional" "I", Cond.classLink RX3 45 RX4, Cond.fieldLink RX3 47 "BitNotation$Kind" "SEQUENCE" "LBitNotation$Kind;", Cond.fieldLink RX3 55 "BitNotation$Type" "additions" "LBitNotation$TypeRow;"]
def wsL_addNumber_r3 : List Cond := [Cond.static yX6_widthFor, Cond.code yX6_widthFor cX6_widthFor 2 (some .int), Cond.methodLink RX3 52 yX4_init, Cond.methodLink RX6 71 yX6_keep, Cond.instanceMethod yX6_keep, Cond.selects RX6 yX6_keep yX6_keep, Cond.code yX6_keep cX6_keep 2 (some .int), Cond.classLink RX6 92 "java/lang/IllegalStateException", Cond.initialized "java/lang/IllegalStateException", Cond.fieldLink RX6 14 "BitNotation" "notation" "LBitNotation$TypeRow;", Cond.methodLink RX6 88 yX4_isFull, Cond.instanceMethod yX4_isFull, Cond.selects RX4 yX4_isFull yX4_isFull, Cond.code yX4_isFull cX4_isFull 1 (some .boolean), Cond.methodLink RX6 192 yX3_measure, Cond.instanceMethod yX3_measure, Cond.selects RX3 yX3_measure yX3_measure, Cond.code yX3_measure cX3_measure 1 (some .boolean), Cond.fieldLink RX3 58 "BitNotation$Kind" "LIST" "LBitNotation$Kind;", Cond.fieldLink RX3 64 "BitNotation$Kind" "CHOICE" "LBitNotation$Kind;", Cond.methodLink RX3 61 yX3_measureThings, Cond.instanceMethod yX3_measureThings, Cond.selects RX3 yX3_measureThings yX3_measureThings, Cond.code yX3_measureThings cX3_measureThings 2 none]
def wsL_addNumber_r4 : List Cond := [Cond.methodLink RX3 76 yX4_at, Cond.instanceMethod yX4_at, Cond.selects RX4 yX4_at yX4_at, Cond.code yX4_at cX4_at 2 (some (.object "BitNotation$Type")), Cond.methodLink RX3 67 yX3_measureChoices, Cond.instanceMethod yX3_measureChoices, Cond.selects RX3 yX3_measureChoices yX3_measureChoices, Cond.code yX3_measureChoices cX3_measureChoices 6 none, Cond.methodLink RX3 84 Lib.Math.min.name, Cond.static Lib.Math.min.name, Cond.code Lib.Math.min.name Lib.Math.min.code 2 (some .int), Cond.methodLink RX3 90 Lib.Math.max.name, Cond.methodLink RX3 80 yX4_size, Cond.instanceMethod yX4_size, Cond.selects RX4 yX4_size yX4_size, Cond.code yX4_size cX4_size 1 (some .int), Cond.methodLink RX3 70 yX3_measureParts, Cond.instanceMethod yX3_measureParts, Cond.selects RX3 yX3_measureParts yX3_measureParts, Cond.code yX3_measureParts cX3_measureParts 4 none, Cond.methodLink RX3 93 yX3_isOptional, Cond.instanceMethod yX3_isOptional, Cond.selects RX3 yX3_isOptional yX3_isOptional, Cond.code yX3_isOptional cX3_isOptional 2 (some .boolean)]
def wsL_addNumber_r5 : List Cond := [Cond.methodLink RX3 73 yX3_measureAdditions, Cond.instanceMethod yX3_measureAdditions, Cond.selects RX3 yX3_measureAdditions yX3_measureAdditions, Cond.code yX3_measureAdditions cX3_measureAdditions 3 none, Cond.methodLink RX6 81 yX4_append, Cond.instanceMethod yX4_append, Cond.selects RX4 yX4_append yX4_append, Cond.code yX4_append cX4_append 2 none, Cond.methodLink RX6 97 yX4_size]
def wsL_addNumber : List Cond := .codeWith yL_addNumber cL_addNumber 5 (some .int) [(0, 10, 13, 13), (0, 10, 17, 15)] :: ((wsL_addNumber_r1 ++ (wsL_addNumber_r2 ++ (wsL_addNumber_r3 ++ (wsL_addNumber_r4 ++ wsL_addNumber_r5)))) ++ wsX30 ++ wsX40 ++ wsX60 ++ (vx_atS RX6 57 "java/lang/IllegalArgumentException" ["java/lang/RuntimeException", "java/lang/Exception"]).filter goodWord ++ (vx_atS RX6 96 "java/lang/IllegalStateException" ["java/lang/RuntimeException", "java/lang/Exception"]).filter goodWord)
def wsL_addList_r1 : List Cond := [Cond.classLink RL 21 "java/lang/IndexOutOfBoundsException", Cond.classLink RL 13 "java/lang/IllegalArgumentException", Cond.classLink RL 15 "java/lang/IllegalStateException", Cond.methodLink RL 17 yX6_addList, Cond.instanceMethod yX6_addList, Cond.selects RX6 yX6_addList yX6_addList, Cond.initialized RX6, Cond.code yX6_addList cX6_addList 6 (some .int), Cond.classLink RX6 53 "java/lang/IllegalArgumentException", Cond.initialized "java/lang/IllegalArgumentException", Cond.classLink RX6 7 RX4, Cond.instantiable RX4 2, Cond.initialized RX4, Cond.classLink RX6 60 RX3, Cond.instantiable RX3 10, Cond.initialized RX3, Cond.fieldLink RX6 85 "BitNotation$Kind" "LIST" "LBitNotation$Kind;", Cond.methodLink RX6 75 yX6_typeNumbered, Cond.instanceMethod yX6_typeNumbered, Cond.selects RX6 yX6_typeNumbered yX6_typeNumbered, Cond.code yX6_typeNumbered cX6_typeNumbered 3 (some (.object "BitNotation$Type")), Cond.classLink RX6 149 "java/lang/IndexOutOfBoundsException", Cond.initialized "java/lang/IndexOutOfBoundsException", Cond.fieldLink RX6 14 "BitNotation" "notation" "LBitNotation$TypeRow;"]
def wsL_addList_r2 : List Cond := [Cond.methodLink RX6 188 yX4_at, Cond.instanceMethod yX4_at, Cond.selects RX4 yX4_at yX4_at, Cond.code yX4_at cX4_at 2 (some (.object "BitNotation$Type")), Cond.fieldLink RX4 7 "BitNotation$TypeRow" "count" "I", Cond.fieldLink RX4 21 "BitNotation$TypeRow" "items" "[LBitNotation$Type;", Cond.methodLink RX6 49 yX6_isOutside, Cond.static yX6_isOutside, Cond.code yX6_isOutside cX6_isOutside 3 (some .boolean), Cond.methodLink RX6 11 yX4_init, Cond.instanceMethod yX4_init, Cond.code yX4_init cX4_init 2 none, Cond.methodLink RX4 1 objectInit, Cond.instanceMethod objectInit, Cond.code objectInit ⟨#[0xb1]⟩ 1 none, Cond.methodLink RX4 13 Lib.Math.max.name, Cond.static Lib.Math.max.name, Cond.initialized "java/lang/Math", Cond.code Lib.Math.max.name Lib.Math.max.code 2 (some .int), Cond.classLink RX4 19 RX3, Cond.methodLink RX6 81 yX4_append, Cond.instanceMethod yX4_append, Cond.selects RX4 yX4_append yX4_append, Cond.code yX4_append cX4_append 2 none]
def wsL_addList_r3 : List Cond := [Cond.methodLink RX6 68 yX3_init, Cond.instanceMethod yX3_init, Cond.code yX3_init cX3_init 6 none, Cond.methodLink RX3 3 objectInit, Cond.fieldLink RX3 9 "BitNotation$Type" "fewestBits" "I", Cond.fieldLink RX3 15 "BitNotation$Type" "mostBits" "I", Cond.fieldLink RX3 18 "BitNotation$Type" "mostNumbers" "I", Cond.fieldLink RX3 21 "BitNotation$Type" "kind" "LBitNotation$Kind;", Cond.fieldLink RX3 25 "BitNotation$Type" "least" "I", Cond.fieldLink RX3 28 "BitNotation$Type" "greatest" "I", Cond.fieldLink RX3 35 "BitNotation$Type" "width" "I", Cond.fieldLink RX3 38 "BitNotation$Type" "parts" "LBitNotation$TypeRow;", Cond.fieldLink RX3 42 "BitNotation$Type" "optional" "I", Cond.classLink RX3 45 RX4, Cond.fieldLink RX3 47 "BitNotation$Kind" "SEQUENCE" "LBitNotation$Kind;", Cond.fieldLink RX3 55 "BitNotation$Type" "additions" "LBitNotation$TypeRow;", Cond.static yX6_widthFor, Cond.code yX6_widthFor cX6_widthFor 2 (some .int), Cond.methodLink RX3 52 yX4_init, Cond.methodLink RX6 71 yX6_keep, Cond.instanceMethod yX6_keep, Cond.selects RX6 yX6_keep yX6_keep, Cond.code yX6_keep cX6_keep 2 (some .int), Cond.classLink RX6 92 "java/lang/IllegalStateException"]
def wsL_addList_r4 : List Cond := [Cond.initialized "java/lang/IllegalStateException", Cond.methodLink RX6 88 yX4_isFull, Cond.instanceMethod yX4_isFull, Cond.selects RX4 yX4_isFull yX4_isFull, Cond.code yX4_isFull cX4_isFull 1 (some .boolean), Cond.methodLink RX6 192 yX3_measure, Cond.instanceMethod yX3_measure, Cond.selects RX3 yX3_measure yX3_measure, Cond.code yX3_measure cX3_measure 1 (some .boolean), Cond.fieldLink RX3 58 "BitNotation$Kind" "LIST" "LBitNotation$Kind;", Cond.fieldLink RX3 64 "BitNotation$Kind" "CHOICE" "LBitNotation$Kind;", Cond.methodLink RX3 61 yX3_measureThings, Cond.instanceMethod yX3_measureThings, Cond.selects RX3 yX3_measureThings yX3_measureThings, Cond.code yX3_measureThings cX3_measureThings 2 none, Cond.methodLink RX3 76 yX4_at, Cond.methodLink RX3 67 yX3_measureChoices, Cond.instanceMethod yX3_measureChoices, Cond.selects RX3 yX3_measureChoices yX3_measureChoices, Cond.code yX3_measureChoices cX3_measureChoices 6 none, Cond.methodLink RX3 84 Lib.Math.min.name, Cond.static Lib.Math.min.name, Cond.code Lib.Math.min.name Lib.Math.min.code 2 (some .int), Cond.methodLink RX3 90 Lib.Math.max.name]
def wsL_addList_r5 : List Cond := [Cond.methodLink RX3 80 yX4_size, Cond.instanceMethod yX4_size, Cond.selects RX4 yX4_size yX4_size, Cond.code yX4_size cX4_size 1 (some .int), Cond.methodLink RX3 70 yX3_measureParts, Cond.instanceMethod yX3_measureParts, Cond.selects RX3 yX3_measureParts yX3_measureParts, Cond.code yX3_measureParts cX3_measureParts 4 none, Cond.methodLink RX3 93 yX3_isOptional, Cond.instanceMethod yX3_isOptional, Cond.selects RX3 yX3_isOptional yX3_isOptional, Cond.code yX3_isOptional cX3_isOptional 2 (some .boolean), Cond.methodLink RX3 73 yX3_measureAdditions, Cond.instanceMethod yX3_measureAdditions, Cond.selects RX3 yX3_measureAdditions yX3_measureAdditions, Cond.code yX3_measureAdditions cX3_measureAdditions 3 none, Cond.methodLink RX6 97 yX4_size]
def wsL_addList : List Cond := .codeWith yL_addList cL_addList 6 (some .int) [(0, 12, 15, 21), (0, 12, 19, 13), (0, 12, 23, 15)] :: ((wsL_addList_r1 ++ (wsL_addList_r2 ++ (wsL_addList_r3 ++ (wsL_addList_r4 ++ wsL_addList_r5)))) ++ wsX40 ++ wsX30 ++ wsX60 ++ (vx_atS RX6 57 "java/lang/IllegalArgumentException" ["java/lang/RuntimeException", "java/lang/Exception"]).filter goodWord ++ (vx_atS RX6 153 "java/lang/IndexOutOfBoundsException" ["java/lang/RuntimeException", "java/lang/Exception"]).filter goodWord ++ (vx_atS RX6 96 "java/lang/IllegalStateException" ["java/lang/RuntimeException", "java/lang/Exception"]).filter goodWord)
def wsL_part_r1 : List Cond := [Cond.classLink RL 21 "java/lang/IndexOutOfBoundsException", Cond.classLink RL 15 "java/lang/IllegalStateException", Cond.methodLink RL 23 yX6_part, Cond.instanceMethod yX6_part, Cond.selects RX6 yX6_part yX6_part, Cond.initialized RX6, Cond.code yX6_part cX6_part 4 (some .int), Cond.classLink RX6 92 "java/lang/IllegalStateException", Cond.initialized "java/lang/IllegalStateException", Cond.fieldLink RX6 42 "BitNotation" "draft" "LBitNotation$TypeRow;", Cond.fieldLink RX6 45 "BitNotation" "draftOptional" "I", Cond.methodLink RX6 75 yX6_typeNumbered, Cond.instanceMethod yX6_typeNumbered, Cond.selects RX6 yX6_typeNumbered yX6_typeNumbered, Cond.code yX6_typeNumbered cX6_typeNumbered 3 (some (.object "BitNotation$Type")), Cond.classLink RX6 149 "java/lang/IndexOutOfBoundsException", Cond.initialized "java/lang/IndexOutOfBoundsException", Cond.fieldLink RX6 14 "BitNotation" "notation" "LBitNotation$TypeRow;", Cond.methodLink RX6 188 yX4_at, Cond.instanceMethod yX4_at, Cond.selects RX4 yX4_at yX4_at, Cond.initialized RX4, Cond.code yX4_at cX4_at 2 (some (.object "BitNotation$Type")), Cond.fieldLink RX4 7 "BitNotation$TypeRow" "count" "I"]
def wsL_part_r2 : List Cond := [Cond.fieldLink RX4 21 "BitNotation$TypeRow" "items" "[LBitNotation$Type;", Cond.methodLink RX6 88 yX4_isFull, Cond.instanceMethod yX4_isFull, Cond.selects RX4 yX4_isFull yX4_isFull, Cond.code yX4_isFull cX4_isFull 1 (some .boolean), Cond.methodLink RX6 97 yX4_size, Cond.instanceMethod yX4_size, Cond.selects RX4 yX4_size yX4_size, Cond.code yX4_size cX4_size 1 (some .int), Cond.methodLink RX6 81 yX4_append, Cond.instanceMethod yX4_append, Cond.selects RX4 yX4_append yX4_append, Cond.code yX4_append cX4_append 2 none]
def wsL_part : List Cond := .codeWith yL_part cL_part 5 (some .int) [(0, 10, 13, 21), (0, 10, 17, 15)] :: ((wsL_part_r1 ++ wsL_part_r2) ++ wsX60 ++ wsX40 ++ (vx_atS RX6 96 "java/lang/IllegalStateException" ["java/lang/RuntimeException", "java/lang/Exception"]).filter goodWord ++ (vx_atS RX6 153 "java/lang/IndexOutOfBoundsException" ["java/lang/RuntimeException", "java/lang/Exception"]).filter goodWord)
def wsL_addSequence_r1 : List Cond := [Cond.classLink RL 15 "java/lang/IllegalStateException", Cond.methodLink RL 27 yX6_addSequence, Cond.instanceMethod yX6_addSequence, Cond.selects RX6 yX6_addSequence yX6_addSequence, Cond.initialized RX6, Cond.code yX6_addSequence cX6_addSequence 1 (some .int), Cond.classLink RX6 60 RX3, Cond.instantiable RX3 10, Cond.initialized RX3, Cond.fieldLink RX6 101 "BitNotation$Kind" "SEQUENCE" "LBitNotation$Kind;", Cond.fieldLink RX6 42 "BitNotation" "draft" "LBitNotation$TypeRow;", Cond.fieldLink RX6 45 "BitNotation" "draftOptional" "I", Cond.methodLink RX6 68 yX3_init, Cond.instanceMethod yX3_init, Cond.code yX3_init cX3_init 6 none, Cond.methodLink RX3 3 objectInit, Cond.instanceMethod objectInit, Cond.code objectInit ⟨#[0xb1]⟩ 1 none, Cond.fieldLink RX3 9 "BitNotation$Type" "fewestBits" "I", Cond.fieldLink RX3 15 "BitNotation$Type" "mostBits" "I", Cond.fieldLink RX3 18 "BitNotation$Type" "mostNumbers" "I", Cond.fieldLink RX3 21 "BitNotation$Type" "kind" "LBitNotation$Kind;", Cond.fieldLink RX3 25 "BitNotation$Type" "least" "I", Cond.fieldLink RX3 28 "BitNotation$Type" "greatest" "I"]
def wsL_addSequence_r2 : List Cond := [Cond.fieldLink RX3 35 "BitNotation$Type" "width" "I", Cond.fieldLink RX3 38 "BitNotation$Type" "parts" "LBitNotation$TypeRow;", Cond.fieldLink RX3 42 "BitNotation$Type" "optional" "I", Cond.classLink RX3 45 RX4, Cond.instantiable RX4 2, Cond.initialized RX4, Cond.fieldLink RX3 47 "BitNotation$Kind" "SEQUENCE" "LBitNotation$Kind;", Cond.fieldLink RX3 55 "BitNotation$Type" "additions" "LBitNotation$TypeRow;", Cond.static yX6_widthFor, Cond.code yX6_widthFor cX6_widthFor 2 (some .int), Cond.methodLink RX3 52 yX4_init, Cond.instanceMethod yX4_init, Cond.code yX4_init cX4_init 2 none, Cond.methodLink RX4 1 objectInit, Cond.fieldLink RX4 7 "BitNotation$TypeRow" "count" "I", Cond.methodLink RX4 13 Lib.Math.max.name, Cond.static Lib.Math.max.name, Cond.initialized "java/lang/Math", Cond.code Lib.Math.max.name Lib.Math.max.code 2 (some .int), Cond.classLink RX4 19 RX3, Cond.fieldLink RX4 21 "BitNotation$TypeRow" "items" "[LBitNotation$Type;", Cond.methodLink RX6 104 yX6_keepDraft, Cond.instanceMethod yX6_keepDraft, Cond.selects RX6 yX6_keepDraft yX6_keepDraft]
def wsL_addSequence_r3 : List Cond := [Cond.code yX6_keepDraft cX6_keepDraft 3 (some .int), Cond.classLink RX6 92 "java/lang/IllegalStateException", Cond.initialized "java/lang/IllegalStateException", Cond.classLink RX6 7 RX4, Cond.methodLink RX6 97 yX4_size, Cond.instanceMethod yX4_size, Cond.selects RX4 yX4_size yX4_size, Cond.code yX4_size cX4_size 1 (some .int), Cond.methodLink RX6 71 yX6_keep, Cond.instanceMethod yX6_keep, Cond.selects RX6 yX6_keep yX6_keep, Cond.code yX6_keep cX6_keep 2 (some .int), Cond.fieldLink RX6 14 "BitNotation" "notation" "LBitNotation$TypeRow;", Cond.methodLink RX6 88 yX4_isFull, Cond.instanceMethod yX4_isFull, Cond.selects RX4 yX4_isFull yX4_isFull, Cond.code yX4_isFull cX4_isFull 1 (some .boolean), Cond.methodLink RX6 192 yX3_measure, Cond.instanceMethod yX3_measure, Cond.selects RX3 yX3_measure yX3_measure, Cond.code yX3_measure cX3_measure 1 (some .boolean), Cond.fieldLink RX3 58 "BitNotation$Kind" "LIST" "LBitNotation$Kind;", Cond.fieldLink RX3 64 "BitNotation$Kind" "CHOICE" "LBitNotation$Kind;", Cond.methodLink RX3 61 yX3_measureThings]
def wsL_addSequence_r4 : List Cond := [Cond.instanceMethod yX3_measureThings, Cond.selects RX3 yX3_measureThings yX3_measureThings, Cond.code yX3_measureThings cX3_measureThings 2 none, Cond.methodLink RX3 76 yX4_at, Cond.instanceMethod yX4_at, Cond.selects RX4 yX4_at yX4_at, Cond.code yX4_at cX4_at 2 (some (.object "BitNotation$Type")), Cond.methodLink RX3 67 yX3_measureChoices, Cond.instanceMethod yX3_measureChoices, Cond.selects RX3 yX3_measureChoices yX3_measureChoices, Cond.code yX3_measureChoices cX3_measureChoices 6 none, Cond.methodLink RX3 84 Lib.Math.min.name, Cond.static Lib.Math.min.name, Cond.code Lib.Math.min.name Lib.Math.min.code 2 (some .int), Cond.methodLink RX3 90 Lib.Math.max.name, Cond.methodLink RX3 80 yX4_size, Cond.methodLink RX3 70 yX3_measureParts, Cond.instanceMethod yX3_measureParts, Cond.selects RX3 yX3_measureParts yX3_measureParts, Cond.code yX3_measureParts cX3_measureParts 4 none, Cond.methodLink RX3 93 yX3_isOptional, Cond.instanceMethod yX3_isOptional, Cond.selects RX3 yX3_isOptional yX3_isOptional, Cond.code yX3_isOptional cX3_isOptional 2 (some .boolean)]
def wsL_addSequence_r5 : List Cond := [Cond.methodLink RX3 73 yX3_measureAdditions, Cond.instanceMethod yX3_measureAdditions, Cond.selects RX3 yX3_measureAdditions yX3_measureAdditions, Cond.code yX3_measureAdditions cX3_measureAdditions 3 none, Cond.methodLink RX6 81 yX4_append, Cond.instanceMethod yX4_append, Cond.selects RX4 yX4_append yX4_append, Cond.code yX4_append cX4_append 2 none, Cond.methodLink RX6 11 yX4_init]
def wsL_addSequence : List Cond := .codeWith yL_addSequence cL_addSequence 3 (some .int) [(0, 8, 11, 15)] :: ((wsL_addSequence_r1 ++ (wsL_addSequence_r2 ++ (wsL_addSequence_r3 ++ (wsL_addSequence_r4 ++ wsL_addSequence_r5)))) ++ wsX30 ++ wsX60 ++ wsX40 ++ (vx_atS RX6 96 "java/lang/IllegalStateException" ["java/lang/RuntimeException", "java/lang/Exception"]).filter goodWord)
def wsL_addChoice_r1 : List Cond := [Cond.classLink RL 15 "java/lang/IllegalStateException", Cond.methodLink RL 31 yX6_addChoice, Cond.instanceMethod yX6_addChoice, Cond.selects RX6 yX6_addChoice yX6_addChoice, Cond.initialized RX6, Cond.code yX6_addChoice cX6_addChoice 1 (some .int), Cond.classLink RX6 60 RX3, Cond.instantiable RX3 10, Cond.initialized RX3, Cond.fieldLink RX6 107 "BitNotation$Kind" "CHOICE" "LBitNotation$Kind;", Cond.fieldLink RX6 42 "BitNotation" "draft" "LBitNotation$TypeRow;", Cond.methodLink RX6 97 yX4_size, Cond.instanceMethod yX4_size, Cond.selects RX4 yX4_size yX4_size, Cond.initialized RX4, Cond.code yX4_size cX4_size 1 (some .int), Cond.fieldLink RX4 7 "BitNotation$TypeRow" "count" "I", Cond.methodLink RX6 68 yX3_init, Cond.instanceMethod yX3_init, Cond.code yX3_init cX3_init 6 none, Cond.methodLink RX3 3 objectInit, Cond.instanceMethod objectInit, Cond.code objectInit ⟨#[0xb1]⟩ 1 none, Cond.fieldLink RX3 9 "BitNotation$Type" "fewestBits" "I"]
def wsL_addChoice_r2 : List Cond := [Cond.fieldLink RX3 15 "BitNotation$Type" "mostBits" "I", Cond.fieldLink RX3 18 "BitNotation$Type" "mostNumbers" "I", Cond.fieldLink RX3 21 "BitNotation$Type" "kind" "LBitNotation$Kind;", Cond.fieldLink RX3 25 "BitNotation$Type" "least" "I", Cond.fieldLink RX3 28 "BitNotation$Type" "greatest" "I", Cond.fieldLink RX3 35 "BitNotation$Type" "width" "I", Cond.fieldLink RX3 38 "BitNotation$Type" "parts" "LBitNotation$TypeRow;", Cond.fieldLink RX3 42 "BitNotation$Type" "optional" "I", Cond.classLink RX3 45 RX4, Cond.instantiable RX4 2, Cond.fieldLink RX3 47 "BitNotation$Kind" "SEQUENCE" "LBitNotation$Kind;", Cond.fieldLink RX3 55 "BitNotation$Type" "additions" "LBitNotation$TypeRow;", Cond.static yX6_widthFor, Cond.code yX6_widthFor cX6_widthFor 2 (some .int), Cond.methodLink RX3 52 yX4_init, Cond.instanceMethod yX4_init, Cond.code yX4_init cX4_init 2 none, Cond.methodLink RX4 1 objectInit, Cond.methodLink RX4 13 Lib.Math.max.name, Cond.static Lib.Math.max.name, Cond.initialized "java/lang/Math", Cond.code Lib.Math.max.name Lib.Math.max.code 2 (some .int), Cond.classLink RX4 19 RX3, Cond.fieldLink RX4 21 "BitNotation$TypeRow" "items" "[LBitNotation$Type;"]
def wsL_addChoice_r3 : List Cond := [Cond.methodLink RX6 104 yX6_keepDraft, Cond.instanceMethod yX6_keepDraft, Cond.selects RX6 yX6_keepDraft yX6_keepDraft, Cond.code yX6_keepDraft cX6_keepDraft 3 (some .int), Cond.classLink RX6 92 "java/lang/IllegalStateException", Cond.initialized "java/lang/IllegalStateException", Cond.classLink RX6 7 RX4, Cond.fieldLink RX6 45 "BitNotation" "draftOptional" "I", Cond.methodLink RX6 71 yX6_keep, Cond.instanceMethod yX6_keep, Cond.selects RX6 yX6_keep yX6_keep, Cond.code yX6_keep cX6_keep 2 (some .int), Cond.fieldLink RX6 14 "BitNotation" "notation" "LBitNotation$TypeRow;", Cond.methodLink RX6 88 yX4_isFull, Cond.instanceMethod yX4_isFull, Cond.selects RX4 yX4_isFull yX4_isFull, Cond.code yX4_isFull cX4_isFull 1 (some .boolean), Cond.methodLink RX6 192 yX3_measure, Cond.instanceMethod yX3_measure, Cond.selects RX3 yX3_measure yX3_measure, Cond.code yX3_measure cX3_measure 1 (some .boolean), Cond.fieldLink RX3 58 "BitNotation$Kind" "LIST" "LBitNotation$Kind;", Cond.fieldLink RX3 64 "BitNotation$Kind" "CHOICE" "LBitNotation$Kind;", Cond.methodLink RX3 61 yX3_measureThings]
def wsL_addChoice_r4 : List Cond := [Cond.instanceMethod yX3_measureThings, Cond.selects RX3 yX3_measureThings yX3_measureThings, Cond.code yX3_measureThings cX3_measureThings 2 none, Cond.methodLink RX3 76 yX4_at, Cond.instanceMethod yX4_at, Cond.selects RX4 yX4_at yX4_at, Cond.code yX4_at cX4_at 2 (some (.object "BitNotation$Type")), Cond.methodLink RX3 67 yX3_measureChoices, Cond.instanceMethod yX3_measureChoices, Cond.selects RX3 yX3_measureChoices yX3_measureChoices, Cond.code yX3_measureChoices cX3_measureChoices 6 none, Cond.methodLink RX3 84 Lib.Math.min.name, Cond.static Lib.Math.min.name, Cond.code Lib.Math.min.name Lib.Math.min.code 2 (some .int), Cond.methodLink RX3 90 Lib.Math.max.name, Cond.methodLink RX3 80 yX4_size, Cond.methodLink RX3 70 yX3_measureParts, Cond.instanceMethod yX3_measureParts, Cond.selects RX3 yX3_measureParts yX3_measureParts, Cond.code yX3_measureParts cX3_measureParts 4 none, Cond.methodLink RX3 93 yX3_isOptional, Cond.instanceMethod yX3_isOptional, Cond.selects RX3 yX3_isOptional yX3_isOptional, Cond.code yX3_isOptional cX3_isOptional 2 (some .boolean)]
def wsL_addChoice_r5 : List Cond := [Cond.methodLink RX3 73 yX3_measureAdditions, Cond.instanceMethod yX3_measureAdditions, Cond.selects RX3 yX3_measureAdditions yX3_measureAdditions, Cond.code yX3_measureAdditions cX3_measureAdditions 3 none, Cond.methodLink RX6 81 yX4_append, Cond.instanceMethod yX4_append, Cond.selects RX4 yX4_append yX4_append, Cond.code yX4_append cX4_append 2 none, Cond.methodLink RX6 11 yX4_init]
def wsL_addChoice : List Cond := .codeWith yL_addChoice cL_addChoice 3 (some .int) [(0, 8, 11, 15)] :: ((wsL_addChoice_r1 ++ (wsL_addChoice_r2 ++ (wsL_addChoice_r3 ++ (wsL_addChoice_r4 ++ wsL_addChoice_r5)))) ++ wsX30 ++ wsX60 ++ wsX40 ++ (vx_atS RX6 96 "java/lang/IllegalStateException" ["java/lang/RuntimeException", "java/lang/Exception"]).filter goodWord)
def wsL_extend_r1 : List Cond := [Cond.classLink RL 21 "java/lang/IndexOutOfBoundsException", Cond.classLink RL 13 "java/lang/IllegalArgumentException", Cond.classLink RL 15 "java/lang/IllegalStateException", Cond.methodLink RL 34 yX6_extend, Cond.instanceMethod yX6_extend, Cond.selects RX6 yX6_extend yX6_extend, Cond.initialized RX6, Cond.code yX6_extend cX6_extend 5 (some .int), Cond.classLink RX6 53 "java/lang/IllegalArgumentException", Cond.initialized "java/lang/IllegalArgumentException", Cond.classLink RX6 92 "java/lang/IllegalStateException", Cond.initialized "java/lang/IllegalStateException", Cond.fieldLink RX6 101 "BitNotation$Kind" "SEQUENCE" "LBitNotation$Kind;", Cond.fieldLink RX6 14 "BitNotation" "notation" "LBitNotation$TypeRow;", Cond.methodLink RX6 75 yX6_typeNumbered, Cond.instanceMethod yX6_typeNumbered, Cond.selects RX6 yX6_typeNumbered yX6_typeNumbered, Cond.code yX6_typeNumbered cX6_typeNumbered 3 (some (.object "BitNotation$Type")), Cond.classLink RX6 149 "java/lang/IndexOutOfBoundsException", Cond.initialized "java/lang/IndexOutOfBoundsException", Cond.methodLink RX6 188 yX4_at, Cond.instanceMethod yX4_at, Cond.selects RX4 yX4_at yX4_at, Cond.initialized RX4]
def wsL_extend_r2 : List Cond := [Cond.code yX4_at cX4_at 2 (some (.object "BitNotation$Type")), Cond.fieldLink RX4 7 "BitNotation$TypeRow" "count" "I", Cond.fieldLink RX4 21 "BitNotation$TypeRow" "items" "[LBitNotation$Type;", Cond.methodLink RX6 88 yX4_isFull, Cond.instanceMethod yX4_isFull, Cond.selects RX4 yX4_isFull yX4_isFull, Cond.code yX4_isFull cX4_isFull 1 (some .boolean), Cond.methodLink RX6 81 yX4_append, Cond.instanceMethod yX4_append, Cond.selects RX4 yX4_append yX4_append, Cond.code yX4_append cX4_append 2 none, Cond.methodLink RX6 120 yX4_measureAll, Cond.instanceMethod yX4_measureAll, Cond.selects RX4 yX4_measureAll yX4_measureAll, Cond.code yX4_measureAll cX4_measureAll 3 (some .boolean), Cond.methodLink RX4 25 yX4_at, Cond.methodLink RX4 29 yX3_measure, Cond.instanceMethod yX3_measure, Cond.selects RX3 yX3_measure yX3_measure, Cond.initialized RX3, Cond.code yX3_measure cX3_measure 1 (some .boolean), Cond.fieldLink RX3 35 "BitNotation$Type" "width" "I", Cond.fieldLink RX3 9 "BitNotation$Type" "fewestBits" "I", Cond.fieldLink RX3 15 "BitNotation$Type" "mostBits" "I"]
def wsL_extend_r3 : List Cond := [Cond.fieldLink RX3 18 "BitNotation$Type" "mostNumbers" "I", Cond.fieldLink RX3 21 "BitNotation$Type" "kind" "LBitNotation$Kind;", Cond.fieldLink RX3 58 "BitNotation$Kind" "LIST" "LBitNotation$Kind;", Cond.fieldLink RX3 64 "BitNotation$Kind" "CHOICE" "LBitNotation$Kind;", Cond.fieldLink RX3 47 "BitNotation$Kind" "SEQUENCE" "LBitNotation$Kind;", Cond.methodLink RX3 61 yX3_measureThings, Cond.instanceMethod yX3_measureThings, Cond.selects RX3 yX3_measureThings yX3_measureThings, Cond.code yX3_measureThings cX3_measureThings 2 none, Cond.fieldLink RX3 38 "BitNotation$Type" "parts" "LBitNotation$TypeRow;", Cond.fieldLink RX3 25 "BitNotation$Type" "least" "I", Cond.fieldLink RX3 28 "BitNotation$Type" "greatest" "I", Cond.methodLink RX3 76 yX4_at, Cond.methodLink RX3 67 yX3_measureChoices, Cond.instanceMethod yX3_measureChoices, Cond.selects RX3 yX3_measureChoices yX3_measureChoices, Cond.code yX3_measureChoices cX3_measureChoices 6 none, Cond.methodLink RX3 84 Lib.Math.min.name, Cond.static Lib.Math.min.name, Cond.initialized "java/lang/Math", Cond.code Lib.Math.min.name Lib.Math.min.code 2 (some .int), Cond.methodLink RX3 90 Lib.Math.max.name, Cond.static Lib.Math.max.name, Cond.code Lib.Math.max.name Lib.Math.max.code 2 (some .int)]
def wsL_extend_r4 : List Cond := [Cond.methodLink RX3 80 yX4_size, Cond.instanceMethod yX4_size, Cond.selects RX4 yX4_size yX4_size, Cond.code yX4_size cX4_size 1 (some .int), Cond.methodLink RX3 70 yX3_measureParts, Cond.instanceMethod yX3_measureParts, Cond.selects RX3 yX3_measureParts yX3_measureParts, Cond.code yX3_measureParts cX3_measureParts 4 none, Cond.methodLink RX3 93 yX3_isOptional, Cond.instanceMethod yX3_isOptional, Cond.selects RX3 yX3_isOptional yX3_isOptional, Cond.code yX3_isOptional cX3_isOptional 2 (some .boolean), Cond.fieldLink RX3 42 "BitNotation$Type" "optional" "I", Cond.methodLink RX3 73 yX3_measureAdditions, Cond.instanceMethod yX3_measureAdditions, Cond.selects RX3 yX3_measureAdditions yX3_measureAdditions, Cond.code yX3_measureAdditions cX3_measureAdditions 3 none, Cond.fieldLink RX3 55 "BitNotation$Type" "additions" "LBitNotation$TypeRow;", Cond.methodLink RX6 123 yX4_dropLast, Cond.instanceMethod yX4_dropLast, Cond.selects RX4 yX4_dropLast yX4_dropLast, Cond.code yX4_dropLast cX4_dropLast 1 none, Cond.methodLink RX6 97 yX4_size]
def wsL_extend : List Cond := .codeWith yL_extend cL_extend 5 (some .int) [(0, 10, 13, 21), (0, 10, 17, 13), (0, 10, 21, 15)] :: ((wsL_extend_r1 ++ (wsL_extend_r2 ++ (wsL_extend_r3 ++ wsL_extend_r4))) ++ wsX30 ++ wsX60 ++ wsX40 ++ (vx_atS RX6 57 "java/lang/IllegalArgumentException" ["java/lang/RuntimeException", "java/lang/Exception"]).filter goodWord ++ (vx_atS RX6 96 "java/lang/IllegalStateException" ["java/lang/RuntimeException", "java/lang/Exception"]).filter goodWord ++ (vx_atS RX6 153 "java/lang/IndexOutOfBoundsException" ["java/lang/RuntimeException", "java/lang/Exception"]).filter goodWord)
def wsL_leastBits : List Cond := .codeWith yL_leastBits cL_leastBits 4 (some .int) [(0, 9, 12, 21)] :: ([.classLink RL 21 "java/lang/IndexOutOfBoundsException", .methodLink RL 37 yX6_leastBits, .instanceMethod yX6_leastBits, .selects RX6 yX6_leastBits yX6_leastBits, .initialized RX6, .code yX6_leastBits cX6_leastBits 2 (some .int), .methodLink RX6 75 yX6_typeNumbered, .instanceMethod yX6_typeNumbered, .selects RX6 yX6_typeNumbered yX6_typeNumbered, .code yX6_typeNumbered cX6_typeNumbered 3 (some (.object "BitNotation$Type")), .classLink RX6 149 "java/lang/IndexOutOfBoundsException", .initialized "java/lang/IndexOutOfBoundsException", .fieldLink RX6 14 "BitNotation" "notation" "LBitNotation$TypeRow;", .methodLink RX6 188 yX4_at, .instanceMethod yX4_at, .selects RX4 yX4_at yX4_at, .initialized RX4, .code yX4_at cX4_at 2 (some (.object "BitNotation$Type")), .fieldLink RX4 7 "BitNotation$TypeRow" "count" "I", .fieldLink RX4 21 "BitNotation$TypeRow" "items" "[LBitNotation$Type;"] ++ wsX30 ++ wsX60 ++ wsX40 ++ (vx_atS RX6 153 "java/lang/IndexOutOfBoundsException" ["java/lang/RuntimeException", "java/lang/Exception"]).filter goodWord)
def wsL_mostBits : List Cond := .codeWith yL_mostBits cL_mostBits 4 (some .int) [(0, 9, 12, 21)] :: ([.classLink RL 21 "java/lang/IndexOutOfBoundsException", .methodLink RL 41 yX6_mostBits, .instanceMethod yX6_mostBits, .selects RX6 yX6_mostBits yX6_mostBits, .initialized RX6, .code yX6_mostBits cX6_mostBits 2 (some .int), .methodLink RX6 75 yX6_typeNumbered, .instanceMethod yX6_typeNumbered, .selects RX6 yX6_typeNumbered yX6_typeNumbered, .code yX6_typeNumbered cX6_typeNumbered 3 (some (.object "BitNotation$Type")), .classLink RX6 149 "java/lang/IndexOutOfBoundsException", .initialized "java/lang/IndexOutOfBoundsException", .fieldLink RX6 14 "BitNotation" "notation" "LBitNotation$TypeRow;", .methodLink RX6 188 yX4_at, .instanceMethod yX4_at, .selects RX4 yX4_at yX4_at, .initialized RX4, .code yX4_at cX4_at 2 (some (.object "BitNotation$Type")), .fieldLink RX4 7 "BitNotation$TypeRow" "count" "I", .fieldLink RX4 21 "BitNotation$TypeRow" "items" "[LBitNotation$Type;"] ++ wsX30 ++ wsX60 ++ wsX40 ++ (vx_atS RX6 153 "java/lang/IndexOutOfBoundsException" ["java/lang/RuntimeException", "java/lang/Exception"]).filter goodWord)
def wsL_tell_r1 : List Cond := [Cond.classLink RL 13 "java/lang/IllegalArgumentException", Cond.classLink RL 15 "java/lang/IllegalStateException", Cond.methodLink RL 44 yX6_tell, Cond.instanceMethod yX6_tell, Cond.selects RX6 yX6_tell yX6_tell, Cond.initialized RX6, Cond.code yX6_tell cX6_tell 2 (some .int), Cond.classLink RX6 53 "java/lang/IllegalArgumentException", Cond.initialized "java/lang/IllegalArgumentException", Cond.classLink RX6 92 "java/lang/IllegalStateException", Cond.initialized "java/lang/IllegalStateException", Cond.fieldLink RX6 21 "BitNotation" "tale" "LBitNotation$Row;", Cond.methodLink RX6 49 yX6_isOutside, Cond.static yX6_isOutside, Cond.code yX6_isOutside cX6_isOutside 3 (some .boolean), Cond.methodLink RX6 136 yX2_isFull, Cond.instanceMethod yX2_isFull, Cond.selects RX2 yX2_isFull yX2_isFull, Cond.initialized RX2, Cond.code yX2_isFull cX2_isFull 1 (some .boolean), Cond.fieldLink RX2 7 "BitNotation$Row" "count" "I", Cond.fieldLink RX2 19 "BitNotation$Row" "items" "[I", Cond.methodLink RX6 139 yX2_append, Cond.instanceMethod yX2_append]
def wsL_tell_r2 : List Cond := [Cond.selects RX2 yX2_append yX2_append, Cond.code yX2_append cX2_append 2 none, Cond.methodLink RX6 141 yX2_size, Cond.instanceMethod yX2_size, Cond.selects RX2 yX2_size yX2_size, Cond.code yX2_size cX2_size 1 (some .int)]
def wsL_tell : List Cond := .codeWith yL_tell cL_tell 4 (some .int) [(0, 9, 12, 13), (0, 9, 15, 15)] :: ((wsL_tell_r1 ++ wsL_tell_r2) ++ wsX60 ++ wsX20 ++ (vx_atS RX6 57 "java/lang/IllegalArgumentException" ["java/lang/RuntimeException", "java/lang/Exception"]).filter goodWord ++ (vx_atS RX6 96 "java/lang/IllegalStateException" ["java/lang/RuntimeException", "java/lang/Exception"]).filter goodWord)
def wsL_told : List Cond := .codeWith yL_told cL_told 4 (some .int) [(0, 9, 12, 21)] :: ([.classLink RL 21 "java/lang/IndexOutOfBoundsException", .methodLink RL 47 yX6_told, .instanceMethod yX6_told, .selects RX6 yX6_told yX6_told, .initialized RX6, .code yX6_told cX6_told 2 (some .int), .classLink RX6 149 "java/lang/IndexOutOfBoundsException", .initialized "java/lang/IndexOutOfBoundsException", .fieldLink RX6 21 "BitNotation" "tale" "LBitNotation$Row;", .methodLink RX6 145 yX2_has, .instanceMethod yX2_has, .selects RX2 yX2_has yX2_has, .initialized RX2, .code yX2_has cX2_has 2 (some .boolean), .fieldLink RX2 7 "BitNotation$Row" "count" "I", .fieldLink RX2 19 "BitNotation$Row" "items" "[I", .methodLink RX6 154 yX2_at, .instanceMethod yX2_at, .selects RX2 yX2_at yX2_at, .code yX2_at cX2_at 2 (some .int), .methodLink RX2 23 yX2_has] ++ wsX60 ++ wsX20 ++ (vx_atS RX6 153 "java/lang/IndexOutOfBoundsException" ["java/lang/RuntimeException", "java/lang/Exception"]).filter goodWord)
def wsL_wrongAt_r1 : List Cond := [Cond.classLink RL 21 "java/lang/IndexOutOfBoundsException", Cond.methodLink RL 50 yX6_wrongAt, Cond.instanceMethod yX6_wrongAt, Cond.selects RX6 yX6_wrongAt yX6_wrongAt, Cond.initialized RX6, Cond.code yX6_wrongAt cX6_wrongAt 2 (some .int), Cond.fieldLink RX6 31 "BitNotation" "writer" "LBitNotation$Writer;", Cond.fieldLink RX6 21 "BitNotation" "tale" "LBitNotation$Row;", Cond.methodLink RX6 75 yX6_typeNumbered, Cond.instanceMethod yX6_typeNumbered, Cond.selects RX6 yX6_typeNumbered yX6_typeNumbered, Cond.code yX6_typeNumbered cX6_typeNumbered 3 (some (.object "BitNotation$Type")), Cond.classLink RX6 149 "java/lang/IndexOutOfBoundsException", Cond.initialized "java/lang/IndexOutOfBoundsException", Cond.fieldLink RX6 14 "BitNotation" "notation" "LBitNotation$TypeRow;", Cond.methodLink RX6 188 yX4_at, Cond.instanceMethod yX4_at, Cond.selects RX4 yX4_at yX4_at, Cond.initialized RX4, Cond.code yX4_at cX4_at 2 (some (.object "BitNotation$Type")), Cond.fieldLink RX4 7 "BitNotation$TypeRow" "count" "I", Cond.fieldLink RX4 21 "BitNotation$TypeRow" "items" "[LBitNotation$Type;", Cond.methodLink RX6 158 yX5_walk, Cond.instanceMethod yX5_walk]
def wsL_wrongAt_r2 : List Cond := [Cond.selects RX5 yX5_walk yX5_walk, Cond.initialized RX5, Cond.code yX5_walk cX5_walk 3 (some .int), Cond.fieldLink RX5 14 "BitNotation$Writer" "written" "LBitNotation$Row;", Cond.fieldLink RX5 20 "BitNotation$Writer" "place" "I", Cond.fieldLink RX5 24 "BitNotation$Writer" "wrong" "I", Cond.methodLink RX5 27 yX2_keepFirst, Cond.instanceMethod yX2_keepFirst, Cond.selects RX2 yX2_keepFirst yX2_keepFirst, Cond.initialized RX2, Cond.code yX2_keepFirst cX2_keepFirst 2 none, Cond.fieldLink RX2 7 "BitNotation$Row" "count" "I", Cond.methodLink RX5 30 yX5_putValue, Cond.instanceMethod yX5_putValue, Cond.selects RX5 yX5_putValue yX5_putValue, Cond.code yX5_putValue cX5_putValue 6 none, Cond.fieldLink RX5 44 "BitNotation$Kind" "SEQUENCE" "LBitNotation$Kind;", Cond.fieldLink RX5 69 "BitNotation$Kind" "LIST" "LBitNotation$Kind;", Cond.fieldLink RX5 82 "BitNotation$Kind" "CHOICE" "LBitNotation$Kind;", Cond.methodLink RX5 49 yX5_putSequence, Cond.instanceMethod yX5_putSequence, Cond.selects RX5 yX5_putSequence yX5_putSequence, Cond.methodLink RX5 58 yX5_next, Cond.instanceMethod yX5_next]
def wsL_wrongAt_r3 : List Cond := [Cond.selects RX5 yX5_next yX5_next, Cond.code yX5_next cX5_next 5 (some .int), Cond.methodLink RX5 103 yX2_at, Cond.instanceMethod yX2_at, Cond.selects RX2 yX2_at yX2_at, Cond.code yX2_at cX2_at 2 (some .int), Cond.fieldLink RX2 19 "BitNotation$Row" "items" "[I", Cond.methodLink RX2 23 yX2_has, Cond.instanceMethod yX2_has, Cond.selects RX2 yX2_has yX2_has, Cond.code yX2_has cX2_has 2 (some .boolean), Cond.methodLink RX5 106 yX2_has, Cond.static yX6_isOutside, Cond.code yX6_isOutside cX6_isOutside 3 (some .boolean), Cond.methodLink RX5 65 yX5_put, Cond.instanceMethod yX5_put, Cond.selects RX5 yX5_put yX5_put, Cond.code yX5_put cX5_put 4 none, Cond.methodLink RX5 113 yX2_append, Cond.instanceMethod yX2_append, Cond.selects RX2 yX2_append yX2_append, Cond.code yX2_append cX2_append 2 none, Cond.methodLink RX5 76 yX4_at, Cond.code yX5_putAddition cX5_putAddition 8 none]
def wsL_wrongAt_r4 : List Cond := [Cond.methodLink RX5 34 yX2_size, Cond.instanceMethod yX2_size, Cond.selects RX2 yX2_size yX2_size, Cond.code yX2_size cX2_size 1 (some .int), Cond.methodLink RX5 100 yX2_replace, Cond.instanceMethod yX2_replace, Cond.selects RX2 yX2_replace yX2_replace, Cond.code yX2_replace cX2_replace 3 none, Cond.code yX5_putSequence cX5_putSequence 7 none, Cond.methodLink RX5 85 yX5_nextParts, Cond.instanceMethod yX5_nextParts, Cond.selects RX5 yX5_nextParts yX5_nextParts, Cond.code yX5_nextParts cX5_nextParts 5 (some .int), Cond.methodLink RX5 92 yX4_size, Cond.instanceMethod yX4_size, Cond.selects RX4 yX4_size yX4_size, Cond.code yX4_size cX4_size 1 (some .int), Cond.methodLink RX5 93 yX3_isOptional, Cond.instanceMethod yX3_isOptional, Cond.selects RX3 yX3_isOptional yX3_isOptional, Cond.initialized RX3, Cond.code yX3_isOptional cX3_isOptional 2 (some .boolean), Cond.fieldLink RX3 42 "BitNotation$Type" "optional" "I", Cond.methodLink RX5 97 yX5_putAddition]
def wsL_wrongAt_r5 : List Cond := [Cond.instanceMethod yX5_putAddition, Cond.selects RX5 yX5_putAddition yX5_putAddition]
def wsL_wrongAt : List Cond := .codeWith yL_wrongAt cL_wrongAt 4 (some .int) [(0, 9, 12, 21)] :: ((wsL_wrongAt_r1 ++ (wsL_wrongAt_r2 ++ (wsL_wrongAt_r3 ++ (wsL_wrongAt_r4 ++ wsL_wrongAt_r5)))) ++ wsX60 ++ wsX40 ++ wsX50 ++ wsX20 ++ wsX30 ++ (vx_atS RX6 153 "java/lang/IndexOutOfBoundsException" ["java/lang/RuntimeException", "java/lang/Exception"]).filter goodWord)
def wsL_write_r1 : List Cond := [Cond.classLink RL 21 "java/lang/IndexOutOfBoundsException", Cond.classLink RL 15 "java/lang/IllegalStateException", Cond.methodLink RL 53 yX6_write, Cond.instanceMethod yX6_write, Cond.selects RX6 yX6_write yX6_write, Cond.initialized RX6, Cond.code yX6_write cX6_write 2 (some .int), Cond.classLink RX6 92 "java/lang/IllegalStateException", Cond.initialized "java/lang/IllegalStateException", Cond.fieldLink RX6 31 "BitNotation" "writer" "LBitNotation$Writer;", Cond.fieldLink RX6 21 "BitNotation" "tale" "LBitNotation$Row;", Cond.fieldLink RX6 25 "BitNotation" "message" "LBitNotation$Row;", Cond.methodLink RX6 75 yX6_typeNumbered, Cond.instanceMethod yX6_typeNumbered, Cond.selects RX6 yX6_typeNumbered yX6_typeNumbered, Cond.code yX6_typeNumbered cX6_typeNumbered 3 (some (.object "BitNotation$Type")), Cond.classLink RX6 149 "java/lang/IndexOutOfBoundsException", Cond.initialized "java/lang/IndexOutOfBoundsException", Cond.fieldLink RX6 14 "BitNotation" "notation" "LBitNotation$TypeRow;", Cond.methodLink RX6 188 yX4_at, Cond.instanceMethod yX4_at, Cond.selects RX4 yX4_at yX4_at, Cond.initialized RX4, Cond.code yX4_at cX4_at 2 (some (.object "BitNotation$Type"))]
def wsL_write_r2 : List Cond := [Cond.fieldLink RX4 7 "BitNotation$TypeRow" "count" "I", Cond.fieldLink RX4 21 "BitNotation$TypeRow" "items" "[LBitNotation$Type;", Cond.methodLink RX6 158 yX5_walk, Cond.instanceMethod yX5_walk, Cond.selects RX5 yX5_walk yX5_walk, Cond.initialized RX5, Cond.code yX5_walk cX5_walk 3 (some .int), Cond.fieldLink RX5 14 "BitNotation$Writer" "written" "LBitNotation$Row;", Cond.fieldLink RX5 20 "BitNotation$Writer" "place" "I", Cond.fieldLink RX5 24 "BitNotation$Writer" "wrong" "I", Cond.methodLink RX5 27 yX2_keepFirst, Cond.instanceMethod yX2_keepFirst, Cond.selects RX2 yX2_keepFirst yX2_keepFirst, Cond.initialized RX2, Cond.code yX2_keepFirst cX2_keepFirst 2 none, Cond.fieldLink RX2 7 "BitNotation$Row" "count" "I", Cond.methodLink RX5 30 yX5_putValue, Cond.instanceMethod yX5_putValue, Cond.selects RX5 yX5_putValue yX5_putValue, Cond.code yX5_putValue cX5_putValue 6 none, Cond.fieldLink RX5 44 "BitNotation$Kind" "SEQUENCE" "LBitNotation$Kind;", Cond.fieldLink RX5 69 "BitNotation$Kind" "LIST" "LBitNotation$Kind;", Cond.fieldLink RX5 82 "BitNotation$Kind" "CHOICE" "LBitNotation$Kind;", Cond.methodLink RX5 49 yX5_putSequence]
def wsL_write_r3 : List Cond := [Cond.instanceMethod yX5_putSequence, Cond.selects RX5 yX5_putSequence yX5_putSequence, Cond.methodLink RX5 58 yX5_next, Cond.instanceMethod yX5_next, Cond.selects RX5 yX5_next yX5_next, Cond.code yX5_next cX5_next 5 (some .int), Cond.methodLink RX5 103 yX2_at, Cond.instanceMethod yX2_at, Cond.selects RX2 yX2_at yX2_at, Cond.code yX2_at cX2_at 2 (some .int), Cond.fieldLink RX2 19 "BitNotation$Row" "items" "[I", Cond.methodLink RX2 23 yX2_has, Cond.instanceMethod yX2_has, Cond.selects RX2 yX2_has yX2_has, Cond.code yX2_has cX2_has 2 (some .boolean), Cond.methodLink RX5 106 yX2_has, Cond.static yX6_isOutside, Cond.code yX6_isOutside cX6_isOutside 3 (some .boolean), Cond.methodLink RX5 65 yX5_put, Cond.instanceMethod yX5_put, Cond.selects RX5 yX5_put yX5_put, Cond.code yX5_put cX5_put 4 none, Cond.methodLink RX5 113 yX2_append, Cond.instanceMethod yX2_append]
def wsL_write_r4 : List Cond := [Cond.selects RX2 yX2_append yX2_append, Cond.code yX2_append cX2_append 2 none, Cond.methodLink RX5 76 yX4_at, Cond.code yX5_putAddition cX5_putAddition 8 none, Cond.methodLink RX5 34 yX2_size, Cond.instanceMethod yX2_size, Cond.selects RX2 yX2_size yX2_size, Cond.code yX2_size cX2_size 1 (some .int), Cond.methodLink RX5 100 yX2_replace, Cond.instanceMethod yX2_replace, Cond.selects RX2 yX2_replace yX2_replace, Cond.code yX2_replace cX2_replace 3 none, Cond.code yX5_putSequence cX5_putSequence 7 none, Cond.methodLink RX5 85 yX5_nextParts, Cond.instanceMethod yX5_nextParts, Cond.selects RX5 yX5_nextParts yX5_nextParts, Cond.code yX5_nextParts cX5_nextParts 5 (some .int), Cond.methodLink RX5 92 yX4_size, Cond.instanceMethod yX4_size, Cond.selects RX4 yX4_size yX4_size, Cond.code yX4_size cX4_size 1 (some .int), Cond.methodLink RX5 93 yX3_isOptional, Cond.instanceMethod yX3_isOptional, Cond.selects RX3 yX3_isOptional yX3_isOptional]
def wsL_write_r5 : List Cond := [Cond.initialized RX3, Cond.code yX3_isOptional cX3_isOptional 2 (some .boolean), Cond.fieldLink RX3 42 "BitNotation$Type" "optional" "I", Cond.methodLink RX5 97 yX5_putAddition, Cond.instanceMethod yX5_putAddition, Cond.selects RX5 yX5_putAddition yX5_putAddition, Cond.methodLink RX6 167 yX2_becomeCopyOf, Cond.instanceMethod yX2_becomeCopyOf, Cond.selects RX2 yX2_becomeCopyOf yX2_becomeCopyOf, Cond.code yX2_becomeCopyOf cX2_becomeCopyOf 3 none, Cond.methodLink RX2 27 yX2_keepFirst, Cond.methodLink RX2 31 yX2_size, Cond.methodLink RX2 35 yX2_at, Cond.methodLink RX2 39 yX2_append, Cond.methodLink RX6 141 yX2_size]
def wsL_write : List Cond := .codeWith yL_write cL_write 4 (some .int) [(0, 9, 12, 21), (0, 9, 15, 15)] :: ((wsL_write_r1 ++ (wsL_write_r2 ++ (wsL_write_r3 ++ (wsL_write_r4 ++ wsL_write_r5)))) ++ wsX60 ++ wsX50 ++ wsX40 ++ wsX20 ++ wsX30 ++ (vx_atS RX6 96 "java/lang/IllegalStateException" ["java/lang/RuntimeException", "java/lang/Exception"]).filter goodWord ++ (vx_atS RX6 153 "java/lang/IndexOutOfBoundsException" ["java/lang/RuntimeException", "java/lang/Exception"]).filter goodWord)
def wsL_bit : List Cond := .codeWith yL_bit cL_bit 4 (some .int) [(0, 9, 12, 21)] :: ([.classLink RL 21 "java/lang/IndexOutOfBoundsException", .methodLink RL 56 yX6_bit, .instanceMethod yX6_bit, .selects RX6 yX6_bit yX6_bit, .initialized RX6, .code yX6_bit cX6_bit 2 (some .int), .classLink RX6 149 "java/lang/IndexOutOfBoundsException", .initialized "java/lang/IndexOutOfBoundsException", .fieldLink RX6 25 "BitNotation" "message" "LBitNotation$Row;", .methodLink RX6 145 yX2_has, .instanceMethod yX2_has, .selects RX2 yX2_has yX2_has, .initialized RX2, .code yX2_has cX2_has 2 (some .boolean), .fieldLink RX2 7 "BitNotation$Row" "count" "I", .fieldLink RX2 19 "BitNotation$Row" "items" "[I", .methodLink RX6 154 yX2_at, .instanceMethod yX2_at, .selects RX2 yX2_at yX2_at, .code yX2_at cX2_at 2 (some .int), .methodLink RX2 23 yX2_has] ++ wsX60 ++ wsX20 ++ (vx_atS RX6 153 "java/lang/IndexOutOfBoundsException" ["java/lang/RuntimeException", "java/lang/Exception"]).filter goodWord)
def wsL_flip_r1 : List Cond := [Cond.classLink RL 21 "java/lang/IndexOutOfBoundsException", Cond.methodLink RL 59 yX6_flip, Cond.instanceMethod yX6_flip, Cond.selects RX6 yX6_flip yX6_flip, Cond.initialized RX6, Cond.code yX6_flip cX6_flip 2 (some .int), Cond.classLink RX6 149 "java/lang/IndexOutOfBoundsException", Cond.initialized "java/lang/IndexOutOfBoundsException", Cond.fieldLink RX6 25 "BitNotation" "message" "LBitNotation$Row;", Cond.methodLink RX6 145 yX2_has, Cond.instanceMethod yX2_has, Cond.selects RX2 yX2_has yX2_has, Cond.initialized RX2, Cond.code yX2_has cX2_has 2 (some .boolean), Cond.fieldLink RX2 7 "BitNotation$Row" "count" "I", Cond.fieldLink RX2 19 "BitNotation$Row" "items" "[I", Cond.methodLink RX6 154 yX2_at, Cond.instanceMethod yX2_at, Cond.selects RX2 yX2_at yX2_at, Cond.code yX2_at cX2_at 2 (some .int), Cond.methodLink RX2 23 yX2_has, Cond.methodLink RX6 173 yX2_replace, Cond.instanceMethod yX2_replace, Cond.selects RX2 yX2_replace yX2_replace]
def wsL_flip_r2 : List Cond := [Cond.code yX2_replace cX2_replace 3 none]
def wsL_flip : List Cond := .codeWith yL_flip cL_flip 4 (some .int) [(0, 9, 12, 21)] :: ((wsL_flip_r1 ++ wsL_flip_r2) ++ wsX60 ++ wsX20 ++ (vx_atS RX6 153 "java/lang/IndexOutOfBoundsException" ["java/lang/RuntimeException", "java/lang/Exception"]).filter goodWord)
def wsL_cut : List Cond := .codeWith yL_cut cL_cut 4 (some .int) [(0, 9, 12, 13)] :: ([.classLink RL 13 "java/lang/IllegalArgumentException", .methodLink RL 62 yX6_cut, .instanceMethod yX6_cut, .selects RX6 yX6_cut yX6_cut, .initialized RX6, .code yX6_cut cX6_cut 3 (some .int), .classLink RX6 53 "java/lang/IllegalArgumentException", .initialized "java/lang/IllegalArgumentException", .fieldLink RX6 25 "BitNotation" "message" "LBitNotation$Row;", .methodLink RX6 141 yX2_size, .instanceMethod yX2_size, .selects RX2 yX2_size yX2_size, .initialized RX2, .code yX2_size cX2_size 1 (some .int), .fieldLink RX2 7 "BitNotation$Row" "count" "I", .methodLink RX6 49 yX6_isOutside, .static yX6_isOutside, .code yX6_isOutside cX6_isOutside 3 (some .boolean), .methodLink RX6 142 yX2_keepFirst, .instanceMethod yX2_keepFirst, .selects RX2 yX2_keepFirst yX2_keepFirst, .code yX2_keepFirst cX2_keepFirst 2 none] ++ wsX60 ++ wsX20 ++ (vx_atS RX6 57 "java/lang/IllegalArgumentException" ["java/lang/RuntimeException", "java/lang/Exception"]).filter goodWord)
def wsL_read_r1 : List Cond := [Cond.classLink RL 21 "java/lang/IndexOutOfBoundsException", Cond.classLink RL 13 "java/lang/IllegalArgumentException", Cond.classLink RL 15 "java/lang/IllegalStateException", Cond.methodLink RL 65 yX6_read, Cond.instanceMethod yX6_read, Cond.selects RX6 yX6_read yX6_read, Cond.initialized RX6, Cond.code yX6_read cX6_read 3 (some .int), Cond.classLink RX6 92 "java/lang/IllegalStateException", Cond.initialized "java/lang/IllegalStateException", Cond.fieldLink RX6 21 "BitNotation" "tale" "LBitNotation$Row;", Cond.fieldLink RX6 38 "BitNotation" "reader" "LBitNotation$Reader;", Cond.methodLink RX6 179 yX6_placeOfFault, Cond.instanceMethod yX6_placeOfFault, Cond.selects RX6 yX6_placeOfFault yX6_placeOfFault, Cond.code yX6_placeOfFault cX6_placeOfFault 4 (some .int), Cond.classLink RX6 53 "java/lang/IllegalArgumentException", Cond.initialized "java/lang/IllegalArgumentException", Cond.fieldLink RX6 25 "BitNotation" "message" "LBitNotation$Row;", Cond.methodLink RX6 75 yX6_typeNumbered, Cond.instanceMethod yX6_typeNumbered, Cond.selects RX6 yX6_typeNumbered yX6_typeNumbered, Cond.code yX6_typeNumbered cX6_typeNumbered 3 (some (.object "BitNotation$Type")), Cond.classLink RX6 149 "java/lang/IndexOutOfBoundsException"]
def wsL_read_r2 : List Cond := [Cond.initialized "java/lang/IndexOutOfBoundsException", Cond.fieldLink RX6 14 "BitNotation" "notation" "LBitNotation$TypeRow;", Cond.methodLink RX6 188 yX4_at, Cond.instanceMethod yX4_at, Cond.selects RX4 yX4_at yX4_at, Cond.initialized RX4, Cond.code yX4_at cX4_at 2 (some (.object "BitNotation$Type")), Cond.fieldLink RX4 7 "BitNotation$TypeRow" "count" "I", Cond.fieldLink RX4 21 "BitNotation$TypeRow" "items" "[LBitNotation$Type;", Cond.methodLink RX6 49 yX6_isOutside, Cond.static yX6_isOutside, Cond.code yX6_isOutside cX6_isOutside 3 (some .boolean), Cond.methodLink RX6 201 yX1_walk, Cond.instanceMethod yX1_walk, Cond.selects RX1 yX1_walk yX1_walk, Cond.initialized RX1, Cond.code yX1_walk cX1_walk 4 (some .int), Cond.fieldLink RX1 14 "BitNotation$Reader" "heard" "LBitNotation$Row;", Cond.fieldLink RX1 20 "BitNotation$Reader" "additionsKnown" "I", Cond.fieldLink RX1 24 "BitNotation$Reader" "place" "I", Cond.fieldLink RX1 27 "BitNotation$Reader" "fault" "I", Cond.methodLink RX1 30 yX2_keepFirst, Cond.instanceMethod yX2_keepFirst, Cond.selects RX2 yX2_keepFirst yX2_keepFirst]
def wsL_read_r3 : List Cond := [Cond.initialized RX2, Cond.code yX2_keepFirst cX2_keepFirst 2 none, Cond.fieldLink RX2 7 "BitNotation$Row" "count" "I", Cond.methodLink RX1 33 yX1_getValue, Cond.instanceMethod yX1_getValue, Cond.selects RX1 yX1_getValue yX1_getValue, Cond.code yX1_getValue cX1_getValue 6 none, Cond.fieldLink RX1 47 "BitNotation$Kind" "SEQUENCE" "LBitNotation$Kind;", Cond.fieldLink RX1 71 "BitNotation$Kind" "LIST" "LBitNotation$Kind;", Cond.fieldLink RX1 84 "BitNotation$Kind" "CHOICE" "LBitNotation$Kind;", Cond.methodLink RX1 52 yX1_getSequence, Cond.instanceMethod yX1_getSequence, Cond.selects RX1 yX1_getSequence yX1_getSequence, Cond.methodLink RX1 64 yX1_next, Cond.instanceMethod yX1_next, Cond.selects RX1 yX1_next yX1_next, Cond.code yX1_next cX1_next 6 (some .int), Cond.methodLink RX1 120 yX2_at, Cond.instanceMethod yX2_at, Cond.selects RX2 yX2_at yX2_at, Cond.code yX2_at cX2_at 2 (some .int), Cond.fieldLink RX2 19 "BitNotation$Row" "items" "[I", Cond.methodLink RX2 23 yX2_has, Cond.instanceMethod yX2_has]
def wsL_read_r4 : List Cond := [Cond.selects RX2 yX2_has yX2_has, Cond.code yX2_has cX2_has 2 (some .boolean), Cond.methodLink RX1 37 yX2_size, Cond.instanceMethod yX2_size, Cond.selects RX2 yX2_size yX2_size, Cond.code yX2_size cX2_size 1 (some .int), Cond.methodLink RX1 68 yX2_append, Cond.instanceMethod yX2_append, Cond.selects RX2 yX2_append yX2_append, Cond.code yX2_append cX2_append 2 none, Cond.methodLink RX1 78 yX4_at, Cond.code yX1_getAddition cX1_getAddition 6 none, Cond.code yX1_getAdditions cX1_getAdditions 7 none, Cond.methodLink RX1 113 yX1_getAddition, Cond.instanceMethod yX1_getAddition, Cond.selects RX1 yX1_getAddition yX1_getAddition, Cond.methodLink RX1 116 yX1_skip, Cond.instanceMethod yX1_skip, Cond.selects RX1 yX1_skip yX1_skip, Cond.code yX1_skip cX1_skip 3 none, Cond.code yX1_getSequence cX1_getSequence 8 none, Cond.methodLink RX1 95 Lib.Math.min.name, Cond.static Lib.Math.min.name, Cond.initialized "java/lang/Math"]
def wsL_read_r5 : List Cond := [Cond.code Lib.Math.min.name Lib.Math.min.code 2 (some .int), Cond.methodLink RX1 87 yX1_nextParts, Cond.instanceMethod yX1_nextParts, Cond.selects RX1 yX1_nextParts yX1_nextParts, Cond.code yX1_nextParts cX1_nextParts 6 (some .int), Cond.methodLink RX1 91 yX4_size, Cond.instanceMethod yX4_size, Cond.selects RX4 yX4_size yX4_size, Cond.code yX4_size cX4_size 1 (some .int), Cond.methodLink RX1 109 yX3_isOptional, Cond.instanceMethod yX3_isOptional, Cond.selects RX3 yX3_isOptional yX3_isOptional, Cond.initialized RX3, Cond.code yX3_isOptional cX3_isOptional 2 (some .boolean), Cond.fieldLink RX3 42 "BitNotation$Type" "optional" "I", Cond.methodLink RX1 101 yX2_replace, Cond.instanceMethod yX2_replace, Cond.selects RX2 yX2_replace yX2_replace, Cond.code yX2_replace cX2_replace 3 none, Cond.methodLink RX1 105 yX1_getAdditions, Cond.instanceMethod yX1_getAdditions, Cond.selects RX1 yX1_getAdditions yX1_getAdditions, Cond.methodLink RX6 167 yX2_becomeCopyOf, Cond.instanceMethod yX2_becomeCopyOf]
def wsL_read_r6 : List Cond := [Cond.selects RX2 yX2_becomeCopyOf yX2_becomeCopyOf, Cond.code yX2_becomeCopyOf cX2_becomeCopyOf 3 none, Cond.methodLink RX2 27 yX2_keepFirst, Cond.methodLink RX2 31 yX2_size, Cond.methodLink RX2 35 yX2_at, Cond.methodLink RX2 39 yX2_append, Cond.methodLink RX6 141 yX2_size]
def wsL_read : List Cond := .codeWith yL_read cL_read 5 (some .int) [(0, 10, 13, 21), (0, 10, 17, 13), (0, 10, 21, 15)] :: ((wsL_read_r1 ++ (wsL_read_r2 ++ (wsL_read_r3 ++ (wsL_read_r4 ++ (wsL_read_r5 ++ wsL_read_r6))))) ++ wsX60 ++ wsX10 ++ wsX40 ++ wsX20 ++ wsX30 ++ (vx_atS RX6 96 "java/lang/IllegalStateException" ["java/lang/RuntimeException", "java/lang/Exception"]).filter goodWord ++ (vx_atS RX6 57 "java/lang/IllegalArgumentException" ["java/lang/RuntimeException", "java/lang/Exception"]).filter goodWord ++ (vx_atS RX6 153 "java/lang/IndexOutOfBoundsException" ["java/lang/RuntimeException", "java/lang/Exception"]).filter goodWord)
def wsL_faultAt_r1 : List Cond := [Cond.classLink RL 21 "java/lang/IndexOutOfBoundsException", Cond.classLink RL 13 "java/lang/IllegalArgumentException", Cond.methodLink RL 68 yX6_faultAt, Cond.instanceMethod yX6_faultAt, Cond.selects RX6 yX6_faultAt yX6_faultAt, Cond.initialized RX6, Cond.code yX6_faultAt cX6_faultAt 3 (some .int), Cond.methodLink RX6 179 yX6_placeOfFault, Cond.instanceMethod yX6_placeOfFault, Cond.selects RX6 yX6_placeOfFault yX6_placeOfFault, Cond.code yX6_placeOfFault cX6_placeOfFault 4 (some .int), Cond.classLink RX6 53 "java/lang/IllegalArgumentException", Cond.initialized "java/lang/IllegalArgumentException", Cond.fieldLink RX6 38 "BitNotation" "reader" "LBitNotation$Reader;", Cond.fieldLink RX6 25 "BitNotation" "message" "LBitNotation$Row;", Cond.methodLink RX6 75 yX6_typeNumbered, Cond.instanceMethod yX6_typeNumbered, Cond.selects RX6 yX6_typeNumbered yX6_typeNumbered, Cond.code yX6_typeNumbered cX6_typeNumbered 3 (some (.object "BitNotation$Type")), Cond.classLink RX6 149 "java/lang/IndexOutOfBoundsException", Cond.initialized "java/lang/IndexOutOfBoundsException", Cond.fieldLink RX6 14 "BitNotation" "notation" "LBitNotation$TypeRow;", Cond.methodLink RX6 188 yX4_at, Cond.instanceMethod yX4_at]
def wsL_faultAt_r2 : List Cond := [Cond.selects RX4 yX4_at yX4_at, Cond.initialized RX4, Cond.code yX4_at cX4_at 2 (some (.object "BitNotation$Type")), Cond.fieldLink RX4 7 "BitNotation$TypeRow" "count" "I", Cond.fieldLink RX4 21 "BitNotation$TypeRow" "items" "[LBitNotation$Type;", Cond.methodLink RX6 49 yX6_isOutside, Cond.static yX6_isOutside, Cond.code yX6_isOutside cX6_isOutside 3 (some .boolean), Cond.methodLink RX6 201 yX1_walk, Cond.instanceMethod yX1_walk, Cond.selects RX1 yX1_walk yX1_walk, Cond.initialized RX1, Cond.code yX1_walk cX1_walk 4 (some .int), Cond.fieldLink RX1 14 "BitNotation$Reader" "heard" "LBitNotation$Row;", Cond.fieldLink RX1 20 "BitNotation$Reader" "additionsKnown" "I", Cond.fieldLink RX1 24 "BitNotation$Reader" "place" "I", Cond.fieldLink RX1 27 "BitNotation$Reader" "fault" "I", Cond.methodLink RX1 30 yX2_keepFirst, Cond.instanceMethod yX2_keepFirst, Cond.selects RX2 yX2_keepFirst yX2_keepFirst, Cond.initialized RX2, Cond.code yX2_keepFirst cX2_keepFirst 2 none, Cond.fieldLink RX2 7 "BitNotation$Row" "count" "I", Cond.methodLink RX1 33 yX1_getValue]
def wsL_faultAt_r3 : List Cond := [Cond.instanceMethod yX1_getValue, Cond.selects RX1 yX1_getValue yX1_getValue, Cond.code yX1_getValue cX1_getValue 6 none, Cond.fieldLink RX1 47 "BitNotation$Kind" "SEQUENCE" "LBitNotation$Kind;", Cond.fieldLink RX1 71 "BitNotation$Kind" "LIST" "LBitNotation$Kind;", Cond.fieldLink RX1 84 "BitNotation$Kind" "CHOICE" "LBitNotation$Kind;", Cond.methodLink RX1 52 yX1_getSequence, Cond.instanceMethod yX1_getSequence, Cond.selects RX1 yX1_getSequence yX1_getSequence, Cond.methodLink RX1 64 yX1_next, Cond.instanceMethod yX1_next, Cond.selects RX1 yX1_next yX1_next, Cond.code yX1_next cX1_next 6 (some .int), Cond.methodLink RX1 120 yX2_at, Cond.instanceMethod yX2_at, Cond.selects RX2 yX2_at yX2_at, Cond.code yX2_at cX2_at 2 (some .int), Cond.fieldLink RX2 19 "BitNotation$Row" "items" "[I", Cond.methodLink RX2 23 yX2_has, Cond.instanceMethod yX2_has, Cond.selects RX2 yX2_has yX2_has, Cond.code yX2_has cX2_has 2 (some .boolean), Cond.methodLink RX1 37 yX2_size, Cond.instanceMethod yX2_size]
def wsL_faultAt_r4 : List Cond := [Cond.selects RX2 yX2_size yX2_size, Cond.code yX2_size cX2_size 1 (some .int), Cond.methodLink RX1 68 yX2_append, Cond.instanceMethod yX2_append, Cond.selects RX2 yX2_append yX2_append, Cond.code yX2_append cX2_append 2 none, Cond.methodLink RX1 78 yX4_at, Cond.code yX1_getAddition cX1_getAddition 6 none, Cond.code yX1_getAdditions cX1_getAdditions 7 none, Cond.methodLink RX1 113 yX1_getAddition, Cond.instanceMethod yX1_getAddition, Cond.selects RX1 yX1_getAddition yX1_getAddition, Cond.methodLink RX1 116 yX1_skip, Cond.instanceMethod yX1_skip, Cond.selects RX1 yX1_skip yX1_skip, Cond.code yX1_skip cX1_skip 3 none, Cond.code yX1_getSequence cX1_getSequence 8 none, Cond.methodLink RX1 95 Lib.Math.min.name, Cond.static Lib.Math.min.name, Cond.initialized "java/lang/Math", Cond.code Lib.Math.min.name Lib.Math.min.code 2 (some .int), Cond.methodLink RX1 87 yX1_nextParts, Cond.instanceMethod yX1_nextParts, Cond.selects RX1 yX1_nextParts yX1_nextParts]
def wsL_faultAt_r5 : List Cond := [Cond.code yX1_nextParts cX1_nextParts 6 (some .int), Cond.methodLink RX1 91 yX4_size, Cond.instanceMethod yX4_size, Cond.selects RX4 yX4_size yX4_size, Cond.code yX4_size cX4_size 1 (some .int), Cond.methodLink RX1 109 yX3_isOptional, Cond.instanceMethod yX3_isOptional, Cond.selects RX3 yX3_isOptional yX3_isOptional, Cond.initialized RX3, Cond.code yX3_isOptional cX3_isOptional 2 (some .boolean), Cond.fieldLink RX3 42 "BitNotation$Type" "optional" "I", Cond.methodLink RX1 101 yX2_replace, Cond.instanceMethod yX2_replace, Cond.selects RX2 yX2_replace yX2_replace, Cond.code yX2_replace cX2_replace 3 none, Cond.methodLink RX1 105 yX1_getAdditions, Cond.instanceMethod yX1_getAdditions, Cond.selects RX1 yX1_getAdditions yX1_getAdditions]
def wsL_faultAt : List Cond := .codeWith yL_faultAt cL_faultAt 5 (some .int) [(0, 10, 13, 21), (0, 10, 17, 13)] :: ((wsL_faultAt_r1 ++ (wsL_faultAt_r2 ++ (wsL_faultAt_r3 ++ (wsL_faultAt_r4 ++ wsL_faultAt_r5)))) ++ wsX60 ++ wsX40 ++ wsX10 ++ wsX20 ++ wsX30 ++ (vx_atS RX6 57 "java/lang/IllegalArgumentException" ["java/lang/RuntimeException", "java/lang/Exception"]).filter goodWord ++ (vx_atS RX6 153 "java/lang/IndexOutOfBoundsException" ["java/lang/RuntimeException", "java/lang/Exception"]).filter goodWord)
def wsL_law0_r1 : List Cond := [Cond.classLink RL 8 RX6, Cond.instantiable RX6 7, Cond.initialized RX6, Cond.classLink RL 72 RX7, Cond.instantiable RX7 30, Cond.initialized RX7, Cond.arrayClass .long, Cond.methodLink RL 71 yX6_init, Cond.instanceMethod yX6_init, Cond.code yX6_init cX6_init 1 none, Cond.methodLink RX6 1 objectInit, Cond.instanceMethod objectInit, Cond.code objectInit ⟨#[0xb1]⟩ 1 none, Cond.classLink RX6 7 RX4, Cond.instantiable RX4 2, Cond.initialized RX4, Cond.fieldLink RX6 14 "BitNotation" "notation" "LBitNotation$TypeRow;", Cond.classLink RX6 18 RX2, Cond.instantiable RX2 2, Cond.initialized RX2, Cond.fieldLink RX6 21 "BitNotation" "tale" "LBitNotation$Row;", Cond.fieldLink RX6 25 "BitNotation" "message" "LBitNotation$Row;", Cond.classLink RX6 28 RX5, Cond.instantiable RX5 3]
def wsL_law0_r2 : List Cond := [Cond.initialized RX5, Cond.fieldLink RX6 31 "BitNotation" "writer" "LBitNotation$Writer;", Cond.classLink RX6 35 RX1, Cond.instantiable RX1 4, Cond.initialized RX1, Cond.fieldLink RX6 38 "BitNotation" "reader" "LBitNotation$Reader;", Cond.fieldLink RX6 42 "BitNotation" "draft" "LBitNotation$TypeRow;", Cond.fieldLink RX6 45 "BitNotation" "draftOptional" "I", Cond.methodLink RX6 11 yX4_init, Cond.instanceMethod yX4_init, Cond.code yX4_init cX4_init 2 none, Cond.methodLink RX4 1 objectInit, Cond.fieldLink RX4 7 "BitNotation$TypeRow" "count" "I", Cond.methodLink RX4 13 Lib.Math.max.name, Cond.static Lib.Math.max.name, Cond.initialized "java/lang/Math", Cond.code Lib.Math.max.name Lib.Math.max.code 2 (some .int), Cond.classLink RX4 19 RX3, Cond.fieldLink RX4 21 "BitNotation$TypeRow" "items" "[LBitNotation$Type;", Cond.methodLink RX6 20 yX2_init, Cond.instanceMethod yX2_init, Cond.code yX2_init cX2_init 2 none, Cond.methodLink RX2 1 objectInit, Cond.fieldLink RX2 7 "BitNotation$Row" "count" "I"]
def wsL_law0_r3 : List Cond := [Cond.methodLink RX2 13 Lib.Math.max.name, Cond.arrayClass .int, Cond.fieldLink RX2 19 "BitNotation$Row" "items" "[I", Cond.instanceMethod yX5_init, Cond.code yX5_init cX5_init 1 none, Cond.methodLink RX5 3 objectInit, Cond.classLink RX5 9 RX2, Cond.fieldLink RX5 14 "BitNotation$Writer" "written" "LBitNotation$Row;", Cond.fieldLink RX5 20 "BitNotation$Writer" "place" "I", Cond.fieldLink RX5 24 "BitNotation$Writer" "wrong" "I", Cond.methodLink RX5 11 yX2_init, Cond.instanceMethod yX1_init, Cond.code yX1_init cX1_init 1 none, Cond.methodLink RX1 3 objectInit, Cond.classLink RX1 9 RX2, Cond.fieldLink RX1 14 "BitNotation$Reader" "heard" "LBitNotation$Row;", Cond.fieldLink RX1 20 "BitNotation$Reader" "additionsKnown" "I", Cond.fieldLink RX1 24 "BitNotation$Reader" "place" "I", Cond.fieldLink RX1 27 "BitNotation$Reader" "fault" "I", Cond.methodLink RX1 11 yX2_init, Cond.methodLink RL 74 yX7_init, Cond.instanceMethod yX7_init, Cond.code yX7_init cX7_init 1 none, Cond.methodLink RX7 1 objectInit]
def wsL_law0_r4 : List Cond := [Cond.fieldLink RX7 7 "BitNotationModel" "kinds" "[I", Cond.fieldLink RX7 13 "BitNotationModel" "leasts" "[I", Cond.fieldLink RX7 16 "BitNotationModel" "greatests" "[I", Cond.fieldLink RX7 19 "BitNotationModel" "parts" "[I", Cond.fieldLink RX7 22 "BitNotationModel" "counts" "[I", Cond.fieldLink RX7 25 "BitNotationModel" "additions" "[I", Cond.fieldLink RX7 28 "BitNotationModel" "added" "[I", Cond.fieldLink RX7 31 "BitNotationModel" "low" "[I", Cond.fieldLink RX7 34 "BitNotationModel" "high" "[I", Cond.fieldLink RX7 37 "BitNotationModel" "longest" "[I", Cond.fieldLink RX7 40 "BitNotationModel" "draft" "[I", Cond.fieldLink RX7 43 "BitNotationModel" "tale" "[I", Cond.fieldLink RX7 46 "BitNotationModel" "row" "[I", Cond.fieldLink RX7 49 "BitNotationModel" "read" "[I", Cond.fieldLink RX7 52 "BitNotationModel" "piled" "[I", Cond.fieldLink RX7 55 "BitNotationModel" "steps" "[I", Cond.fieldLink RX7 58 "BitNotationModel" "left" "[I", Cond.fieldLink RX7 61 "BitNotationModel" "more" "[I", Cond.fieldLink RX7 64 "BitNotationModel" "marks" "[I", Cond.fieldLink RX7 67 "BitNotationModel" "lengths" "[I", Cond.fieldLink RX7 70 "BitNotationModel" "slots" "[I", Cond.methodLink RL 75 yL_addNumber, Cond.static yL_addNumber, Cond.initialized RL]
def wsL_law0_r5 : List Cond := [Cond.codeWith yL_addNumber cL_addNumber 5 (some .int) [(0, 10, 13, 13), (0, 10, 17, 15)], Cond.classLink RL 13 "java/lang/IllegalArgumentException", Cond.classLink RL 15 "java/lang/IllegalStateException", Cond.methodLink RL 7 yX6_addNumber, Cond.instanceMethod yX6_addNumber, Cond.selects RX6 yX6_addNumber yX6_addNumber, Cond.code yX6_addNumber cX6_addNumber 3 (some .int), Cond.classLink RX6 53 "java/lang/IllegalArgumentException", Cond.initialized "java/lang/IllegalArgumentException", Cond.classLink RX6 60 RX3, Cond.instantiable RX3 10, Cond.initialized RX3, Cond.fieldLink RX6 62 "BitNotation$Kind" "NUMBER" "LBitNotation$Kind;", Cond.methodLink RX6 49 yX6_isOutside, Cond.static yX6_isOutside, Cond.code yX6_isOutside cX6_isOutside 3 (some .boolean), Cond.methodLink RX6 68 yX3_init, Cond.instanceMethod yX3_init, Cond.code yX3_init cX3_init 6 none, Cond.methodLink RX3 3 objectInit, Cond.fieldLink RX3 9 "BitNotation$Type" "fewestBits" "I", Cond.fieldLink RX3 15 "BitNotation$Type" "mostBits" "I", Cond.fieldLink RX3 18 "BitNotation$Type" "mostNumbers" "I", Cond.fieldLink RX3 21 "BitNotation$Type" "kind" "LBitNotation$Kind;"]
def wsL_law0_r6 : List Cond := [Cond.fieldLink RX3 25 "BitNotation$Type" "least" "I", Cond.fieldLink RX3 28 "BitNotation$Type" "greatest" "I", Cond.fieldLink RX3 35 "BitNotation$Type" "width" "I", Cond.fieldLink RX3 38 "BitNotation$Type" "parts" "LBitNotation$TypeRow;", Cond.fieldLink RX3 42 "BitNotation$Type" "optional" "I", Cond.classLink RX3 45 RX4, Cond.fieldLink RX3 47 "BitNotation$Kind" "SEQUENCE" "LBitNotation$Kind;", Cond.fieldLink RX3 55 "BitNotation$Type" "additions" "LBitNotation$TypeRow;", Cond.static yX6_widthFor, Cond.code yX6_widthFor cX6_widthFor 2 (some .int), Cond.methodLink RX3 52 yX4_init, Cond.methodLink RX6 71 yX6_keep, Cond.instanceMethod yX6_keep, Cond.selects RX6 yX6_keep yX6_keep, Cond.code yX6_keep cX6_keep 2 (some .int), Cond.classLink RX6 92 "java/lang/IllegalStateException", Cond.initialized "java/lang/IllegalStateException", Cond.methodLink RX6 88 yX4_isFull, Cond.instanceMethod yX4_isFull, Cond.selects RX4 yX4_isFull yX4_isFull, Cond.code yX4_isFull cX4_isFull 1 (some .boolean), Cond.methodLink RX6 192 yX3_measure, Cond.instanceMethod yX3_measure, Cond.selects RX3 yX3_measure yX3_measure]
def wsL_law0_r7 : List Cond := [Cond.code yX3_measure cX3_measure 1 (some .boolean), Cond.fieldLink RX3 58 "BitNotation$Kind" "LIST" "LBitNotation$Kind;", Cond.fieldLink RX3 64 "BitNotation$Kind" "CHOICE" "LBitNotation$Kind;", Cond.methodLink RX3 61 yX3_measureThings, Cond.instanceMethod yX3_measureThings, Cond.selects RX3 yX3_measureThings yX3_measureThings, Cond.code yX3_measureThings cX3_measureThings 2 none, Cond.methodLink RX3 76 yX4_at, Cond.instanceMethod yX4_at, Cond.selects RX4 yX4_at yX4_at, Cond.code yX4_at cX4_at 2 (some (.object "BitNotation$Type")), Cond.methodLink RX3 67 yX3_measureChoices, Cond.instanceMethod yX3_measureChoices, Cond.selects RX3 yX3_measureChoices yX3_measureChoices, Cond.code yX3_measureChoices cX3_measureChoices 6 none, Cond.methodLink RX3 84 Lib.Math.min.name, Cond.static Lib.Math.min.name, Cond.code Lib.Math.min.name Lib.Math.min.code 2 (some .int), Cond.methodLink RX3 90 Lib.Math.max.name, Cond.methodLink RX3 80 yX4_size, Cond.instanceMethod yX4_size, Cond.selects RX4 yX4_size yX4_size, Cond.code yX4_size cX4_size 1 (some .int), Cond.methodLink RX3 70 yX3_measureParts]
def wsL_law0_r8 : List Cond := [Cond.instanceMethod yX3_measureParts, Cond.selects RX3 yX3_measureParts yX3_measureParts, Cond.code yX3_measureParts cX3_measureParts 4 none, Cond.methodLink RX3 93 yX3_isOptional, Cond.instanceMethod yX3_isOptional, Cond.selects RX3 yX3_isOptional yX3_isOptional, Cond.code yX3_isOptional cX3_isOptional 2 (some .boolean), Cond.methodLink RX3 73 yX3_measureAdditions, Cond.instanceMethod yX3_measureAdditions, Cond.selects RX3 yX3_measureAdditions yX3_measureAdditions, Cond.code yX3_measureAdditions cX3_measureAdditions 3 none, Cond.methodLink RX6 81 yX4_append, Cond.instanceMethod yX4_append, Cond.selects RX4 yX4_append yX4_append, Cond.code yX4_append cX4_append 2 none, Cond.methodLink RX6 97 yX4_size, Cond.methodLink RL 80 yX7_addNumber, Cond.instanceMethod yX7_addNumber, Cond.selects RX7 yX7_addNumber yX7_addNumber, Cond.code yX7_addNumber cX7_addNumber 4 (some .int), Cond.fieldLink RX7 77 "BitNotationModel" "types" "I", Cond.methodLink RX7 80 yX7_in, Cond.static yX7_in, Cond.code yX7_in cX7_in 3 (some .boolean)]
def wsL_law0_r9 : List Cond := [Cond.methodLink RX7 109 yX7_refused, Cond.instanceMethod yX7_refused, Cond.selects RX7 yX7_refused yX7_refused, Cond.code yX7_refused cX7_refused 2 (some .boolean), Cond.fieldLink RX7 73 "BitNotationModel" "refusal" "I", Cond.methodLink RX7 113 yX7_lay, Cond.instanceMethod yX7_lay, Cond.selects RX7 yX7_lay yX7_lay, Cond.code yX7_lay cX7_lay 5 none, Cond.methodLink RX7 117 yX7_measure, Cond.instanceMethod yX7_measure, Cond.selects RX7 yX7_measure yX7_measure, Cond.code yX7_measure cX7_measure 4 (some .boolean), Cond.methodLink RX7 102 yX7_measureSequence, Cond.instanceMethod yX7_measureSequence, Cond.selects RX7 yX7_measureSequence yX7_measureSequence, Cond.code yX7_measureSequence cX7_measureSequence 5 none, Cond.methodLink RX7 92 yX7_optionals, Cond.instanceMethod yX7_optionals, Cond.selects RX7 yX7_optionals yX7_optionals, Cond.code yX7_optionals cX7_optionals 4 (some .int), Cond.methodLink RX7 88 yX7_isOptional, Cond.instanceMethod yX7_isOptional, Cond.selects RX7 yX7_isOptional yX7_isOptional]
def wsL_law0_r10 : List Cond := [Cond.code yX7_isOptional cX7_isOptional 3 (some .boolean), Cond.methodLink RX7 95 yX7_partOf, Cond.instanceMethod yX7_partOf, Cond.selects RX7 yX7_partOf yX7_partOf, Cond.code yX7_partOf cX7_partOf 3 (some .int), Cond.methodLink RX7 106 yX7_measureChoice, Cond.instanceMethod yX7_measureChoice, Cond.selects RX7 yX7_measureChoice yX7_measureChoice, Cond.code yX7_measureChoice cX7_measureChoice 7 none, Cond.methodLink RX7 99 yX7_widthOf, Cond.instanceMethod yX7_widthOf, Cond.selects RX7 yX7_widthOf yX7_widthOf, Cond.code yX7_widthOf cX7_widthOf 2 (some .int), Cond.methodLink RX7 84 yX7_width, Cond.static yX7_width, Cond.code yX7_width cX7_width 2 (some .int), Cond.methodLink RL 81 yX7_thrown, Cond.instanceMethod yX7_thrown, Cond.selects RX7 yX7_thrown yX7_thrown, Cond.code yX7_thrown cX7_thrown 1 (some .int), Cond.methodLink RL 84 yL_addList, Cond.static yL_addList, Cond.codeWith yL_addList cL_addList 6 (some .int) [(0, 12, 15, 21), (0, 12, 19, 13), (0, 12, 23, 15)], Cond.classLink RL 21 "java/lang/IndexOutOfBoundsException"]
def wsL_law0_r11 : List Cond := [Cond.methodLink RL 17 yX6_addList, Cond.instanceMethod yX6_addList, Cond.selects RX6 yX6_addList yX6_addList, Cond.code yX6_addList cX6_addList 6 (some .int), Cond.fieldLink RX6 85 "BitNotation$Kind" "LIST" "LBitNotation$Kind;", Cond.methodLink RX6 75 yX6_typeNumbered, Cond.instanceMethod yX6_typeNumbered, Cond.selects RX6 yX6_typeNumbered yX6_typeNumbered, Cond.code yX6_typeNumbered cX6_typeNumbered 3 (some (.object "BitNotation$Type")), Cond.classLink RX6 149 "java/lang/IndexOutOfBoundsException", Cond.initialized "java/lang/IndexOutOfBoundsException", Cond.methodLink RX6 188 yX4_at, Cond.methodLink RL 87 yX7_addList, Cond.instanceMethod yX7_addList, Cond.selects RX7 yX7_addList yX7_addList, Cond.code yX7_addList cX7_addList 6 (some .int), Cond.methodLink RX7 120 yX7_isType, Cond.instanceMethod yX7_isType, Cond.selects RX7 yX7_isType yX7_isType, Cond.code yX7_isType cX7_isType 2 (some .boolean), Cond.methodLink RL 88 yL_part, Cond.static yL_part, Cond.codeWith yL_part cL_part 5 (some .int) [(0, 10, 13, 21), (0, 10, 17, 15)], Cond.methodLink RL 23 yX6_part]
def wsL_law0_r12 : List Cond := [Cond.instanceMethod yX6_part, Cond.selects RX6 yX6_part yX6_part, Cond.code yX6_part cX6_part 4 (some .int), Cond.methodLink RL 91 yX7_part, Cond.instanceMethod yX7_part, Cond.selects RX7 yX7_part yX7_part, Cond.code yX7_part cX7_part 3 (some .int), Cond.fieldLink RX7 123 "BitNotationModel" "drafted" "I", Cond.methodLink RL 92 yL_addSequence, Cond.static yL_addSequence, Cond.codeWith yL_addSequence cL_addSequence 3 (some .int) [(0, 8, 11, 15)], Cond.methodLink RL 27 yX6_addSequence, Cond.instanceMethod yX6_addSequence, Cond.selects RX6 yX6_addSequence yX6_addSequence, Cond.code yX6_addSequence cX6_addSequence 1 (some .int), Cond.fieldLink RX6 101 "BitNotation$Kind" "SEQUENCE" "LBitNotation$Kind;", Cond.methodLink RX6 104 yX6_keepDraft, Cond.instanceMethod yX6_keepDraft, Cond.selects RX6 yX6_keepDraft yX6_keepDraft, Cond.code yX6_keepDraft cX6_keepDraft 3 (some .int), Cond.methodLink RL 95 yX7_addSequence, Cond.instanceMethod yX7_addSequence, Cond.selects RX7 yX7_addSequence yX7_addSequence, Cond.code yX7_addSequence cX7_addSequence 1 (some .int)]
def wsL_law0_r13 : List Cond := [Cond.methodLink RX7 126 yX7_addDraft, Cond.instanceMethod yX7_addDraft, Cond.selects RX7 yX7_addDraft yX7_addDraft, Cond.code yX7_addDraft cX7_addDraft 4 (some .int), Cond.methodLink RL 96 yL_addChoice, Cond.static yL_addChoice, Cond.codeWith yL_addChoice cL_addChoice 3 (some .int) [(0, 8, 11, 15)], Cond.methodLink RL 31 yX6_addChoice, Cond.instanceMethod yX6_addChoice, Cond.selects RX6 yX6_addChoice yX6_addChoice, Cond.code yX6_addChoice cX6_addChoice 1 (some .int), Cond.fieldLink RX6 107 "BitNotation$Kind" "CHOICE" "LBitNotation$Kind;", Cond.methodLink RL 98 yX7_addChoice, Cond.instanceMethod yX7_addChoice, Cond.selects RX7 yX7_addChoice yX7_addChoice, Cond.code yX7_addChoice cX7_addChoice 1 (some .int), Cond.methodLink RL 99 yL_extend, Cond.static yL_extend, Cond.codeWith yL_extend cL_extend 5 (some .int) [(0, 10, 13, 21), (0, 10, 17, 13), (0, 10, 21, 15)], Cond.methodLink RL 34 yX6_extend, Cond.instanceMethod yX6_extend, Cond.selects RX6 yX6_extend yX6_extend, Cond.code yX6_extend cX6_extend 5 (some .int), Cond.methodLink RX6 120 yX4_measureAll]
def wsL_law0_r14 : List Cond := [Cond.instanceMethod yX4_measureAll, Cond.selects RX4 yX4_measureAll yX4_measureAll, Cond.code yX4_measureAll cX4_measureAll 3 (some .boolean), Cond.methodLink RX4 25 yX4_at, Cond.methodLink RX4 29 yX3_measure, Cond.methodLink RX6 123 yX4_dropLast, Cond.instanceMethod yX4_dropLast, Cond.selects RX4 yX4_dropLast yX4_dropLast, Cond.code yX4_dropLast cX4_dropLast 1 none, Cond.methodLink RL 101 yX7_extend, Cond.instanceMethod yX7_extend, Cond.selects RX7 yX7_extend yX7_extend, Cond.code yX7_extend cX7_extend 6 (some .int), Cond.methodLink RX7 129 yX7_measureAll, Cond.instanceMethod yX7_measureAll, Cond.selects RX7 yX7_measureAll yX7_measureAll, Cond.code yX7_measureAll cX7_measureAll 3 (some .boolean), Cond.methodLink RL 102 yX6_types, Cond.instanceMethod yX6_types, Cond.selects RX6 yX6_types yX6_types, Cond.code yX6_types cX6_types 1 (some .int), Cond.methodLink RL 105 yX7_types, Cond.instanceMethod yX7_types, Cond.selects RX7 yX7_types yX7_types]
def wsL_law0_r15 : List Cond := [Cond.code yX7_types cX7_types 1 (some .int), Cond.methodLink RX7 133 yX7_fine, Cond.instanceMethod yX7_fine, Cond.selects RX7 yX7_fine yX7_fine, Cond.code yX7_fine cX7_fine 2 (some .int), Cond.methodLink RL 106 yL_leastBits, Cond.static yL_leastBits, Cond.codeWith yL_leastBits cL_leastBits 4 (some .int) [(0, 9, 12, 21)], Cond.methodLink RL 37 yX6_leastBits, Cond.instanceMethod yX6_leastBits, Cond.selects RX6 yX6_leastBits yX6_leastBits, Cond.code yX6_leastBits cX6_leastBits 2 (some .int), Cond.methodLink RL 109 yX7_leastBits, Cond.instanceMethod yX7_leastBits, Cond.selects RX7 yX7_leastBits yX7_leastBits, Cond.code yX7_leastBits cX7_leastBits 2 (some .int), Cond.methodLink RX7 136 yX7_noType, Cond.instanceMethod yX7_noType, Cond.selects RX7 yX7_noType yX7_noType, Cond.code yX7_noType cX7_noType 2 (some .boolean), Cond.methodLink RL 110 yL_mostBits, Cond.static yL_mostBits, Cond.codeWith yL_mostBits cL_mostBits 4 (some .int) [(0, 9, 12, 21)], Cond.methodLink RL 41 yX6_mostBits]
def wsL_law0_r16 : List Cond := [Cond.instanceMethod yX6_mostBits, Cond.selects RX6 yX6_mostBits yX6_mostBits, Cond.code yX6_mostBits cX6_mostBits 2 (some .int), Cond.methodLink RL 112 yX7_mostBits, Cond.instanceMethod yX7_mostBits, Cond.selects RX7 yX7_mostBits yX7_mostBits, Cond.code yX7_mostBits cX7_mostBits 2 (some .int), Cond.methodLink RL 113 yL_tell, Cond.static yL_tell, Cond.codeWith yL_tell cL_tell 4 (some .int) [(0, 9, 12, 13), (0, 9, 15, 15)], Cond.methodLink RL 44 yX6_tell, Cond.instanceMethod yX6_tell, Cond.selects RX6 yX6_tell yX6_tell, Cond.code yX6_tell cX6_tell 2 (some .int), Cond.methodLink RX6 136 yX2_isFull, Cond.instanceMethod yX2_isFull, Cond.selects RX2 yX2_isFull yX2_isFull, Cond.code yX2_isFull cX2_isFull 1 (some .boolean), Cond.methodLink RX6 139 yX2_append, Cond.instanceMethod yX2_append, Cond.selects RX2 yX2_append yX2_append, Cond.code yX2_append cX2_append 2 none, Cond.methodLink RX6 141 yX2_size, Cond.instanceMethod yX2_size]
def wsL_law0_r17 : List Cond := [Cond.selects RX2 yX2_size yX2_size, Cond.code yX2_size cX2_size 1 (some .int), Cond.methodLink RL 115 yX7_tell, Cond.instanceMethod yX7_tell, Cond.selects RX7 yX7_tell yX7_tell, Cond.code yX7_tell cX7_tell 2 (some .int), Cond.fieldLink RX7 139 "BitNotationModel" "told" "I", Cond.methodLink RL 116 yX6_forget, Cond.instanceMethod yX6_forget, Cond.selects RX6 yX6_forget yX6_forget, Cond.code yX6_forget cX6_forget 2 (some .int), Cond.methodLink RX6 142 yX2_keepFirst, Cond.instanceMethod yX2_keepFirst, Cond.selects RX2 yX2_keepFirst yX2_keepFirst, Cond.code yX2_keepFirst cX2_keepFirst 2 none, Cond.methodLink RL 119 yX7_forget, Cond.instanceMethod yX7_forget, Cond.selects RX7 yX7_forget yX7_forget, Cond.code yX7_forget cX7_forget 2 (some .int), Cond.methodLink RL 120 yX6_length, Cond.instanceMethod yX6_length, Cond.selects RX6 yX6_length yX6_length, Cond.code yX6_length cX6_length 1 (some .int), Cond.methodLink RL 123 yX7_length]
def wsL_law0_r18 : List Cond := [Cond.instanceMethod yX7_length, Cond.selects RX7 yX7_length yX7_length, Cond.code yX7_length cX7_length 1 (some .int), Cond.methodLink RL 124 yL_told, Cond.static yL_told, Cond.codeWith yL_told cL_told 4 (some .int) [(0, 9, 12, 21)], Cond.methodLink RL 47 yX6_told, Cond.instanceMethod yX6_told, Cond.selects RX6 yX6_told yX6_told, Cond.code yX6_told cX6_told 2 (some .int), Cond.methodLink RX6 145 yX2_has, Cond.instanceMethod yX2_has, Cond.selects RX2 yX2_has yX2_has, Cond.code yX2_has cX2_has 2 (some .boolean), Cond.methodLink RX6 154 yX2_at, Cond.instanceMethod yX2_at, Cond.selects RX2 yX2_at yX2_at, Cond.code yX2_at cX2_at 2 (some .int), Cond.methodLink RX2 23 yX2_has, Cond.methodLink RL 126 yX7_told, Cond.instanceMethod yX7_told, Cond.selects RX7 yX7_told yX7_told, Cond.code yX7_told cX7_told 2 (some .int), Cond.methodLink RL 127 yL_wrongAt]
def wsL_law0_r19 : List Cond := [Cond.static yL_wrongAt, Cond.codeWith yL_wrongAt cL_wrongAt 4 (some .int) [(0, 9, 12, 21)], Cond.methodLink RL 50 yX6_wrongAt, Cond.instanceMethod yX6_wrongAt, Cond.selects RX6 yX6_wrongAt yX6_wrongAt, Cond.code yX6_wrongAt cX6_wrongAt 2 (some .int), Cond.methodLink RX6 158 yX5_walk, Cond.instanceMethod yX5_walk, Cond.selects RX5 yX5_walk yX5_walk, Cond.code yX5_walk cX5_walk 3 (some .int), Cond.methodLink RX5 27 yX2_keepFirst, Cond.methodLink RX5 30 yX5_putValue, Cond.instanceMethod yX5_putValue, Cond.selects RX5 yX5_putValue yX5_putValue, Cond.code yX5_putValue cX5_putValue 6 none, Cond.fieldLink RX5 44 "BitNotation$Kind" "SEQUENCE" "LBitNotation$Kind;", Cond.fieldLink RX5 69 "BitNotation$Kind" "LIST" "LBitNotation$Kind;", Cond.fieldLink RX5 82 "BitNotation$Kind" "CHOICE" "LBitNotation$Kind;", Cond.methodLink RX5 49 yX5_putSequence, Cond.instanceMethod yX5_putSequence, Cond.selects RX5 yX5_putSequence yX5_putSequence, Cond.methodLink RX5 58 yX5_next, Cond.instanceMethod yX5_next, Cond.selects RX5 yX5_next yX5_next]
def wsL_law0_r20 : List Cond := [Cond.code yX5_next cX5_next 5 (some .int), Cond.methodLink RX5 103 yX2_at, Cond.methodLink RX5 106 yX2_has, Cond.methodLink RX5 65 yX5_put, Cond.instanceMethod yX5_put, Cond.selects RX5 yX5_put yX5_put, Cond.code yX5_put cX5_put 4 none, Cond.methodLink RX5 113 yX2_append, Cond.methodLink RX5 76 yX4_at, Cond.code yX5_putAddition cX5_putAddition 8 none, Cond.methodLink RX5 34 yX2_size, Cond.methodLink RX5 100 yX2_replace, Cond.instanceMethod yX2_replace, Cond.selects RX2 yX2_replace yX2_replace, Cond.code yX2_replace cX2_replace 3 none, Cond.code yX5_putSequence cX5_putSequence 7 none, Cond.methodLink RX5 85 yX5_nextParts, Cond.instanceMethod yX5_nextParts, Cond.selects RX5 yX5_nextParts yX5_nextParts, Cond.code yX5_nextParts cX5_nextParts 5 (some .int), Cond.methodLink RX5 92 yX4_size, Cond.methodLink RX5 93 yX3_isOptional, Cond.methodLink RX5 97 yX5_putAddition, Cond.instanceMethod yX5_putAddition]
def wsL_law0_r21 : List Cond := [Cond.selects RX5 yX5_putAddition yX5_putAddition, Cond.methodLink RL 129 yX7_wrongAt, Cond.instanceMethod yX7_wrongAt, Cond.selects RX7 yX7_wrongAt yX7_wrongAt, Cond.code yX7_wrongAt cX7_wrongAt 2 (some .int), Cond.methodLink RX7 176 yX7_walk, Cond.instanceMethod yX7_walk, Cond.selects RX7 yX7_walk yX7_walk, Cond.code yX7_walk cX7_walk 4 (some .int), Cond.fieldLink RX7 142 "BitNotationModel" "depth" "I", Cond.fieldLink RX7 148 "BitNotationModel" "place" "I", Cond.fieldLink RX7 151 "BitNotationModel" "fault" "I", Cond.methodLink RX7 169 yX7_push, Cond.instanceMethod yX7_push, Cond.selects RX7 yX7_push yX7_push, Cond.code yX7_push cX7_push 2 none, Cond.methodLink RX7 172 yX7_goOverTale, Cond.instanceMethod yX7_goOverTale, Cond.selects RX7 yX7_goOverTale yX7_goOverTale, Cond.code yX7_goOverTale cX7_goOverTale 7 (some .boolean), Cond.methodLink RX7 154 yX7_headOfTale, Cond.instanceMethod yX7_headOfTale, Cond.selects RX7 yX7_headOfTale yX7_headOfTale, Cond.code yX7_headOfTale cX7_headOfTale 6 (some .boolean)]
def wsL_law0_r22 : List Cond := [Cond.methodLink RX7 162 yX7_isWrong, Cond.instanceMethod yX7_isWrong, Cond.selects RX7 yX7_isWrong yX7_isWrong, Cond.code yX7_isWrong cX7_isWrong 4 (some .boolean), Cond.methodLink RX7 165 yX7_emit, Cond.instanceMethod yX7_emit, Cond.selects RX7 yX7_emit yX7_emit, Cond.code yX7_emit cX7_emit 5 none, Cond.fieldLink RX7 145 "BitNotationModel" "written" "I", Cond.methodLink RX7 158 yX7_sequenceOfTale, Cond.instanceMethod yX7_sequenceOfTale, Cond.selects RX7 yX7_sequenceOfTale yX7_sequenceOfTale, Cond.code yX7_sequenceOfTale cX7_sequenceOfTale 6 (some .boolean), Cond.methodLink RL 130 yL_write, Cond.static yL_write, Cond.codeWith yL_write cL_write 4 (some .int) [(0, 9, 12, 21), (0, 9, 15, 15)], Cond.methodLink RL 53 yX6_write, Cond.instanceMethod yX6_write, Cond.selects RX6 yX6_write yX6_write, Cond.code yX6_write cX6_write 2 (some .int), Cond.methodLink RX6 167 yX2_becomeCopyOf, Cond.instanceMethod yX2_becomeCopyOf, Cond.selects RX2 yX2_becomeCopyOf yX2_becomeCopyOf, Cond.code yX2_becomeCopyOf cX2_becomeCopyOf 3 none]
def wsL_law0_r23 : List Cond := [Cond.methodLink RX2 27 yX2_keepFirst, Cond.methodLink RX2 31 yX2_size, Cond.methodLink RX2 35 yX2_at, Cond.methodLink RX2 39 yX2_append, Cond.methodLink RL 132 yX7_write, Cond.instanceMethod yX7_write, Cond.selects RX7 yX7_write yX7_write, Cond.code yX7_write cX7_write 2 (some .int), Cond.methodLink RL 133 yX6_bits, Cond.instanceMethod yX6_bits, Cond.selects RX6 yX6_bits yX6_bits, Cond.code yX6_bits cX6_bits 1 (some .int), Cond.methodLink RL 136 yX7_bits, Cond.instanceMethod yX7_bits, Cond.selects RX7 yX7_bits yX7_bits, Cond.code yX7_bits cX7_bits 1 (some .int), Cond.methodLink RL 137 yL_bit, Cond.static yL_bit, Cond.codeWith yL_bit cL_bit 4 (some .int) [(0, 9, 12, 21)], Cond.methodLink RL 56 yX6_bit, Cond.instanceMethod yX6_bit, Cond.selects RX6 yX6_bit yX6_bit, Cond.code yX6_bit cX6_bit 2 (some .int), Cond.methodLink RL 139 yX7_bit]
def wsL_law0_r24 : List Cond := [Cond.instanceMethod yX7_bit, Cond.selects RX7 yX7_bit yX7_bit, Cond.code yX7_bit cX7_bit 2 (some .int), Cond.methodLink RX7 180 yX7_noBit, Cond.instanceMethod yX7_noBit, Cond.selects RX7 yX7_noBit yX7_noBit, Cond.code yX7_noBit cX7_noBit 2 (some .boolean), Cond.methodLink RL 140 yL_flip, Cond.static yL_flip, Cond.codeWith yL_flip cL_flip 4 (some .int) [(0, 9, 12, 21)], Cond.methodLink RL 59 yX6_flip, Cond.instanceMethod yX6_flip, Cond.selects RX6 yX6_flip yX6_flip, Cond.code yX6_flip cX6_flip 2 (some .int), Cond.methodLink RX6 173 yX2_replace, Cond.methodLink RL 142 yX7_flip, Cond.instanceMethod yX7_flip, Cond.selects RX7 yX7_flip yX7_flip, Cond.code yX7_flip cX7_flip 2 (some .int), Cond.methodLink RL 143 yL_cut, Cond.static yL_cut, Cond.codeWith yL_cut cL_cut 4 (some .int) [(0, 9, 12, 13)], Cond.methodLink RL 62 yX6_cut, Cond.instanceMethod yX6_cut]
def wsL_law0_r25 : List Cond := [Cond.selects RX6 yX6_cut yX6_cut, Cond.code yX6_cut cX6_cut 3 (some .int), Cond.methodLink RL 145 yX7_cut, Cond.instanceMethod yX7_cut, Cond.selects RX7 yX7_cut yX7_cut, Cond.code yX7_cut cX7_cut 3 (some .int), Cond.methodLink RL 146 yL_read, Cond.static yL_read, Cond.codeWith yL_read cL_read 5 (some .int) [(0, 10, 13, 21), (0, 10, 17, 13), (0, 10, 21, 15)], Cond.methodLink RL 65 yX6_read, Cond.instanceMethod yX6_read, Cond.selects RX6 yX6_read yX6_read, Cond.code yX6_read cX6_read 3 (some .int), Cond.methodLink RX6 179 yX6_placeOfFault, Cond.instanceMethod yX6_placeOfFault, Cond.selects RX6 yX6_placeOfFault yX6_placeOfFault, Cond.code yX6_placeOfFault cX6_placeOfFault 4 (some .int), Cond.methodLink RX6 201 yX1_walk, Cond.instanceMethod yX1_walk, Cond.selects RX1 yX1_walk yX1_walk, Cond.code yX1_walk cX1_walk 4 (some .int), Cond.methodLink RX1 30 yX2_keepFirst, Cond.methodLink RX1 33 yX1_getValue, Cond.instanceMethod yX1_getValue]
def wsL_law0_r26 : List Cond := [Cond.selects RX1 yX1_getValue yX1_getValue, Cond.code yX1_getValue cX1_getValue 6 none, Cond.fieldLink RX1 47 "BitNotation$Kind" "SEQUENCE" "LBitNotation$Kind;", Cond.fieldLink RX1 71 "BitNotation$Kind" "LIST" "LBitNotation$Kind;", Cond.fieldLink RX1 84 "BitNotation$Kind" "CHOICE" "LBitNotation$Kind;", Cond.methodLink RX1 52 yX1_getSequence, Cond.instanceMethod yX1_getSequence, Cond.selects RX1 yX1_getSequence yX1_getSequence, Cond.methodLink RX1 64 yX1_next, Cond.instanceMethod yX1_next, Cond.selects RX1 yX1_next yX1_next, Cond.code yX1_next cX1_next 6 (some .int), Cond.methodLink RX1 120 yX2_at, Cond.methodLink RX1 37 yX2_size, Cond.methodLink RX1 68 yX2_append, Cond.methodLink RX1 78 yX4_at, Cond.code yX1_getAddition cX1_getAddition 6 none, Cond.code yX1_getAdditions cX1_getAdditions 7 none, Cond.methodLink RX1 113 yX1_getAddition, Cond.instanceMethod yX1_getAddition, Cond.selects RX1 yX1_getAddition yX1_getAddition, Cond.methodLink RX1 116 yX1_skip, Cond.instanceMethod yX1_skip, Cond.selects RX1 yX1_skip yX1_skip]
def wsL_law0_r27 : List Cond := [Cond.code yX1_skip cX1_skip 3 none, Cond.code yX1_getSequence cX1_getSequence 8 none, Cond.methodLink RX1 95 Lib.Math.min.name, Cond.methodLink RX1 87 yX1_nextParts, Cond.instanceMethod yX1_nextParts, Cond.selects RX1 yX1_nextParts yX1_nextParts, Cond.code yX1_nextParts cX1_nextParts 6 (some .int), Cond.methodLink RX1 91 yX4_size, Cond.methodLink RX1 109 yX3_isOptional, Cond.methodLink RX1 101 yX2_replace, Cond.methodLink RX1 105 yX1_getAdditions, Cond.instanceMethod yX1_getAdditions, Cond.selects RX1 yX1_getAdditions yX1_getAdditions, Cond.methodLink RL 148 yX7_read, Cond.instanceMethod yX7_read, Cond.selects RX7 yX7_read yX7_read, Cond.code yX7_read cX7_read 5 (some .int), Cond.fieldLink RX7 186 "BitNotationModel" "found" "I", Cond.methodLink RX7 208 yX7_walkBits, Cond.instanceMethod yX7_walkBits, Cond.selects RX7 yX7_walkBits yX7_walkBits, Cond.code yX7_walkBits cX7_walkBits 3 (some .int), Cond.methodLink RX7 205 yX7_goOverBits, Cond.instanceMethod yX7_goOverBits]
def wsL_law0_r28 : List Cond := [Cond.selects RX7 yX7_goOverBits yX7_goOverBits, Cond.code yX7_goOverBits cX7_goOverBits 7 none, Cond.methodLink RX7 189 yX7_headOfBits, Cond.instanceMethod yX7_headOfBits, Cond.selects RX7 yX7_headOfBits yX7_headOfBits, Cond.code yX7_headOfBits cX7_headOfBits 6 none, Cond.methodLink RX7 183 yX7_take, Cond.instanceMethod yX7_take, Cond.selects RX7 yX7_take yX7_take, Cond.code yX7_take cX7_take 4 (some .int), Cond.methodLink RX7 199 yX7_note, Cond.instanceMethod yX7_note, Cond.selects RX7 yX7_note yX7_note, Cond.code yX7_note cX7_note 2 none, Cond.methodLink RX7 193 yX7_sequenceOfBits, Cond.instanceMethod yX7_sequenceOfBits, Cond.selects RX7 yX7_sequenceOfBits yX7_sequenceOfBits, Cond.code yX7_sequenceOfBits cX7_sequenceOfBits 7 none, Cond.methodLink RX7 196 yX7_takeBelow, Cond.instanceMethod yX7_takeBelow, Cond.selects RX7 yX7_takeBelow yX7_takeBelow, Cond.code yX7_takeBelow cX7_takeBelow 5 (some .int), Cond.methodLink RX7 202 yX7_skip, Cond.instanceMethod yX7_skip]
def wsL_law0_r29 : List Cond := [Cond.selects RX7 yX7_skip yX7_skip, Cond.code yX7_skip cX7_skip 2 none, Cond.methodLink RL 149 yL_faultAt, Cond.static yL_faultAt, Cond.codeWith yL_faultAt cL_faultAt 5 (some .int) [(0, 10, 13, 21), (0, 10, 17, 13)], Cond.methodLink RL 68 yX6_faultAt, Cond.instanceMethod yX6_faultAt, Cond.selects RX6 yX6_faultAt yX6_faultAt, Cond.code yX6_faultAt cX6_faultAt 3 (some .int), Cond.methodLink RL 151 yX7_faultAt, Cond.instanceMethod yX7_faultAt, Cond.selects RX7 yX7_faultAt yX7_faultAt, Cond.code yX7_faultAt cX7_faultAt 3 (some .int)]
def wsL_law0 : List Cond := (wsL_law0_r1 ++ (wsL_law0_r2 ++ (wsL_law0_r3 ++ (wsL_law0_r4 ++ (wsL_law0_r5 ++ (wsL_law0_r6 ++ (wsL_law0_r7 ++ (wsL_law0_r8 ++ (wsL_law0_r9 ++ (wsL_law0_r10 ++ (wsL_law0_r11 ++ (wsL_law0_r12 ++ (wsL_law0_r13 ++ (wsL_law0_r14 ++ (wsL_law0_r15 ++ (wsL_law0_r16 ++ (wsL_law0_r17 ++ (wsL_law0_r18 ++ (wsL_law0_r19 ++ (wsL_law0_r20 ++ (wsL_law0_r21 ++ (wsL_law0_r22 ++ (wsL_law0_r23 ++ (wsL_law0_r24 ++ (wsL_law0_r25 ++ (wsL_law0_r26 ++ (wsL_law0_r27 ++ (wsL_law0_r28 ++ wsL_law0_r29)))))))))))))))))))))))))))) ++ wsX60 ++ wsX70 ++ wsX40 ++ wsX20 ++ wsX50 ++ wsX10 ++ wsX30 ++ ([] : List Cond)
def wsL_law : List Cond := wsL_law0 ++ (vx_atS RX6 57 "java/lang/IllegalArgumentException" ["java/lang/RuntimeException", "java/lang/Exception"]).filter goodWord ++ (vx_atS RX6 96 "java/lang/IllegalStateException" ["java/lang/RuntimeException", "java/lang/Exception"]).filter goodWord ++ (vx_atS RX6 153 "java/lang/IndexOutOfBoundsException" ["java/lang/RuntimeException", "java/lang/Exception"]).filter goodWord
set_option maxRecDepth 20000 in
theorem wsL_law_in0 : ∀ w ∈ wsL_law0, w ∈ lw_tbl := fun w h => (goodIn_p wsL_law0 [73, 76, 81, 85, 99, 114, 133, 695, 209, 212, 287, 291, 346, 350, 354, 360, 364, 370, 374, 180, 379, 383, 387, 407, 795, 798, 802, 806, 810, 814, 818, 822, 826, 830, 834, 837, 791, 415, 419, 841, 845, 445, 849, 453, 458, 853, 857, 466, 861, 474, 480, 486, 865, 869, 176, 873, 877, 494, 881, 885, 501, 889, 508, 513, 518, 188, 893, 184, 192, 897, 196, 901, 525, 529, 534, 905, 542, 546, 551, 566, 573, 579, 584, 556, 560, 909, 913, 917, 921, 925, 929, 933, 937, 593, 598, 941, 200, 945, 609, 949, 953, 617, 957, 625, 961, 633, 637, 642, 647, 656, 676, 672, 680, 652, 662, 965, 969, 973, 977, 981, 985, 989, 993, 997, 690, 1001] (by decide +kernel) (by decide +kernel) w h).1
theorem wsL_law_x0 : ∀ w ∈ (vx_atS RX6 57 "java/lang/IllegalArgumentException" ["java/lang/RuntimeException", "java/lang/Exception"]).filter goodWord, w ∈ lw_tbl := by decide +kernel
theorem wsL_law_x1 : ∀ w ∈ (vx_atS RX6 96 "java/lang/IllegalStateException" ["java/lang/RuntimeException", "java/lang/Exception"]).filter goodWord, w ∈ lw_tbl := by decide +kernel
theorem wsL_law_x2 : ∀ w ∈ (vx_atS RX6 153 "java/lang/IndexOutOfBoundsException" ["java/lang/RuntimeException", "java/lang/Exception"]).filter goodWord, w ∈ lw_tbl := by decide +kernel
theorem wsL_law_in : ∀ w ∈ wsL_law, w ∈ lw_tbl := fun w h => (List.mem_append.mp h).elim (fun h => (List.mem_append.mp h).elim (fun h => (List.mem_append.mp h).elim (fun h => wsL_law_in0 w h) (fun h => wsL_law_x0 w h)) (fun h => wsL_law_x1 w h)) (fun h => wsL_law_x2 w h)
theorem inX0 : ∀ w ∈ wsX00, w ∈ lw_tbl := by decide +kernel
theorem inlX1 : ∀ w ∈ wsX10, w ∈ wsL_law := fun _ h => List.mem_append_left _ (List.mem_append_left _ (List.mem_append_left _ (List.mem_append_left _ (List.mem_append_left _ (List.mem_append_right _ h)))))
theorem inX1 : ∀ w ∈ wsX10, w ∈ lw_tbl := fun w h => wsL_law_in w (inlX1 w h)
theorem inlX2 : ∀ w ∈ wsX20, w ∈ wsL_law := fun _ h => List.mem_append_left _ (List.mem_append_left _ (List.mem_append_left _ (List.mem_append_left _ (List.mem_append_left _ (List.mem_append_left _ (List.mem_append_left _ (List.mem_append_right _ h)))))))
theorem inX2 : ∀ w ∈ wsX20, w ∈ lw_tbl := fun w h => wsL_law_in w (inlX2 w h)
theorem inlX3 : ∀ w ∈ wsX30, w ∈ wsL_law := fun _ h => List.mem_append_left _ (List.mem_append_left _ (List.mem_append_left _ (List.mem_append_left _ (List.mem_append_right _ h))))
theorem inX3 : ∀ w ∈ wsX30, w ∈ lw_tbl := fun w h => wsL_law_in w (inlX3 w h)
theorem inlX4 : ∀ w ∈ wsX40, w ∈ wsL_law := fun _ h => List.mem_append_left _ (List.mem_append_left _ (List.mem_append_left _ (List.mem_append_left _ (List.mem_append_left _ (List.mem_append_left _ (List.mem_append_left _ (List.mem_append_left _ (List.mem_append_right _ h))))))))
theorem inX4 : ∀ w ∈ wsX40, w ∈ lw_tbl := fun w h => wsL_law_in w (inlX4 w h)
theorem inlX5 : ∀ w ∈ wsX50, w ∈ wsL_law := fun _ h => List.mem_append_left _ (List.mem_append_left _ (List.mem_append_left _ (List.mem_append_left _ (List.mem_append_left _ (List.mem_append_left _ (List.mem_append_right _ h))))))
theorem inX5 : ∀ w ∈ wsX50, w ∈ lw_tbl := fun w h => wsL_law_in w (inlX5 w h)
theorem inlX6 : ∀ w ∈ wsX60, w ∈ wsL_law := fun _ h => List.mem_append_left _ (List.mem_append_left _ (List.mem_append_left _ (List.mem_append_left _ (List.mem_append_left _ (List.mem_append_left _ (List.mem_append_left _ (List.mem_append_left _ (List.mem_append_left _ (List.mem_append_left _ (List.mem_append_right _ h))))))))))
theorem inX6 : ∀ w ∈ wsX60, w ∈ lw_tbl := fun w h => wsL_law_in w (inlX6 w h)
theorem inlX7 : ∀ w ∈ wsX70, w ∈ wsL_law := fun _ h => List.mem_append_left _ (List.mem_append_left _ (List.mem_append_left _ (List.mem_append_left _ (List.mem_append_left _ (List.mem_append_left _ (List.mem_append_left _ (List.mem_append_left _ (List.mem_append_left _ (List.mem_append_right _ h)))))))))
theorem inX7 : ∀ w ∈ wsX70, w ∈ lw_tbl := fun w h => wsL_law_in w (inlX7 w h)
theorem inJx29ce0 : ∀ w ∈ wsJx29ce00, w ∈ lw_tbl := by decide +kernel
theorem inJ9 : ∀ w ∈ wsJ90, w ∈ lw_tbl := by decide +kernel
theorem inJ0 : ∀ w ∈ wsJ00, w ∈ lw_tbl := by decide +kernel
set_option maxRecDepth 20000 in
theorem ggX1_init_X2_init : GoodIn wsX1_init wsX2_init := goodIn_r _ [13, 14, 2, 3, 15, 16, 17, 18, 19, 20, 21, 22, 23] (by decide +kernel) (by decide +kernel)
set_option maxRecDepth 20000 in
theorem gX1_init_X2_init : GoodIn wsX1_init (wsX2_init) := ggX1_init_X2_init
theorem dX1_init_0 : decode cX1_init 0 = .ok (.aload_n 0, 1) := by decide +kernel
theorem dX1_init_1 : decode cX1_init 1 = .ok (.invokespecial 3, 3) := by decide +kernel
theorem dX1_init_4 : decode cX1_init 4 = .ok (.aload_n 0, 1) := by decide +kernel
theorem dX1_init_5 : decode cX1_init 5 = .ok (.new 9, 3) := by decide +kernel
theorem dX1_init_8 : decode cX1_init 8 = .ok (.dup, 1) := by decide +kernel
theorem dX1_init_9 : decode cX1_init 9 = .ok (.sipush 240, 3) := by decide +kernel
theorem dX1_init_12 : decode cX1_init 12 = .ok (.invokespecial 11, 3) := by decide +kernel
theorem dX1_init_15 : decode cX1_init 15 = .ok (.putfield 14, 3) := by decide +kernel
theorem dX1_init_18 : decode cX1_init 18 = .ok (.aload_n 0, 1) := by decide +kernel
theorem dX1_init_19 : decode cX1_init 19 = .ok (.iconst 0, 1) := by decide +kernel
theorem dX1_init_20 : decode cX1_init 20 = .ok (.putfield 20, 3) := by decide +kernel
theorem dX1_init_23 : decode cX1_init 23 = .ok (.aload_n 0, 1) := by decide +kernel
theorem dX1_init_24 : decode cX1_init 24 = .ok (.iconst 0, 1) := by decide +kernel
theorem dX1_init_25 : decode cX1_init 25 = .ok (.putfield 24, 3) := by decide +kernel
theorem dX1_init_28 : decode cX1_init 28 = .ok (.aload_n 0, 1) := by decide +kernel
theorem dX1_init_29 : decode cX1_init 29 = .ok (.iconst (-1), 1) := by decide +kernel
theorem dX1_init_30 : decode cX1_init 30 = .ok (.putfield 27, 3) := by decide +kernel
theorem dX1_init_33 : decode cX1_init 33 = .ok (.return_, 1) := by decide +kernel
set_option maxRecDepth 20000 in
theorem ggX1_walk_X2_keepFirst : GoodIn wsX1_walk wsX2_keepFirst := goodIn_r _ [9, 10, 89, 90] (by decide +kernel) (by decide +kernel)
set_option maxRecDepth 20000 in
theorem gX1_walk_X2_keepFirst : GoodIn wsX1_walk (wsV RX1 30 RX2 yX2_keepFirst wsX2_keepFirst) := goodIn_app (goodIn_of _ (by decide +kernel)) ggX1_walk_X2_keepFirst
set_option maxRecDepth 20000 in
theorem ggX1_walk_X1_getValue : GoodIn wsX1_walk wsX1_getValue := goodIn_r _ [15, 4, 3, 16, 1, 17, 18, 19, 20, 21, 14, 22, 23, 24, 25, 26, 27, 28, 8, 29, 30, 31, 32, 33, 34, 10, 35, 36, 37, 38, 39, 40, 41, 42, 43, 44, 45, 46, 47, 48, 49, 11, 12, 13, 50, 51, 2, 52, 53, 54, 55, 56, 57, 58, 59, 60, 61, 62, 63, 64, 65, 66, 67, 68, 69, 70, 71, 72, 73, 74, 75, 76, 77, 78, 79, 80, 81, 82, 83, 84, 85, 86, 87, 88, 91, 92, 93, 94, 95, 96, 97, 98, 99, 100, 89, 90, 101, 102] (by decide +kernel) (by decide +kernel)
set_option maxRecDepth 20000 in
theorem gX1_walk_X1_getValue : GoodIn wsX1_walk (wsV RX1 33 RX1 yX1_getValue wsX1_getValue) := goodIn_app (goodIn_of _ (by decide +kernel)) ggX1_walk_X1_getValue
set_option maxRecDepth 20000 in
theorem ggX1_walk_X2_size : GoodIn wsX1_walk wsX2_size := goodIn_r _ [38, 10, 89, 90] (by decide +kernel) (by decide +kernel)
set_option maxRecDepth 20000 in
theorem gX1_walk_X2_size : GoodIn wsX1_walk (wsV RX1 37 RX2 yX2_size wsX2_size) := goodIn_app (goodIn_of _ (by decide +kernel)) ggX1_walk_X2_size
theorem dX1_walk_0 : decode cX1_walk 0 = .ok (.aload_n 0, 1) := by decide +kernel
theorem dX1_walk_1 : decode cX1_walk 1 = .ok (.getfield 14, 3) := by decide +kernel
theorem dX1_walk_4 : decode cX1_walk 4 = .ok (.iconst 0, 1) := by decide +kernel
theorem dX1_walk_5 : decode cX1_walk 5 = .ok (.invokevirtual 30, 3) := by decide +kernel
theorem dX1_walk_8 : decode cX1_walk 8 = .ok (.aload_n 0, 1) := by decide +kernel
theorem dX1_walk_9 : decode cX1_walk 9 = .ok (.iload_n 3, 1) := by decide +kernel
theorem dX1_walk_10 : decode cX1_walk 10 = .ok (.putfield 20, 3) := by decide +kernel
theorem dX1_walk_13 : decode cX1_walk 13 = .ok (.aload_n 0, 1) := by decide +kernel
theorem dX1_walk_14 : decode cX1_walk 14 = .ok (.iconst 0, 1) := by decide +kernel
theorem dX1_walk_15 : decode cX1_walk 15 = .ok (.putfield 24, 3) := by decide +kernel
theorem dX1_walk_18 : decode cX1_walk 18 = .ok (.aload_n 0, 1) := by decide +kernel
theorem dX1_walk_19 : decode cX1_walk 19 = .ok (.iconst (-1), 1) := by decide +kernel
theorem dX1_walk_20 : decode cX1_walk 20 = .ok (.putfield 27, 3) := by decide +kernel
theorem dX1_walk_23 : decode cX1_walk 23 = .ok (.aload_n 0, 1) := by decide +kernel
theorem dX1_walk_24 : decode cX1_walk 24 = .ok (.aload_n 1, 1) := by decide +kernel
theorem dX1_walk_25 : decode cX1_walk 25 = .ok (.aload_n 2, 1) := by decide +kernel
theorem dX1_walk_26 : decode cX1_walk 26 = .ok (.iconst 0, 1) := by decide +kernel
theorem dX1_walk_27 : decode cX1_walk 27 = .ok (.invokevirtual 33, 3) := by decide +kernel
theorem dX1_walk_30 : decode cX1_walk 30 = .ok (.aload_n 0, 1) := by decide +kernel
theorem dX1_walk_31 : decode cX1_walk 31 = .ok (.getfield 27, 3) := by decide +kernel
theorem dX1_walk_34 : decode cX1_walk 34 = .ok (.iconst (-1), 1) := by decide +kernel
theorem dX1_walk_35 : decode cX1_walk 35 = .ok (.if_icmp .ne 22, 3) := by decide +kernel
theorem dX1_walk_38 : decode cX1_walk 38 = .ok (.aload_n 0, 1) := by decide +kernel
theorem dX1_walk_39 : decode cX1_walk 39 = .ok (.getfield 24, 3) := by decide +kernel
theorem dX1_walk_42 : decode cX1_walk 42 = .ok (.aload_n 2, 1) := by decide +kernel
theorem dX1_walk_43 : decode cX1_walk 43 = .ok (.invokevirtual 37, 3) := by decide +kernel
theorem dX1_walk_46 : decode cX1_walk 46 = .ok (.if_icmp .ge 11, 3) := by decide +kernel
theorem dX1_walk_49 : decode cX1_walk 49 = .ok (.aload_n 0, 1) := by decide +kernel
theorem dX1_walk_50 : decode cX1_walk 50 = .ok (.aload_n 0, 1) := by decide +kernel
theorem dX1_walk_51 : decode cX1_walk 51 = .ok (.getfield 24, 3) := by decide +kernel
theorem dX1_walk_54 : decode cX1_walk 54 = .ok (.putfield 27, 3) := by decide +kernel
theorem dX1_walk_57 : decode cX1_walk 57 = .ok (.aload_n 0, 1) := by decide +kernel
theorem dX1_walk_58 : decode cX1_walk 58 = .ok (.getfield 27, 3) := by decide +kernel
theorem dX1_walk_61 : decode cX1_walk 61 = .ok (.ireturn, 1) := by decide +kernel
set_option maxRecDepth 20000 in
theorem ggX1_getValue_X1_getSequence : GoodIn wsX1_getValue wsX1_getSequence := goodIn_r _ [54, 4, 46, 55, 56, 57, 58, 11, 12, 13, 10, 14, 2, 1, 15, 16, 17, 18, 19, 20, 21, 22, 23, 24, 25, 26, 27, 28, 29, 59, 60, 61, 62, 63, 64, 65, 37, 66, 39, 67, 68, 69, 70, 71, 72, 30, 31, 32, 33, 34, 35, 36, 38, 40, 41, 42, 43, 73, 74, 75, 76, 77, 78, 79, 44, 45, 47, 48, 49, 50, 51, 52, 53, 0, 3, 5, 6, 7, 8, 9, 80, 81, 82, 83, 84, 85, 86, 87, 88, 89, 90, 91, 92, 93, 94, 95, 96, 97] (by decide +kernel) (by decide +kernel)
set_option maxRecDepth 20000 in
theorem gX1_getValue_X1_getSequence : GoodIn wsX1_getValue (wsV RX1 52 RX1 yX1_getSequence wsX1_getSequence) := goodIn_app (goodIn_of _ (by decide +kernel)) ggX1_getValue_X1_getSequence
set_option maxRecDepth 20000 in
theorem ggX1_getValue_X1_next : GoodIn wsX1_getValue wsX1_next := goodIn_r _ [14, 2, 1, 15, 16, 17, 18, 19, 20, 21, 22, 23, 24, 25, 26, 27, 28, 29, 80, 81, 82, 83, 94, 95] (by decide +kernel) (by decide +kernel)
set_option maxRecDepth 20000 in
theorem gX1_getValue_X1_next : GoodIn wsX1_getValue (wsV RX1 64 RX1 yX1_next wsX1_next) := goodIn_app (goodIn_of _ (by decide +kernel)) ggX1_getValue_X1_next
set_option maxRecDepth 20000 in
theorem ggX1_getValue_X2_append : GoodIn wsX1_getValue wsX2_append := goodIn_r _ [33, 25, 20, 94, 95] (by decide +kernel) (by decide +kernel)
set_option maxRecDepth 20000 in
theorem gX1_getValue_X2_append : GoodIn wsX1_getValue (wsV RX1 68 RX2 yX2_append wsX2_append) := goodIn_app (goodIn_of _ (by decide +kernel)) ggX1_getValue_X2_append
set_option maxRecDepth 20000 in
theorem ggX1_getValue_X4_at : GoodIn wsX1_getValue wsX4_at := goodIn_r _ [38, 39, 40, 96, 97] (by decide +kernel) (by decide +kernel)
set_option maxRecDepth 20000 in
theorem gX1_getValue_X4_at : GoodIn wsX1_getValue (wsV RX1 78 RX4 yX4_at wsX4_at) := goodIn_app (goodIn_of _ (by decide +kernel)) ggX1_getValue_X4_at
set_option maxRecDepth 20000 in
theorem ggX1_getValue_X1_getValue : GoodIn wsX1_getValue wsX1_getValue := goodIn_r _ [0, 1, 2, 3, 4, 5, 6, 7, 8, 9, 10, 11, 12, 13, 14, 15, 16, 17, 18, 19, 20, 21, 22, 23, 24, 25, 26, 27, 28, 29, 30, 31, 32, 33, 34, 35, 36, 37, 38, 39, 40, 41, 42, 43, 44, 45, 46, 47, 48, 49, 50, 51, 52, 53, 54, 55, 56, 57, 58, 59, 60, 61, 62, 63, 64, 65, 66, 67, 68, 69, 70, 71, 72, 73, 74, 75, 76, 77, 78, 79, 80, 81, 82, 83, 84, 85, 86, 87, 88, 89, 90, 91, 92, 93, 94, 95, 96, 97] (by decide +kernel) (by decide +kernel)
set_option maxRecDepth 20000 in
theorem gX1_getValue_X1_getValue : GoodIn wsX1_getValue (wsV RX1 33 RX1 yX1_getValue wsX1_getValue) := goodIn_app (goodIn_of _ (by decide +kernel)) ggX1_getValue_X1_getValue
theorem dX1_getValue_0 : decode cX1_getValue 0 = .ok (.aload_n 0, 1) := by decide +kernel
theorem dX1_getValue_1 : decode cX1_getValue 1 = .ok (.getfield 27, 3) := by decide +kernel
theorem dX1_getValue_4 : decode cX1_getValue 4 = .ok (.iconst (-1), 1) := by decide +kernel
theorem dX1_getValue_5 : decode cX1_getValue 5 = .ok (.if_icmp .eq 4, 3) := by decide +kernel
theorem dX1_getValue_8 : decode cX1_getValue 8 = .ok (.return_, 1) := by decide +kernel
theorem dX1_getValue_9 : decode cX1_getValue 9 = .ok (.aload_n 1, 1) := by decide +kernel
theorem dX1_getValue_10 : decode cX1_getValue 10 = .ok (.ifnull 9, 3) := by decide +kernel
theorem dX1_getValue_13 : decode cX1_getValue 13 = .ok (.iload_n 3, 1) := by decide +kernel
theorem dX1_getValue_14 : decode cX1_getValue 14 = .ok (.bipush 16, 2) := by decide +kernel
theorem dX1_getValue_16 : decode cX1_getValue 16 = .ok (.if_icmp .lt 12, 3) := by decide +kernel
theorem dX1_getValue_19 : decode cX1_getValue 19 = .ok (.aload_n 0, 1) := by decide +kernel
theorem dX1_getValue_20 : decode cX1_getValue 20 = .ok (.aload_n 0, 1) := by decide +kernel
theorem dX1_getValue_21 : decode cX1_getValue 21 = .ok (.getfield 24, 3) := by decide +kernel
theorem dX1_getValue_24 : decode cX1_getValue 24 = .ok (.putfield 27, 3) := by decide +kernel
theorem dX1_getValue_27 : decode cX1_getValue 27 = .ok (.return_, 1) := by decide +kernel
theorem dX1_getValue_28 : decode cX1_getValue 28 = .ok (.aload_n 1, 1) := by decide +kernel
theorem dX1_getValue_29 : decode cX1_getValue 29 = .ok (.getfield 41, 3) := by decide +kernel
theorem dX1_getValue_32 : decode cX1_getValue 32 = .ok (.getstatic 47, 3) := by decide +kernel
theorem dX1_getValue_35 : decode cX1_getValue 35 = .ok (.if_acmp .ne 11, 3) := by decide +kernel
theorem dX1_getValue_38 : decode cX1_getValue 38 = .ok (.aload_n 0, 1) := by decide +kernel
theorem dX1_getValue_39 : decode cX1_getValue 39 = .ok (.aload_n 1, 1) := by decide +kernel
theorem dX1_getValue_40 : decode cX1_getValue 40 = .ok (.aload_n 2, 1) := by decide +kernel
theorem dX1_getValue_41 : decode cX1_getValue 41 = .ok (.iload_n 3, 1) := by decide +kernel
theorem dX1_getValue_42 : decode cX1_getValue 42 = .ok (.invokevirtual 52, 3) := by decide +kernel
theorem dX1_getValue_45 : decode cX1_getValue 45 = .ok (.return_, 1) := by decide +kernel
theorem dX1_getValue_46 : decode cX1_getValue 46 = .ok (.aload_n 1, 1) := by decide +kernel
theorem dX1_getValue_47 : decode cX1_getValue 47 = .ok (.getfield 55, 3) := by decide +kernel
theorem dX1_getValue_50 : decode cX1_getValue 50 = .ok (.aload_n 0, 1) := by decide +kernel
theorem dX1_getValue_51 : decode cX1_getValue 51 = .ok (.aload_n 2, 1) := by decide +kernel
theorem dX1_getValue_52 : decode cX1_getValue 52 = .ok (.aload_n 1, 1) := by decide +kernel
theorem dX1_getValue_53 : decode cX1_getValue 53 = .ok (.getfield 58, 3) := by decide +kernel
theorem dX1_getValue_56 : decode cX1_getValue 56 = .ok (.aload_n 1, 1) := by decide +kernel
theorem dX1_getValue_57 : decode cX1_getValue 57 = .ok (.getfield 61, 3) := by decide +kernel
theorem dX1_getValue_60 : decode cX1_getValue 60 = .ok (.aload_n 1, 1) := by decide +kernel
theorem dX1_getValue_61 : decode cX1_getValue 61 = .ok (.getfield 55, 3) := by decide +kernel
theorem dX1_getValue_64 : decode cX1_getValue 64 = .ok (.isub, 1) := by decide +kernel
theorem dX1_getValue_65 : decode cX1_getValue 65 = .ok (.invokevirtual 64, 3) := by decide +kernel
theorem dX1_getValue_68 : decode cX1_getValue 68 = .ok (.iadd, 1) := by decide +kernel
theorem dX1_getValue_69 : decode cX1_getValue 69 = .ok (.istore 4, 2) := by decide +kernel
theorem dX1_getValue_71 : decode cX1_getValue 71 = .ok (.aload_n 0, 1) := by decide +kernel
theorem dX1_getValue_72 : decode cX1_getValue 72 = .ok (.getfield 14, 3) := by decide +kernel
theorem dX1_getValue_75 : decode cX1_getValue 75 = .ok (.iload 4, 2) := by decide +kernel
theorem dX1_getValue_77 : decode cX1_getValue 77 = .ok (.invokevirtual 68, 3) := by decide +kernel
theorem dX1_getValue_80 : decode cX1_getValue 80 = .ok (.aload_n 1, 1) := by decide +kernel
theorem dX1_getValue_81 : decode cX1_getValue 81 = .ok (.getfield 41, 3) := by decide +kernel
theorem dX1_getValue_84 : decode cX1_getValue 84 = .ok (.getstatic 71, 3) := by decide +kernel
theorem dX1_getValue_87 : decode cX1_getValue 87 = .ok (.if_acmp .ne 46, 3) := by decide +kernel
theorem dX1_getValue_90 : decode cX1_getValue 90 = .ok (.iconst 0, 1) := by decide +kernel
theorem dX1_getValue_91 : decode cX1_getValue 91 = .ok (.istore 5, 2) := by decide +kernel
theorem dX1_getValue_93 : decode cX1_getValue 93 = .ok (.iload 5, 2) := by decide +kernel
theorem dX1_getValue_95 : decode cX1_getValue 95 = .ok (.iload 4, 2) := by decide +kernel
theorem dX1_getValue_97 : decode cX1_getValue 97 = .ok (.if_icmp .ge 33, 3) := by decide +kernel
theorem dX1_getValue_100 : decode cX1_getValue 100 = .ok (.aload_n 0, 1) := by decide +kernel
theorem dX1_getValue_101 : decode cX1_getValue 101 = .ok (.getfield 27, 3) := by decide +kernel
theorem dX1_getValue_104 : decode cX1_getValue 104 = .ok (.iconst (-1), 1) := by decide +kernel
theorem dX1_getValue_105 : decode cX1_getValue 105 = .ok (.if_icmp .ne 25, 3) := by decide +kernel
theorem dX1_getValue_108 : decode cX1_getValue 108 = .ok (.aload_n 0, 1) := by decide +kernel
theorem dX1_getValue_109 : decode cX1_getValue 109 = .ok (.aload_n 1, 1) := by decide +kernel
theorem dX1_getValue_110 : decode cX1_getValue 110 = .ok (.getfield 74, 3) := by decide +kernel
theorem dX1_getValue_113 : decode cX1_getValue 113 = .ok (.iconst 0, 1) := by decide +kernel
theorem dX1_getValue_114 : decode cX1_getValue 114 = .ok (.invokevirtual 78, 3) := by decide +kernel
theorem dX1_getValue_117 : decode cX1_getValue 117 = .ok (.aload_n 2, 1) := by decide +kernel
theorem dX1_getValue_118 : decode cX1_getValue 118 = .ok (.iload_n 3, 1) := by decide +kernel
theorem dX1_getValue_119 : decode cX1_getValue 119 = .ok (.iconst 1, 1) := by decide +kernel
theorem dX1_getValue_120 : decode cX1_getValue 120 = .ok (.iadd, 1) := by decide +kernel
theorem dX1_getValue_121 : decode cX1_getValue 121 = .ok (.invokevirtual 33, 3) := by decide +kernel
theorem dX1_getValue_124 : decode cX1_getValue 124 = .ok (.iinc 5 1, 3) := by decide +kernel
theorem dX1_getValue_127 : decode cX1_getValue 127 = .ok (.goto (-34), 3) := by decide +kernel
theorem dX1_getValue_130 : decode cX1_getValue 130 = .ok (.goto 30, 3) := by decide +kernel
theorem dX1_getValue_133 : decode cX1_getValue 133 = .ok (.aload_n 1, 1) := by decide +kernel
theorem dX1_getValue_134 : decode cX1_getValue 134 = .ok (.getfield 41, 3) := by decide +kernel
theorem dX1_getValue_137 : decode cX1_getValue 137 = .ok (.getstatic 84, 3) := by decide +kernel
theorem dX1_getValue_140 : decode cX1_getValue 140 = .ok (.if_acmp .ne 20, 3) := by decide +kernel
theorem dX1_getValue_143 : decode cX1_getValue 143 = .ok (.aload_n 0, 1) := by decide +kernel
theorem dX1_getValue_144 : decode cX1_getValue 144 = .ok (.aload_n 1, 1) := by decide +kernel
theorem dX1_getValue_145 : decode cX1_getValue 145 = .ok (.getfield 74, 3) := by decide +kernel
theorem dX1_getValue_148 : decode cX1_getValue 148 = .ok (.iload 4, 2) := by decide +kernel
theorem dX1_getValue_150 : decode cX1_getValue 150 = .ok (.invokevirtual 78, 3) := by decide +kernel
theorem dX1_getValue_153 : decode cX1_getValue 153 = .ok (.aload_n 2, 1) := by decide +kernel
theorem dX1_getValue_154 : decode cX1_getValue 154 = .ok (.iload_n 3, 1) := by decide +kernel
theorem dX1_getValue_155 : decode cX1_getValue 155 = .ok (.iconst 1, 1) := by decide +kernel
theorem dX1_getValue_156 : decode cX1_getValue 156 = .ok (.iadd, 1) := by decide +kernel
theorem dX1_getValue_157 : decode cX1_getValue 157 = .ok (.invokevirtual 33, 3) := by decide +kernel
theorem dX1_getValue_160 : decode cX1_getValue 160 = .ok (.return_, 1) := by decide +kernel
set_option maxRecDepth 20000 in
theorem ggX1_getSequence_X1_next : GoodIn wsX1_getSequence wsX1_next := goodIn_r _ [11, 12, 13, 14, 15, 16, 17, 18, 19, 20, 21, 22, 23, 24, 25, 26, 27, 28, 80, 81, 82, 83, 94, 95] (by decide +kernel) (by decide +kernel)
set_option maxRecDepth 20000 in
theorem gX1_getSequence_X1_next : GoodIn wsX1_getSequence (wsV RX1 64 RX1 yX1_next wsX1_next) := goodIn_app (goodIn_of _ (by decide +kernel)) ggX1_getSequence_X1_next
set_option maxRecDepth 20000 in
theorem ggX1_getSequence_X1_nextParts : GoodIn wsX1_getSequence wsX1_nextParts := goodIn_r _ [32, 1, 33, 34, 35, 36, 37, 38, 39, 40, 41, 42, 43, 44, 7, 8, 9, 10, 11, 12, 13, 14, 15, 16, 17, 18, 19, 20, 21, 22, 23, 24, 25, 26, 27, 28, 45, 46, 47, 48, 84, 85, 86, 87, 88, 89, 90, 91, 92, 93, 80, 81, 82, 83, 96, 97, 94, 95] (by decide +kernel) (by decide +kernel)
set_option maxRecDepth 20000 in
theorem gX1_getSequence_X1_nextParts : GoodIn wsX1_getSequence (wsV RX1 87 RX1 yX1_nextParts wsX1_nextParts) := goodIn_app (goodIn_of _ (by decide +kernel)) ggX1_getSequence_X1_nextParts
set_option maxRecDepth 20000 in
theorem ggX1_getSequence_X2_size : GoodIn wsX1_getSequence wsX2_size := goodIn_r _ [28, 24, 94, 95] (by decide +kernel) (by decide +kernel)
set_option maxRecDepth 20000 in
theorem gX1_getSequence_X2_size : GoodIn wsX1_getSequence (wsV RX1 37 RX2 yX2_size wsX2_size) := goodIn_app (goodIn_of _ (by decide +kernel)) ggX1_getSequence_X2_size
set_option maxRecDepth 20000 in
theorem ggX1_getSequence_X2_append : GoodIn wsX1_getSequence wsX2_append := goodIn_r _ [48, 24, 19, 94, 95] (by decide +kernel) (by decide +kernel)
set_option maxRecDepth 20000 in
theorem gX1_getSequence_X2_append : GoodIn wsX1_getSequence (wsV RX1 68 RX2 yX2_append wsX2_append) := goodIn_app (goodIn_of _ (by decide +kernel)) ggX1_getSequence_X2_append
set_option maxRecDepth 20000 in
theorem ggX1_getSequence_X4_size : GoodIn wsX1_getSequence wsX4_size := goodIn_r _ [37, 38, 96, 97] (by decide +kernel) (by decide +kernel)
set_option maxRecDepth 20000 in
theorem gX1_getSequence_X4_size : GoodIn wsX1_getSequence (wsV RX1 91 RX4 yX4_size wsX4_size) := goodIn_app (goodIn_of _ (by decide +kernel)) ggX1_getSequence_X4_size
set_option maxRecDepth 20000 in
theorem ggX1_getSequence_X4_at : GoodIn wsX1_getSequence wsX4_at := goodIn_r _ [52, 38, 53, 96, 97] (by decide +kernel) (by decide +kernel)
set_option maxRecDepth 20000 in
theorem gX1_getSequence_X4_at : GoodIn wsX1_getSequence (wsV RX1 78 RX4 yX4_at wsX4_at) := goodIn_app (goodIn_of _ (by decide +kernel)) ggX1_getSequence_X4_at
set_option maxRecDepth 20000 in
theorem ggX1_getSequence_X1_getValue : GoodIn wsX1_getSequence wsX1_getValue := goodIn_r _ [73, 13, 12, 74, 1, 75, 76, 77, 78, 79, 10, 7, 8, 9, 11, 14, 15, 16, 17, 18, 19, 20, 21, 22, 23, 24, 25, 26, 27, 28, 45, 46, 47, 48, 49, 50, 51, 36, 52, 38, 53, 54, 55, 56, 64, 65, 2, 66, 67, 68, 69, 70, 71, 72, 0, 3, 4, 5, 6, 29, 30, 31, 32, 33, 34, 35, 37, 39, 40, 41, 42, 43, 44, 57, 58, 59, 60, 61, 62, 63, 80, 81, 82, 83, 84, 85, 86, 87, 88, 89, 90, 91, 92, 93, 94, 95, 96, 97] (by decide +kernel) (by decide +kernel)
set_option maxRecDepth 20000 in
theorem gX1_getSequence_X1_getValue : GoodIn wsX1_getSequence (wsV RX1 33 RX1 yX1_getValue wsX1_getValue) := goodIn_app (goodIn_of _ (by decide +kernel)) ggX1_getSequence_X1_getValue
set_option maxRecDepth 20000 in
theorem ggX1_getSequence_X2_replace : GoodIn wsX1_getSequence wsX2_replace := goodIn_r _ [60, 19, 20, 21, 22, 17, 23, 24, 94, 95] (by decide +kernel) (by decide +kernel)
set_option maxRecDepth 20000 in
theorem gX1_getSequence_X2_replace : GoodIn wsX1_getSequence (wsV RX1 101 RX2 yX2_replace wsX2_replace) := goodIn_app (goodIn_of _ (by decide +kernel)) ggX1_getSequence_X2_replace
set_option maxRecDepth 20000 in
theorem ggX1_getSequence_X1_getAdditions : GoodIn wsX1_getSequence wsX1_getAdditions := goodIn_r _ [65, 13, 2, 7, 8, 9, 10, 11, 12, 14, 15, 16, 17, 18, 19, 20, 21, 22, 23, 24, 25, 26, 27, 28, 49, 50, 51, 36, 52, 38, 53, 66, 67, 68, 69, 70, 71, 72, 64, 54, 55, 56, 0, 1, 3, 4, 5, 6, 29, 30, 31, 32, 33, 34, 35, 37, 39, 40, 41, 42, 43, 44, 45, 46, 47, 48, 57, 58, 59, 60, 61, 62, 63, 73, 74, 75, 76, 77, 78, 79, 80, 81, 82, 83, 84, 85, 86, 87, 88, 89, 90, 91, 92, 93, 94, 95, 96, 97] (by decide +kernel) (by decide +kernel)
set_option maxRecDepth 20000 in
theorem gX1_getSequence_X1_getAdditions : GoodIn wsX1_getSequence (wsV RX1 105 RX1 yX1_getAdditions wsX1_getAdditions) := goodIn_app (goodIn_of _ (by decide +kernel)) ggX1_getSequence_X1_getAdditions
theorem dX1_getSequence_0 : decode cX1_getSequence 0 = .ok (.aload_n 0, 1) := by decide +kernel
theorem dX1_getSequence_1 : decode cX1_getSequence 1 = .ok (.aload_n 2, 1) := by decide +kernel
theorem dX1_getSequence_2 : decode cX1_getSequence 2 = .ok (.iconst 1, 1) := by decide +kernel
theorem dX1_getSequence_3 : decode cX1_getSequence 3 = .ok (.iconst 1, 1) := by decide +kernel
theorem dX1_getSequence_4 : decode cX1_getSequence 4 = .ok (.invokevirtual 64, 3) := by decide +kernel
theorem dX1_getSequence_7 : decode cX1_getSequence 7 = .ok (.iconst 1, 1) := by decide +kernel
theorem dX1_getSequence_8 : decode cX1_getSequence 8 = .ok (.if_icmp .ne 7, 3) := by decide +kernel
theorem dX1_getSequence_11 : decode cX1_getSequence 11 = .ok (.iconst 1, 1) := by decide +kernel
theorem dX1_getSequence_12 : decode cX1_getSequence 12 = .ok (.goto 4, 3) := by decide +kernel
theorem dX1_getSequence_15 : decode cX1_getSequence 15 = .ok (.iconst 0, 1) := by decide +kernel
theorem dX1_getSequence_16 : decode cX1_getSequence 16 = .ok (.istore 4, 2) := by decide +kernel
theorem dX1_getSequence_18 : decode cX1_getSequence 18 = .ok (.aload_n 0, 1) := by decide +kernel
theorem dX1_getSequence_19 : decode cX1_getSequence 19 = .ok (.aload_n 1, 1) := by decide +kernel
theorem dX1_getSequence_20 : decode cX1_getSequence 20 = .ok (.aload_n 2, 1) := by decide +kernel
theorem dX1_getSequence_21 : decode cX1_getSequence 21 = .ok (.invokevirtual 87, 3) := by decide +kernel
theorem dX1_getSequence_24 : decode cX1_getSequence 24 = .ok (.istore 5, 2) := by decide +kernel
theorem dX1_getSequence_26 : decode cX1_getSequence 26 = .ok (.aload_n 0, 1) := by decide +kernel
theorem dX1_getSequence_27 : decode cX1_getSequence 27 = .ok (.getfield 14, 3) := by decide +kernel
theorem dX1_getSequence_30 : decode cX1_getSequence 30 = .ok (.invokevirtual 37, 3) := by decide +kernel
theorem dX1_getSequence_33 : decode cX1_getSequence 33 = .ok (.istore 6, 2) := by decide +kernel
theorem dX1_getSequence_35 : decode cX1_getSequence 35 = .ok (.aload_n 0, 1) := by decide +kernel
theorem dX1_getSequence_36 : decode cX1_getSequence 36 = .ok (.getfield 14, 3) := by decide +kernel
theorem dX1_getSequence_39 : decode cX1_getSequence 39 = .ok (.iconst 0, 1) := by decide +kernel
theorem dX1_getSequence_40 : decode cX1_getSequence 40 = .ok (.invokevirtual 68, 3) := by decide +kernel
theorem dX1_getSequence_43 : decode cX1_getSequence 43 = .ok (.iconst 0, 1) := by decide +kernel
theorem dX1_getSequence_44 : decode cX1_getSequence 44 = .ok (.istore 7, 2) := by decide +kernel
theorem dX1_getSequence_46 : decode cX1_getSequence 46 = .ok (.iload 7, 2) := by decide +kernel
theorem dX1_getSequence_48 : decode cX1_getSequence 48 = .ok (.aload_n 1, 1) := by decide +kernel
theorem dX1_getSequence_49 : decode cX1_getSequence 49 = .ok (.getfield 74, 3) := by decide +kernel
theorem dX1_getSequence_52 : decode cX1_getSequence 52 = .ok (.invokevirtual 91, 3) := by decide +kernel
theorem dX1_getSequence_55 : decode cX1_getSequence 55 = .ok (.if_icmp .ge 37, 3) := by decide +kernel
theorem dX1_getSequence_58 : decode cX1_getSequence 58 = .ok (.iload 5, 2) := by decide +kernel
theorem dX1_getSequence_60 : decode cX1_getSequence 60 = .ok (.iload 7, 2) := by decide +kernel
theorem dX1_getSequence_62 : decode cX1_getSequence 62 = .ok (.ishr, 1) := by decide +kernel
theorem dX1_getSequence_63 : decode cX1_getSequence 63 = .ok (.iconst 1, 1) := by decide +kernel
theorem dX1_getSequence_64 : decode cX1_getSequence 64 = .ok (.iand, 1) := by decide +kernel
theorem dX1_getSequence_65 : decode cX1_getSequence 65 = .ok (.iconst 1, 1) := by decide +kernel
theorem dX1_getSequence_66 : decode cX1_getSequence 66 = .ok (.if_icmp .ne 20, 3) := by decide +kernel
theorem dX1_getSequence_69 : decode cX1_getSequence 69 = .ok (.aload_n 0, 1) := by decide +kernel
theorem dX1_getSequence_70 : decode cX1_getSequence 70 = .ok (.aload_n 1, 1) := by decide +kernel
theorem dX1_getSequence_71 : decode cX1_getSequence 71 = .ok (.getfield 74, 3) := by decide +kernel
theorem dX1_getSequence_74 : decode cX1_getSequence 74 = .ok (.iload 7, 2) := by decide +kernel
theorem dX1_getSequence_76 : decode cX1_getSequence 76 = .ok (.invokevirtual 78, 3) := by decide +kernel
theorem dX1_getSequence_79 : decode cX1_getSequence 79 = .ok (.aload_n 2, 1) := by decide +kernel
theorem dX1_getSequence_80 : decode cX1_getSequence 80 = .ok (.iload_n 3, 1) := by decide +kernel
theorem dX1_getSequence_81 : decode cX1_getSequence 81 = .ok (.iconst 1, 1) := by decide +kernel
theorem dX1_getSequence_82 : decode cX1_getSequence 82 = .ok (.iadd, 1) := by decide +kernel
theorem dX1_getSequence_83 : decode cX1_getSequence 83 = .ok (.invokevirtual 33, 3) := by decide +kernel
theorem dX1_getSequence_86 : decode cX1_getSequence 86 = .ok (.iinc 7 1, 3) := by decide +kernel
theorem dX1_getSequence_89 : decode cX1_getSequence 89 = .ok (.goto (-43), 3) := by decide +kernel
theorem dX1_getSequence_92 : decode cX1_getSequence 92 = .ok (.iload 4, 2) := by decide +kernel
theorem dX1_getSequence_94 : decode cX1_getSequence 94 = .ok (.ifCond .eq 49, 3) := by decide +kernel
theorem dX1_getSequence_97 : decode cX1_getSequence 97 = .ok (.iconst 1, 1) := by decide +kernel
theorem dX1_getSequence_98 : decode cX1_getSequence 98 = .ok (.aload_n 0, 1) := by decide +kernel
theorem dX1_getSequence_99 : decode cX1_getSequence 99 = .ok (.aload_n 2, 1) := by decide +kernel
theorem dX1_getSequence_100 : decode cX1_getSequence 100 = .ok (.iconst 2, 1) := by decide +kernel
theorem dX1_getSequence_101 : decode cX1_getSequence 101 = .ok (.aload_n 1, 1) := by decide +kernel
theorem dX1_getSequence_102 : decode cX1_getSequence 102 = .ok (.getfield 92, 3) := by decide +kernel
theorem dX1_getSequence_105 : decode cX1_getSequence 105 = .ok (.invokevirtual 91, 3) := by decide +kernel
theorem dX1_getSequence_108 : decode cX1_getSequence 108 = .ok (.iconst 1, 1) := by decide +kernel
theorem dX1_getSequence_109 : decode cX1_getSequence 109 = .ok (.isub, 1) := by decide +kernel
theorem dX1_getSequence_110 : decode cX1_getSequence 110 = .ok (.invokevirtual 64, 3) := by decide +kernel
theorem dX1_getSequence_113 : decode cX1_getSequence 113 = .ok (.iadd, 1) := by decide +kernel
theorem dX1_getSequence_114 : decode cX1_getSequence 114 = .ok (.istore 7, 2) := by decide +kernel
theorem dX1_getSequence_116 : decode cX1_getSequence 116 = .ok (.aload_n 0, 1) := by decide +kernel
theorem dX1_getSequence_117 : decode cX1_getSequence 117 = .ok (.getfield 14, 3) := by decide +kernel
theorem dX1_getSequence_120 : decode cX1_getSequence 120 = .ok (.iload 6, 2) := by decide +kernel
theorem dX1_getSequence_122 : decode cX1_getSequence 122 = .ok (.iload 7, 2) := by decide +kernel
theorem dX1_getSequence_124 : decode cX1_getSequence 124 = .ok (.aload_n 0, 1) := by decide +kernel
theorem dX1_getSequence_125 : decode cX1_getSequence 125 = .ok (.getfield 20, 3) := by decide +kernel
theorem dX1_getSequence_128 : decode cX1_getSequence 128 = .ok (.invokestatic 95, 3) := by decide +kernel
theorem dX1_getSequence_131 : decode cX1_getSequence 131 = .ok (.invokevirtual 101, 3) := by decide +kernel
theorem dX1_getSequence_134 : decode cX1_getSequence 134 = .ok (.aload_n 0, 1) := by decide +kernel
theorem dX1_getSequence_135 : decode cX1_getSequence 135 = .ok (.aload_n 1, 1) := by decide +kernel
theorem dX1_getSequence_136 : decode cX1_getSequence 136 = .ok (.iload 7, 2) := by decide +kernel
theorem dX1_getSequence_138 : decode cX1_getSequence 138 = .ok (.aload_n 2, 1) := by decide +kernel
theorem dX1_getSequence_139 : decode cX1_getSequence 139 = .ok (.iload_n 3, 1) := by decide +kernel
theorem dX1_getSequence_140 : decode cX1_getSequence 140 = .ok (.invokevirtual 105, 3) := by decide +kernel
theorem dX1_getSequence_143 : decode cX1_getSequence 143 = .ok (.return_, 1) := by decide +kernel
set_option maxRecDepth 20000 in
theorem ggX1_nextParts_X4_size : GoodIn wsX1_nextParts wsX4_size := goodIn_r _ [6, 7, 54, 55] (by decide +kernel) (by decide +kernel)
set_option maxRecDepth 20000 in
theorem gX1_nextParts_X4_size : GoodIn wsX1_nextParts (wsV RX1 91 RX4 yX4_size wsX4_size) := goodIn_app (goodIn_of _ (by decide +kernel)) ggX1_nextParts_X4_size
set_option maxRecDepth 20000 in
theorem ggX1_nextParts_X3_isOptional : GoodIn wsX1_nextParts wsX3_isOptional := goodIn_r _ [12, 13, 40, 41, 42, 43, 44, 45, 46, 47, 48, 49] (by decide +kernel) (by decide +kernel)
set_option maxRecDepth 20000 in
theorem gX1_nextParts_X3_isOptional : GoodIn wsX1_nextParts (wsV RX1 109 RX3 yX3_isOptional wsX3_isOptional) := goodIn_app (goodIn_of _ (by decide +kernel)) ggX1_nextParts_X3_isOptional
set_option maxRecDepth 20000 in
theorem ggX1_nextParts_X1_next : GoodIn wsX1_nextParts wsX1_next := goodIn_r _ [18, 19, 20, 21, 22, 23, 24, 25, 26, 27, 28, 29, 30, 31, 32, 33, 34, 35, 50, 51, 52, 53, 56, 57] (by decide +kernel) (by decide +kernel)
set_option maxRecDepth 20000 in
theorem gX1_nextParts_X1_next : GoodIn wsX1_nextParts (wsV RX1 64 RX1 yX1_next wsX1_next) := goodIn_app (goodIn_of _ (by decide +kernel)) ggX1_nextParts_X1_next
set_option maxRecDepth 20000 in
theorem ggX1_nextParts_X2_append : GoodIn wsX1_nextParts wsX2_append := goodIn_r _ [39, 31, 26, 56, 57] (by decide +kernel) (by decide +kernel)
set_option maxRecDepth 20000 in
theorem gX1_nextParts_X2_append : GoodIn wsX1_nextParts (wsV RX1 68 RX2 yX2_append wsX2_append) := goodIn_app (goodIn_of _ (by decide +kernel)) ggX1_nextParts_X2_append
theorem dX1_nextParts_0 : decode cX1_nextParts 0 = .ok (.iconst 0, 1) := by decide +kernel
theorem dX1_nextParts_1 : decode cX1_nextParts 1 = .ok (.istore_n 3, 1) := by decide +kernel
theorem dX1_nextParts_2 : decode cX1_nextParts 2 = .ok (.iconst 0, 1) := by decide +kernel
theorem dX1_nextParts_3 : decode cX1_nextParts 3 = .ok (.istore 4, 2) := by decide +kernel
theorem dX1_nextParts_5 : decode cX1_nextParts 5 = .ok (.iload 4, 2) := by decide +kernel
theorem dX1_nextParts_7 : decode cX1_nextParts 7 = .ok (.aload_n 1, 1) := by decide +kernel
theorem dX1_nextParts_8 : decode cX1_nextParts 8 = .ok (.getfield 74, 3) := by decide +kernel
theorem dX1_nextParts_11 : decode cX1_nextParts 11 = .ok (.invokevirtual 91, 3) := by decide +kernel
theorem dX1_nextParts_14 : decode cX1_nextParts 14 = .ok (.if_icmp .ge 54, 3) := by decide +kernel
theorem dX1_nextParts_17 : decode cX1_nextParts 17 = .ok (.aload_n 1, 1) := by decide +kernel
theorem dX1_nextParts_18 : decode cX1_nextParts 18 = .ok (.iload 4, 2) := by decide +kernel
theorem dX1_nextParts_20 : decode cX1_nextParts 20 = .ok (.invokevirtual 109, 3) := by decide +kernel
theorem dX1_nextParts_23 : decode cX1_nextParts 23 = .ok (.ifCond .eq 32, 3) := by decide +kernel
theorem dX1_nextParts_26 : decode cX1_nextParts 26 = .ok (.aload_n 0, 1) := by decide +kernel
theorem dX1_nextParts_27 : decode cX1_nextParts 27 = .ok (.aload_n 2, 1) := by decide +kernel
theorem dX1_nextParts_28 : decode cX1_nextParts 28 = .ok (.iconst 1, 1) := by decide +kernel
theorem dX1_nextParts_29 : decode cX1_nextParts 29 = .ok (.iconst 1, 1) := by decide +kernel
theorem dX1_nextParts_30 : decode cX1_nextParts 30 = .ok (.invokevirtual 64, 3) := by decide +kernel
theorem dX1_nextParts_33 : decode cX1_nextParts 33 = .ok (.istore 5, 2) := by decide +kernel
theorem dX1_nextParts_35 : decode cX1_nextParts 35 = .ok (.aload_n 0, 1) := by decide +kernel
theorem dX1_nextParts_36 : decode cX1_nextParts 36 = .ok (.getfield 14, 3) := by decide +kernel
theorem dX1_nextParts_39 : decode cX1_nextParts 39 = .ok (.iload 5, 2) := by decide +kernel
theorem dX1_nextParts_41 : decode cX1_nextParts 41 = .ok (.invokevirtual 68, 3) := by decide +kernel
theorem dX1_nextParts_44 : decode cX1_nextParts 44 = .ok (.iload_n 3, 1) := by decide +kernel
theorem dX1_nextParts_45 : decode cX1_nextParts 45 = .ok (.iload 5, 2) := by decide +kernel
theorem dX1_nextParts_47 : decode cX1_nextParts 47 = .ok (.iload 4, 2) := by decide +kernel
theorem dX1_nextParts_49 : decode cX1_nextParts 49 = .ok (.ishl, 1) := by decide +kernel
theorem dX1_nextParts_50 : decode cX1_nextParts 50 = .ok (.ior, 1) := by decide +kernel
theorem dX1_nextParts_51 : decode cX1_nextParts 51 = .ok (.istore_n 3, 1) := by decide +kernel
theorem dX1_nextParts_52 : decode cX1_nextParts 52 = .ok (.goto 10, 3) := by decide +kernel
theorem dX1_nextParts_55 : decode cX1_nextParts 55 = .ok (.iload_n 3, 1) := by decide +kernel
theorem dX1_nextParts_56 : decode cX1_nextParts 56 = .ok (.iconst 1, 1) := by decide +kernel
theorem dX1_nextParts_57 : decode cX1_nextParts 57 = .ok (.iload 4, 2) := by decide +kernel
theorem dX1_nextParts_59 : decode cX1_nextParts 59 = .ok (.ishl, 1) := by decide +kernel
theorem dX1_nextParts_60 : decode cX1_nextParts 60 = .ok (.ior, 1) := by decide +kernel
theorem dX1_nextParts_61 : decode cX1_nextParts 61 = .ok (.istore_n 3, 1) := by decide +kernel
theorem dX1_nextParts_62 : decode cX1_nextParts 62 = .ok (.iinc 4 1, 3) := by decide +kernel
theorem dX1_nextParts_65 : decode cX1_nextParts 65 = .ok (.goto (-60), 3) := by decide +kernel
theorem dX1_nextParts_68 : decode cX1_nextParts 68 = .ok (.iload_n 3, 1) := by decide +kernel
theorem dX1_nextParts_69 : decode cX1_nextParts 69 = .ok (.ireturn, 1) := by decide +kernel
set_option maxRecDepth 20000 in
theorem ggX1_getAdditions_X1_next : GoodIn wsX1_getAdditions wsX1_next := goodIn_r _ [7, 8, 1, 9, 10, 11, 12, 13, 14, 15, 16, 17, 18, 19, 20, 21, 22, 23, 80, 81, 82, 83, 94, 95] (by decide +kernel) (by decide +kernel)
set_option maxRecDepth 20000 in
theorem gX1_getAdditions_X1_next : GoodIn wsX1_getAdditions (wsV RX1 64 RX1 yX1_next wsX1_next) := goodIn_app (goodIn_of _ (by decide +kernel)) ggX1_getAdditions_X1_next
set_option maxRecDepth 20000 in
theorem ggX1_getAdditions_X4_at : GoodIn wsX1_getAdditions wsX4_at := goodIn_r _ [28, 29, 30, 96, 97] (by decide +kernel) (by decide +kernel)
set_option maxRecDepth 20000 in
theorem gX1_getAdditions_X4_at : GoodIn wsX1_getAdditions (wsV RX1 78 RX4 yX4_at wsX4_at) := goodIn_app (goodIn_of _ (by decide +kernel)) ggX1_getAdditions_X4_at
set_option maxRecDepth 20000 in
theorem ggX1_getAdditions_X1_getAddition : GoodIn wsX1_getAdditions wsX1_getAddition := goodIn_r _ [38, 8, 1, 39, 40, 41, 6, 0, 2, 3, 4, 5, 7, 9, 10, 11, 12, 13, 14, 15, 16, 17, 18, 19, 20, 21, 22, 23, 24, 25, 26, 27, 28, 29, 30, 31, 32, 33, 34, 35, 36, 37, 42, 43, 44, 45, 46, 47, 48, 49, 50, 51, 52, 53, 54, 55, 56, 57, 58, 59, 60, 61, 62, 63, 64, 65, 66, 67, 68, 69, 70, 71, 72, 73, 74, 75, 76, 77, 78, 79, 80, 81, 82, 83, 84, 85, 86, 87, 88, 89, 90, 91, 92, 93, 94, 95, 96, 97] (by decide +kernel) (by decide +kernel)
set_option maxRecDepth 20000 in
theorem gX1_getAdditions_X1_getAddition : GoodIn wsX1_getAdditions (wsV RX1 113 RX1 yX1_getAddition wsX1_getAddition) := goodIn_app (goodIn_of _ (by decide +kernel)) ggX1_getAdditions_X1_getAddition
set_option maxRecDepth 20000 in
theorem ggX1_getAdditions_X1_skip : GoodIn wsX1_getAdditions wsX1_skip := goodIn_r _ [37, 1, 8, 20, 21, 22, 12, 23, 19, 80, 81, 82, 83, 94, 95] (by decide +kernel) (by decide +kernel)
set_option maxRecDepth 20000 in
theorem gX1_getAdditions_X1_skip : GoodIn wsX1_getAdditions (wsV RX1 116 RX1 yX1_skip wsX1_skip) := goodIn_app (goodIn_of _ (by decide +kernel)) ggX1_getAdditions_X1_skip
theorem dX1_getAdditions_0 : decode cX1_getAdditions 0 = .ok (.iconst 0, 1) := by decide +kernel
theorem dX1_getAdditions_1 : decode cX1_getAdditions 1 = .ok (.istore 5, 2) := by decide +kernel
theorem dX1_getAdditions_3 : decode cX1_getAdditions 3 = .ok (.iload 5, 2) := by decide +kernel
theorem dX1_getAdditions_5 : decode cX1_getAdditions 5 = .ok (.iload_n 2, 1) := by decide +kernel
theorem dX1_getAdditions_6 : decode cX1_getAdditions 6 = .ok (.if_icmp .ge 66, 3) := by decide +kernel
theorem dX1_getAdditions_9 : decode cX1_getAdditions 9 = .ok (.aload_n 0, 1) := by decide +kernel
theorem dX1_getAdditions_10 : decode cX1_getAdditions 10 = .ok (.getfield 27, 3) := by decide +kernel
theorem dX1_getAdditions_13 : decode cX1_getAdditions 13 = .ok (.iconst (-1), 1) := by decide +kernel
theorem dX1_getAdditions_14 : decode cX1_getAdditions 14 = .ok (.if_icmp .ne 58, 3) := by decide +kernel
theorem dX1_getAdditions_17 : decode cX1_getAdditions 17 = .ok (.aload_n 0, 1) := by decide +kernel
theorem dX1_getAdditions_18 : decode cX1_getAdditions 18 = .ok (.aload_n 3, 1) := by decide +kernel
theorem dX1_getAdditions_19 : decode cX1_getAdditions 19 = .ok (.bipush 8, 2) := by decide +kernel
theorem dX1_getAdditions_21 : decode cX1_getAdditions 21 = .ok (.sipush 255, 3) := by decide +kernel
theorem dX1_getAdditions_24 : decode cX1_getAdditions 24 = .ok (.invokevirtual 64, 3) := by decide +kernel
theorem dX1_getAdditions_27 : decode cX1_getAdditions 27 = .ok (.istore 6, 2) := by decide +kernel
theorem dX1_getAdditions_29 : decode cX1_getAdditions 29 = .ok (.iload 5, 2) := by decide +kernel
theorem dX1_getAdditions_31 : decode cX1_getAdditions 31 = .ok (.aload_n 0, 1) := by decide +kernel
theorem dX1_getAdditions_32 : decode cX1_getAdditions 32 = .ok (.getfield 20, 3) := by decide +kernel
theorem dX1_getAdditions_35 : decode cX1_getAdditions 35 = .ok (.if_icmp .ge 24, 3) := by decide +kernel
theorem dX1_getAdditions_38 : decode cX1_getAdditions 38 = .ok (.aload_n 0, 1) := by decide +kernel
theorem dX1_getAdditions_39 : decode cX1_getAdditions 39 = .ok (.aload_n 1, 1) := by decide +kernel
theorem dX1_getAdditions_40 : decode cX1_getAdditions 40 = .ok (.getfield 92, 3) := by decide +kernel
theorem dX1_getAdditions_43 : decode cX1_getAdditions 43 = .ok (.iload 5, 2) := by decide +kernel
theorem dX1_getAdditions_45 : decode cX1_getAdditions 45 = .ok (.invokevirtual 78, 3) := by decide +kernel
theorem dX1_getAdditions_48 : decode cX1_getAdditions 48 = .ok (.iload 6, 2) := by decide +kernel
theorem dX1_getAdditions_50 : decode cX1_getAdditions 50 = .ok (.aload_n 3, 1) := by decide +kernel
theorem dX1_getAdditions_51 : decode cX1_getAdditions 51 = .ok (.iload 4, 2) := by decide +kernel
theorem dX1_getAdditions_53 : decode cX1_getAdditions 53 = .ok (.invokevirtual 113, 3) := by decide +kernel
theorem dX1_getAdditions_56 : decode cX1_getAdditions 56 = .ok (.goto 10, 3) := by decide +kernel
theorem dX1_getAdditions_59 : decode cX1_getAdditions 59 = .ok (.aload_n 0, 1) := by decide +kernel
theorem dX1_getAdditions_60 : decode cX1_getAdditions 60 = .ok (.iload 6, 2) := by decide +kernel
theorem dX1_getAdditions_62 : decode cX1_getAdditions 62 = .ok (.aload_n 3, 1) := by decide +kernel
theorem dX1_getAdditions_63 : decode cX1_getAdditions 63 = .ok (.invokevirtual 116, 3) := by decide +kernel
theorem dX1_getAdditions_66 : decode cX1_getAdditions 66 = .ok (.iinc 5 1, 3) := by decide +kernel
theorem dX1_getAdditions_69 : decode cX1_getAdditions 69 = .ok (.goto (-66), 3) := by decide +kernel
theorem dX1_getAdditions_72 : decode cX1_getAdditions 72 = .ok (.return_, 1) := by decide +kernel
set_option maxRecDepth 20000 in
theorem ggX1_getAddition_X1_getValue : GoodIn wsX1_getAddition wsX1_getValue := goodIn_r _ [73, 2, 1, 74, 43, 75, 76, 77, 78, 79, 6, 9, 10, 11, 12, 13, 14, 15, 16, 17, 18, 19, 20, 21, 22, 23, 24, 25, 26, 27, 62, 63, 64, 65, 28, 29, 30, 31, 32, 33, 34, 3, 4, 5, 0, 7, 8, 35, 36, 37, 38, 39, 40, 41, 42, 44, 45, 46, 47, 48, 49, 50, 51, 52, 53, 54, 55, 56, 57, 58, 59, 60, 61, 66, 67, 68, 69, 70, 71, 72, 80, 81, 82, 83, 84, 85, 86, 87, 88, 89, 90, 91, 92, 93, 94, 95, 96, 97] (by decide +kernel) (by decide +kernel)
set_option maxRecDepth 20000 in
theorem gX1_getAddition_X1_getValue : GoodIn wsX1_getAddition (wsV RX1 33 RX1 yX1_getValue wsX1_getValue) := goodIn_app (goodIn_of _ (by decide +kernel)) ggX1_getAddition_X1_getValue
theorem dX1_getAddition_0 : decode cX1_getAddition 0 = .ok (.aload_n 0, 1) := by decide +kernel
theorem dX1_getAddition_1 : decode cX1_getAddition 1 = .ok (.getfield 24, 3) := by decide +kernel
theorem dX1_getAddition_4 : decode cX1_getAddition 4 = .ok (.istore 5, 2) := by decide +kernel
theorem dX1_getAddition_6 : decode cX1_getAddition 6 = .ok (.aload_n 0, 1) := by decide +kernel
theorem dX1_getAddition_7 : decode cX1_getAddition 7 = .ok (.aload_n 1, 1) := by decide +kernel
theorem dX1_getAddition_8 : decode cX1_getAddition 8 = .ok (.aload_n 3, 1) := by decide +kernel
theorem dX1_getAddition_9 : decode cX1_getAddition 9 = .ok (.iload 4, 2) := by decide +kernel
theorem dX1_getAddition_11 : decode cX1_getAddition 11 = .ok (.iconst 1, 1) := by decide +kernel
theorem dX1_getAddition_12 : decode cX1_getAddition 12 = .ok (.iadd, 1) := by decide +kernel
theorem dX1_getAddition_13 : decode cX1_getAddition 13 = .ok (.invokevirtual 33, 3) := by decide +kernel
theorem dX1_getAddition_16 : decode cX1_getAddition 16 = .ok (.aload_n 0, 1) := by decide +kernel
theorem dX1_getAddition_17 : decode cX1_getAddition 17 = .ok (.getfield 27, 3) := by decide +kernel
theorem dX1_getAddition_20 : decode cX1_getAddition 20 = .ok (.iconst (-1), 1) := by decide +kernel
theorem dX1_getAddition_21 : decode cX1_getAddition 21 = .ok (.if_icmp .ne 20, 3) := by decide +kernel
theorem dX1_getAddition_24 : decode cX1_getAddition 24 = .ok (.aload_n 0, 1) := by decide +kernel
theorem dX1_getAddition_25 : decode cX1_getAddition 25 = .ok (.getfield 24, 3) := by decide +kernel
theorem dX1_getAddition_28 : decode cX1_getAddition 28 = .ok (.iload 5, 2) := by decide +kernel
theorem dX1_getAddition_30 : decode cX1_getAddition 30 = .ok (.isub, 1) := by decide +kernel
theorem dX1_getAddition_31 : decode cX1_getAddition 31 = .ok (.iload_n 2, 1) := by decide +kernel
theorem dX1_getAddition_32 : decode cX1_getAddition 32 = .ok (.if_icmp .eq 9, 3) := by decide +kernel
theorem dX1_getAddition_35 : decode cX1_getAddition 35 = .ok (.aload_n 0, 1) := by decide +kernel
theorem dX1_getAddition_36 : decode cX1_getAddition 36 = .ok (.iload 5, 2) := by decide +kernel
theorem dX1_getAddition_38 : decode cX1_getAddition 38 = .ok (.putfield 27, 3) := by decide +kernel
theorem dX1_getAddition_41 : decode cX1_getAddition 41 = .ok (.return_, 1) := by decide +kernel
set_option maxRecDepth 20000 in
theorem ggX1_skip_X2_size : GoodIn wsX1_skip wsX2_size := goodIn_r _ [7, 8, 13, 14] (by decide +kernel) (by decide +kernel)
set_option maxRecDepth 20000 in
theorem gX1_skip_X2_size : GoodIn wsX1_skip (wsV RX1 37 RX2 yX2_size wsX2_size) := goodIn_app (goodIn_of _ (by decide +kernel)) ggX1_skip_X2_size
theorem dX1_skip_0 : decode cX1_skip 0 = .ok (.aload_n 0, 1) := by decide +kernel
theorem dX1_skip_1 : decode cX1_skip 1 = .ok (.getfield 27, 3) := by decide +kernel
theorem dX1_skip_4 : decode cX1_skip 4 = .ok (.iconst (-1), 1) := by decide +kernel
theorem dX1_skip_5 : decode cX1_skip 5 = .ok (.if_icmp .ne 24, 3) := by decide +kernel
theorem dX1_skip_8 : decode cX1_skip 8 = .ok (.iload_n 1, 1) := by decide +kernel
theorem dX1_skip_9 : decode cX1_skip 9 = .ok (.aload_n 2, 1) := by decide +kernel
theorem dX1_skip_10 : decode cX1_skip 10 = .ok (.invokevirtual 37, 3) := by decide +kernel
theorem dX1_skip_13 : decode cX1_skip 13 = .ok (.aload_n 0, 1) := by decide +kernel
theorem dX1_skip_14 : decode cX1_skip 14 = .ok (.getfield 24, 3) := by decide +kernel
theorem dX1_skip_17 : decode cX1_skip 17 = .ok (.isub, 1) := by decide +kernel
theorem dX1_skip_18 : decode cX1_skip 18 = .ok (.if_icmp .le 11, 3) := by decide +kernel
theorem dX1_skip_21 : decode cX1_skip 21 = .ok (.aload_n 0, 1) := by decide +kernel
theorem dX1_skip_22 : decode cX1_skip 22 = .ok (.aload_n 2, 1) := by decide +kernel
theorem dX1_skip_23 : decode cX1_skip 23 = .ok (.invokevirtual 37, 3) := by decide +kernel
theorem dX1_skip_26 : decode cX1_skip 26 = .ok (.putfield 27, 3) := by decide +kernel
theorem dX1_skip_29 : decode cX1_skip 29 = .ok (.aload_n 0, 1) := by decide +kernel
theorem dX1_skip_30 : decode cX1_skip 30 = .ok (.getfield 27, 3) := by decide +kernel
theorem dX1_skip_33 : decode cX1_skip 33 = .ok (.iconst (-1), 1) := by decide +kernel
theorem dX1_skip_34 : decode cX1_skip 34 = .ok (.if_icmp .ne 13, 3) := by decide +kernel
theorem dX1_skip_37 : decode cX1_skip 37 = .ok (.aload_n 0, 1) := by decide +kernel
theorem dX1_skip_38 : decode cX1_skip 38 = .ok (.dup, 1) := by decide +kernel
theorem dX1_skip_39 : decode cX1_skip 39 = .ok (.getfield 24, 3) := by decide +kernel
theorem dX1_skip_42 : decode cX1_skip 42 = .ok (.iload_n 1, 1) := by decide +kernel
theorem dX1_skip_43 : decode cX1_skip 43 = .ok (.iadd, 1) := by decide +kernel
theorem dX1_skip_44 : decode cX1_skip 44 = .ok (.putfield 24, 3) := by decide +kernel
theorem dX1_skip_47 : decode cX1_skip 47 = .ok (.return_, 1) := by decide +kernel
set_option maxRecDepth 20000 in
theorem ggX1_next_X2_at : GoodIn wsX1_next wsX2_at := goodIn_r _ [7, 8, 9, 10, 11, 6, 12, 13, 22, 23] (by decide +kernel) (by decide +kernel)
set_option maxRecDepth 20000 in
theorem gX1_next_X2_at : GoodIn wsX1_next (wsV RX1 120 RX2 yX2_at wsX2_at) := goodIn_app (goodIn_of _ (by decide +kernel)) ggX1_next_X2_at
set_option maxRecDepth 20000 in
theorem ggX1_next_X2_size : GoodIn wsX1_next wsX2_size := goodIn_r _ [17, 13, 22, 23] (by decide +kernel) (by decide +kernel)
set_option maxRecDepth 20000 in
theorem gX1_next_X2_size : GoodIn wsX1_next (wsV RX1 37 RX2 yX2_size wsX2_size) := goodIn_app (goodIn_of _ (by decide +kernel)) ggX1_next_X2_size
theorem dX1_next_0 : decode cX1_next 0 = .ok (.iconst 0, 1) := by decide +kernel
theorem dX1_next_1 : decode cX1_next 1 = .ok (.istore 4, 2) := by decide +kernel
theorem dX1_next_3 : decode cX1_next 3 = .ok (.iconst 0, 1) := by decide +kernel
theorem dX1_next_4 : decode cX1_next 4 = .ok (.istore 5, 2) := by decide +kernel
theorem dX1_next_6 : decode cX1_next 6 = .ok (.iload 5, 2) := by decide +kernel
theorem dX1_next_8 : decode cX1_next 8 = .ok (.iload_n 2, 1) := by decide +kernel
theorem dX1_next_9 : decode cX1_next 9 = .ok (.if_icmp .ge 27, 3) := by decide +kernel
theorem dX1_next_12 : decode cX1_next 12 = .ok (.iload 4, 2) := by decide +kernel
theorem dX1_next_14 : decode cX1_next 14 = .ok (.iconst 1, 1) := by decide +kernel
theorem dX1_next_15 : decode cX1_next 15 = .ok (.ishl, 1) := by decide +kernel
theorem dX1_next_16 : decode cX1_next 16 = .ok (.aload_n 1, 1) := by decide +kernel
theorem dX1_next_17 : decode cX1_next 17 = .ok (.aload_n 0, 1) := by decide +kernel
theorem dX1_next_18 : decode cX1_next 18 = .ok (.getfield 24, 3) := by decide +kernel
theorem dX1_next_21 : decode cX1_next 21 = .ok (.iload 5, 2) := by decide +kernel
theorem dX1_next_23 : decode cX1_next 23 = .ok (.iadd, 1) := by decide +kernel
theorem dX1_next_24 : decode cX1_next 24 = .ok (.invokevirtual 120, 3) := by decide +kernel
theorem dX1_next_27 : decode cX1_next 27 = .ok (.ior, 1) := by decide +kernel
theorem dX1_next_28 : decode cX1_next 28 = .ok (.istore 4, 2) := by decide +kernel
theorem dX1_next_30 : decode cX1_next 30 = .ok (.iinc 5 1, 3) := by decide +kernel
theorem dX1_next_33 : decode cX1_next 33 = .ok (.goto (-27), 3) := by decide +kernel
theorem dX1_next_36 : decode cX1_next 36 = .ok (.aload_n 0, 1) := by decide +kernel
theorem dX1_next_37 : decode cX1_next 37 = .ok (.getfield 27, 3) := by decide +kernel
theorem dX1_next_40 : decode cX1_next 40 = .ok (.iconst (-1), 1) := by decide +kernel
theorem dX1_next_41 : decode cX1_next 41 = .ok (.if_icmp .ne 24, 3) := by decide +kernel
theorem dX1_next_44 : decode cX1_next 44 = .ok (.iload_n 2, 1) := by decide +kernel
theorem dX1_next_45 : decode cX1_next 45 = .ok (.aload_n 1, 1) := by decide +kernel
theorem dX1_next_46 : decode cX1_next 46 = .ok (.invokevirtual 37, 3) := by decide +kernel
theorem dX1_next_49 : decode cX1_next 49 = .ok (.aload_n 0, 1) := by decide +kernel
theorem dX1_next_50 : decode cX1_next 50 = .ok (.getfield 24, 3) := by decide +kernel
theorem dX1_next_53 : decode cX1_next 53 = .ok (.isub, 1) := by decide +kernel
theorem dX1_next_54 : decode cX1_next 54 = .ok (.if_icmp .le 11, 3) := by decide +kernel
theorem dX1_next_57 : decode cX1_next 57 = .ok (.aload_n 0, 1) := by decide +kernel
theorem dX1_next_58 : decode cX1_next 58 = .ok (.aload_n 1, 1) := by decide +kernel
theorem dX1_next_59 : decode cX1_next 59 = .ok (.invokevirtual 37, 3) := by decide +kernel
theorem dX1_next_62 : decode cX1_next 62 = .ok (.putfield 27, 3) := by decide +kernel
theorem dX1_next_65 : decode cX1_next 65 = .ok (.aload_n 0, 1) := by decide +kernel
theorem dX1_next_66 : decode cX1_next 66 = .ok (.getfield 27, 3) := by decide +kernel
theorem dX1_next_69 : decode cX1_next 69 = .ok (.iconst (-1), 1) := by decide +kernel
theorem dX1_next_70 : decode cX1_next 70 = .ok (.if_icmp .ne 17, 3) := by decide +kernel
theorem dX1_next_73 : decode cX1_next 73 = .ok (.iload 4, 2) := by decide +kernel
theorem dX1_next_75 : decode cX1_next 75 = .ok (.iload_n 3, 1) := by decide +kernel
theorem dX1_next_76 : decode cX1_next 76 = .ok (.if_icmp .le 11, 3) := by decide +kernel
theorem dX1_next_79 : decode cX1_next 79 = .ok (.aload_n 0, 1) := by decide +kernel
theorem dX1_next_80 : decode cX1_next 80 = .ok (.aload_n 0, 1) := by decide +kernel
theorem dX1_next_81 : decode cX1_next 81 = .ok (.getfield 24, 3) := by decide +kernel
theorem dX1_next_84 : decode cX1_next 84 = .ok (.putfield 27, 3) := by decide +kernel
theorem dX1_next_87 : decode cX1_next 87 = .ok (.aload_n 0, 1) := by decide +kernel
theorem dX1_next_88 : decode cX1_next 88 = .ok (.getfield 27, 3) := by decide +kernel
theorem dX1_next_91 : decode cX1_next 91 = .ok (.iconst (-1), 1) := by decide +kernel
theorem dX1_next_92 : decode cX1_next 92 = .ok (.if_icmp .eq 5, 3) := by decide +kernel
theorem dX1_next_95 : decode cX1_next 95 = .ok (.iconst 0, 1) := by decide +kernel
theorem dX1_next_96 : decode cX1_next 96 = .ok (.ireturn, 1) := by decide +kernel
theorem dX1_next_97 : decode cX1_next 97 = .ok (.aload_n 0, 1) := by decide +kernel
theorem dX1_next_98 : decode cX1_next 98 = .ok (.dup, 1) := by decide +kernel
theorem dX1_next_99 : decode cX1_next 99 = .ok (.getfield 24, 3) := by decide +kernel
theorem dX1_next_102 : decode cX1_next 102 = .ok (.iload_n 2, 1) := by decide +kernel
theorem dX1_next_103 : decode cX1_next 103 = .ok (.iadd, 1) := by decide +kernel
theorem dX1_next_104 : decode cX1_next 104 = .ok (.putfield 24, 3) := by decide +kernel
theorem dX1_next_107 : decode cX1_next 107 = .ok (.iload 4, 2) := by decide +kernel
theorem dX1_next_109 : decode cX1_next 109 = .ok (.ireturn, 1) := by decide +kernel
theorem dX2_init_0 : decode cX2_init 0 = .ok (.aload_n 0, 1) := by decide +kernel
theorem dX2_init_1 : decode cX2_init 1 = .ok (.invokespecial 1, 3) := by decide +kernel
theorem dX2_init_4 : decode cX2_init 4 = .ok (.aload_n 0, 1) := by decide +kernel
theorem dX2_init_5 : decode cX2_init 5 = .ok (.iconst 0, 1) := by decide +kernel
theorem dX2_init_6 : decode cX2_init 6 = .ok (.putfield 7, 3) := by decide +kernel
theorem dX2_init_9 : decode cX2_init 9 = .ok (.aload_n 0, 1) := by decide +kernel
theorem dX2_init_10 : decode cX2_init 10 = .ok (.iload_n 1, 1) := by decide +kernel
theorem dX2_init_11 : decode cX2_init 11 = .ok (.iconst 0, 1) := by decide +kernel
theorem dX2_init_12 : decode cX2_init 12 = .ok (.invokestatic 13, 3) := by decide +kernel
theorem dX2_init_15 : decode cX2_init 15 = .ok (.newarray .int, 2) := by decide +kernel
theorem dX2_init_17 : decode cX2_init 17 = .ok (.putfield 19, 3) := by decide +kernel
theorem dX2_init_20 : decode cX2_init 20 = .ok (.return_, 1) := by decide +kernel
theorem dX2_size_0 : decode cX2_size 0 = .ok (.aload_n 0, 1) := by decide +kernel
theorem dX2_size_1 : decode cX2_size 1 = .ok (.getfield 7, 3) := by decide +kernel
theorem dX2_size_4 : decode cX2_size 4 = .ok (.ireturn, 1) := by decide +kernel
theorem dX2_isFull_0 : decode cX2_isFull 0 = .ok (.aload_n 0, 1) := by decide +kernel
theorem dX2_isFull_1 : decode cX2_isFull 1 = .ok (.getfield 7, 3) := by decide +kernel
theorem dX2_isFull_4 : decode cX2_isFull 4 = .ok (.aload_n 0, 1) := by decide +kernel
theorem dX2_isFull_5 : decode cX2_isFull 5 = .ok (.getfield 19, 3) := by decide +kernel
theorem dX2_isFull_8 : decode cX2_isFull 8 = .ok (.arraylength, 1) := by decide +kernel
theorem dX2_isFull_9 : decode cX2_isFull 9 = .ok (.if_icmp .lt 7, 3) := by decide +kernel
theorem dX2_isFull_12 : decode cX2_isFull 12 = .ok (.iconst 1, 1) := by decide +kernel
theorem dX2_isFull_13 : decode cX2_isFull 13 = .ok (.goto 4, 3) := by decide +kernel
theorem dX2_isFull_16 : decode cX2_isFull 16 = .ok (.iconst 0, 1) := by decide +kernel
theorem dX2_isFull_17 : decode cX2_isFull 17 = .ok (.ireturn, 1) := by decide +kernel
theorem dX2_has_0 : decode cX2_has 0 = .ok (.iload_n 1, 1) := by decide +kernel
theorem dX2_has_1 : decode cX2_has 1 = .ok (.ifCond .lt 24, 3) := by decide +kernel
theorem dX2_has_4 : decode cX2_has 4 = .ok (.iload_n 1, 1) := by decide +kernel
theorem dX2_has_5 : decode cX2_has 5 = .ok (.aload_n 0, 1) := by decide +kernel
theorem dX2_has_6 : decode cX2_has 6 = .ok (.getfield 7, 3) := by decide +kernel
theorem dX2_has_9 : decode cX2_has 9 = .ok (.if_icmp .ge 16, 3) := by decide +kernel
theorem dX2_has_12 : decode cX2_has 12 = .ok (.iload_n 1, 1) := by decide +kernel
theorem dX2_has_13 : decode cX2_has 13 = .ok (.aload_n 0, 1) := by decide +kernel
theorem dX2_has_14 : decode cX2_has 14 = .ok (.getfield 19, 3) := by decide +kernel
theorem dX2_has_17 : decode cX2_has 17 = .ok (.arraylength, 1) := by decide +kernel
theorem dX2_has_18 : decode cX2_has 18 = .ok (.if_icmp .ge 7, 3) := by decide +kernel
theorem dX2_has_21 : decode cX2_has 21 = .ok (.iconst 1, 1) := by decide +kernel
theorem dX2_has_22 : decode cX2_has 22 = .ok (.goto 4, 3) := by decide +kernel
theorem dX2_has_25 : decode cX2_has 25 = .ok (.iconst 0, 1) := by decide +kernel
theorem dX2_has_26 : decode cX2_has 26 = .ok (.ireturn, 1) := by decide +kernel
set_option maxRecDepth 20000 in
theorem ggX2_at_X2_has : GoodIn wsX2_at wsX2_has := goodIn_r _ [6, 7, 1, 8, 9] (by decide +kernel) (by decide +kernel)
set_option maxRecDepth 20000 in
theorem gX2_at_X2_has : GoodIn wsX2_at (wsV RX2 23 RX2 yX2_has wsX2_has) := goodIn_app (goodIn_of _ (by decide +kernel)) ggX2_at_X2_has
theorem dX2_at_0 : decode cX2_at 0 = .ok (.aload_n 0, 1) := by decide +kernel
theorem dX2_at_1 : decode cX2_at 1 = .ok (.iload_n 1, 1) := by decide +kernel
theorem dX2_at_2 : decode cX2_at 2 = .ok (.invokevirtual 23, 3) := by decide +kernel
theorem dX2_at_5 : decode cX2_at 5 = .ok (.ifCond .eq 12, 3) := by decide +kernel
theorem dX2_at_8 : decode cX2_at 8 = .ok (.aload_n 0, 1) := by decide +kernel
theorem dX2_at_9 : decode cX2_at 9 = .ok (.getfield 19, 3) := by decide +kernel
theorem dX2_at_12 : decode cX2_at 12 = .ok (.iload_n 1, 1) := by decide +kernel
theorem dX2_at_13 : decode cX2_at 13 = .ok (.iaload, 1) := by decide +kernel
theorem dX2_at_14 : decode cX2_at 14 = .ok (.goto 4, 3) := by decide +kernel
theorem dX2_at_17 : decode cX2_at 17 = .ok (.iconst 0, 1) := by decide +kernel
theorem dX2_at_18 : decode cX2_at 18 = .ok (.ireturn, 1) := by decide +kernel
theorem dX2_append_0 : decode cX2_append 0 = .ok (.aload_n 0, 1) := by decide +kernel
theorem dX2_append_1 : decode cX2_append 1 = .ok (.getfield 7, 3) := by decide +kernel
theorem dX2_append_4 : decode cX2_append 4 = .ok (.ifCond .lt 35, 3) := by decide +kernel
theorem dX2_append_7 : decode cX2_append 7 = .ok (.aload_n 0, 1) := by decide +kernel
theorem dX2_append_8 : decode cX2_append 8 = .ok (.getfield 7, 3) := by decide +kernel
theorem dX2_append_11 : decode cX2_append 11 = .ok (.aload_n 0, 1) := by decide +kernel
theorem dX2_append_12 : decode cX2_append 12 = .ok (.getfield 19, 3) := by decide +kernel
theorem dX2_append_15 : decode cX2_append 15 = .ok (.arraylength, 1) := by decide +kernel
theorem dX2_append_16 : decode cX2_append 16 = .ok (.if_icmp .ge 23, 3) := by decide +kernel
theorem dX2_append_19 : decode cX2_append 19 = .ok (.aload_n 0, 1) := by decide +kernel
theorem dX2_append_20 : decode cX2_append 20 = .ok (.getfield 19, 3) := by decide +kernel
theorem dX2_append_23 : decode cX2_append 23 = .ok (.aload_n 0, 1) := by decide +kernel
theorem dX2_append_24 : decode cX2_append 24 = .ok (.getfield 7, 3) := by decide +kernel
theorem dX2_append_27 : decode cX2_append 27 = .ok (.iload_n 1, 1) := by decide +kernel
theorem dX2_append_28 : decode cX2_append 28 = .ok (.iastore, 1) := by decide +kernel
theorem dX2_append_29 : decode cX2_append 29 = .ok (.aload_n 0, 1) := by decide +kernel
theorem dX2_append_30 : decode cX2_append 30 = .ok (.dup, 1) := by decide +kernel
theorem dX2_append_31 : decode cX2_append 31 = .ok (.getfield 7, 3) := by decide +kernel
theorem dX2_append_34 : decode cX2_append 34 = .ok (.iconst 1, 1) := by decide +kernel
theorem dX2_append_35 : decode cX2_append 35 = .ok (.iadd, 1) := by decide +kernel
theorem dX2_append_36 : decode cX2_append 36 = .ok (.putfield 7, 3) := by decide +kernel
theorem dX2_append_39 : decode cX2_append 39 = .ok (.return_, 1) := by decide +kernel
set_option maxRecDepth 20000 in
theorem ggX2_replace_X2_has : GoodIn wsX2_replace wsX2_has := goodIn_r _ [6, 7, 1, 8, 9] (by decide +kernel) (by decide +kernel)
set_option maxRecDepth 20000 in
theorem gX2_replace_X2_has : GoodIn wsX2_replace (wsV RX2 23 RX2 yX2_has wsX2_has) := goodIn_app (goodIn_of _ (by decide +kernel)) ggX2_replace_X2_has
theorem dX2_replace_0 : decode cX2_replace 0 = .ok (.aload_n 0, 1) := by decide +kernel
theorem dX2_replace_1 : decode cX2_replace 1 = .ok (.iload_n 1, 1) := by decide +kernel
theorem dX2_replace_2 : decode cX2_replace 2 = .ok (.invokevirtual 23, 3) := by decide +kernel
theorem dX2_replace_5 : decode cX2_replace 5 = .ok (.ifCond .eq 10, 3) := by decide +kernel
theorem dX2_replace_8 : decode cX2_replace 8 = .ok (.aload_n 0, 1) := by decide +kernel
theorem dX2_replace_9 : decode cX2_replace 9 = .ok (.getfield 19, 3) := by decide +kernel
theorem dX2_replace_12 : decode cX2_replace 12 = .ok (.iload_n 1, 1) := by decide +kernel
theorem dX2_replace_13 : decode cX2_replace 13 = .ok (.iload_n 2, 1) := by decide +kernel
theorem dX2_replace_14 : decode cX2_replace 14 = .ok (.iastore, 1) := by decide +kernel
theorem dX2_replace_15 : decode cX2_replace 15 = .ok (.return_, 1) := by decide +kernel
theorem dX2_keepFirst_0 : decode cX2_keepFirst 0 = .ok (.iload_n 1, 1) := by decide +kernel
theorem dX2_keepFirst_1 : decode cX2_keepFirst 1 = .ok (.ifCond .lt 16, 3) := by decide +kernel
theorem dX2_keepFirst_4 : decode cX2_keepFirst 4 = .ok (.iload_n 1, 1) := by decide +kernel
theorem dX2_keepFirst_5 : decode cX2_keepFirst 5 = .ok (.aload_n 0, 1) := by decide +kernel
theorem dX2_keepFirst_6 : decode cX2_keepFirst 6 = .ok (.getfield 7, 3) := by decide +kernel
theorem dX2_keepFirst_9 : decode cX2_keepFirst 9 = .ok (.if_icmp .ge 8, 3) := by decide +kernel
theorem dX2_keepFirst_12 : decode cX2_keepFirst 12 = .ok (.aload_n 0, 1) := by decide +kernel
theorem dX2_keepFirst_13 : decode cX2_keepFirst 13 = .ok (.iload_n 1, 1) := by decide +kernel
theorem dX2_keepFirst_14 : decode cX2_keepFirst 14 = .ok (.putfield 7, 3) := by decide +kernel
theorem dX2_keepFirst_17 : decode cX2_keepFirst 17 = .ok (.return_, 1) := by decide +kernel
set_option maxRecDepth 20000 in
theorem ggX2_becomeCopyOf_X2_keepFirst : GoodIn wsX2_becomeCopyOf wsX2_keepFirst := goodIn_r _ [5, 6, 24, 25] (by decide +kernel) (by decide +kernel)
set_option maxRecDepth 20000 in
theorem gX2_becomeCopyOf_X2_keepFirst : GoodIn wsX2_becomeCopyOf (wsV RX2 27 RX2 yX2_keepFirst wsX2_keepFirst) := goodIn_app (goodIn_of _ (by decide +kernel)) ggX2_becomeCopyOf_X2_keepFirst
set_option maxRecDepth 20000 in
theorem ggX2_becomeCopyOf_X2_size : GoodIn wsX2_becomeCopyOf wsX2_size := goodIn_r _ [10, 6, 24, 25] (by decide +kernel) (by decide +kernel)
set_option maxRecDepth 20000 in
theorem gX2_becomeCopyOf_X2_size : GoodIn wsX2_becomeCopyOf (wsV RX2 31 RX2 yX2_size wsX2_size) := goodIn_app (goodIn_of _ (by decide +kernel)) ggX2_becomeCopyOf_X2_size
set_option maxRecDepth 20000 in
theorem ggX2_becomeCopyOf_X2_at : GoodIn wsX2_becomeCopyOf wsX2_at := goodIn_r _ [14, 15, 16, 17, 18, 4, 19, 6, 24, 25] (by decide +kernel) (by decide +kernel)
set_option maxRecDepth 20000 in
theorem gX2_becomeCopyOf_X2_at : GoodIn wsX2_becomeCopyOf (wsV RX2 35 RX2 yX2_at wsX2_at) := goodIn_app (goodIn_of _ (by decide +kernel)) ggX2_becomeCopyOf_X2_at
set_option maxRecDepth 20000 in
theorem ggX2_becomeCopyOf_X2_append : GoodIn wsX2_becomeCopyOf wsX2_append := goodIn_r _ [23, 6, 15, 24, 25] (by decide +kernel) (by decide +kernel)
set_option maxRecDepth 20000 in
theorem gX2_becomeCopyOf_X2_append : GoodIn wsX2_becomeCopyOf (wsV RX2 39 RX2 yX2_append wsX2_append) := goodIn_app (goodIn_of _ (by decide +kernel)) ggX2_becomeCopyOf_X2_append
theorem dX2_becomeCopyOf_0 : decode cX2_becomeCopyOf 0 = .ok (.aload_n 0, 1) := by decide +kernel
theorem dX2_becomeCopyOf_1 : decode cX2_becomeCopyOf 1 = .ok (.iconst 0, 1) := by decide +kernel
theorem dX2_becomeCopyOf_2 : decode cX2_becomeCopyOf 2 = .ok (.invokevirtual 27, 3) := by decide +kernel
theorem dX2_becomeCopyOf_5 : decode cX2_becomeCopyOf 5 = .ok (.iconst 0, 1) := by decide +kernel
theorem dX2_becomeCopyOf_6 : decode cX2_becomeCopyOf 6 = .ok (.istore_n 2, 1) := by decide +kernel
theorem dX2_becomeCopyOf_7 : decode cX2_becomeCopyOf 7 = .ok (.iload_n 2, 1) := by decide +kernel
theorem dX2_becomeCopyOf_8 : decode cX2_becomeCopyOf 8 = .ok (.aload_n 1, 1) := by decide +kernel
theorem dX2_becomeCopyOf_9 : decode cX2_becomeCopyOf 9 = .ok (.invokevirtual 31, 3) := by decide +kernel
theorem dX2_becomeCopyOf_12 : decode cX2_becomeCopyOf 12 = .ok (.if_icmp .ge 18, 3) := by decide +kernel
theorem dX2_becomeCopyOf_15 : decode cX2_becomeCopyOf 15 = .ok (.aload_n 0, 1) := by decide +kernel
theorem dX2_becomeCopyOf_16 : decode cX2_becomeCopyOf 16 = .ok (.aload_n 1, 1) := by decide +kernel
theorem dX2_becomeCopyOf_17 : decode cX2_becomeCopyOf 17 = .ok (.iload_n 2, 1) := by decide +kernel
theorem dX2_becomeCopyOf_18 : decode cX2_becomeCopyOf 18 = .ok (.invokevirtual 35, 3) := by decide +kernel
theorem dX2_becomeCopyOf_21 : decode cX2_becomeCopyOf 21 = .ok (.invokevirtual 39, 3) := by decide +kernel
theorem dX2_becomeCopyOf_24 : decode cX2_becomeCopyOf 24 = .ok (.iinc 2 1, 3) := by decide +kernel
theorem dX2_becomeCopyOf_27 : decode cX2_becomeCopyOf 27 = .ok (.goto (-20), 3) := by decide +kernel
theorem dX2_becomeCopyOf_30 : decode cX2_becomeCopyOf 30 = .ok (.return_, 1) := by decide +kernel
set_option maxRecDepth 20000 in
theorem ggX3_init_X6_widthFor : GoodIn wsX3_init wsX6_widthFor := goodIn_r _ [20] (by decide +kernel) (by decide +kernel)
set_option maxRecDepth 20000 in
theorem gX3_init_X6_widthFor_n31 : GoodIn wsX3_init (wsX6_widthFor) := ggX3_init_X6_widthFor
set_option maxRecDepth 20000 in
theorem ggX3_init_X4_init : GoodIn wsX3_init wsX4_init := goodIn_r _ [23, 24, 2, 3, 25, 26, 27, 28, 29, 30, 31, 42, 43] (by decide +kernel) (by decide +kernel)
set_option maxRecDepth 20000 in
theorem gX3_init_X4_init : GoodIn wsX3_init (wsX4_init) := ggX3_init_X4_init
theorem dX3_init_0 : decode cX3_init 0 = .ok (.aload_n 0, 1) := by decide +kernel
theorem dX3_init_1 : decode cX3_init 1 = .ok (.invokespecial 3, 3) := by decide +kernel
theorem dX3_init_4 : decode cX3_init 4 = .ok (.aload_n 0, 1) := by decide +kernel
theorem dX3_init_5 : decode cX3_init 5 = .ok (.iconst 0, 1) := by decide +kernel
theorem dX3_init_6 : decode cX3_init 6 = .ok (.putfield 9, 3) := by decide +kernel
theorem dX3_init_9 : decode cX3_init 9 = .ok (.aload_n 0, 1) := by decide +kernel
theorem dX3_init_10 : decode cX3_init 10 = .ok (.iconst 0, 1) := by decide +kernel
theorem dX3_init_11 : decode cX3_init 11 = .ok (.putfield 15, 3) := by decide +kernel
theorem dX3_init_14 : decode cX3_init 14 = .ok (.aload_n 0, 1) := by decide +kernel
theorem dX3_init_15 : decode cX3_init 15 = .ok (.iconst 0, 1) := by decide +kernel
theorem dX3_init_16 : decode cX3_init 16 = .ok (.putfield 18, 3) := by decide +kernel
theorem dX3_init_19 : decode cX3_init 19 = .ok (.aload_n 0, 1) := by decide +kernel
theorem dX3_init_20 : decode cX3_init 20 = .ok (.aload_n 1, 1) := by decide +kernel
theorem dX3_init_21 : decode cX3_init 21 = .ok (.putfield 21, 3) := by decide +kernel
theorem dX3_init_24 : decode cX3_init 24 = .ok (.aload_n 0, 1) := by decide +kernel
theorem dX3_init_25 : decode cX3_init 25 = .ok (.iload_n 2, 1) := by decide +kernel
theorem dX3_init_26 : decode cX3_init 26 = .ok (.putfield 25, 3) := by decide +kernel
theorem dX3_init_29 : decode cX3_init 29 = .ok (.aload_n 0, 1) := by decide +kernel
theorem dX3_init_30 : decode cX3_init 30 = .ok (.iload_n 3, 1) := by decide +kernel
theorem dX3_init_31 : decode cX3_init 31 = .ok (.putfield 28, 3) := by decide +kernel
theorem dX3_init_34 : decode cX3_init 34 = .ok (.aload_n 0, 1) := by decide +kernel
theorem dX3_init_35 : decode cX3_init 35 = .ok (.iload_n 3, 1) := by decide +kernel
theorem dX3_init_36 : decode cX3_init 36 = .ok (.iload_n 2, 1) := by decide +kernel
theorem dX3_init_37 : decode cX3_init 37 = .ok (.isub, 1) := by decide +kernel
theorem dX3_init_38 : decode cX3_init 38 = .ok (.iconst 1, 1) := by decide +kernel
theorem dX3_init_39 : decode cX3_init 39 = .ok (.iadd, 1) := by decide +kernel
theorem dX3_init_40 : decode cX3_init 40 = .ok (.invokestatic 31, 3) := by decide +kernel
theorem dX3_init_43 : decode cX3_init 43 = .ok (.putfield 35, 3) := by decide +kernel
theorem dX3_init_46 : decode cX3_init 46 = .ok (.aload_n 0, 1) := by decide +kernel
theorem dX3_init_47 : decode cX3_init 47 = .ok (.aload 4, 2) := by decide +kernel
theorem dX3_init_49 : decode cX3_init 49 = .ok (.putfield 38, 3) := by decide +kernel
theorem dX3_init_52 : decode cX3_init 52 = .ok (.aload_n 0, 1) := by decide +kernel
theorem dX3_init_53 : decode cX3_init 53 = .ok (.iload 5, 2) := by decide +kernel
theorem dX3_init_55 : decode cX3_init 55 = .ok (.putfield 42, 3) := by decide +kernel
theorem dX3_init_58 : decode cX3_init 58 = .ok (.aload_n 0, 1) := by decide +kernel
theorem dX3_init_59 : decode cX3_init 59 = .ok (.new 45, 3) := by decide +kernel
theorem dX3_init_62 : decode cX3_init 62 = .ok (.dup, 1) := by decide +kernel
theorem dX3_init_63 : decode cX3_init 63 = .ok (.aload_n 1, 1) := by decide +kernel
theorem dX3_init_64 : decode cX3_init 64 = .ok (.getstatic 47, 3) := by decide +kernel
theorem dX3_init_67 : decode cX3_init 67 = .ok (.if_acmp .ne 7, 3) := by decide +kernel
theorem dX3_init_70 : decode cX3_init 70 = .ok (.iconst 3, 1) := by decide +kernel
theorem dX3_init_71 : decode cX3_init 71 = .ok (.goto 4, 3) := by decide +kernel
theorem dX3_init_74 : decode cX3_init 74 = .ok (.iconst 0, 1) := by decide +kernel
theorem dX3_init_75 : decode cX3_init 75 = .ok (.invokespecial 52, 3) := by decide +kernel
theorem dX3_init_78 : decode cX3_init 78 = .ok (.putfield 55, 3) := by decide +kernel
theorem dX3_init_81 : decode cX3_init 81 = .ok (.return_, 1) := by decide +kernel
theorem dX3_isOptional_0 : decode cX3_isOptional 0 = .ok (.aload_n 0, 1) := by decide +kernel
theorem dX3_isOptional_1 : decode cX3_isOptional 1 = .ok (.getfield 42, 3) := by decide +kernel
theorem dX3_isOptional_4 : decode cX3_isOptional 4 = .ok (.iload_n 1, 1) := by decide +kernel
theorem dX3_isOptional_5 : decode cX3_isOptional 5 = .ok (.ishr, 1) := by decide +kernel
theorem dX3_isOptional_6 : decode cX3_isOptional 6 = .ok (.iconst 1, 1) := by decide +kernel
theorem dX3_isOptional_7 : decode cX3_isOptional 7 = .ok (.iand, 1) := by decide +kernel
theorem dX3_isOptional_8 : decode cX3_isOptional 8 = .ok (.iconst 1, 1) := by decide +kernel
theorem dX3_isOptional_9 : decode cX3_isOptional 9 = .ok (.if_icmp .ne 7, 3) := by decide +kernel
theorem dX3_isOptional_12 : decode cX3_isOptional 12 = .ok (.iconst 1, 1) := by decide +kernel
theorem dX3_isOptional_13 : decode cX3_isOptional 13 = .ok (.goto 4, 3) := by decide +kernel
theorem dX3_isOptional_16 : decode cX3_isOptional 16 = .ok (.iconst 0, 1) := by decide +kernel
theorem dX3_isOptional_17 : decode cX3_isOptional 17 = .ok (.ireturn, 1) := by decide +kernel
set_option maxRecDepth 20000 in
theorem ggX3_measure_X3_measureThings : GoodIn wsX3_measure wsX3_measureThings := goodIn_r _ [13, 14, 2, 15, 3, 16, 4, 17, 18, 19, 20, 21, 22, 23, 53, 54, 55, 56, 57, 58, 59, 60, 61, 62, 63, 64] (by decide +kernel) (by decide +kernel)
set_option maxRecDepth 20000 in
theorem gX3_measure_X3_measureThings : GoodIn wsX3_measure (wsV RX3 61 RX3 yX3_measureThings wsX3_measureThings) := goodIn_app (goodIn_of _ (by decide +kernel)) ggX3_measure_X3_measureThings
set_option maxRecDepth 20000 in
theorem ggX3_measure_X3_measureChoices : GoodIn wsX3_measure wsX3_measureChoices := goodIn_r _ [27, 14, 2, 28, 29, 30, 31, 3, 32, 33, 34, 4, 35, 36, 37, 20, 38, 22, 17, 18, 19, 21, 23, 53, 54, 55, 56, 57, 58, 59, 60, 61, 62, 63, 64] (by decide +kernel) (by decide +kernel)
set_option maxRecDepth 20000 in
theorem gX3_measure_X3_measureChoices : GoodIn wsX3_measure (wsV RX3 67 RX3 yX3_measureChoices wsX3_measureChoices) := goodIn_app (goodIn_of _ (by decide +kernel)) ggX3_measure_X3_measureChoices
set_option maxRecDepth 20000 in
theorem ggX3_measure_X3_measureParts : GoodIn wsX3_measure wsX3_measureParts := goodIn_r _ [42, 2, 3, 14, 4, 35, 36, 37, 20, 38, 22, 17, 18, 19, 21, 23, 43, 44, 45, 12, 46, 47, 53, 54, 55, 56, 57, 58, 59, 60, 61, 62, 63, 64] (by decide +kernel) (by decide +kernel)
set_option maxRecDepth 20000 in
theorem gX3_measure_X3_measureParts : GoodIn wsX3_measure (wsV RX3 70 RX3 yX3_measureParts wsX3_measureParts) := goodIn_app (goodIn_of _ (by decide +kernel)) ggX3_measure_X3_measureParts
set_option maxRecDepth 20000 in
theorem ggX3_measure_X3_measureAdditions : GoodIn wsX3_measure wsX3_measureAdditions := goodIn_r _ [51, 52, 3, 4, 35, 36, 37, 20, 38, 22, 17, 18, 19, 21, 23, 53, 54, 55, 56, 57, 58, 59, 60, 61, 62, 63, 64] (by decide +kernel) (by decide +kernel)
set_option maxRecDepth 20000 in
theorem gX3_measure_X3_measureAdditions : GoodIn wsX3_measure (wsV RX3 73 RX3 yX3_measureAdditions wsX3_measureAdditions) := goodIn_app (goodIn_of _ (by decide +kernel)) ggX3_measure_X3_measureAdditions
theorem dX3_measure_0 : decode cX3_measure 0 = .ok (.aload_n 0, 1) := by decide +kernel
theorem dX3_measure_1 : decode cX3_measure 1 = .ok (.aload_n 0, 1) := by decide +kernel
theorem dX3_measure_2 : decode cX3_measure 2 = .ok (.getfield 35, 3) := by decide +kernel
theorem dX3_measure_5 : decode cX3_measure 5 = .ok (.putfield 9, 3) := by decide +kernel
theorem dX3_measure_8 : decode cX3_measure 8 = .ok (.aload_n 0, 1) := by decide +kernel
theorem dX3_measure_9 : decode cX3_measure 9 = .ok (.aload_n 0, 1) := by decide +kernel
theorem dX3_measure_10 : decode cX3_measure 10 = .ok (.getfield 35, 3) := by decide +kernel
theorem dX3_measure_13 : decode cX3_measure 13 = .ok (.putfield 15, 3) := by decide +kernel
theorem dX3_measure_16 : decode cX3_measure 16 = .ok (.aload_n 0, 1) := by decide +kernel
theorem dX3_measure_17 : decode cX3_measure 17 = .ok (.iconst 1, 1) := by decide +kernel
theorem dX3_measure_18 : decode cX3_measure 18 = .ok (.putfield 18, 3) := by decide +kernel
theorem dX3_measure_21 : decode cX3_measure 21 = .ok (.aload_n 0, 1) := by decide +kernel
theorem dX3_measure_22 : decode cX3_measure 22 = .ok (.getfield 21, 3) := by decide +kernel
theorem dX3_measure_25 : decode cX3_measure 25 = .ok (.getstatic 58, 3) := by decide +kernel
theorem dX3_measure_28 : decode cX3_measure 28 = .ok (.if_acmp .ne 10, 3) := by decide +kernel
theorem dX3_measure_31 : decode cX3_measure 31 = .ok (.aload_n 0, 1) := by decide +kernel
theorem dX3_measure_32 : decode cX3_measure 32 = .ok (.invokevirtual 61, 3) := by decide +kernel
theorem dX3_measure_35 : decode cX3_measure 35 = .ok (.goto 38, 3) := by decide +kernel
theorem dX3_measure_38 : decode cX3_measure 38 = .ok (.aload_n 0, 1) := by decide +kernel
theorem dX3_measure_39 : decode cX3_measure 39 = .ok (.getfield 21, 3) := by decide +kernel
theorem dX3_measure_42 : decode cX3_measure 42 = .ok (.getstatic 64, 3) := by decide +kernel
theorem dX3_measure_45 : decode cX3_measure 45 = .ok (.if_acmp .ne 10, 3) := by decide +kernel
theorem dX3_measure_48 : decode cX3_measure 48 = .ok (.aload_n 0, 1) := by decide +kernel
theorem dX3_measure_49 : decode cX3_measure 49 = .ok (.invokevirtual 67, 3) := by decide +kernel
theorem dX3_measure_52 : decode cX3_measure 52 = .ok (.goto 21, 3) := by decide +kernel
theorem dX3_measure_55 : decode cX3_measure 55 = .ok (.aload_n 0, 1) := by decide +kernel
theorem dX3_measure_56 : decode cX3_measure 56 = .ok (.getfield 21, 3) := by decide +kernel
theorem dX3_measure_59 : decode cX3_measure 59 = .ok (.getstatic 47, 3) := by decide +kernel
theorem dX3_measure_62 : decode cX3_measure 62 = .ok (.if_acmp .ne 11, 3) := by decide +kernel
theorem dX3_measure_65 : decode cX3_measure 65 = .ok (.aload_n 0, 1) := by decide +kernel
theorem dX3_measure_66 : decode cX3_measure 66 = .ok (.invokevirtual 70, 3) := by decide +kernel
theorem dX3_measure_69 : decode cX3_measure 69 = .ok (.aload_n 0, 1) := by decide +kernel
theorem dX3_measure_70 : decode cX3_measure 70 = .ok (.invokevirtual 73, 3) := by decide +kernel
theorem dX3_measure_73 : decode cX3_measure 73 = .ok (.aload_n 0, 1) := by decide +kernel
theorem dX3_measure_74 : decode cX3_measure 74 = .ok (.getfield 15, 3) := by decide +kernel
theorem dX3_measure_77 : decode cX3_measure 77 = .ok (.sipush 240, 3) := by decide +kernel
theorem dX3_measure_80 : decode cX3_measure 80 = .ok (.if_icmp .gt 17, 3) := by decide +kernel
theorem dX3_measure_83 : decode cX3_measure 83 = .ok (.aload_n 0, 1) := by decide +kernel
theorem dX3_measure_84 : decode cX3_measure 84 = .ok (.getfield 18, 3) := by decide +kernel
theorem dX3_measure_87 : decode cX3_measure 87 = .ok (.sipush 240, 3) := by decide +kernel
theorem dX3_measure_90 : decode cX3_measure 90 = .ok (.if_icmp .gt 7, 3) := by decide +kernel
theorem dX3_measure_93 : decode cX3_measure 93 = .ok (.iconst 1, 1) := by decide +kernel
theorem dX3_measure_94 : decode cX3_measure 94 = .ok (.goto 4, 3) := by decide +kernel
theorem dX3_measure_97 : decode cX3_measure 97 = .ok (.iconst 0, 1) := by decide +kernel
theorem dX3_measure_98 : decode cX3_measure 98 = .ok (.ireturn, 1) := by decide +kernel
set_option maxRecDepth 20000 in
theorem ggX3_measureThings_X4_at : GoodIn wsX3_measureThings wsX4_at := goodIn_r _ [11, 12, 13, 24, 25] (by decide +kernel) (by decide +kernel)
set_option maxRecDepth 20000 in
theorem gX3_measureThings_X4_at : GoodIn wsX3_measureThings (wsV RX3 76 RX4 yX4_at wsX4_at) := goodIn_app (goodIn_of _ (by decide +kernel)) ggX3_measureThings_X4_at
theorem dX3_measureThings_0 : decode cX3_measureThings 0 = .ok (.aload_n 0, 1) := by decide +kernel
theorem dX3_measureThings_1 : decode cX3_measureThings 1 = .ok (.getfield 38, 3) := by decide +kernel
theorem dX3_measureThings_4 : decode cX3_measureThings 4 = .ok (.iconst 0, 1) := by decide +kernel
theorem dX3_measureThings_5 : decode cX3_measureThings 5 = .ok (.invokevirtual 76, 3) := by decide +kernel
theorem dX3_measureThings_8 : decode cX3_measureThings 8 = .ok (.astore_n 1, 1) := by decide +kernel
theorem dX3_measureThings_9 : decode cX3_measureThings 9 = .ok (.aload_n 1, 1) := by decide +kernel
theorem dX3_measureThings_10 : decode cX3_measureThings 10 = .ok (.ifnull 57, 3) := by decide +kernel
theorem dX3_measureThings_13 : decode cX3_measureThings 13 = .ok (.aload_n 0, 1) := by decide +kernel
theorem dX3_measureThings_14 : decode cX3_measureThings 14 = .ok (.dup, 1) := by decide +kernel
theorem dX3_measureThings_15 : decode cX3_measureThings 15 = .ok (.getfield 9, 3) := by decide +kernel
theorem dX3_measureThings_18 : decode cX3_measureThings 18 = .ok (.aload_n 0, 1) := by decide +kernel
theorem dX3_measureThings_19 : decode cX3_measureThings 19 = .ok (.getfield 25, 3) := by decide +kernel
theorem dX3_measureThings_22 : decode cX3_measureThings 22 = .ok (.aload_n 1, 1) := by decide +kernel
theorem dX3_measureThings_23 : decode cX3_measureThings 23 = .ok (.getfield 9, 3) := by decide +kernel
theorem dX3_measureThings_26 : decode cX3_measureThings 26 = .ok (.imul, 1) := by decide +kernel
theorem dX3_measureThings_27 : decode cX3_measureThings 27 = .ok (.iadd, 1) := by decide +kernel
theorem dX3_measureThings_28 : decode cX3_measureThings 28 = .ok (.putfield 9, 3) := by decide +kernel
theorem dX3_measureThings_31 : decode cX3_measureThings 31 = .ok (.aload_n 0, 1) := by decide +kernel
theorem dX3_measureThings_32 : decode cX3_measureThings 32 = .ok (.dup, 1) := by decide +kernel
theorem dX3_measureThings_33 : decode cX3_measureThings 33 = .ok (.getfield 15, 3) := by decide +kernel
theorem dX3_measureThings_36 : decode cX3_measureThings 36 = .ok (.aload_n 0, 1) := by decide +kernel
theorem dX3_measureThings_37 : decode cX3_measureThings 37 = .ok (.getfield 28, 3) := by decide +kernel
theorem dX3_measureThings_40 : decode cX3_measureThings 40 = .ok (.aload_n 1, 1) := by decide +kernel
theorem dX3_measureThings_41 : decode cX3_measureThings 41 = .ok (.getfield 15, 3) := by decide +kernel
theorem dX3_measureThings_44 : decode cX3_measureThings 44 = .ok (.imul, 1) := by decide +kernel
theorem dX3_measureThings_45 : decode cX3_measureThings 45 = .ok (.iadd, 1) := by decide +kernel
theorem dX3_measureThings_46 : decode cX3_measureThings 46 = .ok (.putfield 15, 3) := by decide +kernel
theorem dX3_measureThings_49 : decode cX3_measureThings 49 = .ok (.aload_n 0, 1) := by decide +kernel
theorem dX3_measureThings_50 : decode cX3_measureThings 50 = .ok (.dup, 1) := by decide +kernel
theorem dX3_measureThings_51 : decode cX3_measureThings 51 = .ok (.getfield 18, 3) := by decide +kernel
theorem dX3_measureThings_54 : decode cX3_measureThings 54 = .ok (.aload_n 0, 1) := by decide +kernel
theorem dX3_measureThings_55 : decode cX3_measureThings 55 = .ok (.getfield 28, 3) := by decide +kernel
theorem dX3_measureThings_58 : decode cX3_measureThings 58 = .ok (.aload_n 1, 1) := by decide +kernel
theorem dX3_measureThings_59 : decode cX3_measureThings 59 = .ok (.getfield 18, 3) := by decide +kernel
theorem dX3_measureThings_62 : decode cX3_measureThings 62 = .ok (.imul, 1) := by decide +kernel
theorem dX3_measureThings_63 : decode cX3_measureThings 63 = .ok (.iadd, 1) := by decide +kernel
theorem dX3_measureThings_64 : decode cX3_measureThings 64 = .ok (.putfield 18, 3) := by decide +kernel
theorem dX3_measureThings_67 : decode cX3_measureThings 67 = .ok (.return_, 1) := by decide +kernel
set_option maxRecDepth 20000 in
theorem ggX3_measureChoices_X4_size : GoodIn wsX3_measureChoices wsX4_size := goodIn_r _ [16, 17, 33, 34] (by decide +kernel) (by decide +kernel)
set_option maxRecDepth 20000 in
theorem gX3_measureChoices_X4_size : GoodIn wsX3_measureChoices (wsV RX3 80 RX4 yX4_size wsX4_size) := goodIn_app (goodIn_of _ (by decide +kernel)) ggX3_measureChoices_X4_size
set_option maxRecDepth 20000 in
theorem ggX3_measureChoices_X4_at : GoodIn wsX3_measureChoices wsX4_at := goodIn_r _ [21, 17, 22, 33, 34] (by decide +kernel) (by decide +kernel)
set_option maxRecDepth 20000 in
theorem gX3_measureChoices_X4_at : GoodIn wsX3_measureChoices (wsV RX3 76 RX4 yX4_at wsX4_at) := goodIn_app (goodIn_of _ (by decide +kernel)) ggX3_measureChoices_X4_at
theorem dX3_measureChoices_0 : decode cX3_measureChoices 0 = .ok (.sipush 240, 3) := by decide +kernel
theorem dX3_measureChoices_3 : decode cX3_measureChoices 3 = .ok (.istore_n 1, 1) := by decide +kernel
theorem dX3_measureChoices_4 : decode cX3_measureChoices 4 = .ok (.iconst 0, 1) := by decide +kernel
theorem dX3_measureChoices_5 : decode cX3_measureChoices 5 = .ok (.istore_n 2, 1) := by decide +kernel
theorem dX3_measureChoices_6 : decode cX3_measureChoices 6 = .ok (.iconst 0, 1) := by decide +kernel
theorem dX3_measureChoices_7 : decode cX3_measureChoices 7 = .ok (.istore_n 3, 1) := by decide +kernel
theorem dX3_measureChoices_8 : decode cX3_measureChoices 8 = .ok (.iconst 0, 1) := by decide +kernel
theorem dX3_measureChoices_9 : decode cX3_measureChoices 9 = .ok (.istore 4, 2) := by decide +kernel
theorem dX3_measureChoices_11 : decode cX3_measureChoices 11 = .ok (.iload 4, 2) := by decide +kernel
theorem dX3_measureChoices_13 : decode cX3_measureChoices 13 = .ok (.aload_n 0, 1) := by decide +kernel
theorem dX3_measureChoices_14 : decode cX3_measureChoices 14 = .ok (.getfield 38, 3) := by decide +kernel
theorem dX3_measureChoices_17 : decode cX3_measureChoices 17 = .ok (.invokevirtual 80, 3) := by decide +kernel
theorem dX3_measureChoices_20 : decode cX3_measureChoices 20 = .ok (.if_icmp .ge 55, 3) := by decide +kernel
theorem dX3_measureChoices_23 : decode cX3_measureChoices 23 = .ok (.aload_n 0, 1) := by decide +kernel
theorem dX3_measureChoices_24 : decode cX3_measureChoices 24 = .ok (.getfield 38, 3) := by decide +kernel
theorem dX3_measureChoices_27 : decode cX3_measureChoices 27 = .ok (.iload 4, 2) := by decide +kernel
theorem dX3_measureChoices_29 : decode cX3_measureChoices 29 = .ok (.invokevirtual 76, 3) := by decide +kernel
theorem dX3_measureChoices_32 : decode cX3_measureChoices 32 = .ok (.astore 5, 2) := by decide +kernel
theorem dX3_measureChoices_34 : decode cX3_measureChoices 34 = .ok (.aload 5, 2) := by decide +kernel
theorem dX3_measureChoices_36 : decode cX3_measureChoices 36 = .ok (.ifnull 33, 3) := by decide +kernel
theorem dX3_measureChoices_39 : decode cX3_measureChoices 39 = .ok (.iload_n 1, 1) := by decide +kernel
theorem dX3_measureChoices_40 : decode cX3_measureChoices 40 = .ok (.aload 5, 2) := by decide +kernel
theorem dX3_measureChoices_42 : decode cX3_measureChoices 42 = .ok (.getfield 9, 3) := by decide +kernel
theorem dX3_measureChoices_45 : decode cX3_measureChoices 45 = .ok (.invokestatic 84, 3) := by decide +kernel
theorem dX3_measureChoices_48 : decode cX3_measureChoices 48 = .ok (.istore_n 1, 1) := by decide +kernel
theorem dX3_measureChoices_49 : decode cX3_measureChoices 49 = .ok (.iload_n 2, 1) := by decide +kernel
theorem dX3_measureChoices_50 : decode cX3_measureChoices 50 = .ok (.aload 5, 2) := by decide +kernel
theorem dX3_measureChoices_52 : decode cX3_measureChoices 52 = .ok (.getfield 15, 3) := by decide +kernel
theorem dX3_measureChoices_55 : decode cX3_measureChoices 55 = .ok (.invokestatic 90, 3) := by decide +kernel
theorem dX3_measureChoices_58 : decode cX3_measureChoices 58 = .ok (.istore_n 2, 1) := by decide +kernel
theorem dX3_measureChoices_59 : decode cX3_measureChoices 59 = .ok (.iload_n 3, 1) := by decide +kernel
theorem dX3_measureChoices_60 : decode cX3_measureChoices 60 = .ok (.aload 5, 2) := by decide +kernel
theorem dX3_measureChoices_62 : decode cX3_measureChoices 62 = .ok (.getfield 18, 3) := by decide +kernel
theorem dX3_measureChoices_65 : decode cX3_measureChoices 65 = .ok (.invokestatic 90, 3) := by decide +kernel
theorem dX3_measureChoices_68 : decode cX3_measureChoices 68 = .ok (.istore_n 3, 1) := by decide +kernel
theorem dX3_measureChoices_69 : decode cX3_measureChoices 69 = .ok (.iinc 4 1, 3) := by decide +kernel
theorem dX3_measureChoices_72 : decode cX3_measureChoices 72 = .ok (.goto (-61), 3) := by decide +kernel
theorem dX3_measureChoices_75 : decode cX3_measureChoices 75 = .ok (.aload_n 0, 1) := by decide +kernel
theorem dX3_measureChoices_76 : decode cX3_measureChoices 76 = .ok (.dup, 1) := by decide +kernel
theorem dX3_measureChoices_77 : decode cX3_measureChoices 77 = .ok (.getfield 9, 3) := by decide +kernel
theorem dX3_measureChoices_80 : decode cX3_measureChoices 80 = .ok (.iload_n 1, 1) := by decide +kernel
theorem dX3_measureChoices_81 : decode cX3_measureChoices 81 = .ok (.iadd, 1) := by decide +kernel
theorem dX3_measureChoices_82 : decode cX3_measureChoices 82 = .ok (.putfield 9, 3) := by decide +kernel
theorem dX3_measureChoices_85 : decode cX3_measureChoices 85 = .ok (.aload_n 0, 1) := by decide +kernel
theorem dX3_measureChoices_86 : decode cX3_measureChoices 86 = .ok (.dup, 1) := by decide +kernel
theorem dX3_measureChoices_87 : decode cX3_measureChoices 87 = .ok (.getfield 15, 3) := by decide +kernel
theorem dX3_measureChoices_90 : decode cX3_measureChoices 90 = .ok (.iload_n 2, 1) := by decide +kernel
theorem dX3_measureChoices_91 : decode cX3_measureChoices 91 = .ok (.iadd, 1) := by decide +kernel
theorem dX3_measureChoices_92 : decode cX3_measureChoices 92 = .ok (.putfield 15, 3) := by decide +kernel
theorem dX3_measureChoices_95 : decode cX3_measureChoices 95 = .ok (.aload_n 0, 1) := by decide +kernel
theorem dX3_measureChoices_96 : decode cX3_measureChoices 96 = .ok (.dup, 1) := by decide +kernel
theorem dX3_measureChoices_97 : decode cX3_measureChoices 97 = .ok (.getfield 18, 3) := by decide +kernel
theorem dX3_measureChoices_100 : decode cX3_measureChoices 100 = .ok (.iload_n 3, 1) := by decide +kernel
theorem dX3_measureChoices_101 : decode cX3_measureChoices 101 = .ok (.iadd, 1) := by decide +kernel
theorem dX3_measureChoices_102 : decode cX3_measureChoices 102 = .ok (.putfield 18, 3) := by decide +kernel
theorem dX3_measureChoices_105 : decode cX3_measureChoices 105 = .ok (.return_, 1) := by decide +kernel
set_option maxRecDepth 20000 in
theorem ggX3_measureParts_X4_size : GoodIn wsX3_measureParts wsX4_size := goodIn_r _ [9, 10, 32, 33] (by decide +kernel) (by decide +kernel)
set_option maxRecDepth 20000 in
theorem gX3_measureParts_X4_size : GoodIn wsX3_measureParts (wsV RX3 80 RX4 yX4_size wsX4_size) := goodIn_app (goodIn_of _ (by decide +kernel)) ggX3_measureParts_X4_size
set_option maxRecDepth 20000 in
theorem ggX3_measureParts_X4_at : GoodIn wsX3_measureParts wsX4_at := goodIn_r _ [14, 10, 15, 32, 33] (by decide +kernel) (by decide +kernel)
set_option maxRecDepth 20000 in
theorem gX3_measureParts_X4_at : GoodIn wsX3_measureParts (wsV RX3 76 RX4 yX4_at wsX4_at) := goodIn_app (goodIn_of _ (by decide +kernel)) ggX3_measureParts_X4_at
set_option maxRecDepth 20000 in
theorem ggX3_measureParts_X3_isOptional : GoodIn wsX3_measureParts wsX3_isOptional := goodIn_r _ [20, 21, 22, 23, 24, 25, 26, 27, 28, 29, 30, 31] (by decide +kernel) (by decide +kernel)
set_option maxRecDepth 20000 in
theorem gX3_measureParts_X3_isOptional : GoodIn wsX3_measureParts (wsV RX3 93 RX3 yX3_isOptional wsX3_isOptional) := goodIn_app (goodIn_of _ (by decide +kernel)) ggX3_measureParts_X3_isOptional
theorem dX3_measureParts_0 : decode cX3_measureParts 0 = .ok (.aload_n 0, 1) := by decide +kernel
theorem dX3_measureParts_1 : decode cX3_measureParts 1 = .ok (.iconst 1, 1) := by decide +kernel
theorem dX3_measureParts_2 : decode cX3_measureParts 2 = .ok (.putfield 9, 3) := by decide +kernel
theorem dX3_measureParts_5 : decode cX3_measureParts 5 = .ok (.aload_n 0, 1) := by decide +kernel
theorem dX3_measureParts_6 : decode cX3_measureParts 6 = .ok (.iconst 1, 1) := by decide +kernel
theorem dX3_measureParts_7 : decode cX3_measureParts 7 = .ok (.putfield 15, 3) := by decide +kernel
theorem dX3_measureParts_10 : decode cX3_measureParts 10 = .ok (.iconst 0, 1) := by decide +kernel
theorem dX3_measureParts_11 : decode cX3_measureParts 11 = .ok (.istore_n 1, 1) := by decide +kernel
theorem dX3_measureParts_12 : decode cX3_measureParts 12 = .ok (.iload_n 1, 1) := by decide +kernel
theorem dX3_measureParts_13 : decode cX3_measureParts 13 = .ok (.aload_n 0, 1) := by decide +kernel
theorem dX3_measureParts_14 : decode cX3_measureParts 14 = .ok (.getfield 38, 3) := by decide +kernel
theorem dX3_measureParts_17 : decode cX3_measureParts 17 = .ok (.invokevirtual 80, 3) := by decide +kernel
theorem dX3_measureParts_20 : decode cX3_measureParts 20 = .ok (.if_icmp .ge 91, 3) := by decide +kernel
theorem dX3_measureParts_23 : decode cX3_measureParts 23 = .ok (.aload_n 0, 1) := by decide +kernel
theorem dX3_measureParts_24 : decode cX3_measureParts 24 = .ok (.getfield 38, 3) := by decide +kernel
theorem dX3_measureParts_27 : decode cX3_measureParts 27 = .ok (.iload_n 1, 1) := by decide +kernel
theorem dX3_measureParts_28 : decode cX3_measureParts 28 = .ok (.invokevirtual 76, 3) := by decide +kernel
theorem dX3_measureParts_31 : decode cX3_measureParts 31 = .ok (.astore_n 2, 1) := by decide +kernel
theorem dX3_measureParts_32 : decode cX3_measureParts 32 = .ok (.aload_n 2, 1) := by decide +kernel
theorem dX3_measureParts_33 : decode cX3_measureParts 33 = .ok (.ifnull 72, 3) := by decide +kernel
theorem dX3_measureParts_36 : decode cX3_measureParts 36 = .ok (.aload_n 0, 1) := by decide +kernel
theorem dX3_measureParts_37 : decode cX3_measureParts 37 = .ok (.iload_n 1, 1) := by decide +kernel
theorem dX3_measureParts_38 : decode cX3_measureParts 38 = .ok (.invokevirtual 93, 3) := by decide +kernel
theorem dX3_measureParts_41 : decode cX3_measureParts 41 = .ok (.ifCond .eq 7, 3) := by decide +kernel
theorem dX3_measureParts_44 : decode cX3_measureParts 44 = .ok (.iconst 1, 1) := by decide +kernel
theorem dX3_measureParts_45 : decode cX3_measureParts 45 = .ok (.goto 4, 3) := by decide +kernel
theorem dX3_measureParts_48 : decode cX3_measureParts 48 = .ok (.iconst 0, 1) := by decide +kernel
theorem dX3_measureParts_49 : decode cX3_measureParts 49 = .ok (.istore_n 3, 1) := by decide +kernel
theorem dX3_measureParts_50 : decode cX3_measureParts 50 = .ok (.aload_n 0, 1) := by decide +kernel
theorem dX3_measureParts_51 : decode cX3_measureParts 51 = .ok (.dup, 1) := by decide +kernel
theorem dX3_measureParts_52 : decode cX3_measureParts 52 = .ok (.getfield 9, 3) := by decide +kernel
theorem dX3_measureParts_55 : decode cX3_measureParts 55 = .ok (.aload_n 0, 1) := by decide +kernel
theorem dX3_measureParts_56 : decode cX3_measureParts 56 = .ok (.iload_n 1, 1) := by decide +kernel
theorem dX3_measureParts_57 : decode cX3_measureParts 57 = .ok (.invokevirtual 93, 3) := by decide +kernel
theorem dX3_measureParts_60 : decode cX3_measureParts 60 = .ok (.ifCond .eq 7, 3) := by decide +kernel
theorem dX3_measureParts_63 : decode cX3_measureParts 63 = .ok (.iconst 1, 1) := by decide +kernel
theorem dX3_measureParts_64 : decode cX3_measureParts 64 = .ok (.goto 7, 3) := by decide +kernel
theorem dX3_measureParts_67 : decode cX3_measureParts 67 = .ok (.aload_n 2, 1) := by decide +kernel
theorem dX3_measureParts_68 : decode cX3_measureParts 68 = .ok (.getfield 9, 3) := by decide +kernel
theorem dX3_measureParts_71 : decode cX3_measureParts 71 = .ok (.iadd, 1) := by decide +kernel
theorem dX3_measureParts_72 : decode cX3_measureParts 72 = .ok (.putfield 9, 3) := by decide +kernel
theorem dX3_measureParts_75 : decode cX3_measureParts 75 = .ok (.aload_n 0, 1) := by decide +kernel
theorem dX3_measureParts_76 : decode cX3_measureParts 76 = .ok (.dup, 1) := by decide +kernel
theorem dX3_measureParts_77 : decode cX3_measureParts 77 = .ok (.getfield 15, 3) := by decide +kernel
theorem dX3_measureParts_80 : decode cX3_measureParts 80 = .ok (.iload_n 3, 1) := by decide +kernel
theorem dX3_measureParts_81 : decode cX3_measureParts 81 = .ok (.aload_n 2, 1) := by decide +kernel
theorem dX3_measureParts_82 : decode cX3_measureParts 82 = .ok (.getfield 15, 3) := by decide +kernel
theorem dX3_measureParts_85 : decode cX3_measureParts 85 = .ok (.iadd, 1) := by decide +kernel
theorem dX3_measureParts_86 : decode cX3_measureParts 86 = .ok (.iadd, 1) := by decide +kernel
theorem dX3_measureParts_87 : decode cX3_measureParts 87 = .ok (.putfield 15, 3) := by decide +kernel
theorem dX3_measureParts_90 : decode cX3_measureParts 90 = .ok (.aload_n 0, 1) := by decide +kernel
theorem dX3_measureParts_91 : decode cX3_measureParts 91 = .ok (.dup, 1) := by decide +kernel
theorem dX3_measureParts_92 : decode cX3_measureParts 92 = .ok (.getfield 18, 3) := by decide +kernel
theorem dX3_measureParts_95 : decode cX3_measureParts 95 = .ok (.iload_n 3, 1) := by decide +kernel
theorem dX3_measureParts_96 : decode cX3_measureParts 96 = .ok (.aload_n 2, 1) := by decide +kernel
theorem dX3_measureParts_97 : decode cX3_measureParts 97 = .ok (.getfield 18, 3) := by decide +kernel
theorem dX3_measureParts_100 : decode cX3_measureParts 100 = .ok (.iadd, 1) := by decide +kernel
theorem dX3_measureParts_101 : decode cX3_measureParts 101 = .ok (.iadd, 1) := by decide +kernel
theorem dX3_measureParts_102 : decode cX3_measureParts 102 = .ok (.putfield 18, 3) := by decide +kernel
theorem dX3_measureParts_105 : decode cX3_measureParts 105 = .ok (.iinc 1 1, 3) := by decide +kernel
theorem dX3_measureParts_108 : decode cX3_measureParts 108 = .ok (.goto (-96), 3) := by decide +kernel
theorem dX3_measureParts_111 : decode cX3_measureParts 111 = .ok (.return_, 1) := by decide +kernel
set_option maxRecDepth 20000 in
theorem ggX3_measureAdditions_X4_size : GoodIn wsX3_measureAdditions wsX4_size := goodIn_r _ [8, 9, 25, 26] (by decide +kernel) (by decide +kernel)
set_option maxRecDepth 20000 in
theorem gX3_measureAdditions_X4_size : GoodIn wsX3_measureAdditions (wsV RX3 80 RX4 yX4_size wsX4_size) := goodIn_app (goodIn_of _ (by decide +kernel)) ggX3_measureAdditions_X4_size
set_option maxRecDepth 20000 in
theorem ggX3_measureAdditions_X4_at : GoodIn wsX3_measureAdditions wsX4_at := goodIn_r _ [13, 9, 14, 25, 26] (by decide +kernel) (by decide +kernel)
set_option maxRecDepth 20000 in
theorem gX3_measureAdditions_X4_at : GoodIn wsX3_measureAdditions (wsV RX3 76 RX4 yX4_at wsX4_at) := goodIn_app (goodIn_of _ (by decide +kernel)) ggX3_measureAdditions_X4_at
theorem dX3_measureAdditions_0 : decode cX3_measureAdditions 0 = .ok (.aload_n 0, 1) := by decide +kernel
theorem dX3_measureAdditions_1 : decode cX3_measureAdditions 1 = .ok (.getfield 55, 3) := by decide +kernel
theorem dX3_measureAdditions_4 : decode cX3_measureAdditions 4 = .ok (.invokevirtual 80, 3) := by decide +kernel
theorem dX3_measureAdditions_7 : decode cX3_measureAdditions 7 = .ok (.ifCond .le 13, 3) := by decide +kernel
theorem dX3_measureAdditions_10 : decode cX3_measureAdditions 10 = .ok (.aload_n 0, 1) := by decide +kernel
theorem dX3_measureAdditions_11 : decode cX3_measureAdditions 11 = .ok (.dup, 1) := by decide +kernel
theorem dX3_measureAdditions_12 : decode cX3_measureAdditions 12 = .ok (.getfield 15, 3) := by decide +kernel
theorem dX3_measureAdditions_15 : decode cX3_measureAdditions 15 = .ok (.iconst 2, 1) := by decide +kernel
theorem dX3_measureAdditions_16 : decode cX3_measureAdditions 16 = .ok (.iadd, 1) := by decide +kernel
theorem dX3_measureAdditions_17 : decode cX3_measureAdditions 17 = .ok (.putfield 15, 3) := by decide +kernel
theorem dX3_measureAdditions_20 : decode cX3_measureAdditions 20 = .ok (.iconst 0, 1) := by decide +kernel
theorem dX3_measureAdditions_21 : decode cX3_measureAdditions 21 = .ok (.istore_n 1, 1) := by decide +kernel
theorem dX3_measureAdditions_22 : decode cX3_measureAdditions 22 = .ok (.iload_n 1, 1) := by decide +kernel
theorem dX3_measureAdditions_23 : decode cX3_measureAdditions 23 = .ok (.aload_n 0, 1) := by decide +kernel
theorem dX3_measureAdditions_24 : decode cX3_measureAdditions 24 = .ok (.getfield 55, 3) := by decide +kernel
theorem dX3_measureAdditions_27 : decode cX3_measureAdditions 27 = .ok (.invokevirtual 80, 3) := by decide +kernel
theorem dX3_measureAdditions_30 : decode cX3_measureAdditions 30 = .ok (.if_icmp .ge 51, 3) := by decide +kernel
theorem dX3_measureAdditions_33 : decode cX3_measureAdditions 33 = .ok (.aload_n 0, 1) := by decide +kernel
theorem dX3_measureAdditions_34 : decode cX3_measureAdditions 34 = .ok (.getfield 55, 3) := by decide +kernel
theorem dX3_measureAdditions_37 : decode cX3_measureAdditions 37 = .ok (.iload_n 1, 1) := by decide +kernel
theorem dX3_measureAdditions_38 : decode cX3_measureAdditions 38 = .ok (.invokevirtual 76, 3) := by decide +kernel
theorem dX3_measureAdditions_41 : decode cX3_measureAdditions 41 = .ok (.astore_n 2, 1) := by decide +kernel
theorem dX3_measureAdditions_42 : decode cX3_measureAdditions 42 = .ok (.aload_n 2, 1) := by decide +kernel
theorem dX3_measureAdditions_43 : decode cX3_measureAdditions 43 = .ok (.ifnull 32, 3) := by decide +kernel
theorem dX3_measureAdditions_46 : decode cX3_measureAdditions 46 = .ok (.aload_n 0, 1) := by decide +kernel
theorem dX3_measureAdditions_47 : decode cX3_measureAdditions 47 = .ok (.dup, 1) := by decide +kernel
theorem dX3_measureAdditions_48 : decode cX3_measureAdditions 48 = .ok (.getfield 15, 3) := by decide +kernel
theorem dX3_measureAdditions_51 : decode cX3_measureAdditions 51 = .ok (.bipush 8, 2) := by decide +kernel
theorem dX3_measureAdditions_53 : decode cX3_measureAdditions 53 = .ok (.aload_n 2, 1) := by decide +kernel
theorem dX3_measureAdditions_54 : decode cX3_measureAdditions 54 = .ok (.getfield 15, 3) := by decide +kernel
theorem dX3_measureAdditions_57 : decode cX3_measureAdditions 57 = .ok (.iadd, 1) := by decide +kernel
theorem dX3_measureAdditions_58 : decode cX3_measureAdditions 58 = .ok (.iadd, 1) := by decide +kernel
theorem dX3_measureAdditions_59 : decode cX3_measureAdditions 59 = .ok (.putfield 15, 3) := by decide +kernel
theorem dX3_measureAdditions_62 : decode cX3_measureAdditions 62 = .ok (.aload_n 0, 1) := by decide +kernel
theorem dX3_measureAdditions_63 : decode cX3_measureAdditions 63 = .ok (.dup, 1) := by decide +kernel
theorem dX3_measureAdditions_64 : decode cX3_measureAdditions 64 = .ok (.getfield 18, 3) := by decide +kernel
theorem dX3_measureAdditions_67 : decode cX3_measureAdditions 67 = .ok (.aload_n 2, 1) := by decide +kernel
theorem dX3_measureAdditions_68 : decode cX3_measureAdditions 68 = .ok (.getfield 18, 3) := by decide +kernel
theorem dX3_measureAdditions_71 : decode cX3_measureAdditions 71 = .ok (.iadd, 1) := by decide +kernel
theorem dX3_measureAdditions_72 : decode cX3_measureAdditions 72 = .ok (.putfield 18, 3) := by decide +kernel
theorem dX3_measureAdditions_75 : decode cX3_measureAdditions 75 = .ok (.iinc 1 1, 3) := by decide +kernel
theorem dX3_measureAdditions_78 : decode cX3_measureAdditions 78 = .ok (.goto (-56), 3) := by decide +kernel
theorem dX3_measureAdditions_81 : decode cX3_measureAdditions 81 = .ok (.return_, 1) := by decide +kernel
theorem dX4_init_0 : decode cX4_init 0 = .ok (.aload_n 0, 1) := by decide +kernel
theorem dX4_init_1 : decode cX4_init 1 = .ok (.invokespecial 1, 3) := by decide +kernel
theorem dX4_init_4 : decode cX4_init 4 = .ok (.aload_n 0, 1) := by decide +kernel
theorem dX4_init_5 : decode cX4_init 5 = .ok (.iconst 0, 1) := by decide +kernel
theorem dX4_init_6 : decode cX4_init 6 = .ok (.putfield 7, 3) := by decide +kernel
theorem dX4_init_9 : decode cX4_init 9 = .ok (.aload_n 0, 1) := by decide +kernel
theorem dX4_init_10 : decode cX4_init 10 = .ok (.iload_n 1, 1) := by decide +kernel
theorem dX4_init_11 : decode cX4_init 11 = .ok (.iconst 0, 1) := by decide +kernel
theorem dX4_init_12 : decode cX4_init 12 = .ok (.invokestatic 13, 3) := by decide +kernel
theorem dX4_init_15 : decode cX4_init 15 = .ok (.anewarray 19, 3) := by decide +kernel
theorem dX4_init_18 : decode cX4_init 18 = .ok (.putfield 21, 3) := by decide +kernel
theorem dX4_init_21 : decode cX4_init 21 = .ok (.return_, 1) := by decide +kernel
theorem dX4_size_0 : decode cX4_size 0 = .ok (.aload_n 0, 1) := by decide +kernel
theorem dX4_size_1 : decode cX4_size 1 = .ok (.getfield 7, 3) := by decide +kernel
theorem dX4_size_4 : decode cX4_size 4 = .ok (.ireturn, 1) := by decide +kernel
theorem dX4_isFull_0 : decode cX4_isFull 0 = .ok (.aload_n 0, 1) := by decide +kernel
theorem dX4_isFull_1 : decode cX4_isFull 1 = .ok (.getfield 7, 3) := by decide +kernel
theorem dX4_isFull_4 : decode cX4_isFull 4 = .ok (.aload_n 0, 1) := by decide +kernel
theorem dX4_isFull_5 : decode cX4_isFull 5 = .ok (.getfield 21, 3) := by decide +kernel
theorem dX4_isFull_8 : decode cX4_isFull 8 = .ok (.arraylength, 1) := by decide +kernel
theorem dX4_isFull_9 : decode cX4_isFull 9 = .ok (.if_icmp .lt 7, 3) := by decide +kernel
theorem dX4_isFull_12 : decode cX4_isFull 12 = .ok (.iconst 1, 1) := by decide +kernel
theorem dX4_isFull_13 : decode cX4_isFull 13 = .ok (.goto 4, 3) := by decide +kernel
theorem dX4_isFull_16 : decode cX4_isFull 16 = .ok (.iconst 0, 1) := by decide +kernel
theorem dX4_isFull_17 : decode cX4_isFull 17 = .ok (.ireturn, 1) := by decide +kernel
theorem dX4_at_0 : decode cX4_at 0 = .ok (.iload_n 1, 1) := by decide +kernel
theorem dX4_at_1 : decode cX4_at 1 = .ok (.ifCond .lt 29, 3) := by decide +kernel
theorem dX4_at_4 : decode cX4_at 4 = .ok (.iload_n 1, 1) := by decide +kernel
theorem dX4_at_5 : decode cX4_at 5 = .ok (.aload_n 0, 1) := by decide +kernel
theorem dX4_at_6 : decode cX4_at 6 = .ok (.getfield 7, 3) := by decide +kernel
theorem dX4_at_9 : decode cX4_at 9 = .ok (.if_icmp .ge 21, 3) := by decide +kernel
theorem dX4_at_12 : decode cX4_at 12 = .ok (.iload_n 1, 1) := by decide +kernel
theorem dX4_at_13 : decode cX4_at 13 = .ok (.aload_n 0, 1) := by decide +kernel
theorem dX4_at_14 : decode cX4_at 14 = .ok (.getfield 21, 3) := by decide +kernel
theorem dX4_at_17 : decode cX4_at 17 = .ok (.arraylength, 1) := by decide +kernel
theorem dX4_at_18 : decode cX4_at 18 = .ok (.if_icmp .ge 12, 3) := by decide +kernel
theorem dX4_at_21 : decode cX4_at 21 = .ok (.aload_n 0, 1) := by decide +kernel
theorem dX4_at_22 : decode cX4_at 22 = .ok (.getfield 21, 3) := by decide +kernel
theorem dX4_at_25 : decode cX4_at 25 = .ok (.iload_n 1, 1) := by decide +kernel
theorem dX4_at_26 : decode cX4_at 26 = .ok (.aaload, 1) := by decide +kernel
theorem dX4_at_27 : decode cX4_at 27 = .ok (.goto 4, 3) := by decide +kernel
theorem dX4_at_30 : decode cX4_at 30 = .ok (.aconst_null, 1) := by decide +kernel
theorem dX4_at_31 : decode cX4_at 31 = .ok (.areturn, 1) := by decide +kernel
theorem dX4_append_0 : decode cX4_append 0 = .ok (.aload_n 0, 1) := by decide +kernel
theorem dX4_append_1 : decode cX4_append 1 = .ok (.getfield 7, 3) := by decide +kernel
theorem dX4_append_4 : decode cX4_append 4 = .ok (.ifCond .lt 35, 3) := by decide +kernel
theorem dX4_append_7 : decode cX4_append 7 = .ok (.aload_n 0, 1) := by decide +kernel
theorem dX4_append_8 : decode cX4_append 8 = .ok (.getfield 7, 3) := by decide +kernel
theorem dX4_append_11 : decode cX4_append 11 = .ok (.aload_n 0, 1) := by decide +kernel
theorem dX4_append_12 : decode cX4_append 12 = .ok (.getfield 21, 3) := by decide +kernel
theorem dX4_append_15 : decode cX4_append 15 = .ok (.arraylength, 1) := by decide +kernel
theorem dX4_append_16 : decode cX4_append 16 = .ok (.if_icmp .ge 23, 3) := by decide +kernel
theorem dX4_append_19 : decode cX4_append 19 = .ok (.aload_n 0, 1) := by decide +kernel
theorem dX4_append_20 : decode cX4_append 20 = .ok (.getfield 21, 3) := by decide +kernel
theorem dX4_append_23 : decode cX4_append 23 = .ok (.aload_n 0, 1) := by decide +kernel
theorem dX4_append_24 : decode cX4_append 24 = .ok (.getfield 7, 3) := by decide +kernel
theorem dX4_append_27 : decode cX4_append 27 = .ok (.aload_n 1, 1) := by decide +kernel
theorem dX4_append_28 : decode cX4_append 28 = .ok (.aastore, 1) := by decide +kernel
theorem dX4_append_29 : decode cX4_append 29 = .ok (.aload_n 0, 1) := by decide +kernel
theorem dX4_append_30 : decode cX4_append 30 = .ok (.dup, 1) := by decide +kernel
theorem dX4_append_31 : decode cX4_append 31 = .ok (.getfield 7, 3) := by decide +kernel
theorem dX4_append_34 : decode cX4_append 34 = .ok (.iconst 1, 1) := by decide +kernel
theorem dX4_append_35 : decode cX4_append 35 = .ok (.iadd, 1) := by decide +kernel
theorem dX4_append_36 : decode cX4_append 36 = .ok (.putfield 7, 3) := by decide +kernel
theorem dX4_append_39 : decode cX4_append 39 = .ok (.return_, 1) := by decide +kernel
theorem dX4_dropLast_0 : decode cX4_dropLast 0 = .ok (.aload_n 0, 1) := by decide +kernel
theorem dX4_dropLast_1 : decode cX4_dropLast 1 = .ok (.getfield 7, 3) := by decide +kernel
theorem dX4_dropLast_4 : decode cX4_dropLast 4 = .ok (.ifCond .le 13, 3) := by decide +kernel
theorem dX4_dropLast_7 : decode cX4_dropLast 7 = .ok (.aload_n 0, 1) := by decide +kernel
theorem dX4_dropLast_8 : decode cX4_dropLast 8 = .ok (.dup, 1) := by decide +kernel
theorem dX4_dropLast_9 : decode cX4_dropLast 9 = .ok (.getfield 7, 3) := by decide +kernel
theorem dX4_dropLast_12 : decode cX4_dropLast 12 = .ok (.iconst 1, 1) := by decide +kernel
theorem dX4_dropLast_13 : decode cX4_dropLast 13 = .ok (.isub, 1) := by decide +kernel
theorem dX4_dropLast_14 : decode cX4_dropLast 14 = .ok (.putfield 7, 3) := by decide +kernel
theorem dX4_dropLast_17 : decode cX4_dropLast 17 = .ok (.return_, 1) := by decide +kernel
set_option maxRecDepth 20000 in
theorem ggX4_measureAll_X4_at : GoodIn wsX4_measureAll wsX4_at := goodIn_r _ [6, 1, 7, 58, 59] (by decide +kernel) (by decide +kernel)
set_option maxRecDepth 20000 in
theorem gX4_measureAll_X4_at : GoodIn wsX4_measureAll (wsV RX4 25 RX4 yX4_at wsX4_at) := goodIn_app (goodIn_of _ (by decide +kernel)) ggX4_measureAll_X4_at
set_option maxRecDepth 20000 in
theorem ggX4_measureAll_X3_measure : GoodIn wsX4_measureAll wsX3_measure := goodIn_r _ [12, 13, 14, 15, 16, 17, 18, 19, 20, 21, 22, 23, 11, 24, 25, 26, 27, 28, 3, 4, 5, 6, 1, 7, 29, 30, 31, 32, 33, 34, 35, 36, 37, 38, 39, 40, 41, 42, 43, 44, 45, 46, 47, 48, 49, 50, 51, 52, 53, 54, 55, 56, 57, 60, 61, 62, 63, 64, 65, 66, 67, 68, 69, 58, 59] (by decide +kernel) (by decide +kernel)
set_option maxRecDepth 20000 in
theorem gX4_measureAll_X3_measure : GoodIn wsX4_measureAll (wsV RX4 29 RX3 yX3_measure wsX3_measure) := goodIn_app (goodIn_of _ (by decide +kernel)) ggX4_measureAll_X3_measure
theorem dX4_measureAll_0 : decode cX4_measureAll 0 = .ok (.iconst 0, 1) := by decide +kernel
theorem dX4_measureAll_1 : decode cX4_measureAll 1 = .ok (.istore_n 1, 1) := by decide +kernel
theorem dX4_measureAll_2 : decode cX4_measureAll 2 = .ok (.iload_n 1, 1) := by decide +kernel
theorem dX4_measureAll_3 : decode cX4_measureAll 3 = .ok (.aload_n 0, 1) := by decide +kernel
theorem dX4_measureAll_4 : decode cX4_measureAll 4 = .ok (.getfield 7, 3) := by decide +kernel
theorem dX4_measureAll_7 : decode cX4_measureAll 7 = .ok (.if_icmp .ge 28, 3) := by decide +kernel
theorem dX4_measureAll_10 : decode cX4_measureAll 10 = .ok (.aload_n 0, 1) := by decide +kernel
theorem dX4_measureAll_11 : decode cX4_measureAll 11 = .ok (.iload_n 1, 1) := by decide +kernel
theorem dX4_measureAll_12 : decode cX4_measureAll 12 = .ok (.invokevirtual 25, 3) := by decide +kernel
theorem dX4_measureAll_15 : decode cX4_measureAll 15 = .ok (.astore_n 2, 1) := by decide +kernel
theorem dX4_measureAll_16 : decode cX4_measureAll 16 = .ok (.aload_n 2, 1) := by decide +kernel
theorem dX4_measureAll_17 : decode cX4_measureAll 17 = .ok (.ifnull 12, 3) := by decide +kernel
theorem dX4_measureAll_20 : decode cX4_measureAll 20 = .ok (.aload_n 2, 1) := by decide +kernel
theorem dX4_measureAll_21 : decode cX4_measureAll 21 = .ok (.invokevirtual 29, 3) := by decide +kernel
theorem dX4_measureAll_24 : decode cX4_measureAll 24 = .ok (.ifCond .ne 5, 3) := by decide +kernel
theorem dX4_measureAll_27 : decode cX4_measureAll 27 = .ok (.iconst 0, 1) := by decide +kernel
theorem dX4_measureAll_28 : decode cX4_measureAll 28 = .ok (.ireturn, 1) := by decide +kernel
theorem dX4_measureAll_29 : decode cX4_measureAll 29 = .ok (.iinc 1 1, 3) := by decide +kernel
theorem dX4_measureAll_32 : decode cX4_measureAll 32 = .ok (.goto (-30), 3) := by decide +kernel
theorem dX4_measureAll_35 : decode cX4_measureAll 35 = .ok (.iconst 1, 1) := by decide +kernel
theorem dX4_measureAll_36 : decode cX4_measureAll 36 = .ok (.ireturn, 1) := by decide +kernel
set_option maxRecDepth 20000 in
theorem ggX5_init_X2_init : GoodIn wsX5_init wsX2_init := goodIn_r _ [12, 13, 2, 3, 14, 15, 16, 17, 18, 19, 20, 21, 22] (by decide +kernel) (by decide +kernel)
set_option maxRecDepth 20000 in
theorem gX5_init_X2_init : GoodIn wsX5_init (wsX2_init) := ggX5_init_X2_init
theorem dX5_init_0 : decode cX5_init 0 = .ok (.aload_n 0, 1) := by decide +kernel
theorem dX5_init_1 : decode cX5_init 1 = .ok (.invokespecial 3, 3) := by decide +kernel
theorem dX5_init_4 : decode cX5_init 4 = .ok (.aload_n 0, 1) := by decide +kernel
theorem dX5_init_5 : decode cX5_init 5 = .ok (.new 9, 3) := by decide +kernel
theorem dX5_init_8 : decode cX5_init 8 = .ok (.dup, 1) := by decide +kernel
theorem dX5_init_9 : decode cX5_init 9 = .ok (.sipush 240, 3) := by decide +kernel
theorem dX5_init_12 : decode cX5_init 12 = .ok (.invokespecial 11, 3) := by decide +kernel
theorem dX5_init_15 : decode cX5_init 15 = .ok (.putfield 14, 3) := by decide +kernel
theorem dX5_init_18 : decode cX5_init 18 = .ok (.aload_n 0, 1) := by decide +kernel
theorem dX5_init_19 : decode cX5_init 19 = .ok (.iconst 0, 1) := by decide +kernel
theorem dX5_init_20 : decode cX5_init 20 = .ok (.putfield 20, 3) := by decide +kernel
theorem dX5_init_23 : decode cX5_init 23 = .ok (.aload_n 0, 1) := by decide +kernel
theorem dX5_init_24 : decode cX5_init 24 = .ok (.iconst (-1), 1) := by decide +kernel
theorem dX5_init_25 : decode cX5_init 25 = .ok (.putfield 24, 3) := by decide +kernel
theorem dX5_init_28 : decode cX5_init 28 = .ok (.return_, 1) := by decide +kernel
set_option maxRecDepth 20000 in
theorem ggX5_walk_X2_keepFirst : GoodIn wsX5_walk wsX2_keepFirst := goodIn_r _ [8, 9, 83, 84] (by decide +kernel) (by decide +kernel)
set_option maxRecDepth 20000 in
theorem gX5_walk_X2_keepFirst : GoodIn wsX5_walk (wsV RX5 27 RX2 yX2_keepFirst wsX2_keepFirst) := goodIn_app (goodIn_of _ (by decide +kernel)) ggX5_walk_X2_keepFirst
set_option maxRecDepth 20000 in
theorem ggX5_walk_X5_putValue : GoodIn wsX5_walk wsX5_putValue := goodIn_r _ [14, 3, 2, 15, 16, 17, 18, 19, 20, 13, 21, 22, 23, 24, 25, 26, 27, 7, 28, 29, 30, 31, 32, 33, 9, 34, 35, 36, 37, 38, 39, 40, 41, 1, 42, 43, 44, 45, 46, 47, 48, 49, 50, 51, 52, 10, 11, 12, 53, 54, 55, 56, 57, 58, 59, 60, 61, 62, 63, 64, 65, 66, 67, 68, 69, 70, 71, 72, 73, 74, 75, 76, 77, 78, 79, 80, 81, 82, 83, 84, 85, 86, 87, 88, 89, 90, 91, 92, 93, 94, 95, 96] (by decide +kernel) (by decide +kernel)
set_option maxRecDepth 20000 in
theorem gX5_walk_X5_putValue : GoodIn wsX5_walk (wsV RX5 30 RX5 yX5_putValue wsX5_putValue) := goodIn_app (goodIn_of _ (by decide +kernel)) ggX5_walk_X5_putValue
set_option maxRecDepth 20000 in
theorem ggX5_walk_X2_size : GoodIn wsX5_walk wsX2_size := goodIn_r _ [57, 9, 83, 84] (by decide +kernel) (by decide +kernel)
set_option maxRecDepth 20000 in
theorem gX5_walk_X2_size : GoodIn wsX5_walk (wsV RX5 34 RX2 yX2_size wsX2_size) := goodIn_app (goodIn_of _ (by decide +kernel)) ggX5_walk_X2_size
theorem dX5_walk_0 : decode cX5_walk 0 = .ok (.aload_n 0, 1) := by decide +kernel
theorem dX5_walk_1 : decode cX5_walk 1 = .ok (.getfield 14, 3) := by decide +kernel
theorem dX5_walk_4 : decode cX5_walk 4 = .ok (.iconst 0, 1) := by decide +kernel
theorem dX5_walk_5 : decode cX5_walk 5 = .ok (.invokevirtual 27, 3) := by decide +kernel
theorem dX5_walk_8 : decode cX5_walk 8 = .ok (.aload_n 0, 1) := by decide +kernel
theorem dX5_walk_9 : decode cX5_walk 9 = .ok (.iconst 0, 1) := by decide +kernel
theorem dX5_walk_10 : decode cX5_walk 10 = .ok (.putfield 20, 3) := by decide +kernel
theorem dX5_walk_13 : decode cX5_walk 13 = .ok (.aload_n 0, 1) := by decide +kernel
theorem dX5_walk_14 : decode cX5_walk 14 = .ok (.iconst (-1), 1) := by decide +kernel
theorem dX5_walk_15 : decode cX5_walk 15 = .ok (.putfield 24, 3) := by decide +kernel
theorem dX5_walk_18 : decode cX5_walk 18 = .ok (.aload_n 0, 1) := by decide +kernel
theorem dX5_walk_19 : decode cX5_walk 19 = .ok (.aload_n 1, 1) := by decide +kernel
theorem dX5_walk_20 : decode cX5_walk 20 = .ok (.aload_n 2, 1) := by decide +kernel
theorem dX5_walk_21 : decode cX5_walk 21 = .ok (.iconst 0, 1) := by decide +kernel
theorem dX5_walk_22 : decode cX5_walk 22 = .ok (.invokevirtual 30, 3) := by decide +kernel
theorem dX5_walk_25 : decode cX5_walk 25 = .ok (.aload_n 0, 1) := by decide +kernel
theorem dX5_walk_26 : decode cX5_walk 26 = .ok (.getfield 24, 3) := by decide +kernel
theorem dX5_walk_29 : decode cX5_walk 29 = .ok (.iconst (-1), 1) := by decide +kernel
theorem dX5_walk_30 : decode cX5_walk 30 = .ok (.if_icmp .ne 22, 3) := by decide +kernel
theorem dX5_walk_33 : decode cX5_walk 33 = .ok (.aload_n 0, 1) := by decide +kernel
theorem dX5_walk_34 : decode cX5_walk 34 = .ok (.getfield 20, 3) := by decide +kernel
theorem dX5_walk_37 : decode cX5_walk 37 = .ok (.aload_n 2, 1) := by decide +kernel
theorem dX5_walk_38 : decode cX5_walk 38 = .ok (.invokevirtual 34, 3) := by decide +kernel
theorem dX5_walk_41 : decode cX5_walk 41 = .ok (.if_icmp .ge 11, 3) := by decide +kernel
theorem dX5_walk_44 : decode cX5_walk 44 = .ok (.aload_n 0, 1) := by decide +kernel
theorem dX5_walk_45 : decode cX5_walk 45 = .ok (.aload_n 0, 1) := by decide +kernel
theorem dX5_walk_46 : decode cX5_walk 46 = .ok (.getfield 20, 3) := by decide +kernel
theorem dX5_walk_49 : decode cX5_walk 49 = .ok (.putfield 24, 3) := by decide +kernel
theorem dX5_walk_52 : decode cX5_walk 52 = .ok (.aload_n 0, 1) := by decide +kernel
theorem dX5_walk_53 : decode cX5_walk 53 = .ok (.getfield 24, 3) := by decide +kernel
theorem dX5_walk_56 : decode cX5_walk 56 = .ok (.ireturn, 1) := by decide +kernel
set_option maxRecDepth 20000 in
theorem ggX5_putValue_X5_putSequence : GoodIn wsX5_putValue wsX5_putSequence := goodIn_r _ [57, 58, 59, 60, 9, 61, 62, 63, 64, 41, 65, 43, 66, 67, 68, 69, 70, 71, 10, 11, 12, 13, 2, 1, 14, 15, 16, 17, 18, 19, 20, 21, 22, 23, 24, 25, 26, 27, 28, 29, 30, 31, 32, 33, 34, 35, 36, 37, 38, 39, 40, 42, 44, 45, 46, 47, 72, 73, 74, 48, 49, 50, 51, 52, 53, 54, 55, 56, 0, 3, 4, 5, 6, 7, 8, 75, 76, 77, 78, 79, 80, 81, 82, 83, 84, 85, 86, 87, 88, 89, 90, 91] (by decide +kernel) (by decide +kernel)
set_option maxRecDepth 20000 in
theorem gX5_putValue_X5_putSequence : GoodIn wsX5_putValue (wsV RX5 49 RX5 yX5_putSequence wsX5_putSequence) := goodIn_app (goodIn_of _ (by decide +kernel)) ggX5_putValue_X5_putSequence
set_option maxRecDepth 20000 in
theorem ggX5_putValue_X5_next : GoodIn wsX5_putValue wsX5_next := goodIn_r _ [13, 2, 1, 14, 15, 16, 17, 18, 19, 20, 21, 22, 23, 24, 25, 26, 27, 28, 75, 76, 77, 78, 79] (by decide +kernel) (by decide +kernel)
set_option maxRecDepth 20000 in
theorem gX5_putValue_X5_next : GoodIn wsX5_putValue (wsV RX5 58 RX5 yX5_next wsX5_next) := goodIn_app (goodIn_of _ (by decide +kernel)) ggX5_putValue_X5_next
set_option maxRecDepth 20000 in
theorem ggX5_putValue_X5_put : GoodIn wsX5_putValue wsX5_put := goodIn_r _ [32, 33, 34, 35, 36, 17, 37, 24, 19, 75, 76, 77, 78, 79] (by decide +kernel) (by decide +kernel)
set_option maxRecDepth 20000 in
theorem gX5_putValue_X5_put : GoodIn wsX5_putValue (wsV RX5 65 RX5 yX5_put wsX5_put) := goodIn_app (goodIn_of _ (by decide +kernel)) ggX5_putValue_X5_put
set_option maxRecDepth 20000 in
theorem ggX5_putValue_X4_at : GoodIn wsX5_putValue wsX4_at := goodIn_r _ [42, 43, 44, 90, 91] (by decide +kernel) (by decide +kernel)
set_option maxRecDepth 20000 in
theorem gX5_putValue_X4_at : GoodIn wsX5_putValue (wsV RX5 76 RX4 yX4_at wsX4_at) := goodIn_app (goodIn_of _ (by decide +kernel)) ggX5_putValue_X4_at
set_option maxRecDepth 20000 in
theorem ggX5_putValue_X5_putValue : GoodIn wsX5_putValue wsX5_putValue := goodIn_r _ [0, 1, 2, 3, 4, 5, 6, 7, 8, 9, 10, 11, 12, 13, 14, 15, 16, 17, 18, 19, 20, 21, 22, 23, 24, 25, 26, 27, 28, 29, 30, 31, 32, 33, 34, 35, 36, 37, 38, 39, 40, 41, 42, 43, 44, 45, 46, 47, 48, 49, 50, 51, 52, 53, 54, 55, 56, 57, 58, 59, 60, 61, 62, 63, 64, 65, 66, 67, 68, 69, 70, 71, 72, 73, 74, 75, 76, 77, 78, 79, 80, 81, 82, 83, 84, 85, 86, 87, 88, 89, 90, 91] (by decide +kernel) (by decide +kernel)
set_option maxRecDepth 20000 in
theorem gX5_putValue_X5_putValue : GoodIn wsX5_putValue (wsV RX5 30 RX5 yX5_putValue wsX5_putValue) := goodIn_app (goodIn_of _ (by decide +kernel)) ggX5_putValue_X5_putValue
theorem dX5_putValue_0 : decode cX5_putValue 0 = .ok (.aload_n 0, 1) := by decide +kernel
theorem dX5_putValue_1 : decode cX5_putValue 1 = .ok (.getfield 24, 3) := by decide +kernel
theorem dX5_putValue_4 : decode cX5_putValue 4 = .ok (.iconst (-1), 1) := by decide +kernel
theorem dX5_putValue_5 : decode cX5_putValue 5 = .ok (.if_icmp .eq 4, 3) := by decide +kernel
theorem dX5_putValue_8 : decode cX5_putValue 8 = .ok (.return_, 1) := by decide +kernel
theorem dX5_putValue_9 : decode cX5_putValue 9 = .ok (.aload_n 1, 1) := by decide +kernel
theorem dX5_putValue_10 : decode cX5_putValue 10 = .ok (.ifnull 9, 3) := by decide +kernel
theorem dX5_putValue_13 : decode cX5_putValue 13 = .ok (.iload_n 3, 1) := by decide +kernel
theorem dX5_putValue_14 : decode cX5_putValue 14 = .ok (.bipush 16, 2) := by decide +kernel
theorem dX5_putValue_16 : decode cX5_putValue 16 = .ok (.if_icmp .lt 12, 3) := by decide +kernel
theorem dX5_putValue_19 : decode cX5_putValue 19 = .ok (.aload_n 0, 1) := by decide +kernel
theorem dX5_putValue_20 : decode cX5_putValue 20 = .ok (.aload_n 0, 1) := by decide +kernel
theorem dX5_putValue_21 : decode cX5_putValue 21 = .ok (.getfield 20, 3) := by decide +kernel
theorem dX5_putValue_24 : decode cX5_putValue 24 = .ok (.putfield 24, 3) := by decide +kernel
theorem dX5_putValue_27 : decode cX5_putValue 27 = .ok (.return_, 1) := by decide +kernel
theorem dX5_putValue_28 : decode cX5_putValue 28 = .ok (.aload_n 1, 1) := by decide +kernel
theorem dX5_putValue_29 : decode cX5_putValue 29 = .ok (.getfield 38, 3) := by decide +kernel
theorem dX5_putValue_32 : decode cX5_putValue 32 = .ok (.getstatic 44, 3) := by decide +kernel
theorem dX5_putValue_35 : decode cX5_putValue 35 = .ok (.if_acmp .ne 11, 3) := by decide +kernel
theorem dX5_putValue_38 : decode cX5_putValue 38 = .ok (.aload_n 0, 1) := by decide +kernel
theorem dX5_putValue_39 : decode cX5_putValue 39 = .ok (.aload_n 1, 1) := by decide +kernel
theorem dX5_putValue_40 : decode cX5_putValue 40 = .ok (.aload_n 2, 1) := by decide +kernel
theorem dX5_putValue_41 : decode cX5_putValue 41 = .ok (.iload_n 3, 1) := by decide +kernel
theorem dX5_putValue_42 : decode cX5_putValue 42 = .ok (.invokevirtual 49, 3) := by decide +kernel
theorem dX5_putValue_45 : decode cX5_putValue 45 = .ok (.return_, 1) := by decide +kernel
theorem dX5_putValue_46 : decode cX5_putValue 46 = .ok (.aload_n 0, 1) := by decide +kernel
theorem dX5_putValue_47 : decode cX5_putValue 47 = .ok (.aload_n 2, 1) := by decide +kernel
theorem dX5_putValue_48 : decode cX5_putValue 48 = .ok (.aload_n 1, 1) := by decide +kernel
theorem dX5_putValue_49 : decode cX5_putValue 49 = .ok (.getfield 52, 3) := by decide +kernel
theorem dX5_putValue_52 : decode cX5_putValue 52 = .ok (.aload_n 1, 1) := by decide +kernel
theorem dX5_putValue_53 : decode cX5_putValue 53 = .ok (.getfield 55, 3) := by decide +kernel
theorem dX5_putValue_56 : decode cX5_putValue 56 = .ok (.invokevirtual 58, 3) := by decide +kernel
theorem dX5_putValue_59 : decode cX5_putValue 59 = .ok (.istore 4, 2) := by decide +kernel
theorem dX5_putValue_61 : decode cX5_putValue 61 = .ok (.aload_n 0, 1) := by decide +kernel
theorem dX5_putValue_62 : decode cX5_putValue 62 = .ok (.iload 4, 2) := by decide +kernel
theorem dX5_putValue_64 : decode cX5_putValue 64 = .ok (.aload_n 1, 1) := by decide +kernel
theorem dX5_putValue_65 : decode cX5_putValue 65 = .ok (.getfield 52, 3) := by decide +kernel
theorem dX5_putValue_68 : decode cX5_putValue 68 = .ok (.isub, 1) := by decide +kernel
theorem dX5_putValue_69 : decode cX5_putValue 69 = .ok (.aload_n 1, 1) := by decide +kernel
theorem dX5_putValue_70 : decode cX5_putValue 70 = .ok (.getfield 62, 3) := by decide +kernel
theorem dX5_putValue_73 : decode cX5_putValue 73 = .ok (.invokevirtual 65, 3) := by decide +kernel
theorem dX5_putValue_76 : decode cX5_putValue 76 = .ok (.aload_n 1, 1) := by decide +kernel
theorem dX5_putValue_77 : decode cX5_putValue 77 = .ok (.getfield 38, 3) := by decide +kernel
theorem dX5_putValue_80 : decode cX5_putValue 80 = .ok (.getstatic 69, 3) := by decide +kernel
theorem dX5_putValue_83 : decode cX5_putValue 83 = .ok (.if_acmp .ne 46, 3) := by decide +kernel
theorem dX5_putValue_86 : decode cX5_putValue 86 = .ok (.iconst 0, 1) := by decide +kernel
theorem dX5_putValue_87 : decode cX5_putValue 87 = .ok (.istore 5, 2) := by decide +kernel
theorem dX5_putValue_89 : decode cX5_putValue 89 = .ok (.iload 5, 2) := by decide +kernel
theorem dX5_putValue_91 : decode cX5_putValue 91 = .ok (.iload 4, 2) := by decide +kernel
theorem dX5_putValue_93 : decode cX5_putValue 93 = .ok (.if_icmp .ge 33, 3) := by decide +kernel
theorem dX5_putValue_96 : decode cX5_putValue 96 = .ok (.aload_n 0, 1) := by decide +kernel
theorem dX5_putValue_97 : decode cX5_putValue 97 = .ok (.getfield 24, 3) := by decide +kernel
theorem dX5_putValue_100 : decode cX5_putValue 100 = .ok (.iconst (-1), 1) := by decide +kernel
theorem dX5_putValue_101 : decode cX5_putValue 101 = .ok (.if_icmp .ne 25, 3) := by decide +kernel
theorem dX5_putValue_104 : decode cX5_putValue 104 = .ok (.aload_n 0, 1) := by decide +kernel
theorem dX5_putValue_105 : decode cX5_putValue 105 = .ok (.aload_n 1, 1) := by decide +kernel
theorem dX5_putValue_106 : decode cX5_putValue 106 = .ok (.getfield 72, 3) := by decide +kernel
theorem dX5_putValue_109 : decode cX5_putValue 109 = .ok (.iconst 0, 1) := by decide +kernel
theorem dX5_putValue_110 : decode cX5_putValue 110 = .ok (.invokevirtual 76, 3) := by decide +kernel
theorem dX5_putValue_113 : decode cX5_putValue 113 = .ok (.aload_n 2, 1) := by decide +kernel
theorem dX5_putValue_114 : decode cX5_putValue 114 = .ok (.iload_n 3, 1) := by decide +kernel
theorem dX5_putValue_115 : decode cX5_putValue 115 = .ok (.iconst 1, 1) := by decide +kernel
theorem dX5_putValue_116 : decode cX5_putValue 116 = .ok (.iadd, 1) := by decide +kernel
theorem dX5_putValue_117 : decode cX5_putValue 117 = .ok (.invokevirtual 30, 3) := by decide +kernel
theorem dX5_putValue_120 : decode cX5_putValue 120 = .ok (.iinc 5 1, 3) := by decide +kernel
theorem dX5_putValue_123 : decode cX5_putValue 123 = .ok (.goto (-34), 3) := by decide +kernel
theorem dX5_putValue_126 : decode cX5_putValue 126 = .ok (.goto 30, 3) := by decide +kernel
theorem dX5_putValue_129 : decode cX5_putValue 129 = .ok (.aload_n 1, 1) := by decide +kernel
theorem dX5_putValue_130 : decode cX5_putValue 130 = .ok (.getfield 38, 3) := by decide +kernel
theorem dX5_putValue_133 : decode cX5_putValue 133 = .ok (.getstatic 82, 3) := by decide +kernel
theorem dX5_putValue_136 : decode cX5_putValue 136 = .ok (.if_acmp .ne 20, 3) := by decide +kernel
theorem dX5_putValue_139 : decode cX5_putValue 139 = .ok (.aload_n 0, 1) := by decide +kernel
theorem dX5_putValue_140 : decode cX5_putValue 140 = .ok (.aload_n 1, 1) := by decide +kernel
theorem dX5_putValue_141 : decode cX5_putValue 141 = .ok (.getfield 72, 3) := by decide +kernel
theorem dX5_putValue_144 : decode cX5_putValue 144 = .ok (.iload 4, 2) := by decide +kernel
theorem dX5_putValue_146 : decode cX5_putValue 146 = .ok (.invokevirtual 76, 3) := by decide +kernel
theorem dX5_putValue_149 : decode cX5_putValue 149 = .ok (.aload_n 2, 1) := by decide +kernel
theorem dX5_putValue_150 : decode cX5_putValue 150 = .ok (.iload_n 3, 1) := by decide +kernel
theorem dX5_putValue_151 : decode cX5_putValue 151 = .ok (.iconst 1, 1) := by decide +kernel
theorem dX5_putValue_152 : decode cX5_putValue 152 = .ok (.iadd, 1) := by decide +kernel
theorem dX5_putValue_153 : decode cX5_putValue 153 = .ok (.invokevirtual 30, 3) := by decide +kernel
theorem dX5_putValue_156 : decode cX5_putValue 156 = .ok (.return_, 1) := by decide +kernel
set_option maxRecDepth 20000 in
theorem ggX5_putSequence_X5_nextParts : GoodIn wsX5_putSequence wsX5_nextParts := goodIn_r _ [5, 6, 7, 8, 9, 10, 11, 12, 13, 14, 15, 16, 17, 18, 19, 20, 4, 21, 22, 23, 24, 25, 26, 27, 28, 29, 30, 31, 32, 33, 34, 35, 36, 37, 38, 80, 81, 82, 83, 84, 85, 86, 87, 88, 89, 90, 91, 75, 76, 77, 78, 79] (by decide +kernel) (by decide +kernel)
set_option maxRecDepth 20000 in
theorem gX5_putSequence_X5_nextParts : GoodIn wsX5_putSequence (wsV RX5 85 RX5 yX5_nextParts wsX5_nextParts) := goodIn_app (goodIn_of _ (by decide +kernel)) ggX5_putSequence_X5_nextParts
set_option maxRecDepth 20000 in
theorem ggX5_putSequence_X4_size : GoodIn wsX5_putSequence wsX4_size := goodIn_r _ [10, 11, 90, 91] (by decide +kernel) (by decide +kernel)
set_option maxRecDepth 20000 in
theorem gX5_putSequence_X4_size : GoodIn wsX5_putSequence (wsV RX5 92 RX4 yX4_size wsX4_size) := goodIn_app (goodIn_of _ (by decide +kernel)) ggX5_putSequence_X4_size
set_option maxRecDepth 20000 in
theorem ggX5_putSequence_X5_next : GoodIn wsX5_putSequence wsX5_next := goodIn_r _ [21, 22, 23, 24, 25, 26, 27, 28, 29, 30, 31, 32, 33, 34, 35, 36, 37, 38, 75, 76, 77, 78, 79] (by decide +kernel) (by decide +kernel)
set_option maxRecDepth 20000 in
theorem gX5_putSequence_X5_next : GoodIn wsX5_putSequence (wsV RX5 58 RX5 yX5_next wsX5_next) := goodIn_app (goodIn_of _ (by decide +kernel)) ggX5_putSequence_X5_next
set_option maxRecDepth 20000 in
theorem ggX5_putSequence_X5_put : GoodIn wsX5_putSequence wsX5_put := goodIn_r _ [42, 43, 44, 45, 46, 27, 47, 34, 29, 75, 76, 77, 78, 79] (by decide +kernel) (by decide +kernel)
set_option maxRecDepth 20000 in
theorem gX5_putSequence_X5_put : GoodIn wsX5_putSequence (wsV RX5 65 RX5 yX5_put wsX5_put) := goodIn_app (goodIn_of _ (by decide +kernel)) ggX5_putSequence_X5_put
set_option maxRecDepth 20000 in
theorem ggX5_putSequence_X3_isOptional : GoodIn wsX5_putSequence wsX3_isOptional := goodIn_r _ [16, 17, 80, 81, 82, 83, 84, 85, 86, 87, 88, 89] (by decide +kernel) (by decide +kernel)
set_option maxRecDepth 20000 in
theorem gX5_putSequence_X3_isOptional : GoodIn wsX5_putSequence (wsV RX5 93 RX3 yX3_isOptional wsX3_isOptional) := goodIn_app (goodIn_of _ (by decide +kernel)) ggX5_putSequence_X3_isOptional
set_option maxRecDepth 20000 in
theorem ggX5_putSequence_X4_at : GoodIn wsX5_putSequence wsX4_at := goodIn_r _ [51, 11, 52, 90, 91] (by decide +kernel) (by decide +kernel)
set_option maxRecDepth 20000 in
theorem gX5_putSequence_X4_at : GoodIn wsX5_putSequence (wsV RX5 76 RX4 yX4_at wsX4_at) := goodIn_app (goodIn_of _ (by decide +kernel)) ggX5_putSequence_X4_at
set_option maxRecDepth 20000 in
theorem ggX5_putSequence_X5_putValue : GoodIn wsX5_putSequence wsX5_putValue := goodIn_r _ [68, 23, 22, 69, 70, 71, 72, 73, 74, 4, 18, 19, 20, 21, 24, 25, 26, 27, 28, 29, 30, 31, 32, 33, 34, 35, 36, 37, 38, 39, 40, 41, 42, 43, 44, 45, 46, 47, 48, 49, 50, 9, 51, 11, 52, 53, 54, 55, 59, 60, 61, 62, 63, 64, 65, 66, 67, 0, 1, 2, 3, 5, 6, 7, 8, 10, 12, 13, 14, 15, 16, 17, 56, 57, 58, 75, 76, 77, 78, 79, 80, 81, 82, 83, 84, 85, 86, 87, 88, 89, 90, 91] (by decide +kernel) (by decide +kernel)
set_option maxRecDepth 20000 in
theorem gX5_putSequence_X5_putValue : GoodIn wsX5_putSequence (wsV RX5 30 RX5 yX5_putValue wsX5_putValue) := goodIn_app (goodIn_of _ (by decide +kernel)) ggX5_putSequence_X5_putValue
set_option maxRecDepth 20000 in
theorem ggX5_putSequence_X5_putAddition : GoodIn wsX5_putSequence wsX5_putAddition := goodIn_r _ [59, 43, 60, 61, 62, 27, 63, 34, 39, 40, 41, 4, 42, 44, 45, 46, 47, 29, 53, 54, 55, 64, 65, 66, 67, 30, 31, 32, 33, 0, 1, 2, 3, 5, 6, 7, 8, 9, 10, 11, 12, 13, 14, 15, 16, 17, 18, 19, 20, 21, 22, 23, 24, 25, 26, 28, 35, 36, 37, 38, 48, 49, 50, 51, 52, 56, 57, 58, 68, 69, 70, 71, 72, 73, 74, 75, 76, 77, 78, 79, 80, 81, 82, 83, 84, 85, 86, 87, 88, 89, 90, 91] (by decide +kernel) (by decide +kernel)
set_option maxRecDepth 20000 in
theorem gX5_putSequence_X5_putAddition : GoodIn wsX5_putSequence (wsV RX5 97 RX5 yX5_putAddition wsX5_putAddition) := goodIn_app (goodIn_of _ (by decide +kernel)) ggX5_putSequence_X5_putAddition
theorem dX5_putSequence_0 : decode cX5_putSequence 0 = .ok (.aload_n 0, 1) := by decide +kernel
theorem dX5_putSequence_1 : decode cX5_putSequence 1 = .ok (.aload_n 1, 1) := by decide +kernel
theorem dX5_putSequence_2 : decode cX5_putSequence 2 = .ok (.aload_n 2, 1) := by decide +kernel
theorem dX5_putSequence_3 : decode cX5_putSequence 3 = .ok (.invokevirtual 85, 3) := by decide +kernel
theorem dX5_putSequence_6 : decode cX5_putSequence 6 = .ok (.istore 4, 2) := by decide +kernel
theorem dX5_putSequence_8 : decode cX5_putSequence 8 = .ok (.aload_n 0, 1) := by decide +kernel
theorem dX5_putSequence_9 : decode cX5_putSequence 9 = .ok (.aload_n 2, 1) := by decide +kernel
theorem dX5_putSequence_10 : decode cX5_putSequence 10 = .ok (.iconst 0, 1) := by decide +kernel
theorem dX5_putSequence_11 : decode cX5_putSequence 11 = .ok (.aload_n 1, 1) := by decide +kernel
theorem dX5_putSequence_12 : decode cX5_putSequence 12 = .ok (.getfield 89, 3) := by decide +kernel
theorem dX5_putSequence_15 : decode cX5_putSequence 15 = .ok (.invokevirtual 92, 3) := by decide +kernel
theorem dX5_putSequence_18 : decode cX5_putSequence 18 = .ok (.invokevirtual 58, 3) := by decide +kernel
theorem dX5_putSequence_21 : decode cX5_putSequence 21 = .ok (.istore 5, 2) := by decide +kernel
theorem dX5_putSequence_23 : decode cX5_putSequence 23 = .ok (.aload_n 0, 1) := by decide +kernel
theorem dX5_putSequence_24 : decode cX5_putSequence 24 = .ok (.iload 5, 2) := by decide +kernel
theorem dX5_putSequence_26 : decode cX5_putSequence 26 = .ok (.ifCond .le 7, 3) := by decide +kernel
theorem dX5_putSequence_29 : decode cX5_putSequence 29 = .ok (.iconst 1, 1) := by decide +kernel
theorem dX5_putSequence_30 : decode cX5_putSequence 30 = .ok (.goto 4, 3) := by decide +kernel
theorem dX5_putSequence_33 : decode cX5_putSequence 33 = .ok (.iconst 0, 1) := by decide +kernel
theorem dX5_putSequence_34 : decode cX5_putSequence 34 = .ok (.iconst 1, 1) := by decide +kernel
theorem dX5_putSequence_35 : decode cX5_putSequence 35 = .ok (.invokevirtual 65, 3) := by decide +kernel
theorem dX5_putSequence_38 : decode cX5_putSequence 38 = .ok (.iconst 0, 1) := by decide +kernel
theorem dX5_putSequence_39 : decode cX5_putSequence 39 = .ok (.istore 6, 2) := by decide +kernel
theorem dX5_putSequence_41 : decode cX5_putSequence 41 = .ok (.iload 6, 2) := by decide +kernel
theorem dX5_putSequence_43 : decode cX5_putSequence 43 = .ok (.aload_n 1, 1) := by decide +kernel
theorem dX5_putSequence_44 : decode cX5_putSequence 44 = .ok (.getfield 72, 3) := by decide +kernel
theorem dX5_putSequence_47 : decode cX5_putSequence 47 = .ok (.invokevirtual 92, 3) := by decide +kernel
theorem dX5_putSequence_50 : decode cX5_putSequence 50 = .ok (.if_icmp .ge 30, 3) := by decide +kernel
theorem dX5_putSequence_53 : decode cX5_putSequence 53 = .ok (.aload_n 1, 1) := by decide +kernel
theorem dX5_putSequence_54 : decode cX5_putSequence 54 = .ok (.iload 6, 2) := by decide +kernel
theorem dX5_putSequence_56 : decode cX5_putSequence 56 = .ok (.invokevirtual 93, 3) := by decide +kernel
theorem dX5_putSequence_59 : decode cX5_putSequence 59 = .ok (.ifCond .eq 15, 3) := by decide +kernel
theorem dX5_putSequence_62 : decode cX5_putSequence 62 = .ok (.aload_n 0, 1) := by decide +kernel
theorem dX5_putSequence_63 : decode cX5_putSequence 63 = .ok (.iload 4, 2) := by decide +kernel
theorem dX5_putSequence_65 : decode cX5_putSequence 65 = .ok (.iload 6, 2) := by decide +kernel
theorem dX5_putSequence_67 : decode cX5_putSequence 67 = .ok (.ishr, 1) := by decide +kernel
theorem dX5_putSequence_68 : decode cX5_putSequence 68 = .ok (.iconst 1, 1) := by decide +kernel
theorem dX5_putSequence_69 : decode cX5_putSequence 69 = .ok (.iand, 1) := by decide +kernel
theorem dX5_putSequence_70 : decode cX5_putSequence 70 = .ok (.iconst 1, 1) := by decide +kernel
theorem dX5_putSequence_71 : decode cX5_putSequence 71 = .ok (.invokevirtual 65, 3) := by decide +kernel
theorem dX5_putSequence_74 : decode cX5_putSequence 74 = .ok (.iinc 6 1, 3) := by decide +kernel
theorem dX5_putSequence_77 : decode cX5_putSequence 77 = .ok (.goto (-36), 3) := by decide +kernel
theorem dX5_putSequence_80 : decode cX5_putSequence 80 = .ok (.iconst 0, 1) := by decide +kernel
theorem dX5_putSequence_81 : decode cX5_putSequence 81 = .ok (.istore 6, 2) := by decide +kernel
theorem dX5_putSequence_83 : decode cX5_putSequence 83 = .ok (.iload 6, 2) := by decide +kernel
theorem dX5_putSequence_85 : decode cX5_putSequence 85 = .ok (.aload_n 1, 1) := by decide +kernel
theorem dX5_putSequence_86 : decode cX5_putSequence 86 = .ok (.getfield 72, 3) := by decide +kernel
theorem dX5_putSequence_89 : decode cX5_putSequence 89 = .ok (.invokevirtual 92, 3) := by decide +kernel
theorem dX5_putSequence_92 : decode cX5_putSequence 92 = .ok (.if_icmp .ge 37, 3) := by decide +kernel
theorem dX5_putSequence_95 : decode cX5_putSequence 95 = .ok (.iload 4, 2) := by decide +kernel
theorem dX5_putSequence_97 : decode cX5_putSequence 97 = .ok (.iload 6, 2) := by decide +kernel
theorem dX5_putSequence_99 : decode cX5_putSequence 99 = .ok (.ishr, 1) := by decide +kernel
theorem dX5_putSequence_100 : decode cX5_putSequence 100 = .ok (.iconst 1, 1) := by decide +kernel
theorem dX5_putSequence_101 : decode cX5_putSequence 101 = .ok (.iand, 1) := by decide +kernel
theorem dX5_putSequence_102 : decode cX5_putSequence 102 = .ok (.iconst 1, 1) := by decide +kernel
theorem dX5_putSequence_103 : decode cX5_putSequence 103 = .ok (.if_icmp .ne 20, 3) := by decide +kernel
theorem dX5_putSequence_106 : decode cX5_putSequence 106 = .ok (.aload_n 0, 1) := by decide +kernel
theorem dX5_putSequence_107 : decode cX5_putSequence 107 = .ok (.aload_n 1, 1) := by decide +kernel
theorem dX5_putSequence_108 : decode cX5_putSequence 108 = .ok (.getfield 72, 3) := by decide +kernel
theorem dX5_putSequence_111 : decode cX5_putSequence 111 = .ok (.iload 6, 2) := by decide +kernel
theorem dX5_putSequence_113 : decode cX5_putSequence 113 = .ok (.invokevirtual 76, 3) := by decide +kernel
theorem dX5_putSequence_116 : decode cX5_putSequence 116 = .ok (.aload_n 2, 1) := by decide +kernel
theorem dX5_putSequence_117 : decode cX5_putSequence 117 = .ok (.iload_n 3, 1) := by decide +kernel
theorem dX5_putSequence_118 : decode cX5_putSequence 118 = .ok (.iconst 1, 1) := by decide +kernel
theorem dX5_putSequence_119 : decode cX5_putSequence 119 = .ok (.iadd, 1) := by decide +kernel
theorem dX5_putSequence_120 : decode cX5_putSequence 120 = .ok (.invokevirtual 30, 3) := by decide +kernel
theorem dX5_putSequence_123 : decode cX5_putSequence 123 = .ok (.iinc 6 1, 3) := by decide +kernel
theorem dX5_putSequence_126 : decode cX5_putSequence 126 = .ok (.goto (-43), 3) := by decide +kernel
theorem dX5_putSequence_129 : decode cX5_putSequence 129 = .ok (.iload 5, 2) := by decide +kernel
theorem dX5_putSequence_131 : decode cX5_putSequence 131 = .ok (.ifCond .le 12, 3) := by decide +kernel
theorem dX5_putSequence_134 : decode cX5_putSequence 134 = .ok (.aload_n 0, 1) := by decide +kernel
theorem dX5_putSequence_135 : decode cX5_putSequence 135 = .ok (.iload 5, 2) := by decide +kernel
theorem dX5_putSequence_137 : decode cX5_putSequence 137 = .ok (.iconst 1, 1) := by decide +kernel
theorem dX5_putSequence_138 : decode cX5_putSequence 138 = .ok (.isub, 1) := by decide +kernel
theorem dX5_putSequence_139 : decode cX5_putSequence 139 = .ok (.iconst 2, 1) := by decide +kernel
theorem dX5_putSequence_140 : decode cX5_putSequence 140 = .ok (.invokevirtual 65, 3) := by decide +kernel
theorem dX5_putSequence_143 : decode cX5_putSequence 143 = .ok (.iconst 0, 1) := by decide +kernel
theorem dX5_putSequence_144 : decode cX5_putSequence 144 = .ok (.istore 6, 2) := by decide +kernel
theorem dX5_putSequence_146 : decode cX5_putSequence 146 = .ok (.iload 6, 2) := by decide +kernel
theorem dX5_putSequence_148 : decode cX5_putSequence 148 = .ok (.iload 5, 2) := by decide +kernel
theorem dX5_putSequence_150 : decode cX5_putSequence 150 = .ok (.if_icmp .ge 24, 3) := by decide +kernel
theorem dX5_putSequence_153 : decode cX5_putSequence 153 = .ok (.aload_n 0, 1) := by decide +kernel
theorem dX5_putSequence_154 : decode cX5_putSequence 154 = .ok (.aload_n 1, 1) := by decide +kernel
theorem dX5_putSequence_155 : decode cX5_putSequence 155 = .ok (.getfield 89, 3) := by decide +kernel
theorem dX5_putSequence_158 : decode cX5_putSequence 158 = .ok (.iload 6, 2) := by decide +kernel
theorem dX5_putSequence_160 : decode cX5_putSequence 160 = .ok (.invokevirtual 76, 3) := by decide +kernel
theorem dX5_putSequence_163 : decode cX5_putSequence 163 = .ok (.aload_n 2, 1) := by decide +kernel
theorem dX5_putSequence_164 : decode cX5_putSequence 164 = .ok (.iload_n 3, 1) := by decide +kernel
theorem dX5_putSequence_165 : decode cX5_putSequence 165 = .ok (.invokevirtual 97, 3) := by decide +kernel
theorem dX5_putSequence_168 : decode cX5_putSequence 168 = .ok (.iinc 6 1, 3) := by decide +kernel
theorem dX5_putSequence_171 : decode cX5_putSequence 171 = .ok (.goto (-25), 3) := by decide +kernel
theorem dX5_putSequence_174 : decode cX5_putSequence 174 = .ok (.return_, 1) := by decide +kernel
set_option maxRecDepth 20000 in
theorem ggX5_nextParts_X4_size : GoodIn wsX5_nextParts wsX4_size := goodIn_r _ [5, 6, 45, 46] (by decide +kernel) (by decide +kernel)
set_option maxRecDepth 20000 in
theorem gX5_nextParts_X4_size : GoodIn wsX5_nextParts (wsV RX5 92 RX4 yX4_size wsX4_size) := goodIn_app (goodIn_of _ (by decide +kernel)) ggX5_nextParts_X4_size
set_option maxRecDepth 20000 in
theorem ggX5_nextParts_X3_isOptional : GoodIn wsX5_nextParts wsX3_isOptional := goodIn_r _ [11, 12, 35, 36, 37, 38, 39, 40, 41, 42, 43, 44] (by decide +kernel) (by decide +kernel)
set_option maxRecDepth 20000 in
theorem gX5_nextParts_X3_isOptional : GoodIn wsX5_nextParts (wsV RX5 93 RX3 yX3_isOptional wsX3_isOptional) := goodIn_app (goodIn_of _ (by decide +kernel)) ggX5_nextParts_X3_isOptional
set_option maxRecDepth 20000 in
theorem ggX5_nextParts_X5_next : GoodIn wsX5_nextParts wsX5_next := goodIn_r _ [17, 18, 19, 20, 21, 22, 23, 24, 25, 26, 27, 28, 29, 30, 31, 32, 33, 34, 47, 48, 49, 50, 51] (by decide +kernel) (by decide +kernel)
set_option maxRecDepth 20000 in
theorem gX5_nextParts_X5_next : GoodIn wsX5_nextParts (wsV RX5 58 RX5 yX5_next wsX5_next) := goodIn_app (goodIn_of _ (by decide +kernel)) ggX5_nextParts_X5_next
theorem dX5_nextParts_0 : decode cX5_nextParts 0 = .ok (.iconst 0, 1) := by decide +kernel
theorem dX5_nextParts_1 : decode cX5_nextParts 1 = .ok (.istore_n 3, 1) := by decide +kernel
theorem dX5_nextParts_2 : decode cX5_nextParts 2 = .ok (.iconst 0, 1) := by decide +kernel
theorem dX5_nextParts_3 : decode cX5_nextParts 3 = .ok (.istore 4, 2) := by decide +kernel
theorem dX5_nextParts_5 : decode cX5_nextParts 5 = .ok (.iload 4, 2) := by decide +kernel
theorem dX5_nextParts_7 : decode cX5_nextParts 7 = .ok (.aload_n 1, 1) := by decide +kernel
theorem dX5_nextParts_8 : decode cX5_nextParts 8 = .ok (.getfield 72, 3) := by decide +kernel
theorem dX5_nextParts_11 : decode cX5_nextParts 11 = .ok (.invokevirtual 92, 3) := by decide +kernel
theorem dX5_nextParts_14 : decode cX5_nextParts 14 = .ok (.if_icmp .ge 35, 3) := by decide +kernel
theorem dX5_nextParts_17 : decode cX5_nextParts 17 = .ok (.iload_n 3, 1) := by decide +kernel
theorem dX5_nextParts_18 : decode cX5_nextParts 18 = .ok (.aload_n 1, 1) := by decide +kernel
theorem dX5_nextParts_19 : decode cX5_nextParts 19 = .ok (.iload 4, 2) := by decide +kernel
theorem dX5_nextParts_21 : decode cX5_nextParts 21 = .ok (.invokevirtual 93, 3) := by decide +kernel
theorem dX5_nextParts_24 : decode cX5_nextParts 24 = .ok (.ifCond .eq 13, 3) := by decide +kernel
theorem dX5_nextParts_27 : decode cX5_nextParts 27 = .ok (.aload_n 0, 1) := by decide +kernel
theorem dX5_nextParts_28 : decode cX5_nextParts 28 = .ok (.aload_n 2, 1) := by decide +kernel
theorem dX5_nextParts_29 : decode cX5_nextParts 29 = .ok (.iconst 0, 1) := by decide +kernel
theorem dX5_nextParts_30 : decode cX5_nextParts 30 = .ok (.iconst 1, 1) := by decide +kernel
theorem dX5_nextParts_31 : decode cX5_nextParts 31 = .ok (.invokevirtual 58, 3) := by decide +kernel
theorem dX5_nextParts_34 : decode cX5_nextParts 34 = .ok (.goto 4, 3) := by decide +kernel
theorem dX5_nextParts_37 : decode cX5_nextParts 37 = .ok (.iconst 1, 1) := by decide +kernel
theorem dX5_nextParts_38 : decode cX5_nextParts 38 = .ok (.iload 4, 2) := by decide +kernel
theorem dX5_nextParts_40 : decode cX5_nextParts 40 = .ok (.ishl, 1) := by decide +kernel
theorem dX5_nextParts_41 : decode cX5_nextParts 41 = .ok (.ior, 1) := by decide +kernel
theorem dX5_nextParts_42 : decode cX5_nextParts 42 = .ok (.istore_n 3, 1) := by decide +kernel
theorem dX5_nextParts_43 : decode cX5_nextParts 43 = .ok (.iinc 4 1, 3) := by decide +kernel
theorem dX5_nextParts_46 : decode cX5_nextParts 46 = .ok (.goto (-41), 3) := by decide +kernel
theorem dX5_nextParts_49 : decode cX5_nextParts 49 = .ok (.iload_n 3, 1) := by decide +kernel
theorem dX5_nextParts_50 : decode cX5_nextParts 50 = .ok (.ireturn, 1) := by decide +kernel
set_option maxRecDepth 20000 in
theorem ggX5_putAddition_X2_size : GoodIn wsX5_putAddition wsX2_size := goodIn_r _ [6, 7, 78, 79] (by decide +kernel) (by decide +kernel)
set_option maxRecDepth 20000 in
theorem gX5_putAddition_X2_size : GoodIn wsX5_putAddition (wsV RX5 34 RX2 yX2_size wsX2_size) := goodIn_app (goodIn_of _ (by decide +kernel)) ggX5_putAddition_X2_size
set_option maxRecDepth 20000 in
theorem ggX5_putAddition_X5_put : GoodIn wsX5_putAddition wsX5_put := goodIn_r _ [12, 1, 13, 14, 15, 5, 16, 7, 17, 75, 76, 77, 78, 79] (by decide +kernel) (by decide +kernel)
set_option maxRecDepth 20000 in
theorem gX5_putAddition_X5_put : GoodIn wsX5_putAddition (wsV RX5 65 RX5 yX5_put wsX5_put) := goodIn_app (goodIn_of _ (by decide +kernel)) ggX5_putAddition_X5_put
set_option maxRecDepth 20000 in
theorem ggX5_putAddition_X5_putValue : GoodIn wsX5_putAddition wsX5_putValue := goodIn_r _ [68, 51, 50, 69, 70, 71, 72, 73, 74, 11, 46, 47, 48, 49, 52, 53, 54, 5, 55, 17, 25, 26, 27, 28, 7, 56, 57, 58, 59, 8, 9, 10, 12, 1, 13, 14, 15, 16, 60, 61, 62, 37, 63, 39, 64, 18, 19, 20, 0, 2, 3, 4, 6, 21, 22, 23, 24, 29, 30, 31, 32, 33, 34, 35, 36, 38, 40, 41, 42, 43, 44, 45, 65, 66, 67, 75, 76, 77, 78, 79, 80, 81, 82, 83, 84, 85, 86, 87, 88, 89, 90, 91] (by decide +kernel) (by decide +kernel)
set_option maxRecDepth 20000 in
theorem gX5_putAddition_X5_putValue : GoodIn wsX5_putAddition (wsV RX5 30 RX5 yX5_putValue wsX5_putValue) := goodIn_app (goodIn_of _ (by decide +kernel)) ggX5_putAddition_X5_putValue
set_option maxRecDepth 20000 in
theorem ggX5_putAddition_X2_replace : GoodIn wsX5_putAddition wsX2_replace := goodIn_r _ [24, 17, 25, 26, 27, 5, 28, 7, 78, 79] (by decide +kernel) (by decide +kernel)
set_option maxRecDepth 20000 in
theorem gX5_putAddition_X2_replace : GoodIn wsX5_putAddition (wsV RX5 100 RX2 yX2_replace wsX2_replace) := goodIn_app (goodIn_of _ (by decide +kernel)) ggX5_putAddition_X2_replace
theorem dX5_putAddition_0 : decode cX5_putAddition 0 = .ok (.aload_n 0, 1) := by decide +kernel
theorem dX5_putAddition_1 : decode cX5_putAddition 1 = .ok (.getfield 14, 3) := by decide +kernel
theorem dX5_putAddition_4 : decode cX5_putAddition 4 = .ok (.invokevirtual 34, 3) := by decide +kernel
theorem dX5_putAddition_7 : decode cX5_putAddition 7 = .ok (.istore 4, 2) := by decide +kernel
theorem dX5_putAddition_9 : decode cX5_putAddition 9 = .ok (.aload_n 0, 1) := by decide +kernel
theorem dX5_putAddition_10 : decode cX5_putAddition 10 = .ok (.iconst 0, 1) := by decide +kernel
theorem dX5_putAddition_11 : decode cX5_putAddition 11 = .ok (.bipush 8, 2) := by decide +kernel
theorem dX5_putAddition_13 : decode cX5_putAddition 13 = .ok (.invokevirtual 65, 3) := by decide +kernel
theorem dX5_putAddition_16 : decode cX5_putAddition 16 = .ok (.aload_n 0, 1) := by decide +kernel
theorem dX5_putAddition_17 : decode cX5_putAddition 17 = .ok (.getfield 14, 3) := by decide +kernel
theorem dX5_putAddition_20 : decode cX5_putAddition 20 = .ok (.invokevirtual 34, 3) := by decide +kernel
theorem dX5_putAddition_23 : decode cX5_putAddition 23 = .ok (.istore 5, 2) := by decide +kernel
theorem dX5_putAddition_25 : decode cX5_putAddition 25 = .ok (.aload_n 0, 1) := by decide +kernel
theorem dX5_putAddition_26 : decode cX5_putAddition 26 = .ok (.aload_n 1, 1) := by decide +kernel
theorem dX5_putAddition_27 : decode cX5_putAddition 27 = .ok (.aload_n 2, 1) := by decide +kernel
theorem dX5_putAddition_28 : decode cX5_putAddition 28 = .ok (.iload_n 3, 1) := by decide +kernel
theorem dX5_putAddition_29 : decode cX5_putAddition 29 = .ok (.iconst 1, 1) := by decide +kernel
theorem dX5_putAddition_30 : decode cX5_putAddition 30 = .ok (.iadd, 1) := by decide +kernel
theorem dX5_putAddition_31 : decode cX5_putAddition 31 = .ok (.invokevirtual 30, 3) := by decide +kernel
theorem dX5_putAddition_34 : decode cX5_putAddition 34 = .ok (.aload_n 0, 1) := by decide +kernel
theorem dX5_putAddition_35 : decode cX5_putAddition 35 = .ok (.getfield 14, 3) := by decide +kernel
theorem dX5_putAddition_38 : decode cX5_putAddition 38 = .ok (.invokevirtual 34, 3) := by decide +kernel
theorem dX5_putAddition_41 : decode cX5_putAddition 41 = .ok (.iload 5, 2) := by decide +kernel
theorem dX5_putAddition_43 : decode cX5_putAddition 43 = .ok (.isub, 1) := by decide +kernel
theorem dX5_putAddition_44 : decode cX5_putAddition 44 = .ok (.istore 6, 2) := by decide +kernel
theorem dX5_putAddition_46 : decode cX5_putAddition 46 = .ok (.iconst 0, 1) := by decide +kernel
theorem dX5_putAddition_47 : decode cX5_putAddition 47 = .ok (.istore 7, 2) := by decide +kernel
theorem dX5_putAddition_49 : decode cX5_putAddition 49 = .ok (.iload 7, 2) := by decide +kernel
theorem dX5_putAddition_51 : decode cX5_putAddition 51 = .ok (.bipush 8, 2) := by decide +kernel
theorem dX5_putAddition_53 : decode cX5_putAddition 53 = .ok (.if_icmp .ge 31, 3) := by decide +kernel
theorem dX5_putAddition_56 : decode cX5_putAddition 56 = .ok (.aload_n 0, 1) := by decide +kernel
theorem dX5_putAddition_57 : decode cX5_putAddition 57 = .ok (.getfield 14, 3) := by decide +kernel
theorem dX5_putAddition_60 : decode cX5_putAddition 60 = .ok (.iload 4, 2) := by decide +kernel
theorem dX5_putAddition_62 : decode cX5_putAddition 62 = .ok (.iload 7, 2) := by decide +kernel
theorem dX5_putAddition_64 : decode cX5_putAddition 64 = .ok (.iadd, 1) := by decide +kernel
theorem dX5_putAddition_65 : decode cX5_putAddition 65 = .ok (.iload 6, 2) := by decide +kernel
theorem dX5_putAddition_67 : decode cX5_putAddition 67 = .ok (.bipush 7, 2) := by decide +kernel
theorem dX5_putAddition_69 : decode cX5_putAddition 69 = .ok (.iload 7, 2) := by decide +kernel
theorem dX5_putAddition_71 : decode cX5_putAddition 71 = .ok (.isub, 1) := by decide +kernel
theorem dX5_putAddition_72 : decode cX5_putAddition 72 = .ok (.ishr, 1) := by decide +kernel
theorem dX5_putAddition_73 : decode cX5_putAddition 73 = .ok (.iconst 1, 1) := by decide +kernel
theorem dX5_putAddition_74 : decode cX5_putAddition 74 = .ok (.iand, 1) := by decide +kernel
theorem dX5_putAddition_75 : decode cX5_putAddition 75 = .ok (.invokevirtual 100, 3) := by decide +kernel
theorem dX5_putAddition_78 : decode cX5_putAddition 78 = .ok (.iinc 7 1, 3) := by decide +kernel
theorem dX5_putAddition_81 : decode cX5_putAddition 81 = .ok (.goto (-32), 3) := by decide +kernel
theorem dX5_putAddition_84 : decode cX5_putAddition 84 = .ok (.return_, 1) := by decide +kernel
set_option maxRecDepth 20000 in
theorem ggX5_next_X2_at : GoodIn wsX5_next wsX2_at := goodIn_r _ [7, 8, 9, 10, 11, 6, 12, 13, 21, 22] (by decide +kernel) (by decide +kernel)
set_option maxRecDepth 20000 in
theorem gX5_next_X2_at : GoodIn wsX5_next (wsV RX5 103 RX2 yX2_at wsX2_at) := goodIn_app (goodIn_of _ (by decide +kernel)) ggX5_next_X2_at
set_option maxRecDepth 20000 in
theorem ggX5_next_X2_has : GoodIn wsX5_next wsX2_has := goodIn_r _ [12, 13, 8, 21, 22] (by decide +kernel) (by decide +kernel)
set_option maxRecDepth 20000 in
theorem gX5_next_X2_has : GoodIn wsX5_next (wsV RX5 106 RX2 yX2_has wsX2_has) := goodIn_app (goodIn_of _ (by decide +kernel)) ggX5_next_X2_has
set_option maxRecDepth 20000 in
theorem ggX5_next_X6_isOutside : GoodIn wsX5_next wsX6_isOutside := goodIn_r _ [17] (by decide +kernel) (by decide +kernel)
set_option maxRecDepth 20000 in
theorem gX5_next_X6_isOutside_n109 : GoodIn wsX5_next (wsX6_isOutside) := ggX5_next_X6_isOutside
theorem dX5_next_0 : decode cX5_next 0 = .ok (.aload_n 1, 1) := by decide +kernel
theorem dX5_next_1 : decode cX5_next 1 = .ok (.aload_n 0, 1) := by decide +kernel
theorem dX5_next_2 : decode cX5_next 2 = .ok (.getfield 20, 3) := by decide +kernel
theorem dX5_next_5 : decode cX5_next 5 = .ok (.invokevirtual 103, 3) := by decide +kernel
theorem dX5_next_8 : decode cX5_next 8 = .ok (.istore 4, 2) := by decide +kernel
theorem dX5_next_10 : decode cX5_next 10 = .ok (.aload_n 0, 1) := by decide +kernel
theorem dX5_next_11 : decode cX5_next 11 = .ok (.getfield 24, 3) := by decide +kernel
theorem dX5_next_14 : decode cX5_next 14 = .ok (.iconst (-1), 1) := by decide +kernel
theorem dX5_next_15 : decode cX5_next 15 = .ok (.if_icmp .ne 32, 3) := by decide +kernel
theorem dX5_next_18 : decode cX5_next 18 = .ok (.aload_n 1, 1) := by decide +kernel
theorem dX5_next_19 : decode cX5_next 19 = .ok (.aload_n 0, 1) := by decide +kernel
theorem dX5_next_20 : decode cX5_next 20 = .ok (.getfield 20, 3) := by decide +kernel
theorem dX5_next_23 : decode cX5_next 23 = .ok (.invokevirtual 106, 3) := by decide +kernel
theorem dX5_next_26 : decode cX5_next 26 = .ok (.ifCond .eq 13, 3) := by decide +kernel
theorem dX5_next_29 : decode cX5_next 29 = .ok (.iload 4, 2) := by decide +kernel
theorem dX5_next_31 : decode cX5_next 31 = .ok (.iload_n 2, 1) := by decide +kernel
theorem dX5_next_32 : decode cX5_next 32 = .ok (.iload_n 3, 1) := by decide +kernel
theorem dX5_next_33 : decode cX5_next 33 = .ok (.invokestatic 109, 3) := by decide +kernel
theorem dX5_next_36 : decode cX5_next 36 = .ok (.ifCond .eq 11, 3) := by decide +kernel
theorem dX5_next_39 : decode cX5_next 39 = .ok (.aload_n 0, 1) := by decide +kernel
theorem dX5_next_40 : decode cX5_next 40 = .ok (.aload_n 0, 1) := by decide +kernel
theorem dX5_next_41 : decode cX5_next 41 = .ok (.getfield 20, 3) := by decide +kernel
theorem dX5_next_44 : decode cX5_next 44 = .ok (.putfield 24, 3) := by decide +kernel
theorem dX5_next_47 : decode cX5_next 47 = .ok (.aload_n 0, 1) := by decide +kernel
theorem dX5_next_48 : decode cX5_next 48 = .ok (.getfield 24, 3) := by decide +kernel
theorem dX5_next_51 : decode cX5_next 51 = .ok (.iconst (-1), 1) := by decide +kernel
theorem dX5_next_52 : decode cX5_next 52 = .ok (.if_icmp .eq 5, 3) := by decide +kernel
theorem dX5_next_55 : decode cX5_next 55 = .ok (.iload_n 2, 1) := by decide +kernel
theorem dX5_next_56 : decode cX5_next 56 = .ok (.ireturn, 1) := by decide +kernel
theorem dX5_next_57 : decode cX5_next 57 = .ok (.aload_n 0, 1) := by decide +kernel
theorem dX5_next_58 : decode cX5_next 58 = .ok (.dup, 1) := by decide +kernel
theorem dX5_next_59 : decode cX5_next 59 = .ok (.getfield 20, 3) := by decide +kernel
theorem dX5_next_62 : decode cX5_next 62 = .ok (.iconst 1, 1) := by decide +kernel
theorem dX5_next_63 : decode cX5_next 63 = .ok (.iadd, 1) := by decide +kernel
theorem dX5_next_64 : decode cX5_next 64 = .ok (.putfield 20, 3) := by decide +kernel
theorem dX5_next_67 : decode cX5_next 67 = .ok (.iload 4, 2) := by decide +kernel
theorem dX5_next_69 : decode cX5_next 69 = .ok (.ireturn, 1) := by decide +kernel
set_option maxRecDepth 20000 in
theorem ggX5_put_X2_append : GoodIn wsX5_put wsX2_append := goodIn_r _ [6, 7, 8, 12, 13] (by decide +kernel) (by decide +kernel)
set_option maxRecDepth 20000 in
theorem gX5_put_X2_append : GoodIn wsX5_put (wsV RX5 113 RX2 yX2_append wsX2_append) := goodIn_app (goodIn_of _ (by decide +kernel)) ggX5_put_X2_append
theorem dX5_put_0 : decode cX5_put 0 = .ok (.iload_n 2, 1) := by decide +kernel
theorem dX5_put_1 : decode cX5_put 1 = .ok (.iconst 1, 1) := by decide +kernel
theorem dX5_put_2 : decode cX5_put 2 = .ok (.isub, 1) := by decide +kernel
theorem dX5_put_3 : decode cX5_put 3 = .ok (.istore_n 3, 1) := by decide +kernel
theorem dX5_put_4 : decode cX5_put 4 = .ok (.iload_n 3, 1) := by decide +kernel
theorem dX5_put_5 : decode cX5_put 5 = .ok (.ifCond .lt 21, 3) := by decide +kernel
theorem dX5_put_8 : decode cX5_put 8 = .ok (.aload_n 0, 1) := by decide +kernel
theorem dX5_put_9 : decode cX5_put 9 = .ok (.getfield 14, 3) := by decide +kernel
theorem dX5_put_12 : decode cX5_put 12 = .ok (.iload_n 1, 1) := by decide +kernel
theorem dX5_put_13 : decode cX5_put 13 = .ok (.iload_n 3, 1) := by decide +kernel
theorem dX5_put_14 : decode cX5_put 14 = .ok (.ishr, 1) := by decide +kernel
theorem dX5_put_15 : decode cX5_put 15 = .ok (.iconst 1, 1) := by decide +kernel
theorem dX5_put_16 : decode cX5_put 16 = .ok (.iand, 1) := by decide +kernel
theorem dX5_put_17 : decode cX5_put 17 = .ok (.invokevirtual 113, 3) := by decide +kernel
theorem dX5_put_20 : decode cX5_put 20 = .ok (.iinc 3 (-1), 3) := by decide +kernel
theorem dX5_put_23 : decode cX5_put 23 = .ok (.goto (-19), 3) := by decide +kernel
theorem dX5_put_26 : decode cX5_put 26 = .ok (.return_, 1) := by decide +kernel
set_option maxRecDepth 20000 in
theorem ggX6_init_X4_init : GoodIn wsX6_init wsX4_init := goodIn_r _ [25, 26, 2, 3, 27, 28, 29, 30, 31, 32, 33, 59, 60] (by decide +kernel) (by decide +kernel)
set_option maxRecDepth 20000 in
theorem gX6_init_X4_init : GoodIn wsX6_init (wsX4_init) := ggX6_init_X4_init
set_option maxRecDepth 20000 in
theorem ggX6_init_X2_init : GoodIn wsX6_init wsX2_init := goodIn_r _ [36, 37, 2, 3, 38, 39, 29, 30, 31, 40, 41, 68, 69] (by decide +kernel) (by decide +kernel)
set_option maxRecDepth 20000 in
theorem gX6_init_X2_init : GoodIn wsX6_init (wsX2_init) := ggX6_init_X2_init
set_option maxRecDepth 20000 in
theorem ggX6_init_X5_init : GoodIn wsX6_init wsX5_init := goodIn_r _ [43, 44, 2, 3, 45, 9, 10, 46, 47, 48, 49, 35, 36, 37, 38, 39, 29, 30, 31, 40, 41, 68, 69, 70, 71, 72] (by decide +kernel) (by decide +kernel)
set_option maxRecDepth 20000 in
theorem gX6_init_X5_init_n30 : GoodIn wsX6_init (wsX5_init) := ggX6_init_X5_init
set_option maxRecDepth 20000 in
theorem ggX6_init_X1_init : GoodIn wsX6_init wsX1_init := goodIn_r _ [51, 52, 2, 3, 53, 9, 10, 54, 55, 56, 57, 58, 35, 36, 37, 38, 39, 29, 30, 31, 40, 41, 68, 69, 73, 74, 75, 76] (by decide +kernel) (by decide +kernel)
set_option maxRecDepth 20000 in
theorem gX6_init_X1_init_n37 : GoodIn wsX6_init (wsX1_init) := ggX6_init_X1_init
theorem dX6_init_0 : decode cX6_init 0 = .ok (.aload_n 0, 1) := by decide +kernel
theorem dX6_init_1 : decode cX6_init 1 = .ok (.invokespecial 1, 3) := by decide +kernel
theorem dX6_init_4 : decode cX6_init 4 = .ok (.aload_n 0, 1) := by decide +kernel
theorem dX6_init_5 : decode cX6_init 5 = .ok (.new 7, 3) := by decide +kernel
theorem dX6_init_8 : decode cX6_init 8 = .ok (.dup, 1) := by decide +kernel
theorem dX6_init_9 : decode cX6_init 9 = .ok (.bipush 16, 2) := by decide +kernel
theorem dX6_init_11 : decode cX6_init 11 = .ok (.invokespecial 11, 3) := by decide +kernel
theorem dX6_init_14 : decode cX6_init 14 = .ok (.putfield 14, 3) := by decide +kernel
theorem dX6_init_17 : decode cX6_init 17 = .ok (.aload_n 0, 1) := by decide +kernel
theorem dX6_init_18 : decode cX6_init 18 = .ok (.new 18, 3) := by decide +kernel
theorem dX6_init_21 : decode cX6_init 21 = .ok (.dup, 1) := by decide +kernel
theorem dX6_init_22 : decode cX6_init 22 = .ok (.sipush 300, 3) := by decide +kernel
theorem dX6_init_25 : decode cX6_init 25 = .ok (.invokespecial 20, 3) := by decide +kernel
theorem dX6_init_28 : decode cX6_init 28 = .ok (.putfield 21, 3) := by decide +kernel
theorem dX6_init_31 : decode cX6_init 31 = .ok (.aload_n 0, 1) := by decide +kernel
theorem dX6_init_32 : decode cX6_init 32 = .ok (.new 18, 3) := by decide +kernel
theorem dX6_init_35 : decode cX6_init 35 = .ok (.dup, 1) := by decide +kernel
theorem dX6_init_36 : decode cX6_init 36 = .ok (.sipush 240, 3) := by decide +kernel
theorem dX6_init_39 : decode cX6_init 39 = .ok (.invokespecial 20, 3) := by decide +kernel
theorem dX6_init_42 : decode cX6_init 42 = .ok (.putfield 25, 3) := by decide +kernel
theorem dX6_init_45 : decode cX6_init 45 = .ok (.aload_n 0, 1) := by decide +kernel
theorem dX6_init_46 : decode cX6_init 46 = .ok (.new 28, 3) := by decide +kernel
theorem dX6_init_49 : decode cX6_init 49 = .ok (.dup, 1) := by decide +kernel
theorem dX6_init_50 : decode cX6_init 50 = .ok (.invokespecial 30, 3) := by decide +kernel
theorem dX6_init_53 : decode cX6_init 53 = .ok (.putfield 31, 3) := by decide +kernel
theorem dX6_init_56 : decode cX6_init 56 = .ok (.aload_n 0, 1) := by decide +kernel
theorem dX6_init_57 : decode cX6_init 57 = .ok (.new 35, 3) := by decide +kernel
theorem dX6_init_60 : decode cX6_init 60 = .ok (.dup, 1) := by decide +kernel
theorem dX6_init_61 : decode cX6_init 61 = .ok (.invokespecial 37, 3) := by decide +kernel
theorem dX6_init_64 : decode cX6_init 64 = .ok (.putfield 38, 3) := by decide +kernel
theorem dX6_init_67 : decode cX6_init 67 = .ok (.aload_n 0, 1) := by decide +kernel
theorem dX6_init_68 : decode cX6_init 68 = .ok (.new 7, 3) := by decide +kernel
theorem dX6_init_71 : decode cX6_init 71 = .ok (.dup, 1) := by decide +kernel
theorem dX6_init_72 : decode cX6_init 72 = .ok (.bipush 6, 2) := by decide +kernel
theorem dX6_init_74 : decode cX6_init 74 = .ok (.invokespecial 11, 3) := by decide +kernel
theorem dX6_init_77 : decode cX6_init 77 = .ok (.putfield 42, 3) := by decide +kernel
theorem dX6_init_80 : decode cX6_init 80 = .ok (.aload_n 0, 1) := by decide +kernel
theorem dX6_init_81 : decode cX6_init 81 = .ok (.iconst 0, 1) := by decide +kernel
theorem dX6_init_82 : decode cX6_init 82 = .ok (.putfield 45, 3) := by decide +kernel
theorem dX6_init_85 : decode cX6_init 85 = .ok (.return_, 1) := by decide +kernel
set_option maxRecDepth 20000 in
theorem ggX6_addNumber_X6_isOutside : GoodIn wsX6_addNumber wsX6_isOutside := goodIn_r _ [13] (by decide +kernel) (by decide +kernel)
set_option maxRecDepth 20000 in
theorem gX6_addNumber_X6_isOutside : GoodIn wsX6_addNumber (va_wsS RX6 49 yX6_isOutside wsX6_isOutside) := goodIn_app (goodIn_of _ (by decide +kernel)) ggX6_addNumber_X6_isOutside
set_option maxRecDepth 20000 in
theorem ggX6_addNumber_X4_init : GoodIn wsX6_addNumber wsX4_init := goodIn_r _ [16, 17, 18, 19, 20, 21, 22, 23, 24, 25, 26, 110, 111] (by decide +kernel) (by decide +kernel)
set_option maxRecDepth 20000 in
theorem gX6_addNumber_X4_init : GoodIn wsX6_addNumber (wsX4_init) := ggX6_addNumber_X4_init
set_option maxRecDepth 20000 in
theorem ggX6_addNumber_X3_init : GoodIn wsX6_addNumber wsX3_init := goodIn_r _ [29, 30, 18, 19, 31, 32, 33, 34, 35, 36, 37, 38, 39, 40, 8, 9, 41, 42, 43, 12, 44, 45, 15, 16, 17, 20, 21, 22, 23, 24, 25, 26, 100, 101, 102, 103, 104, 105, 106, 107, 108, 109, 110, 111] (by decide +kernel) (by decide +kernel)
set_option maxRecDepth 20000 in
theorem gX6_addNumber_X3_init : GoodIn wsX6_addNumber (wsX3_init) := ggX6_addNumber_X3_init
set_option maxRecDepth 20000 in
theorem ggX6_addNumber_X6_keep : GoodIn wsX6_addNumber wsX6_keep := goodIn_ca (goodIn_r _ [49, 50, 51, 52, 53, 54, 55, 9, 56, 20, 26, 57, 58, 59, 5, 60, 37, 31, 32, 33, 34, 61, 62, 41, 63, 64, 65, 66, 38, 35, 36, 67, 68, 69, 70, 71, 72, 73, 74, 75, 76, 23, 77, 78, 22, 24, 79, 80, 81, 82, 83, 84, 85, 86, 87, 88, 89, 90, 39, 91, 92, 93, 94, 42, 95, 96, 97, 98, 99, 112, 113, 114, 115, 116, 117, 118, 110, 111, 100, 101, 102, 103, 104, 105, 106, 107, 108, 109] (by decide +kernel) (by decide +kernel)) (goodIn_sub (fun _ h => List.mem_cons_of_mem _ (List.mem_append_right _ h)) (by decide +kernel))
set_option maxRecDepth 20000 in
theorem gX6_addNumber_X6_keep : GoodIn wsX6_addNumber (wsV RX6 71 RX6 yX6_keep wsX6_keep) := goodIn_app (goodIn_of _ (by decide +kernel)) ggX6_addNumber_X6_keep
theorem dX6_addNumber_0 : decode cX6_addNumber 0 = .ok (.iload_n 1, 1) := by decide +kernel
theorem dX6_addNumber_1 : decode cX6_addNumber 1 = .ok (.sipush (-1000), 3) := by decide +kernel
theorem dX6_addNumber_4 : decode cX6_addNumber 4 = .ok (.sipush 1000, 3) := by decide +kernel
theorem dX6_addNumber_7 : decode cX6_addNumber 7 = .ok (.invokestatic 49, 3) := by decide +kernel
theorem dX6_addNumber_10 : decode cX6_addNumber 10 = .ok (.ifCond .ne 14, 3) := by decide +kernel
theorem dX6_addNumber_13 : decode cX6_addNumber 13 = .ok (.iload_n 2, 1) := by decide +kernel
theorem dX6_addNumber_14 : decode cX6_addNumber 14 = .ok (.iload_n 1, 1) := by decide +kernel
theorem dX6_addNumber_15 : decode cX6_addNumber 15 = .ok (.sipush 1000, 3) := by decide +kernel
theorem dX6_addNumber_18 : decode cX6_addNumber 18 = .ok (.invokestatic 49, 3) := by decide +kernel
theorem dX6_addNumber_21 : decode cX6_addNumber 21 = .ok (.ifCond .eq 13, 3) := by decide +kernel
theorem dX6_addNumber_24 : decode cX6_addNumber 24 = .ok (.new 53, 3) := by decide +kernel
theorem dX6_addNumber_27 : decode cX6_addNumber 27 = .ok (.dup, 1) := by decide +kernel
theorem dX6_addNumber_28 : decode cX6_addNumber 28 = .ok (.ldc 55, 2) := by decide +kernel
theorem dX6_addNumber_30 : decode cX6_addNumber 30 = .ok (.invokespecial 57, 3) := by decide +kernel
theorem dX6_addNumber_33 : decode cX6_addNumber 33 = .ok (.athrow, 1) := by decide +kernel
theorem dX6_addNumber_34 : decode cX6_addNumber 34 = .ok (.aload_n 0, 1) := by decide +kernel
theorem dX6_addNumber_35 : decode cX6_addNumber 35 = .ok (.new 60, 3) := by decide +kernel
theorem dX6_addNumber_38 : decode cX6_addNumber 38 = .ok (.dup, 1) := by decide +kernel
theorem dX6_addNumber_39 : decode cX6_addNumber 39 = .ok (.getstatic 62, 3) := by decide +kernel
theorem dX6_addNumber_42 : decode cX6_addNumber 42 = .ok (.iload_n 1, 1) := by decide +kernel
theorem dX6_addNumber_43 : decode cX6_addNumber 43 = .ok (.iload_n 2, 1) := by decide +kernel
theorem dX6_addNumber_44 : decode cX6_addNumber 44 = .ok (.new 7, 3) := by decide +kernel
theorem dX6_addNumber_47 : decode cX6_addNumber 47 = .ok (.dup, 1) := by decide +kernel
theorem dX6_addNumber_48 : decode cX6_addNumber 48 = .ok (.iconst 0, 1) := by decide +kernel
theorem dX6_addNumber_49 : decode cX6_addNumber 49 = .ok (.invokespecial 11, 3) := by decide +kernel
theorem dX6_addNumber_52 : decode cX6_addNumber 52 = .ok (.iconst 0, 1) := by decide +kernel
theorem dX6_addNumber_53 : decode cX6_addNumber 53 = .ok (.invokespecial 68, 3) := by decide +kernel
theorem dX6_addNumber_56 : decode cX6_addNumber 56 = .ok (.invokevirtual 71, 3) := by decide +kernel
theorem dX6_addNumber_59 : decode cX6_addNumber 59 = .ok (.ireturn, 1) := by decide +kernel
set_option maxRecDepth 20000 in
theorem ggX6_addList_X6_typeNumbered : GoodIn wsX6_addList wsX6_typeNumbered := goodIn_ca (goodIn_r _ [14, 15, 16, 17, 18, 19, 20, 5, 21, 22, 23, 119, 120, 121, 122, 123, 124, 125, 107, 108] (by decide +kernel) (by decide +kernel)) (goodIn_sub (fun _ h => List.mem_cons_of_mem _ (List.mem_append_left _ (List.mem_append_right _ h))) (by decide +kernel))
set_option maxRecDepth 20000 in
theorem gX6_addList_X6_typeNumbered : GoodIn wsX6_addList (wsV RX6 75 RX6 yX6_typeNumbered wsX6_typeNumbered) := goodIn_app (goodIn_of _ (by decide +kernel)) ggX6_addList_X6_typeNumbered
set_option maxRecDepth 20000 in
theorem ggX6_addList_X6_isOutside : GoodIn wsX6_addList wsX6_isOutside := goodIn_r _ [26] (by decide +kernel) (by decide +kernel)
set_option maxRecDepth 20000 in
theorem gX6_addList_X6_isOutside : GoodIn wsX6_addList (va_wsS RX6 49 yX6_isOutside wsX6_isOutside) := goodIn_app (goodIn_of _ (by decide +kernel)) ggX6_addList_X6_isOutside
set_option maxRecDepth 20000 in
theorem ggX6_addList_X4_init : GoodIn wsX6_addList wsX4_init := goodIn_r _ [29, 30, 31, 32, 22, 33, 34, 35, 36, 37, 23, 107, 108] (by decide +kernel) (by decide +kernel)
set_option maxRecDepth 20000 in
theorem gX6_addList_X4_init : GoodIn wsX6_addList (wsX4_init) := ggX6_addList_X4_init
set_option maxRecDepth 20000 in
theorem ggX6_addList_X4_append : GoodIn wsX6_addList wsX4_append := goodIn_r _ [41, 22, 23, 107, 108] (by decide +kernel) (by decide +kernel)
set_option maxRecDepth 20000 in
theorem gX6_addList_X4_append : GoodIn wsX6_addList (wsV RX6 81 RX4 yX4_append wsX4_append) := goodIn_app (goodIn_of _ (by decide +kernel)) ggX6_addList_X4_append
set_option maxRecDepth 20000 in
theorem ggX6_addList_X3_init : GoodIn wsX6_addList wsX3_init := goodIn_r _ [44, 45, 31, 32, 46, 47, 48, 49, 50, 51, 52, 53, 54, 55, 4, 5, 56, 57, 58, 13, 59, 60, 28, 29, 30, 22, 33, 34, 35, 36, 37, 23, 109, 110, 111, 112, 113, 114, 115, 116, 117, 118, 107, 108] (by decide +kernel) (by decide +kernel)
set_option maxRecDepth 20000 in
theorem gX6_addList_X3_init : GoodIn wsX6_addList (wsX3_init) := ggX6_addList_X3_init
set_option maxRecDepth 20000 in
theorem ggX6_addList_X6_keep : GoodIn wsX6_addList wsX6_keep := goodIn_ca (goodIn_r _ [64, 65, 66, 17, 67, 68, 69, 5, 70, 22, 23, 71, 72, 73, 8, 74, 52, 46, 47, 48, 49, 75, 76, 56, 77, 78, 79, 80, 53, 50, 51, 81, 19, 20, 21, 82, 83, 84, 85, 86, 87, 35, 88, 89, 34, 36, 90, 91, 92, 93, 94, 95, 96, 97, 98, 99, 100, 101, 54, 102, 103, 104, 105, 57, 38, 39, 40, 41, 106, 119, 120, 121, 122, 123, 124, 125, 107, 108, 109, 110, 111, 112, 113, 114, 115, 116, 117, 118] (by decide +kernel) (by decide +kernel)) (goodIn_sub (fun _ h => List.mem_cons_of_mem _ (List.mem_append_right _ h)) (by decide +kernel))
set_option maxRecDepth 20000 in
theorem gX6_addList_X6_keep : GoodIn wsX6_addList (wsV RX6 71 RX6 yX6_keep wsX6_keep) := goodIn_app (goodIn_of _ (by decide +kernel)) ggX6_addList_X6_keep
theorem dX6_addList_0 : decode cX6_addList 0 = .ok (.aload_n 0, 1) := by decide +kernel
theorem dX6_addList_1 : decode cX6_addList 1 = .ok (.iload_n 1, 1) := by decide +kernel
theorem dX6_addList_2 : decode cX6_addList 2 = .ok (.invokevirtual 75, 3) := by decide +kernel
theorem dX6_addList_5 : decode cX6_addList 5 = .ok (.astore 4, 2) := by decide +kernel
theorem dX6_addList_7 : decode cX6_addList 7 = .ok (.iload_n 2, 1) := by decide +kernel
theorem dX6_addList_8 : decode cX6_addList 8 = .ok (.iconst 0, 1) := by decide +kernel
theorem dX6_addList_9 : decode cX6_addList 9 = .ok (.bipush 8, 2) := by decide +kernel
theorem dX6_addList_11 : decode cX6_addList 11 = .ok (.invokestatic 49, 3) := by decide +kernel
theorem dX6_addList_14 : decode cX6_addList 14 = .ok (.ifCond .ne 13, 3) := by decide +kernel
theorem dX6_addList_17 : decode cX6_addList 17 = .ok (.iload_n 3, 1) := by decide +kernel
theorem dX6_addList_18 : decode cX6_addList 18 = .ok (.iload_n 2, 1) := by decide +kernel
theorem dX6_addList_19 : decode cX6_addList 19 = .ok (.bipush 8, 2) := by decide +kernel
theorem dX6_addList_21 : decode cX6_addList 21 = .ok (.invokestatic 49, 3) := by decide +kernel
theorem dX6_addList_24 : decode cX6_addList 24 = .ok (.ifCond .eq 13, 3) := by decide +kernel
theorem dX6_addList_27 : decode cX6_addList 27 = .ok (.new 53, 3) := by decide +kernel
theorem dX6_addList_30 : decode cX6_addList 30 = .ok (.dup, 1) := by decide +kernel
theorem dX6_addList_31 : decode cX6_addList 31 = .ok (.ldc 79, 2) := by decide +kernel
theorem dX6_addList_33 : decode cX6_addList 33 = .ok (.invokespecial 57, 3) := by decide +kernel
theorem dX6_addList_36 : decode cX6_addList 36 = .ok (.athrow, 1) := by decide +kernel
theorem dX6_addList_37 : decode cX6_addList 37 = .ok (.new 7, 3) := by decide +kernel
theorem dX6_addList_40 : decode cX6_addList 40 = .ok (.dup, 1) := by decide +kernel
theorem dX6_addList_41 : decode cX6_addList 41 = .ok (.iconst 1, 1) := by decide +kernel
theorem dX6_addList_42 : decode cX6_addList 42 = .ok (.invokespecial 11, 3) := by decide +kernel
theorem dX6_addList_45 : decode cX6_addList 45 = .ok (.astore 5, 2) := by decide +kernel
theorem dX6_addList_47 : decode cX6_addList 47 = .ok (.aload 5, 2) := by decide +kernel
theorem dX6_addList_49 : decode cX6_addList 49 = .ok (.aload 4, 2) := by decide +kernel
theorem dX6_addList_51 : decode cX6_addList 51 = .ok (.invokevirtual 81, 3) := by decide +kernel
theorem dX6_addList_54 : decode cX6_addList 54 = .ok (.aload_n 0, 1) := by decide +kernel
theorem dX6_addList_55 : decode cX6_addList 55 = .ok (.new 60, 3) := by decide +kernel
theorem dX6_addList_58 : decode cX6_addList 58 = .ok (.dup, 1) := by decide +kernel
theorem dX6_addList_59 : decode cX6_addList 59 = .ok (.getstatic 85, 3) := by decide +kernel
theorem dX6_addList_62 : decode cX6_addList 62 = .ok (.iload_n 2, 1) := by decide +kernel
theorem dX6_addList_63 : decode cX6_addList 63 = .ok (.iload_n 3, 1) := by decide +kernel
theorem dX6_addList_64 : decode cX6_addList 64 = .ok (.aload 5, 2) := by decide +kernel
theorem dX6_addList_66 : decode cX6_addList 66 = .ok (.iconst 0, 1) := by decide +kernel
theorem dX6_addList_67 : decode cX6_addList 67 = .ok (.invokespecial 68, 3) := by decide +kernel
theorem dX6_addList_70 : decode cX6_addList 70 = .ok (.invokevirtual 71, 3) := by decide +kernel
theorem dX6_addList_73 : decode cX6_addList 73 = .ok (.ireturn, 1) := by decide +kernel
set_option maxRecDepth 20000 in
theorem ggX6_part_X6_typeNumbered : GoodIn wsX6_part wsX6_typeNumbered := goodIn_ca (goodIn_r _ [9, 10, 11, 12, 13, 14, 15, 16, 17, 18, 19, 32, 33, 34, 35, 36, 37, 38, 39, 40] (by decide +kernel) (by decide +kernel)) (goodIn_sub (fun _ h => List.mem_cons_of_mem _ (List.mem_append_right _ h)) (by decide +kernel))
set_option maxRecDepth 20000 in
theorem gX6_part_X6_typeNumbered : GoodIn wsX6_part (wsV RX6 75 RX6 yX6_typeNumbered wsX6_typeNumbered) := goodIn_app (goodIn_of _ (by decide +kernel)) ggX6_part_X6_typeNumbered
set_option maxRecDepth 20000 in
theorem ggX6_part_X4_isFull : GoodIn wsX6_part wsX4_isFull := goodIn_r _ [23, 18, 19, 39, 40] (by decide +kernel) (by decide +kernel)
set_option maxRecDepth 20000 in
theorem gX6_part_X4_isFull : GoodIn wsX6_part (wsV RX6 88 RX4 yX4_isFull wsX4_isFull) := goodIn_app (goodIn_of _ (by decide +kernel)) ggX6_part_X4_isFull
set_option maxRecDepth 20000 in
theorem ggX6_part_X4_size : GoodIn wsX6_part wsX4_size := goodIn_r _ [27, 18, 39, 40] (by decide +kernel) (by decide +kernel)
set_option maxRecDepth 20000 in
theorem gX6_part_X4_size : GoodIn wsX6_part (wsV RX6 97 RX4 yX4_size wsX4_size) := goodIn_app (goodIn_of _ (by decide +kernel)) ggX6_part_X4_size
set_option maxRecDepth 20000 in
theorem ggX6_part_X4_append : GoodIn wsX6_part wsX4_append := goodIn_r _ [31, 18, 19, 39, 40] (by decide +kernel) (by decide +kernel)
set_option maxRecDepth 20000 in
theorem gX6_part_X4_append : GoodIn wsX6_part (wsV RX6 81 RX4 yX4_append wsX4_append) := goodIn_app (goodIn_of _ (by decide +kernel)) ggX6_part_X4_append
theorem dX6_part_0 : decode cX6_part 0 = .ok (.aload_n 0, 1) := by decide +kernel
theorem dX6_part_1 : decode cX6_part 1 = .ok (.iload_n 1, 1) := by decide +kernel
theorem dX6_part_2 : decode cX6_part 2 = .ok (.invokevirtual 75, 3) := by decide +kernel
theorem dX6_part_5 : decode cX6_part 5 = .ok (.astore_n 3, 1) := by decide +kernel
theorem dX6_part_6 : decode cX6_part 6 = .ok (.aload_n 0, 1) := by decide +kernel
theorem dX6_part_7 : decode cX6_part 7 = .ok (.getfield 42, 3) := by decide +kernel
theorem dX6_part_10 : decode cX6_part 10 = .ok (.invokevirtual 88, 3) := by decide +kernel
theorem dX6_part_13 : decode cX6_part 13 = .ok (.ifCond .eq 13, 3) := by decide +kernel
theorem dX6_part_16 : decode cX6_part 16 = .ok (.new 92, 3) := by decide +kernel
theorem dX6_part_19 : decode cX6_part 19 = .ok (.dup, 1) := by decide +kernel
theorem dX6_part_20 : decode cX6_part 20 = .ok (.ldc 94, 2) := by decide +kernel
theorem dX6_part_22 : decode cX6_part 22 = .ok (.invokespecial 96, 3) := by decide +kernel
theorem dX6_part_25 : decode cX6_part 25 = .ok (.athrow, 1) := by decide +kernel
theorem dX6_part_26 : decode cX6_part 26 = .ok (.iload_n 2, 1) := by decide +kernel
theorem dX6_part_27 : decode cX6_part 27 = .ok (.ifCond .eq 21, 3) := by decide +kernel
theorem dX6_part_30 : decode cX6_part 30 = .ok (.aload_n 0, 1) := by decide +kernel
theorem dX6_part_31 : decode cX6_part 31 = .ok (.dup, 1) := by decide +kernel
theorem dX6_part_32 : decode cX6_part 32 = .ok (.getfield 45, 3) := by decide +kernel
theorem dX6_part_35 : decode cX6_part 35 = .ok (.iconst 1, 1) := by decide +kernel
theorem dX6_part_36 : decode cX6_part 36 = .ok (.aload_n 0, 1) := by decide +kernel
theorem dX6_part_37 : decode cX6_part 37 = .ok (.getfield 42, 3) := by decide +kernel
theorem dX6_part_40 : decode cX6_part 40 = .ok (.invokevirtual 97, 3) := by decide +kernel
theorem dX6_part_43 : decode cX6_part 43 = .ok (.ishl, 1) := by decide +kernel
theorem dX6_part_44 : decode cX6_part 44 = .ok (.ior, 1) := by decide +kernel
theorem dX6_part_45 : decode cX6_part 45 = .ok (.putfield 45, 3) := by decide +kernel
theorem dX6_part_48 : decode cX6_part 48 = .ok (.aload_n 0, 1) := by decide +kernel
theorem dX6_part_49 : decode cX6_part 49 = .ok (.getfield 42, 3) := by decide +kernel
theorem dX6_part_52 : decode cX6_part 52 = .ok (.aload_n 3, 1) := by decide +kernel
theorem dX6_part_53 : decode cX6_part 53 = .ok (.invokevirtual 81, 3) := by decide +kernel
theorem dX6_part_56 : decode cX6_part 56 = .ok (.aload_n 0, 1) := by decide +kernel
theorem dX6_part_57 : decode cX6_part 57 = .ok (.getfield 42, 3) := by decide +kernel
theorem dX6_part_60 : decode cX6_part 60 = .ok (.invokevirtual 97, 3) := by decide +kernel
theorem dX6_part_63 : decode cX6_part 63 = .ok (.ireturn, 1) := by decide +kernel
set_option maxRecDepth 20000 in
theorem ggX6_addSequence_X3_init : GoodIn wsX6_addSequence wsX3_init := goodIn_r _ [9, 10, 11, 12, 13, 14, 15, 16, 17, 18, 19, 20, 21, 22, 23, 24, 25, 26, 27, 28, 29, 30, 31, 32, 33, 34, 35, 36, 37, 38, 39, 40, 101, 102, 103, 104, 105, 106, 107, 108, 109, 110, 118, 119] (by decide +kernel) (by decide +kernel)
set_option maxRecDepth 20000 in
theorem gX6_addSequence_X3_init : GoodIn wsX6_addSequence (wsX3_init) := ggX6_addSequence_X3_init
set_option maxRecDepth 20000 in
theorem ggX6_addSequence_X6_keepDraft : GoodIn wsX6_addSequence wsX6_keepDraft := goodIn_ca (goodIn_r _ [44, 45, 46, 5, 47, 23, 24, 6, 48, 49, 50, 51, 34, 52, 53, 54, 28, 55, 56, 57, 58, 59, 60, 40, 61, 62, 63, 3, 64, 19, 13, 14, 15, 16, 65, 66, 25, 67, 68, 69, 70, 20, 17, 18, 71, 72, 73, 74, 75, 76, 77, 78, 79, 80, 37, 81, 82, 36, 38, 83, 84, 85, 86, 87, 88, 89, 90, 91, 21, 92, 93, 94, 95, 26, 96, 97, 98, 99, 100, 31, 32, 33, 11, 12, 35, 39, 111, 112, 113, 114, 115, 116, 117, 118, 119, 101, 102, 103, 104, 105, 106, 107, 108, 109, 110] (by decide +kernel) (by decide +kernel)) (goodIn_sub (fun _ h => List.mem_cons_of_mem _ (List.mem_append_right _ h)) (by decide +kernel))
set_option maxRecDepth 20000 in
theorem gX6_addSequence_X6_keepDraft : GoodIn wsX6_addSequence (wsV RX6 104 RX6 yX6_keepDraft wsX6_keepDraft) := goodIn_app (goodIn_of _ (by decide +kernel)) ggX6_addSequence_X6_keepDraft
theorem dX6_addSequence_0 : decode cX6_addSequence 0 = .ok (.aload_n 0, 1) := by decide +kernel
theorem dX6_addSequence_1 : decode cX6_addSequence 1 = .ok (.new 60, 3) := by decide +kernel
theorem dX6_addSequence_4 : decode cX6_addSequence 4 = .ok (.dup, 1) := by decide +kernel
theorem dX6_addSequence_5 : decode cX6_addSequence 5 = .ok (.getstatic 101, 3) := by decide +kernel
theorem dX6_addSequence_8 : decode cX6_addSequence 8 = .ok (.iconst 0, 1) := by decide +kernel
theorem dX6_addSequence_9 : decode cX6_addSequence 9 = .ok (.iconst 0, 1) := by decide +kernel
theorem dX6_addSequence_10 : decode cX6_addSequence 10 = .ok (.aload_n 0, 1) := by decide +kernel
theorem dX6_addSequence_11 : decode cX6_addSequence 11 = .ok (.getfield 42, 3) := by decide +kernel
theorem dX6_addSequence_14 : decode cX6_addSequence 14 = .ok (.aload_n 0, 1) := by decide +kernel
theorem dX6_addSequence_15 : decode cX6_addSequence 15 = .ok (.getfield 45, 3) := by decide +kernel
theorem dX6_addSequence_18 : decode cX6_addSequence 18 = .ok (.invokespecial 68, 3) := by decide +kernel
theorem dX6_addSequence_21 : decode cX6_addSequence 21 = .ok (.invokevirtual 104, 3) := by decide +kernel
theorem dX6_addSequence_24 : decode cX6_addSequence 24 = .ok (.ireturn, 1) := by decide +kernel
set_option maxRecDepth 20000 in
theorem ggX6_addChoice_X4_size : GoodIn wsX6_addChoice wsX4_size := goodIn_r _ [10, 11, 118, 119] (by decide +kernel) (by decide +kernel)
set_option maxRecDepth 20000 in
theorem gX6_addChoice_X4_size : GoodIn wsX6_addChoice (wsV RX6 97 RX4 yX4_size wsX4_size) := goodIn_app (goodIn_of _ (by decide +kernel)) ggX6_addChoice_X4_size
set_option maxRecDepth 20000 in
theorem ggX6_addChoice_X3_init : GoodIn wsX6_addChoice wsX3_init := goodIn_r _ [14, 15, 16, 17, 18, 19, 20, 21, 22, 23, 24, 25, 26, 27, 28, 9, 29, 30, 31, 32, 33, 34, 35, 36, 37, 11, 38, 39, 40, 41, 42, 43, 101, 102, 103, 104, 105, 106, 107, 108, 109, 110, 118, 119] (by decide +kernel) (by decide +kernel)
set_option maxRecDepth 20000 in
theorem gX6_addChoice_X3_init : GoodIn wsX6_addChoice (wsX3_init) := ggX6_addChoice_X3_init
set_option maxRecDepth 20000 in
theorem ggX6_addChoice_X6_keepDraft : GoodIn wsX6_addChoice wsX6_keepDraft := goodIn_ca (goodIn_r _ [47, 48, 49, 5, 50, 28, 9, 51, 6, 7, 8, 10, 11, 52, 53, 54, 32, 55, 56, 57, 58, 59, 60, 43, 61, 62, 63, 3, 64, 24, 18, 19, 20, 21, 65, 66, 29, 67, 68, 69, 70, 25, 22, 23, 71, 72, 73, 74, 75, 76, 77, 78, 79, 80, 40, 81, 82, 39, 41, 83, 84, 85, 86, 87, 88, 89, 90, 91, 26, 92, 93, 94, 95, 30, 96, 97, 98, 99, 100, 35, 36, 37, 16, 17, 38, 42, 111, 112, 113, 114, 115, 116, 117, 118, 119, 101, 102, 103, 104, 105, 106, 107, 108, 109, 110] (by decide +kernel) (by decide +kernel)) (goodIn_sub (fun _ h => List.mem_cons_of_mem _ (List.mem_append_right _ h)) (by decide +kernel))
set_option maxRecDepth 20000 in
theorem gX6_addChoice_X6_keepDraft : GoodIn wsX6_addChoice (wsV RX6 104 RX6 yX6_keepDraft wsX6_keepDraft) := goodIn_app (goodIn_of _ (by decide +kernel)) ggX6_addChoice_X6_keepDraft
theorem dX6_addChoice_0 : decode cX6_addChoice 0 = .ok (.aload_n 0, 1) := by decide +kernel
theorem dX6_addChoice_1 : decode cX6_addChoice 1 = .ok (.new 60, 3) := by decide +kernel
theorem dX6_addChoice_4 : decode cX6_addChoice 4 = .ok (.dup, 1) := by decide +kernel
theorem dX6_addChoice_5 : decode cX6_addChoice 5 = .ok (.getstatic 107, 3) := by decide +kernel
theorem dX6_addChoice_8 : decode cX6_addChoice 8 = .ok (.iconst 0, 1) := by decide +kernel
theorem dX6_addChoice_9 : decode cX6_addChoice 9 = .ok (.aload_n 0, 1) := by decide +kernel
theorem dX6_addChoice_10 : decode cX6_addChoice 10 = .ok (.getfield 42, 3) := by decide +kernel
theorem dX6_addChoice_13 : decode cX6_addChoice 13 = .ok (.invokevirtual 97, 3) := by decide +kernel
theorem dX6_addChoice_16 : decode cX6_addChoice 16 = .ok (.iconst 1, 1) := by decide +kernel
theorem dX6_addChoice_17 : decode cX6_addChoice 17 = .ok (.isub, 1) := by decide +kernel
theorem dX6_addChoice_18 : decode cX6_addChoice 18 = .ok (.aload_n 0, 1) := by decide +kernel
theorem dX6_addChoice_19 : decode cX6_addChoice 19 = .ok (.getfield 42, 3) := by decide +kernel
theorem dX6_addChoice_22 : decode cX6_addChoice 22 = .ok (.iconst 0, 1) := by decide +kernel
theorem dX6_addChoice_23 : decode cX6_addChoice 23 = .ok (.invokespecial 68, 3) := by decide +kernel
theorem dX6_addChoice_26 : decode cX6_addChoice 26 = .ok (.invokevirtual 104, 3) := by decide +kernel
theorem dX6_addChoice_29 : decode cX6_addChoice 29 = .ok (.ireturn, 1) := by decide +kernel
set_option maxRecDepth 20000 in
theorem ggX6_extend_X6_typeNumbered : GoodIn wsX6_extend wsX6_typeNumbered := goodIn_ca (goodIn_r _ [11, 12, 13, 6, 14, 15, 16, 17, 18, 19, 20, 99, 100, 101, 102, 103, 104, 105, 106, 107] (by decide +kernel) (by decide +kernel)) (goodIn_sub (fun _ h => List.mem_cons_of_mem _ (List.mem_append_right _ h)) (by decide +kernel))
set_option maxRecDepth 20000 in
theorem gX6_extend_X6_typeNumbered : GoodIn wsX6_extend (wsV RX6 75 RX6 yX6_typeNumbered wsX6_typeNumbered) := goodIn_app (goodIn_of _ (by decide +kernel)) ggX6_extend_X6_typeNumbered
set_option maxRecDepth 20000 in
theorem ggX6_extend_X4_isFull : GoodIn wsX6_extend wsX4_isFull := goodIn_r _ [24, 19, 20, 106, 107] (by decide +kernel) (by decide +kernel)
set_option maxRecDepth 20000 in
theorem gX6_extend_X4_isFull : GoodIn wsX6_extend (wsV RX6 88 RX4 yX4_isFull wsX4_isFull) := goodIn_app (goodIn_of _ (by decide +kernel)) ggX6_extend_X4_isFull
set_option maxRecDepth 20000 in
theorem ggX6_extend_X4_append : GoodIn wsX6_extend wsX4_append := goodIn_r _ [28, 19, 20, 106, 107] (by decide +kernel) (by decide +kernel)
set_option maxRecDepth 20000 in
theorem gX6_extend_X4_append : GoodIn wsX6_extend (wsV RX6 81 RX4 yX4_append wsX4_append) := goodIn_app (goodIn_of _ (by decide +kernel)) ggX6_extend_X4_append
set_option maxRecDepth 20000 in
theorem ggX6_extend_X4_measureAll : GoodIn wsX6_extend wsX4_measureAll := goodIn_r _ [32, 19, 33, 15, 16, 17, 18, 20, 34, 35, 36, 37, 38, 39, 40, 41, 42, 43, 44, 45, 46, 47, 48, 49, 50, 51, 52, 53, 54, 55, 56, 57, 58, 59, 60, 61, 62, 63, 64, 65, 66, 67, 68, 69, 70, 71, 72, 73, 74, 75, 76, 77, 78, 79, 80, 81, 82, 83, 106, 107, 89, 90, 91, 92, 93, 94, 95, 96, 97, 98] (by decide +kernel) (by decide +kernel)
set_option maxRecDepth 20000 in
theorem gX6_extend_X4_measureAll : GoodIn wsX6_extend (wsV RX6 120 RX4 yX4_measureAll wsX4_measureAll) := goodIn_app (goodIn_of _ (by decide +kernel)) ggX6_extend_X4_measureAll
set_option maxRecDepth 20000 in
theorem ggX6_extend_X4_dropLast : GoodIn wsX6_extend wsX4_dropLast := goodIn_r _ [87, 19, 106, 107] (by decide +kernel) (by decide +kernel)
set_option maxRecDepth 20000 in
theorem gX6_extend_X4_dropLast : GoodIn wsX6_extend (wsV RX6 123 RX4 yX4_dropLast wsX4_dropLast) := goodIn_app (goodIn_of _ (by decide +kernel)) ggX6_extend_X4_dropLast
set_option maxRecDepth 20000 in
theorem ggX6_extend_X4_size : GoodIn wsX6_extend wsX4_size := goodIn_r _ [69, 19, 106, 107] (by decide +kernel) (by decide +kernel)
set_option maxRecDepth 20000 in
theorem gX6_extend_X4_size : GoodIn wsX6_extend (wsV RX6 97 RX4 yX4_size wsX4_size) := goodIn_app (goodIn_of _ (by decide +kernel)) ggX6_extend_X4_size
theorem dX6_extend_0 : decode cX6_extend 0 = .ok (.aload_n 0, 1) := by decide +kernel
theorem dX6_extend_1 : decode cX6_extend 1 = .ok (.iload_n 1, 1) := by decide +kernel
theorem dX6_extend_2 : decode cX6_extend 2 = .ok (.invokevirtual 75, 3) := by decide +kernel
theorem dX6_extend_5 : decode cX6_extend 5 = .ok (.astore_n 3, 1) := by decide +kernel
theorem dX6_extend_6 : decode cX6_extend 6 = .ok (.aload_n 0, 1) := by decide +kernel
theorem dX6_extend_7 : decode cX6_extend 7 = .ok (.iload_n 2, 1) := by decide +kernel
theorem dX6_extend_8 : decode cX6_extend 8 = .ok (.invokevirtual 75, 3) := by decide +kernel
theorem dX6_extend_11 : decode cX6_extend 11 = .ok (.astore 4, 2) := by decide +kernel
theorem dX6_extend_13 : decode cX6_extend 13 = .ok (.aload_n 3, 1) := by decide +kernel
theorem dX6_extend_14 : decode cX6_extend 14 = .ok (.getfield 110, 3) := by decide +kernel
theorem dX6_extend_17 : decode cX6_extend 17 = .ok (.getstatic 101, 3) := by decide +kernel
theorem dX6_extend_20 : decode cX6_extend 20 = .ok (.if_acmp .ne 8, 3) := by decide +kernel
theorem dX6_extend_23 : decode cX6_extend 23 = .ok (.iload_n 2, 1) := by decide +kernel
theorem dX6_extend_24 : decode cX6_extend 24 = .ok (.iload_n 1, 1) := by decide +kernel
theorem dX6_extend_25 : decode cX6_extend 25 = .ok (.if_icmp .lt 13, 3) := by decide +kernel
theorem dX6_extend_28 : decode cX6_extend 28 = .ok (.new 53, 3) := by decide +kernel
theorem dX6_extend_31 : decode cX6_extend 31 = .ok (.dup, 1) := by decide +kernel
theorem dX6_extend_32 : decode cX6_extend 32 = .ok (.ldc 113, 2) := by decide +kernel
theorem dX6_extend_34 : decode cX6_extend 34 = .ok (.invokespecial 57, 3) := by decide +kernel
theorem dX6_extend_37 : decode cX6_extend 37 = .ok (.athrow, 1) := by decide +kernel
theorem dX6_extend_38 : decode cX6_extend 38 = .ok (.aload_n 3, 1) := by decide +kernel
theorem dX6_extend_39 : decode cX6_extend 39 = .ok (.getfield 115, 3) := by decide +kernel
theorem dX6_extend_42 : decode cX6_extend 42 = .ok (.invokevirtual 88, 3) := by decide +kernel
theorem dX6_extend_45 : decode cX6_extend 45 = .ok (.ifCond .eq 13, 3) := by decide +kernel
theorem dX6_extend_48 : decode cX6_extend 48 = .ok (.new 92, 3) := by decide +kernel
theorem dX6_extend_51 : decode cX6_extend 51 = .ok (.dup, 1) := by decide +kernel
theorem dX6_extend_52 : decode cX6_extend 52 = .ok (.ldc 118, 2) := by decide +kernel
theorem dX6_extend_54 : decode cX6_extend 54 = .ok (.invokespecial 96, 3) := by decide +kernel
theorem dX6_extend_57 : decode cX6_extend 57 = .ok (.athrow, 1) := by decide +kernel
theorem dX6_extend_58 : decode cX6_extend 58 = .ok (.aload_n 3, 1) := by decide +kernel
theorem dX6_extend_59 : decode cX6_extend 59 = .ok (.getfield 115, 3) := by decide +kernel
theorem dX6_extend_62 : decode cX6_extend 62 = .ok (.aload 4, 2) := by decide +kernel
theorem dX6_extend_64 : decode cX6_extend 64 = .ok (.invokevirtual 81, 3) := by decide +kernel
theorem dX6_extend_67 : decode cX6_extend 67 = .ok (.aload_n 0, 1) := by decide +kernel
theorem dX6_extend_68 : decode cX6_extend 68 = .ok (.getfield 14, 3) := by decide +kernel
theorem dX6_extend_71 : decode cX6_extend 71 = .ok (.invokevirtual 120, 3) := by decide +kernel
theorem dX6_extend_74 : decode cX6_extend 74 = .ok (.ifCond .ne 28, 3) := by decide +kernel
theorem dX6_extend_77 : decode cX6_extend 77 = .ok (.aload_n 3, 1) := by decide +kernel
theorem dX6_extend_78 : decode cX6_extend 78 = .ok (.getfield 115, 3) := by decide +kernel
theorem dX6_extend_81 : decode cX6_extend 81 = .ok (.invokevirtual 123, 3) := by decide +kernel
theorem dX6_extend_84 : decode cX6_extend 84 = .ok (.aload_n 0, 1) := by decide +kernel
theorem dX6_extend_85 : decode cX6_extend 85 = .ok (.getfield 14, 3) := by decide +kernel
theorem dX6_extend_88 : decode cX6_extend 88 = .ok (.invokevirtual 120, 3) := by decide +kernel
theorem dX6_extend_91 : decode cX6_extend 91 = .ok (.pop, 1) := by decide +kernel
theorem dX6_extend_92 : decode cX6_extend 92 = .ok (.new 92, 3) := by decide +kernel
theorem dX6_extend_95 : decode cX6_extend 95 = .ok (.dup, 1) := by decide +kernel
theorem dX6_extend_96 : decode cX6_extend 96 = .ok (.ldc 126, 2) := by decide +kernel
theorem dX6_extend_98 : decode cX6_extend 98 = .ok (.invokespecial 96, 3) := by decide +kernel
theorem dX6_extend_101 : decode cX6_extend 101 = .ok (.athrow, 1) := by decide +kernel
theorem dX6_extend_102 : decode cX6_extend 102 = .ok (.aload_n 3, 1) := by decide +kernel
theorem dX6_extend_103 : decode cX6_extend 103 = .ok (.getfield 115, 3) := by decide +kernel
theorem dX6_extend_106 : decode cX6_extend 106 = .ok (.invokevirtual 97, 3) := by decide +kernel
theorem dX6_extend_109 : decode cX6_extend 109 = .ok (.ireturn, 1) := by decide +kernel
set_option maxRecDepth 20000 in
theorem ggX6_types_X4_size : GoodIn wsX6_types wsX4_size := goodIn_r _ [6, 7, 15, 16] (by decide +kernel) (by decide +kernel)
set_option maxRecDepth 20000 in
theorem gX6_types_X4_size : GoodIn wsX6_types (wsV RX6 97 RX4 yX4_size wsX4_size) := goodIn_app (goodIn_of _ (by decide +kernel)) ggX6_types_X4_size
theorem dX6_types_0 : decode cX6_types 0 = .ok (.aload_n 0, 1) := by decide +kernel
theorem dX6_types_1 : decode cX6_types 1 = .ok (.getfield 14, 3) := by decide +kernel
theorem dX6_types_4 : decode cX6_types 4 = .ok (.invokevirtual 97, 3) := by decide +kernel
theorem dX6_types_7 : decode cX6_types 7 = .ok (.ireturn, 1) := by decide +kernel
set_option maxRecDepth 20000 in
theorem ggX6_leastBits_X6_typeNumbered : GoodIn wsX6_leastBits wsX6_typeNumbered := goodIn_ca (goodIn_r _ [5, 6, 7, 8, 9, 10, 11, 12, 13, 14, 15, 26, 27, 28, 29, 30, 31, 32, 33, 34] (by decide +kernel) (by decide +kernel)) (goodIn_sub (fun _ h => List.mem_cons_of_mem _ (List.mem_append_right _ h)) (by decide +kernel))
set_option maxRecDepth 20000 in
theorem gX6_leastBits_X6_typeNumbered : GoodIn wsX6_leastBits (wsV RX6 75 RX6 yX6_typeNumbered wsX6_typeNumbered) := goodIn_app (goodIn_of _ (by decide +kernel)) ggX6_leastBits_X6_typeNumbered
theorem dX6_leastBits_0 : decode cX6_leastBits 0 = .ok (.aload_n 0, 1) := by decide +kernel
theorem dX6_leastBits_1 : decode cX6_leastBits 1 = .ok (.iload_n 1, 1) := by decide +kernel
theorem dX6_leastBits_2 : decode cX6_leastBits 2 = .ok (.invokevirtual 75, 3) := by decide +kernel
theorem dX6_leastBits_5 : decode cX6_leastBits 5 = .ok (.getfield 128, 3) := by decide +kernel
theorem dX6_leastBits_8 : decode cX6_leastBits 8 = .ok (.ireturn, 1) := by decide +kernel
set_option maxRecDepth 20000 in
theorem ggX6_mostBits_X6_typeNumbered : GoodIn wsX6_mostBits wsX6_typeNumbered := goodIn_ca (goodIn_r _ [5, 6, 7, 8, 9, 10, 11, 12, 13, 14, 15, 26, 27, 28, 29, 30, 31, 32, 33, 34] (by decide +kernel) (by decide +kernel)) (goodIn_sub (fun _ h => List.mem_cons_of_mem _ (List.mem_append_right _ h)) (by decide +kernel))
set_option maxRecDepth 20000 in
theorem gX6_mostBits_X6_typeNumbered : GoodIn wsX6_mostBits (wsV RX6 75 RX6 yX6_typeNumbered wsX6_typeNumbered) := goodIn_app (goodIn_of _ (by decide +kernel)) ggX6_mostBits_X6_typeNumbered
theorem dX6_mostBits_0 : decode cX6_mostBits 0 = .ok (.aload_n 0, 1) := by decide +kernel
theorem dX6_mostBits_1 : decode cX6_mostBits 1 = .ok (.iload_n 1, 1) := by decide +kernel
theorem dX6_mostBits_2 : decode cX6_mostBits 2 = .ok (.invokevirtual 75, 3) := by decide +kernel
theorem dX6_mostBits_5 : decode cX6_mostBits 5 = .ok (.getfield 131, 3) := by decide +kernel
theorem dX6_mostBits_8 : decode cX6_mostBits 8 = .ok (.ireturn, 1) := by decide +kernel
set_option maxRecDepth 20000 in
theorem ggX6_tell_X6_isOutside : GoodIn wsX6_tell wsX6_isOutside := goodIn_r _ [9] (by decide +kernel) (by decide +kernel)
set_option maxRecDepth 20000 in
theorem gX6_tell_X6_isOutside : GoodIn wsX6_tell (va_wsS RX6 49 yX6_isOutside wsX6_isOutside) := goodIn_app (goodIn_of _ (by decide +kernel)) ggX6_tell_X6_isOutside
set_option maxRecDepth 20000 in
theorem ggX6_tell_X2_isFull : GoodIn wsX6_tell wsX2_isFull := goodIn_r _ [14, 15, 16, 32, 33] (by decide +kernel) (by decide +kernel)
set_option maxRecDepth 20000 in
theorem gX6_tell_X2_isFull : GoodIn wsX6_tell (wsV RX6 136 RX2 yX2_isFull wsX2_isFull) := goodIn_app (goodIn_of _ (by decide +kernel)) ggX6_tell_X2_isFull
set_option maxRecDepth 20000 in
theorem ggX6_tell_X2_append : GoodIn wsX6_tell wsX2_append := goodIn_r _ [20, 15, 16, 32, 33] (by decide +kernel) (by decide +kernel)
set_option maxRecDepth 20000 in
theorem gX6_tell_X2_append : GoodIn wsX6_tell (wsV RX6 139 RX2 yX2_append wsX2_append) := goodIn_app (goodIn_of _ (by decide +kernel)) ggX6_tell_X2_append
set_option maxRecDepth 20000 in
theorem ggX6_tell_X2_size : GoodIn wsX6_tell wsX2_size := goodIn_r _ [24, 15, 32, 33] (by decide +kernel) (by decide +kernel)
set_option maxRecDepth 20000 in
theorem gX6_tell_X2_size : GoodIn wsX6_tell (wsV RX6 141 RX2 yX2_size wsX2_size) := goodIn_app (goodIn_of _ (by decide +kernel)) ggX6_tell_X2_size
theorem dX6_tell_0 : decode cX6_tell 0 = .ok (.iload_n 1, 1) := by decide +kernel
theorem dX6_tell_1 : decode cX6_tell 1 = .ok (.sipush (-1000), 3) := by decide +kernel
theorem dX6_tell_4 : decode cX6_tell 4 = .ok (.sipush 1000, 3) := by decide +kernel
theorem dX6_tell_7 : decode cX6_tell 7 = .ok (.invokestatic 49, 3) := by decide +kernel
theorem dX6_tell_10 : decode cX6_tell 10 = .ok (.ifCond .eq 13, 3) := by decide +kernel
theorem dX6_tell_13 : decode cX6_tell 13 = .ok (.new 53, 3) := by decide +kernel
theorem dX6_tell_16 : decode cX6_tell 16 = .ok (.dup, 1) := by decide +kernel
theorem dX6_tell_17 : decode cX6_tell 17 = .ok (.ldc 134, 2) := by decide +kernel
theorem dX6_tell_19 : decode cX6_tell 19 = .ok (.invokespecial 57, 3) := by decide +kernel
theorem dX6_tell_22 : decode cX6_tell 22 = .ok (.athrow, 1) := by decide +kernel
theorem dX6_tell_23 : decode cX6_tell 23 = .ok (.aload_n 0, 1) := by decide +kernel
theorem dX6_tell_24 : decode cX6_tell 24 = .ok (.getfield 21, 3) := by decide +kernel
theorem dX6_tell_27 : decode cX6_tell 27 = .ok (.invokevirtual 136, 3) := by decide +kernel
theorem dX6_tell_30 : decode cX6_tell 30 = .ok (.ifCond .eq 13, 3) := by decide +kernel
theorem dX6_tell_33 : decode cX6_tell 33 = .ok (.new 92, 3) := by decide +kernel
theorem dX6_tell_36 : decode cX6_tell 36 = .ok (.dup, 1) := by decide +kernel
theorem dX6_tell_37 : decode cX6_tell 37 = .ok (.ldc 137, 2) := by decide +kernel
theorem dX6_tell_39 : decode cX6_tell 39 = .ok (.invokespecial 96, 3) := by decide +kernel
theorem dX6_tell_42 : decode cX6_tell 42 = .ok (.athrow, 1) := by decide +kernel
theorem dX6_tell_43 : decode cX6_tell 43 = .ok (.aload_n 0, 1) := by decide +kernel
theorem dX6_tell_44 : decode cX6_tell 44 = .ok (.getfield 21, 3) := by decide +kernel
theorem dX6_tell_47 : decode cX6_tell 47 = .ok (.iload_n 1, 1) := by decide +kernel
theorem dX6_tell_48 : decode cX6_tell 48 = .ok (.invokevirtual 139, 3) := by decide +kernel
theorem dX6_tell_51 : decode cX6_tell 51 = .ok (.aload_n 0, 1) := by decide +kernel
theorem dX6_tell_52 : decode cX6_tell 52 = .ok (.getfield 21, 3) := by decide +kernel
theorem dX6_tell_55 : decode cX6_tell 55 = .ok (.invokevirtual 141, 3) := by decide +kernel
theorem dX6_tell_58 : decode cX6_tell 58 = .ok (.ireturn, 1) := by decide +kernel
set_option maxRecDepth 20000 in
theorem ggX6_forget_X2_size : GoodIn wsX6_forget wsX2_size := goodIn_r _ [6, 7, 19, 20] (by decide +kernel) (by decide +kernel)
set_option maxRecDepth 20000 in
theorem gX6_forget_X2_size : GoodIn wsX6_forget (wsV RX6 141 RX2 yX2_size wsX2_size) := goodIn_app (goodIn_of _ (by decide +kernel)) ggX6_forget_X2_size
set_option maxRecDepth 20000 in
theorem ggX6_forget_X2_keepFirst : GoodIn wsX6_forget wsX2_keepFirst := goodIn_r _ [11, 7, 19, 20] (by decide +kernel) (by decide +kernel)
set_option maxRecDepth 20000 in
theorem gX6_forget_X2_keepFirst : GoodIn wsX6_forget (wsV RX6 142 RX2 yX2_keepFirst wsX2_keepFirst) := goodIn_app (goodIn_of _ (by decide +kernel)) ggX6_forget_X2_keepFirst
theorem dX6_forget_0 : decode cX6_forget 0 = .ok (.aload_n 0, 1) := by decide +kernel
theorem dX6_forget_1 : decode cX6_forget 1 = .ok (.getfield 21, 3) := by decide +kernel
theorem dX6_forget_4 : decode cX6_forget 4 = .ok (.invokevirtual 141, 3) := by decide +kernel
theorem dX6_forget_7 : decode cX6_forget 7 = .ok (.istore_n 1, 1) := by decide +kernel
theorem dX6_forget_8 : decode cX6_forget 8 = .ok (.aload_n 0, 1) := by decide +kernel
theorem dX6_forget_9 : decode cX6_forget 9 = .ok (.getfield 21, 3) := by decide +kernel
theorem dX6_forget_12 : decode cX6_forget 12 = .ok (.iconst 0, 1) := by decide +kernel
theorem dX6_forget_13 : decode cX6_forget 13 = .ok (.invokevirtual 142, 3) := by decide +kernel
theorem dX6_forget_16 : decode cX6_forget 16 = .ok (.iload_n 1, 1) := by decide +kernel
theorem dX6_forget_17 : decode cX6_forget 17 = .ok (.ireturn, 1) := by decide +kernel
set_option maxRecDepth 20000 in
theorem ggX6_length_X2_size : GoodIn wsX6_length wsX2_size := goodIn_r _ [6, 7, 15, 16] (by decide +kernel) (by decide +kernel)
set_option maxRecDepth 20000 in
theorem gX6_length_X2_size : GoodIn wsX6_length (wsV RX6 141 RX2 yX2_size wsX2_size) := goodIn_app (goodIn_of _ (by decide +kernel)) ggX6_length_X2_size
theorem dX6_length_0 : decode cX6_length 0 = .ok (.aload_n 0, 1) := by decide +kernel
theorem dX6_length_1 : decode cX6_length 1 = .ok (.getfield 21, 3) := by decide +kernel
theorem dX6_length_4 : decode cX6_length 4 = .ok (.invokevirtual 141, 3) := by decide +kernel
theorem dX6_length_7 : decode cX6_length 7 = .ok (.ireturn, 1) := by decide +kernel
set_option maxRecDepth 20000 in
theorem ggX6_told_X2_has : GoodIn wsX6_told wsX2_has := goodIn_r _ [8, 9, 10, 23, 24] (by decide +kernel) (by decide +kernel)
set_option maxRecDepth 20000 in
theorem gX6_told_X2_has : GoodIn wsX6_told (wsV RX6 145 RX2 yX2_has wsX2_has) := goodIn_app (goodIn_of _ (by decide +kernel)) ggX6_told_X2_has
set_option maxRecDepth 20000 in
theorem ggX6_told_X2_at : GoodIn wsX6_told wsX2_at := goodIn_r _ [14, 10, 15, 5, 6, 7, 8, 9, 23, 24] (by decide +kernel) (by decide +kernel)
set_option maxRecDepth 20000 in
theorem gX6_told_X2_at : GoodIn wsX6_told (wsV RX6 154 RX2 yX2_at wsX2_at) := goodIn_app (goodIn_of _ (by decide +kernel)) ggX6_told_X2_at
theorem dX6_told_0 : decode cX6_told 0 = .ok (.aload_n 0, 1) := by decide +kernel
theorem dX6_told_1 : decode cX6_told 1 = .ok (.getfield 21, 3) := by decide +kernel
theorem dX6_told_4 : decode cX6_told 4 = .ok (.iload_n 1, 1) := by decide +kernel
theorem dX6_told_5 : decode cX6_told 5 = .ok (.invokevirtual 145, 3) := by decide +kernel
theorem dX6_told_8 : decode cX6_told 8 = .ok (.ifCond .ne 13, 3) := by decide +kernel
theorem dX6_told_11 : decode cX6_told 11 = .ok (.new 149, 3) := by decide +kernel
theorem dX6_told_14 : decode cX6_told 14 = .ok (.dup, 1) := by decide +kernel
theorem dX6_told_15 : decode cX6_told 15 = .ok (.ldc 151, 2) := by decide +kernel
theorem dX6_told_17 : decode cX6_told 17 = .ok (.invokespecial 153, 3) := by decide +kernel
theorem dX6_told_20 : decode cX6_told 20 = .ok (.athrow, 1) := by decide +kernel
theorem dX6_told_21 : decode cX6_told 21 = .ok (.aload_n 0, 1) := by decide +kernel
theorem dX6_told_22 : decode cX6_told 22 = .ok (.getfield 21, 3) := by decide +kernel
theorem dX6_told_25 : decode cX6_told 25 = .ok (.iload_n 1, 1) := by decide +kernel
theorem dX6_told_26 : decode cX6_told 26 = .ok (.invokevirtual 154, 3) := by decide +kernel
theorem dX6_told_29 : decode cX6_told 29 = .ok (.ireturn, 1) := by decide +kernel
set_option maxRecDepth 20000 in
theorem ggX6_wrongAt_X6_typeNumbered : GoodIn wsX6_wrongAt wsX6_typeNumbered := goodIn_ca (goodIn_r _ [7, 8, 9, 10, 11, 12, 13, 14, 15, 16, 17, 94, 95, 96, 97, 98, 99, 100, 101, 102] (by decide +kernel) (by decide +kernel)) (goodIn_sub (fun _ h => List.mem_cons_of_mem _ (List.mem_append_right _ h)) (by decide +kernel))
set_option maxRecDepth 20000 in
theorem gX6_wrongAt_X6_typeNumbered : GoodIn wsX6_wrongAt (wsV RX6 75 RX6 yX6_typeNumbered wsX6_typeNumbered) := goodIn_app (goodIn_of _ (by decide +kernel)) ggX6_wrongAt_X6_typeNumbered
set_option maxRecDepth 20000 in
theorem ggX6_wrongAt_X5_walk : GoodIn wsX6_wrongAt wsX5_walk := goodIn_r _ [22, 23, 24, 25, 26, 27, 28, 29, 30, 31, 32, 33, 34, 21, 35, 36, 37, 38, 39, 40, 41, 42, 43, 44, 45, 46, 47, 48, 49, 50, 51, 52, 53, 54, 55, 56, 6, 57, 58, 59, 60, 61, 62, 63, 64, 65, 66, 12, 13, 14, 15, 16, 17, 67, 68, 69, 70, 71, 72, 73, 74, 75, 76, 77, 78, 79, 80, 81, 82, 83, 84, 85, 86, 87, 88, 89, 90, 91, 92, 93, 103, 104, 105, 106, 107, 108, 109, 110, 111, 112, 113, 114, 115, 116, 117, 101, 102] (by decide +kernel) (by decide +kernel)
set_option maxRecDepth 20000 in
theorem gX6_wrongAt_X5_walk : GoodIn wsX6_wrongAt (wsV RX6 158 RX5 yX5_walk wsX5_walk) := goodIn_app (goodIn_of _ (by decide +kernel)) ggX6_wrongAt_X5_walk
theorem dX6_wrongAt_0 : decode cX6_wrongAt 0 = .ok (.aload_n 0, 1) := by decide +kernel
theorem dX6_wrongAt_1 : decode cX6_wrongAt 1 = .ok (.getfield 31, 3) := by decide +kernel
theorem dX6_wrongAt_4 : decode cX6_wrongAt 4 = .ok (.aload_n 0, 1) := by decide +kernel
theorem dX6_wrongAt_5 : decode cX6_wrongAt 5 = .ok (.iload_n 1, 1) := by decide +kernel
theorem dX6_wrongAt_6 : decode cX6_wrongAt 6 = .ok (.invokevirtual 75, 3) := by decide +kernel
theorem dX6_wrongAt_9 : decode cX6_wrongAt 9 = .ok (.aload_n 0, 1) := by decide +kernel
theorem dX6_wrongAt_10 : decode cX6_wrongAt 10 = .ok (.getfield 21, 3) := by decide +kernel
theorem dX6_wrongAt_13 : decode cX6_wrongAt 13 = .ok (.invokevirtual 158, 3) := by decide +kernel
theorem dX6_wrongAt_16 : decode cX6_wrongAt 16 = .ok (.ireturn, 1) := by decide +kernel
set_option maxRecDepth 20000 in
theorem ggX6_write_X6_typeNumbered : GoodIn wsX6_write wsX6_typeNumbered := goodIn_ca (goodIn_r _ [10, 11, 12, 13, 14, 15, 16, 17, 18, 19, 20, 106, 107, 108, 109, 110, 111, 112, 116, 117] (by decide +kernel) (by decide +kernel)) (goodIn_sub (fun _ h => List.mem_cons_of_mem _ (List.mem_append_right _ h)) (by decide +kernel))
set_option maxRecDepth 20000 in
theorem gX6_write_X6_typeNumbered : GoodIn wsX6_write (wsV RX6 75 RX6 yX6_typeNumbered wsX6_typeNumbered) := goodIn_app (goodIn_of _ (by decide +kernel)) ggX6_write_X6_typeNumbered
set_option maxRecDepth 20000 in
theorem ggX6_write_X5_walk : GoodIn wsX6_write wsX5_walk := goodIn_r _ [25, 26, 27, 28, 29, 30, 31, 32, 33, 34, 35, 36, 37, 24, 38, 39, 40, 41, 42, 43, 44, 45, 46, 47, 48, 49, 50, 51, 52, 53, 54, 55, 56, 57, 58, 59, 9, 60, 61, 62, 63, 64, 65, 66, 67, 68, 69, 15, 16, 17, 18, 19, 20, 70, 71, 72, 73, 74, 75, 76, 77, 78, 79, 80, 81, 82, 83, 84, 85, 86, 87, 88, 89, 90, 91, 92, 93, 94, 95, 96, 113, 114, 115, 118, 119, 120, 121, 122, 123, 124, 125, 126, 127, 128, 129, 116, 117] (by decide +kernel) (by decide +kernel)
set_option maxRecDepth 20000 in
theorem gX6_write_X5_walk : GoodIn wsX6_write (wsV RX6 158 RX5 yX5_walk wsX5_walk) := goodIn_app (goodIn_of _ (by decide +kernel)) ggX6_write_X5_walk
set_option maxRecDepth 20000 in
theorem ggX6_write_X2_becomeCopyOf : GoodIn wsX6_write wsX2_becomeCopyOf := goodIn_r _ [100, 101, 30, 31, 32, 33, 34, 102, 72, 73, 74, 103, 50, 51, 52, 53, 54, 55, 56, 57, 104, 66, 67, 68, 118, 119] (by decide +kernel) (by decide +kernel)
set_option maxRecDepth 20000 in
theorem gX6_write_X2_becomeCopyOf : GoodIn wsX6_write (wsV RX6 167 RX2 yX2_becomeCopyOf wsX2_becomeCopyOf) := goodIn_app (goodIn_of _ (by decide +kernel)) ggX6_write_X2_becomeCopyOf
set_option maxRecDepth 20000 in
theorem ggX6_write_X2_size : GoodIn wsX6_write wsX2_size := goodIn_r _ [74, 34, 118, 119] (by decide +kernel) (by decide +kernel)
set_option maxRecDepth 20000 in
theorem gX6_write_X2_size : GoodIn wsX6_write (wsV RX6 141 RX2 yX2_size wsX2_size) := goodIn_app (goodIn_of _ (by decide +kernel)) ggX6_write_X2_size
theorem dX6_write_0 : decode cX6_write 0 = .ok (.aload_n 0, 1) := by decide +kernel
theorem dX6_write_1 : decode cX6_write 1 = .ok (.getfield 31, 3) := by decide +kernel
theorem dX6_write_4 : decode cX6_write 4 = .ok (.aload_n 0, 1) := by decide +kernel
theorem dX6_write_5 : decode cX6_write 5 = .ok (.iload_n 1, 1) := by decide +kernel
theorem dX6_write_6 : decode cX6_write 6 = .ok (.invokevirtual 75, 3) := by decide +kernel
theorem dX6_write_9 : decode cX6_write 9 = .ok (.aload_n 0, 1) := by decide +kernel
theorem dX6_write_10 : decode cX6_write 10 = .ok (.getfield 21, 3) := by decide +kernel
theorem dX6_write_13 : decode cX6_write 13 = .ok (.invokevirtual 158, 3) := by decide +kernel
theorem dX6_write_16 : decode cX6_write 16 = .ok (.iconst (-1), 1) := by decide +kernel
theorem dX6_write_17 : decode cX6_write 17 = .ok (.if_icmp .eq 13, 3) := by decide +kernel
theorem dX6_write_20 : decode cX6_write 20 = .ok (.new 92, 3) := by decide +kernel
theorem dX6_write_23 : decode cX6_write 23 = .ok (.dup, 1) := by decide +kernel
theorem dX6_write_24 : decode cX6_write 24 = .ok (.ldc 162, 2) := by decide +kernel
theorem dX6_write_26 : decode cX6_write 26 = .ok (.invokespecial 96, 3) := by decide +kernel
theorem dX6_write_29 : decode cX6_write 29 = .ok (.athrow, 1) := by decide +kernel
theorem dX6_write_30 : decode cX6_write 30 = .ok (.aload_n 0, 1) := by decide +kernel
theorem dX6_write_31 : decode cX6_write 31 = .ok (.getfield 25, 3) := by decide +kernel
theorem dX6_write_34 : decode cX6_write 34 = .ok (.aload_n 0, 1) := by decide +kernel
theorem dX6_write_35 : decode cX6_write 35 = .ok (.getfield 31, 3) := by decide +kernel
theorem dX6_write_38 : decode cX6_write 38 = .ok (.getfield 164, 3) := by decide +kernel
theorem dX6_write_41 : decode cX6_write 41 = .ok (.invokevirtual 167, 3) := by decide +kernel
theorem dX6_write_44 : decode cX6_write 44 = .ok (.aload_n 0, 1) := by decide +kernel
theorem dX6_write_45 : decode cX6_write 45 = .ok (.getfield 25, 3) := by decide +kernel
theorem dX6_write_48 : decode cX6_write 48 = .ok (.invokevirtual 141, 3) := by decide +kernel
theorem dX6_write_51 : decode cX6_write 51 = .ok (.ireturn, 1) := by decide +kernel
set_option maxRecDepth 20000 in
theorem ggX6_bits_X2_size : GoodIn wsX6_bits wsX2_size := goodIn_r _ [6, 7, 15, 16] (by decide +kernel) (by decide +kernel)
set_option maxRecDepth 20000 in
theorem gX6_bits_X2_size : GoodIn wsX6_bits (wsV RX6 141 RX2 yX2_size wsX2_size) := goodIn_app (goodIn_of _ (by decide +kernel)) ggX6_bits_X2_size
theorem dX6_bits_0 : decode cX6_bits 0 = .ok (.aload_n 0, 1) := by decide +kernel
theorem dX6_bits_1 : decode cX6_bits 1 = .ok (.getfield 25, 3) := by decide +kernel
theorem dX6_bits_4 : decode cX6_bits 4 = .ok (.invokevirtual 141, 3) := by decide +kernel
theorem dX6_bits_7 : decode cX6_bits 7 = .ok (.ireturn, 1) := by decide +kernel
set_option maxRecDepth 20000 in
theorem ggX6_bit_X2_has : GoodIn wsX6_bit wsX2_has := goodIn_r _ [8, 9, 10, 23, 24] (by decide +kernel) (by decide +kernel)
set_option maxRecDepth 20000 in
theorem gX6_bit_X2_has : GoodIn wsX6_bit (wsV RX6 145 RX2 yX2_has wsX2_has) := goodIn_app (goodIn_of _ (by decide +kernel)) ggX6_bit_X2_has
set_option maxRecDepth 20000 in
theorem ggX6_bit_X2_at : GoodIn wsX6_bit wsX2_at := goodIn_r _ [14, 10, 15, 5, 6, 7, 8, 9, 23, 24] (by decide +kernel) (by decide +kernel)
set_option maxRecDepth 20000 in
theorem gX6_bit_X2_at : GoodIn wsX6_bit (wsV RX6 154 RX2 yX2_at wsX2_at) := goodIn_app (goodIn_of _ (by decide +kernel)) ggX6_bit_X2_at
theorem dX6_bit_0 : decode cX6_bit 0 = .ok (.aload_n 0, 1) := by decide +kernel
theorem dX6_bit_1 : decode cX6_bit 1 = .ok (.getfield 25, 3) := by decide +kernel
theorem dX6_bit_4 : decode cX6_bit 4 = .ok (.iload_n 1, 1) := by decide +kernel
theorem dX6_bit_5 : decode cX6_bit 5 = .ok (.invokevirtual 145, 3) := by decide +kernel
theorem dX6_bit_8 : decode cX6_bit 8 = .ok (.ifCond .ne 13, 3) := by decide +kernel
theorem dX6_bit_11 : decode cX6_bit 11 = .ok (.new 149, 3) := by decide +kernel
theorem dX6_bit_14 : decode cX6_bit 14 = .ok (.dup, 1) := by decide +kernel
theorem dX6_bit_15 : decode cX6_bit 15 = .ok (.ldc 171, 2) := by decide +kernel
theorem dX6_bit_17 : decode cX6_bit 17 = .ok (.invokespecial 153, 3) := by decide +kernel
theorem dX6_bit_20 : decode cX6_bit 20 = .ok (.athrow, 1) := by decide +kernel
theorem dX6_bit_21 : decode cX6_bit 21 = .ok (.aload_n 0, 1) := by decide +kernel
theorem dX6_bit_22 : decode cX6_bit 22 = .ok (.getfield 25, 3) := by decide +kernel
theorem dX6_bit_25 : decode cX6_bit 25 = .ok (.iload_n 1, 1) := by decide +kernel
theorem dX6_bit_26 : decode cX6_bit 26 = .ok (.invokevirtual 154, 3) := by decide +kernel
theorem dX6_bit_29 : decode cX6_bit 29 = .ok (.ireturn, 1) := by decide +kernel
set_option maxRecDepth 20000 in
theorem ggX6_flip_X2_has : GoodIn wsX6_flip wsX2_has := goodIn_r _ [8, 9, 10, 27, 28] (by decide +kernel) (by decide +kernel)
set_option maxRecDepth 20000 in
theorem gX6_flip_X2_has : GoodIn wsX6_flip (wsV RX6 145 RX2 yX2_has wsX2_has) := goodIn_app (goodIn_of _ (by decide +kernel)) ggX6_flip_X2_has
set_option maxRecDepth 20000 in
theorem ggX6_flip_X2_at : GoodIn wsX6_flip wsX2_at := goodIn_r _ [14, 10, 15, 5, 6, 7, 8, 9, 27, 28] (by decide +kernel) (by decide +kernel)
set_option maxRecDepth 20000 in
theorem gX6_flip_X2_at : GoodIn wsX6_flip (wsV RX6 154 RX2 yX2_at wsX2_at) := goodIn_app (goodIn_of _ (by decide +kernel)) ggX6_flip_X2_at
set_option maxRecDepth 20000 in
theorem ggX6_flip_X2_replace : GoodIn wsX6_flip wsX2_replace := goodIn_r _ [19, 10, 15, 5, 6, 7, 8, 9, 27, 28] (by decide +kernel) (by decide +kernel)
set_option maxRecDepth 20000 in
theorem gX6_flip_X2_replace : GoodIn wsX6_flip (wsV RX6 173 RX2 yX2_replace wsX2_replace) := goodIn_app (goodIn_of _ (by decide +kernel)) ggX6_flip_X2_replace
theorem dX6_flip_0 : decode cX6_flip 0 = .ok (.aload_n 0, 1) := by decide +kernel
theorem dX6_flip_1 : decode cX6_flip 1 = .ok (.getfield 25, 3) := by decide +kernel
theorem dX6_flip_4 : decode cX6_flip 4 = .ok (.iload_n 1, 1) := by decide +kernel
theorem dX6_flip_5 : decode cX6_flip 5 = .ok (.invokevirtual 145, 3) := by decide +kernel
theorem dX6_flip_8 : decode cX6_flip 8 = .ok (.ifCond .ne 13, 3) := by decide +kernel
theorem dX6_flip_11 : decode cX6_flip 11 = .ok (.new 149, 3) := by decide +kernel
theorem dX6_flip_14 : decode cX6_flip 14 = .ok (.dup, 1) := by decide +kernel
theorem dX6_flip_15 : decode cX6_flip 15 = .ok (.ldc 171, 2) := by decide +kernel
theorem dX6_flip_17 : decode cX6_flip 17 = .ok (.invokespecial 153, 3) := by decide +kernel
theorem dX6_flip_20 : decode cX6_flip 20 = .ok (.athrow, 1) := by decide +kernel
theorem dX6_flip_21 : decode cX6_flip 21 = .ok (.aload_n 0, 1) := by decide +kernel
theorem dX6_flip_22 : decode cX6_flip 22 = .ok (.getfield 25, 3) := by decide +kernel
theorem dX6_flip_25 : decode cX6_flip 25 = .ok (.iload_n 1, 1) := by decide +kernel
theorem dX6_flip_26 : decode cX6_flip 26 = .ok (.iconst 1, 1) := by decide +kernel
theorem dX6_flip_27 : decode cX6_flip 27 = .ok (.aload_n 0, 1) := by decide +kernel
theorem dX6_flip_28 : decode cX6_flip 28 = .ok (.getfield 25, 3) := by decide +kernel
theorem dX6_flip_31 : decode cX6_flip 31 = .ok (.iload_n 1, 1) := by decide +kernel
theorem dX6_flip_32 : decode cX6_flip 32 = .ok (.invokevirtual 154, 3) := by decide +kernel
theorem dX6_flip_35 : decode cX6_flip 35 = .ok (.isub, 1) := by decide +kernel
theorem dX6_flip_36 : decode cX6_flip 36 = .ok (.invokevirtual 173, 3) := by decide +kernel
theorem dX6_flip_39 : decode cX6_flip 39 = .ok (.aload_n 0, 1) := by decide +kernel
theorem dX6_flip_40 : decode cX6_flip 40 = .ok (.getfield 25, 3) := by decide +kernel
theorem dX6_flip_43 : decode cX6_flip 43 = .ok (.iload_n 1, 1) := by decide +kernel
theorem dX6_flip_44 : decode cX6_flip 44 = .ok (.invokevirtual 154, 3) := by decide +kernel
theorem dX6_flip_47 : decode cX6_flip 47 = .ok (.ireturn, 1) := by decide +kernel
set_option maxRecDepth 20000 in
theorem ggX6_cut_X2_size : GoodIn wsX6_cut wsX2_size := goodIn_r _ [8, 9, 25, 26] (by decide +kernel) (by decide +kernel)
set_option maxRecDepth 20000 in
theorem gX6_cut_X2_size : GoodIn wsX6_cut (wsV RX6 141 RX2 yX2_size wsX2_size) := goodIn_app (goodIn_of _ (by decide +kernel)) ggX6_cut_X2_size
set_option maxRecDepth 20000 in
theorem ggX6_cut_X6_isOutside : GoodIn wsX6_cut wsX6_isOutside := goodIn_r _ [13] (by decide +kernel) (by decide +kernel)
set_option maxRecDepth 20000 in
theorem gX6_cut_X6_isOutside : GoodIn wsX6_cut (va_wsS RX6 49 yX6_isOutside wsX6_isOutside) := goodIn_app (goodIn_of _ (by decide +kernel)) ggX6_cut_X6_isOutside
set_option maxRecDepth 20000 in
theorem ggX6_cut_X2_keepFirst : GoodIn wsX6_cut wsX2_keepFirst := goodIn_r _ [17, 9, 25, 26] (by decide +kernel) (by decide +kernel)
set_option maxRecDepth 20000 in
theorem gX6_cut_X2_keepFirst : GoodIn wsX6_cut (wsV RX6 142 RX2 yX2_keepFirst wsX2_keepFirst) := goodIn_app (goodIn_of _ (by decide +kernel)) ggX6_cut_X2_keepFirst
theorem dX6_cut_0 : decode cX6_cut 0 = .ok (.aload_n 0, 1) := by decide +kernel
theorem dX6_cut_1 : decode cX6_cut 1 = .ok (.getfield 25, 3) := by decide +kernel
theorem dX6_cut_4 : decode cX6_cut 4 = .ok (.invokevirtual 141, 3) := by decide +kernel
theorem dX6_cut_7 : decode cX6_cut 7 = .ok (.istore_n 2, 1) := by decide +kernel
theorem dX6_cut_8 : decode cX6_cut 8 = .ok (.iload_n 1, 1) := by decide +kernel
theorem dX6_cut_9 : decode cX6_cut 9 = .ok (.iconst 0, 1) := by decide +kernel
theorem dX6_cut_10 : decode cX6_cut 10 = .ok (.iload_n 2, 1) := by decide +kernel
theorem dX6_cut_11 : decode cX6_cut 11 = .ok (.invokestatic 49, 3) := by decide +kernel
theorem dX6_cut_14 : decode cX6_cut 14 = .ok (.ifCond .eq 13, 3) := by decide +kernel
theorem dX6_cut_17 : decode cX6_cut 17 = .ok (.new 53, 3) := by decide +kernel
theorem dX6_cut_20 : decode cX6_cut 20 = .ok (.dup, 1) := by decide +kernel
theorem dX6_cut_21 : decode cX6_cut 21 = .ok (.ldc 177, 2) := by decide +kernel
theorem dX6_cut_23 : decode cX6_cut 23 = .ok (.invokespecial 57, 3) := by decide +kernel
theorem dX6_cut_26 : decode cX6_cut 26 = .ok (.athrow, 1) := by decide +kernel
theorem dX6_cut_27 : decode cX6_cut 27 = .ok (.aload_n 0, 1) := by decide +kernel
theorem dX6_cut_28 : decode cX6_cut 28 = .ok (.getfield 25, 3) := by decide +kernel
theorem dX6_cut_31 : decode cX6_cut 31 = .ok (.iload_n 1, 1) := by decide +kernel
theorem dX6_cut_32 : decode cX6_cut 32 = .ok (.invokevirtual 142, 3) := by decide +kernel
theorem dX6_cut_35 : decode cX6_cut 35 = .ok (.iload_n 2, 1) := by decide +kernel
theorem dX6_cut_36 : decode cX6_cut 36 = .ok (.iload_n 1, 1) := by decide +kernel
theorem dX6_cut_37 : decode cX6_cut 37 = .ok (.isub, 1) := by decide +kernel
theorem dX6_cut_38 : decode cX6_cut 38 = .ok (.ireturn, 1) := by decide +kernel
set_option maxRecDepth 20000 in
theorem ggX6_read_X6_placeOfFault : GoodIn wsX6_read wsX6_placeOfFault := goodIn_ca (goodIn_ca (goodIn_r _ [9, 10, 11, 4, 12, 13, 14, 15, 8, 16, 17, 18, 19, 20, 21, 22, 23, 24, 25, 26, 27, 28, 29, 30, 31, 32, 33, 34, 35, 36, 37, 38, 39, 40, 41, 42, 43, 44, 45, 46, 47, 48, 49, 50, 51, 52, 53, 54, 55, 56, 57, 58, 59, 60, 61, 62, 63, 64, 65, 66, 67, 68, 69, 70, 71, 72, 73, 74, 75, 76, 77, 78, 79, 80, 81, 82, 83, 84, 85, 86, 87, 88, 89, 90, 91, 92, 93, 94, 95, 96, 97, 98, 99, 100, 101, 102, 103, 104, 105, 106, 107, 108, 109, 110, 111, 121, 122, 123, 124, 125, 126, 127, 132, 133, 128, 129, 130, 131, 134, 135, 136, 137, 138, 139, 140, 141, 142, 143, 144, 145] (by decide +kernel) (by decide +kernel)) (goodIn_sub (fun _ h => List.mem_cons_of_mem _ (List.mem_append_left _ (List.mem_append_right _ h))) (by decide +kernel))) (goodIn_sub (fun _ h => List.mem_cons_of_mem _ (List.mem_append_right _ h)) (by decide +kernel))
set_option maxRecDepth 20000 in
theorem gX6_read_X6_placeOfFault : GoodIn wsX6_read (wsV RX6 179 RX6 yX6_placeOfFault wsX6_placeOfFault) := goodIn_app (goodIn_of _ (by decide +kernel)) ggX6_read_X6_placeOfFault
set_option maxRecDepth 20000 in
theorem ggX6_read_X2_becomeCopyOf : GoodIn wsX6_read wsX2_becomeCopyOf := goodIn_r _ [115, 116, 40, 41, 42, 43, 44, 117, 69, 70, 71, 118, 60, 61, 62, 63, 64, 65, 66, 67, 119, 73, 74, 75, 134, 135] (by decide +kernel) (by decide +kernel)
set_option maxRecDepth 20000 in
theorem gX6_read_X2_becomeCopyOf : GoodIn wsX6_read (wsV RX6 167 RX2 yX2_becomeCopyOf wsX2_becomeCopyOf) := goodIn_app (goodIn_of _ (by decide +kernel)) ggX6_read_X2_becomeCopyOf
set_option maxRecDepth 20000 in
theorem ggX6_read_X2_size : GoodIn wsX6_read wsX2_size := goodIn_r _ [71, 44, 134, 135] (by decide +kernel) (by decide +kernel)
set_option maxRecDepth 20000 in
theorem gX6_read_X2_size : GoodIn wsX6_read (wsV RX6 141 RX2 yX2_size wsX2_size) := goodIn_app (goodIn_of _ (by decide +kernel)) ggX6_read_X2_size
theorem dX6_read_0 : decode cX6_read 0 = .ok (.aload_n 0, 1) := by decide +kernel
theorem dX6_read_1 : decode cX6_read 1 = .ok (.iload_n 1, 1) := by decide +kernel
theorem dX6_read_2 : decode cX6_read 2 = .ok (.iload_n 2, 1) := by decide +kernel
theorem dX6_read_3 : decode cX6_read 3 = .ok (.invokevirtual 179, 3) := by decide +kernel
theorem dX6_read_6 : decode cX6_read 6 = .ok (.iconst (-1), 1) := by decide +kernel
theorem dX6_read_7 : decode cX6_read 7 = .ok (.if_icmp .eq 13, 3) := by decide +kernel
theorem dX6_read_10 : decode cX6_read 10 = .ok (.new 92, 3) := by decide +kernel
theorem dX6_read_13 : decode cX6_read 13 = .ok (.dup, 1) := by decide +kernel
theorem dX6_read_14 : decode cX6_read 14 = .ok (.ldc 183, 2) := by decide +kernel
theorem dX6_read_16 : decode cX6_read 16 = .ok (.invokespecial 96, 3) := by decide +kernel
theorem dX6_read_19 : decode cX6_read 19 = .ok (.athrow, 1) := by decide +kernel
theorem dX6_read_20 : decode cX6_read 20 = .ok (.aload_n 0, 1) := by decide +kernel
theorem dX6_read_21 : decode cX6_read 21 = .ok (.getfield 21, 3) := by decide +kernel
theorem dX6_read_24 : decode cX6_read 24 = .ok (.aload_n 0, 1) := by decide +kernel
theorem dX6_read_25 : decode cX6_read 25 = .ok (.getfield 38, 3) := by decide +kernel
theorem dX6_read_28 : decode cX6_read 28 = .ok (.getfield 185, 3) := by decide +kernel
theorem dX6_read_31 : decode cX6_read 31 = .ok (.invokevirtual 167, 3) := by decide +kernel
theorem dX6_read_34 : decode cX6_read 34 = .ok (.aload_n 0, 1) := by decide +kernel
theorem dX6_read_35 : decode cX6_read 35 = .ok (.getfield 21, 3) := by decide +kernel
theorem dX6_read_38 : decode cX6_read 38 = .ok (.invokevirtual 141, 3) := by decide +kernel
theorem dX6_read_41 : decode cX6_read 41 = .ok (.ireturn, 1) := by decide +kernel
set_option maxRecDepth 20000 in
theorem ggX6_faultAt_X6_placeOfFault : GoodIn wsX6_faultAt wsX6_placeOfFault := goodIn_ca (goodIn_ca (goodIn_r _ [5, 6, 7, 8, 9, 10, 11, 12, 4, 13, 14, 15, 16, 17, 18, 19, 20, 21, 22, 23, 24, 25, 26, 27, 28, 29, 30, 31, 32, 33, 34, 35, 36, 37, 38, 39, 40, 41, 42, 43, 44, 45, 46, 47, 48, 49, 50, 51, 52, 53, 54, 55, 56, 57, 58, 59, 60, 61, 62, 63, 64, 65, 66, 67, 68, 69, 70, 71, 72, 73, 74, 75, 76, 77, 78, 79, 80, 81, 82, 83, 84, 85, 86, 87, 88, 89, 90, 91, 92, 93, 94, 95, 96, 97, 98, 99, 100, 101, 102, 103, 104, 105, 106, 107, 108, 109, 110, 111, 112, 113, 114, 115, 116, 117, 118, 119, 120, 121, 122, 123, 124, 125, 126, 127, 128, 129, 130, 131, 132, 133] (by decide +kernel) (by decide +kernel)) (goodIn_sub (fun _ h => List.mem_cons_of_mem _ (List.mem_append_left _ (List.mem_append_right _ h))) (by decide +kernel))) (goodIn_sub (fun _ h => List.mem_cons_of_mem _ (List.mem_append_right _ h)) (by decide +kernel))
set_option maxRecDepth 20000 in
theorem gX6_faultAt_X6_placeOfFault : GoodIn wsX6_faultAt (wsV RX6 179 RX6 yX6_placeOfFault wsX6_placeOfFault) := goodIn_app (goodIn_of _ (by decide +kernel)) ggX6_faultAt_X6_placeOfFault
theorem dX6_faultAt_0 : decode cX6_faultAt 0 = .ok (.aload_n 0, 1) := by decide +kernel
theorem dX6_faultAt_1 : decode cX6_faultAt 1 = .ok (.iload_n 1, 1) := by decide +kernel
theorem dX6_faultAt_2 : decode cX6_faultAt 2 = .ok (.iload_n 2, 1) := by decide +kernel
theorem dX6_faultAt_3 : decode cX6_faultAt 3 = .ok (.invokevirtual 179, 3) := by decide +kernel
theorem dX6_faultAt_6 : decode cX6_faultAt 6 = .ok (.ireturn, 1) := by decide +kernel
theorem dX6_isOutside_0 : decode cX6_isOutside 0 = .ok (.iload_n 0, 1) := by decide +kernel
theorem dX6_isOutside_1 : decode cX6_isOutside 1 = .ok (.iload_n 1, 1) := by decide +kernel
theorem dX6_isOutside_2 : decode cX6_isOutside 2 = .ok (.if_icmp .lt 8, 3) := by decide +kernel
theorem dX6_isOutside_5 : decode cX6_isOutside 5 = .ok (.iload_n 0, 1) := by decide +kernel
theorem dX6_isOutside_6 : decode cX6_isOutside 6 = .ok (.iload_n 2, 1) := by decide +kernel
theorem dX6_isOutside_7 : decode cX6_isOutside 7 = .ok (.if_icmp .le 7, 3) := by decide +kernel
theorem dX6_isOutside_10 : decode cX6_isOutside 10 = .ok (.iconst 1, 1) := by decide +kernel
theorem dX6_isOutside_11 : decode cX6_isOutside 11 = .ok (.goto 4, 3) := by decide +kernel
theorem dX6_isOutside_14 : decode cX6_isOutside 14 = .ok (.iconst 0, 1) := by decide +kernel
theorem dX6_isOutside_15 : decode cX6_isOutside 15 = .ok (.ireturn, 1) := by decide +kernel
set_option maxRecDepth 20000 in
theorem ggX6_typeNumbered_X4_at : GoodIn wsX6_typeNumbered wsX4_at := goodIn_r _ [8, 9, 10, 18, 19] (by decide +kernel) (by decide +kernel)
set_option maxRecDepth 20000 in
theorem gX6_typeNumbered_X4_at : GoodIn wsX6_typeNumbered (wsV RX6 188 RX4 yX4_at wsX4_at) := goodIn_app (goodIn_of _ (by decide +kernel)) ggX6_typeNumbered_X4_at
theorem dX6_typeNumbered_0 : decode cX6_typeNumbered 0 = .ok (.aload_n 0, 1) := by decide +kernel
theorem dX6_typeNumbered_1 : decode cX6_typeNumbered 1 = .ok (.getfield 14, 3) := by decide +kernel
theorem dX6_typeNumbered_4 : decode cX6_typeNumbered 4 = .ok (.iload_n 1, 1) := by decide +kernel
theorem dX6_typeNumbered_5 : decode cX6_typeNumbered 5 = .ok (.invokevirtual 188, 3) := by decide +kernel
theorem dX6_typeNumbered_8 : decode cX6_typeNumbered 8 = .ok (.astore_n 2, 1) := by decide +kernel
theorem dX6_typeNumbered_9 : decode cX6_typeNumbered 9 = .ok (.aload_n 2, 1) := by decide +kernel
theorem dX6_typeNumbered_10 : decode cX6_typeNumbered 10 = .ok (.ifnonnull 13, 3) := by decide +kernel
theorem dX6_typeNumbered_13 : decode cX6_typeNumbered 13 = .ok (.new 149, 3) := by decide +kernel
theorem dX6_typeNumbered_16 : decode cX6_typeNumbered 16 = .ok (.dup, 1) := by decide +kernel
theorem dX6_typeNumbered_17 : decode cX6_typeNumbered 17 = .ok (.ldc 190, 2) := by decide +kernel
theorem dX6_typeNumbered_19 : decode cX6_typeNumbered 19 = .ok (.invokespecial 153, 3) := by decide +kernel
theorem dX6_typeNumbered_22 : decode cX6_typeNumbered 22 = .ok (.athrow, 1) := by decide +kernel
theorem dX6_typeNumbered_23 : decode cX6_typeNumbered 23 = .ok (.aload_n 2, 1) := by decide +kernel
theorem dX6_typeNumbered_24 : decode cX6_typeNumbered 24 = .ok (.areturn, 1) := by decide +kernel
set_option maxRecDepth 20000 in
theorem ggX6_keep_X4_isFull : GoodIn wsX6_keep wsX4_isFull := goodIn_r _ [8, 9, 10, 76, 77] (by decide +kernel) (by decide +kernel)
set_option maxRecDepth 20000 in
theorem gX6_keep_X4_isFull : GoodIn wsX6_keep (wsV RX6 88 RX4 yX4_isFull wsX4_isFull) := goodIn_app (goodIn_of _ (by decide +kernel)) ggX6_keep_X4_isFull
set_option maxRecDepth 20000 in
theorem ggX6_keep_X3_measure : GoodIn wsX6_keep wsX3_measure := goodIn_r _ [15, 16, 17, 18, 19, 20, 21, 22, 23, 24, 25, 26, 14, 27, 28, 29, 30, 31, 32, 33, 7, 34, 9, 10, 35, 36, 37, 38, 39, 40, 41, 42, 43, 44, 45, 46, 47, 48, 49, 50, 51, 52, 53, 54, 55, 56, 57, 58, 59, 60, 61, 62, 63, 78, 79, 80, 81, 82, 83, 84, 85, 86, 87, 76, 77] (by decide +kernel) (by decide +kernel)
set_option maxRecDepth 20000 in
theorem gX6_keep_X3_measure : GoodIn wsX6_keep (wsV RX6 192 RX3 yX3_measure wsX3_measure) := goodIn_app (goodIn_of _ (by decide +kernel)) ggX6_keep_X3_measure
set_option maxRecDepth 20000 in
theorem ggX6_keep_X4_append : GoodIn wsX6_keep wsX4_append := goodIn_r _ [67, 9, 10, 76, 77] (by decide +kernel) (by decide +kernel)
set_option maxRecDepth 20000 in
theorem gX6_keep_X4_append : GoodIn wsX6_keep (wsV RX6 81 RX4 yX4_append wsX4_append) := goodIn_app (goodIn_of _ (by decide +kernel)) ggX6_keep_X4_append
set_option maxRecDepth 20000 in
theorem ggX6_keep_X4_size : GoodIn wsX6_keep wsX4_size := goodIn_r _ [49, 9, 76, 77] (by decide +kernel) (by decide +kernel)
set_option maxRecDepth 20000 in
theorem gX6_keep_X4_size : GoodIn wsX6_keep (wsV RX6 97 RX4 yX4_size wsX4_size) := goodIn_app (goodIn_of _ (by decide +kernel)) ggX6_keep_X4_size
theorem dX6_keep_0 : decode cX6_keep 0 = .ok (.aload_n 0, 1) := by decide +kernel
theorem dX6_keep_1 : decode cX6_keep 1 = .ok (.getfield 14, 3) := by decide +kernel
theorem dX6_keep_4 : decode cX6_keep 4 = .ok (.invokevirtual 88, 3) := by decide +kernel
theorem dX6_keep_7 : decode cX6_keep 7 = .ok (.ifCond .ne 10, 3) := by decide +kernel
theorem dX6_keep_10 : decode cX6_keep 10 = .ok (.aload_n 1, 1) := by decide +kernel
theorem dX6_keep_11 : decode cX6_keep 11 = .ok (.invokevirtual 192, 3) := by decide +kernel
theorem dX6_keep_14 : decode cX6_keep 14 = .ok (.ifCond .ne 13, 3) := by decide +kernel
theorem dX6_keep_17 : decode cX6_keep 17 = .ok (.new 92, 3) := by decide +kernel
theorem dX6_keep_20 : decode cX6_keep 20 = .ok (.dup, 1) := by decide +kernel
theorem dX6_keep_21 : decode cX6_keep 21 = .ok (.ldc 195, 2) := by decide +kernel
theorem dX6_keep_23 : decode cX6_keep 23 = .ok (.invokespecial 96, 3) := by decide +kernel
theorem dX6_keep_26 : decode cX6_keep 26 = .ok (.athrow, 1) := by decide +kernel
theorem dX6_keep_27 : decode cX6_keep 27 = .ok (.aload_n 0, 1) := by decide +kernel
theorem dX6_keep_28 : decode cX6_keep 28 = .ok (.getfield 14, 3) := by decide +kernel
theorem dX6_keep_31 : decode cX6_keep 31 = .ok (.aload_n 1, 1) := by decide +kernel
theorem dX6_keep_32 : decode cX6_keep 32 = .ok (.invokevirtual 81, 3) := by decide +kernel
theorem dX6_keep_35 : decode cX6_keep 35 = .ok (.aload_n 0, 1) := by decide +kernel
theorem dX6_keep_36 : decode cX6_keep 36 = .ok (.getfield 14, 3) := by decide +kernel
theorem dX6_keep_39 : decode cX6_keep 39 = .ok (.invokevirtual 97, 3) := by decide +kernel
theorem dX6_keep_42 : decode cX6_keep 42 = .ok (.iconst 1, 1) := by decide +kernel
theorem dX6_keep_43 : decode cX6_keep 43 = .ok (.isub, 1) := by decide +kernel
theorem dX6_keep_44 : decode cX6_keep 44 = .ok (.ireturn, 1) := by decide +kernel
set_option maxRecDepth 20000 in
theorem ggX6_keepDraft_X4_size : GoodIn wsX6_keepDraft wsX4_size := goodIn_r _ [11, 12, 93, 94] (by decide +kernel) (by decide +kernel)
set_option maxRecDepth 20000 in
theorem gX6_keepDraft_X4_size : GoodIn wsX6_keepDraft (wsV RX6 97 RX4 yX4_size wsX4_size) := goodIn_app (goodIn_of _ (by decide +kernel)) ggX6_keepDraft_X4_size
set_option maxRecDepth 20000 in
theorem ggX6_keepDraft_X6_keep : GoodIn wsX6_keepDraft wsX6_keep := goodIn_ca (goodIn_r _ [17, 1, 2, 18, 19, 20, 21, 6, 22, 12, 23, 24, 25, 26, 27, 28, 29, 30, 31, 32, 33, 34, 35, 36, 37, 38, 39, 40, 41, 42, 43, 44, 45, 46, 47, 48, 49, 50, 51, 52, 53, 54, 55, 56, 57, 58, 59, 9, 10, 11, 60, 61, 62, 63, 64, 65, 66, 67, 68, 69, 70, 71, 72, 73, 74, 75, 76, 77, 8, 86, 87, 88, 89, 90, 91, 92, 93, 94, 95, 96, 97, 98, 99, 100, 101, 102, 103, 104] (by decide +kernel) (by decide +kernel)) (goodIn_sub (fun _ h => List.mem_cons_of_mem _ (List.mem_append_right _ h)) (by decide +kernel))
set_option maxRecDepth 20000 in
theorem gX6_keepDraft_X6_keep : GoodIn wsX6_keepDraft (wsV RX6 71 RX6 yX6_keep wsX6_keep) := goodIn_app (goodIn_of _ (by decide +kernel)) ggX6_keepDraft_X6_keep
set_option maxRecDepth 20000 in
theorem ggX6_keepDraft_X4_init : GoodIn wsX6_keepDraft wsX4_init := goodIn_r _ [80, 81, 82, 83, 12, 84, 57, 54, 58, 85, 23, 93, 94] (by decide +kernel) (by decide +kernel)
set_option maxRecDepth 20000 in
theorem gX6_keepDraft_X4_init : GoodIn wsX6_keepDraft (wsX4_init) := ggX6_keepDraft_X4_init
theorem dX6_keepDraft_0 : decode cX6_keepDraft 0 = .ok (.aload_n 0, 1) := by decide +kernel
theorem dX6_keepDraft_1 : decode cX6_keepDraft 1 = .ok (.getfield 42, 3) := by decide +kernel
theorem dX6_keepDraft_4 : decode cX6_keepDraft 4 = .ok (.invokevirtual 97, 3) := by decide +kernel
theorem dX6_keepDraft_7 : decode cX6_keepDraft 7 = .ok (.ifCond .ne 13, 3) := by decide +kernel
theorem dX6_keepDraft_10 : decode cX6_keepDraft 10 = .ok (.new 92, 3) := by decide +kernel
theorem dX6_keepDraft_13 : decode cX6_keepDraft 13 = .ok (.dup, 1) := by decide +kernel
theorem dX6_keepDraft_14 : decode cX6_keepDraft 14 = .ok (.ldc 197, 2) := by decide +kernel
theorem dX6_keepDraft_16 : decode cX6_keepDraft 16 = .ok (.invokespecial 96, 3) := by decide +kernel
theorem dX6_keepDraft_19 : decode cX6_keepDraft 19 = .ok (.athrow, 1) := by decide +kernel
theorem dX6_keepDraft_20 : decode cX6_keepDraft 20 = .ok (.aload_n 0, 1) := by decide +kernel
theorem dX6_keepDraft_21 : decode cX6_keepDraft 21 = .ok (.aload_n 1, 1) := by decide +kernel
theorem dX6_keepDraft_22 : decode cX6_keepDraft 22 = .ok (.invokevirtual 71, 3) := by decide +kernel
theorem dX6_keepDraft_25 : decode cX6_keepDraft 25 = .ok (.istore_n 2, 1) := by decide +kernel
theorem dX6_keepDraft_26 : decode cX6_keepDraft 26 = .ok (.aload_n 0, 1) := by decide +kernel
theorem dX6_keepDraft_27 : decode cX6_keepDraft 27 = .ok (.new 7, 3) := by decide +kernel
theorem dX6_keepDraft_30 : decode cX6_keepDraft 30 = .ok (.dup, 1) := by decide +kernel
theorem dX6_keepDraft_31 : decode cX6_keepDraft 31 = .ok (.bipush 6, 2) := by decide +kernel
theorem dX6_keepDraft_33 : decode cX6_keepDraft 33 = .ok (.invokespecial 11, 3) := by decide +kernel
theorem dX6_keepDraft_36 : decode cX6_keepDraft 36 = .ok (.putfield 42, 3) := by decide +kernel
theorem dX6_keepDraft_39 : decode cX6_keepDraft 39 = .ok (.aload_n 0, 1) := by decide +kernel
theorem dX6_keepDraft_40 : decode cX6_keepDraft 40 = .ok (.iconst 0, 1) := by decide +kernel
theorem dX6_keepDraft_41 : decode cX6_keepDraft 41 = .ok (.putfield 45, 3) := by decide +kernel
theorem dX6_keepDraft_44 : decode cX6_keepDraft 44 = .ok (.iload_n 2, 1) := by decide +kernel
theorem dX6_keepDraft_45 : decode cX6_keepDraft 45 = .ok (.ireturn, 1) := by decide +kernel
set_option maxRecDepth 20000 in
theorem ggX6_placeOfFault_X6_typeNumbered : GoodIn wsX6_placeOfFault wsX6_typeNumbered := goodIn_ca (goodIn_r _ [9, 10, 11, 12, 13, 14, 15, 16, 17, 18, 19, 105, 106, 107, 108, 109, 110, 111, 112, 113] (by decide +kernel) (by decide +kernel)) (goodIn_sub (fun _ h => List.mem_cons_of_mem _ (List.mem_append_right _ h)) (by decide +kernel))
set_option maxRecDepth 20000 in
theorem gX6_placeOfFault_X6_typeNumbered : GoodIn wsX6_placeOfFault (wsV RX6 75 RX6 yX6_typeNumbered wsX6_typeNumbered) := goodIn_app (goodIn_of _ (by decide +kernel)) ggX6_placeOfFault_X6_typeNumbered
set_option maxRecDepth 20000 in
theorem ggX6_placeOfFault_X6_isOutside : GoodIn wsX6_placeOfFault wsX6_isOutside := goodIn_r _ [22] (by decide +kernel) (by decide +kernel)
set_option maxRecDepth 20000 in
theorem gX6_placeOfFault_X6_isOutside : GoodIn wsX6_placeOfFault (va_wsS RX6 49 yX6_isOutside wsX6_isOutside) := goodIn_app (goodIn_of _ (by decide +kernel)) ggX6_placeOfFault_X6_isOutside
set_option maxRecDepth 20000 in
theorem ggX6_placeOfFault_X1_walk : GoodIn wsX6_placeOfFault wsX1_walk := goodIn_r _ [27, 28, 29, 30, 31, 32, 33, 34, 35, 36, 37, 38, 39, 40, 26, 41, 42, 43, 44, 45, 46, 47, 48, 49, 50, 51, 52, 53, 54, 55, 56, 57, 58, 59, 60, 61, 62, 63, 64, 65, 66, 67, 68, 69, 14, 15, 16, 17, 18, 19, 70, 71, 72, 73, 74, 75, 76, 77, 78, 79, 80, 81, 82, 83, 84, 85, 86, 87, 88, 89, 90, 91, 92, 93, 94, 95, 96, 97, 98, 99, 100, 101, 102, 103, 104, 114, 115, 116, 117, 118, 119, 120, 121, 122, 123, 124, 125, 126, 127, 128, 129, 112, 113] (by decide +kernel) (by decide +kernel)
set_option maxRecDepth 20000 in
theorem gX6_placeOfFault_X1_walk : GoodIn wsX6_placeOfFault (wsV RX6 201 RX1 yX1_walk wsX1_walk) := goodIn_app (goodIn_of _ (by decide +kernel)) ggX6_placeOfFault_X1_walk
theorem dX6_placeOfFault_0 : decode cX6_placeOfFault 0 = .ok (.aload_n 0, 1) := by decide +kernel
theorem dX6_placeOfFault_1 : decode cX6_placeOfFault 1 = .ok (.iload_n 1, 1) := by decide +kernel
theorem dX6_placeOfFault_2 : decode cX6_placeOfFault 2 = .ok (.invokevirtual 75, 3) := by decide +kernel
theorem dX6_placeOfFault_5 : decode cX6_placeOfFault 5 = .ok (.astore_n 3, 1) := by decide +kernel
theorem dX6_placeOfFault_6 : decode cX6_placeOfFault 6 = .ok (.iload_n 2, 1) := by decide +kernel
theorem dX6_placeOfFault_7 : decode cX6_placeOfFault 7 = .ok (.iconst 0, 1) := by decide +kernel
theorem dX6_placeOfFault_8 : decode cX6_placeOfFault 8 = .ok (.iconst 3, 1) := by decide +kernel
theorem dX6_placeOfFault_9 : decode cX6_placeOfFault 9 = .ok (.invokestatic 49, 3) := by decide +kernel
theorem dX6_placeOfFault_12 : decode cX6_placeOfFault 12 = .ok (.ifCond .eq 13, 3) := by decide +kernel
theorem dX6_placeOfFault_15 : decode cX6_placeOfFault 15 = .ok (.new 53, 3) := by decide +kernel
theorem dX6_placeOfFault_18 : decode cX6_placeOfFault 18 = .ok (.dup, 1) := by decide +kernel
theorem dX6_placeOfFault_19 : decode cX6_placeOfFault 19 = .ok (.ldc 199, 2) := by decide +kernel
theorem dX6_placeOfFault_21 : decode cX6_placeOfFault 21 = .ok (.invokespecial 57, 3) := by decide +kernel
theorem dX6_placeOfFault_24 : decode cX6_placeOfFault 24 = .ok (.athrow, 1) := by decide +kernel
theorem dX6_placeOfFault_25 : decode cX6_placeOfFault 25 = .ok (.aload_n 0, 1) := by decide +kernel
theorem dX6_placeOfFault_26 : decode cX6_placeOfFault 26 = .ok (.getfield 38, 3) := by decide +kernel
theorem dX6_placeOfFault_29 : decode cX6_placeOfFault 29 = .ok (.aload_n 3, 1) := by decide +kernel
theorem dX6_placeOfFault_30 : decode cX6_placeOfFault 30 = .ok (.aload_n 0, 1) := by decide +kernel
theorem dX6_placeOfFault_31 : decode cX6_placeOfFault 31 = .ok (.getfield 25, 3) := by decide +kernel
theorem dX6_placeOfFault_34 : decode cX6_placeOfFault 34 = .ok (.iload_n 2, 1) := by decide +kernel
theorem dX6_placeOfFault_35 : decode cX6_placeOfFault 35 = .ok (.invokevirtual 201, 3) := by decide +kernel
theorem dX6_placeOfFault_38 : decode cX6_placeOfFault 38 = .ok (.ireturn, 1) := by decide +kernel
theorem dX6_widthFor_0 : decode cX6_widthFor 0 = .ok (.iconst 0, 1) := by decide +kernel
theorem dX6_widthFor_1 : decode cX6_widthFor 1 = .ok (.istore_n 1, 1) := by decide +kernel
theorem dX6_widthFor_2 : decode cX6_widthFor 2 = .ok (.iload_n 1, 1) := by decide +kernel
theorem dX6_widthFor_3 : decode cX6_widthFor 3 = .ok (.bipush 11, 2) := by decide +kernel
theorem dX6_widthFor_5 : decode cX6_widthFor 5 = .ok (.if_icmp .ge 16, 3) := by decide +kernel
theorem dX6_widthFor_8 : decode cX6_widthFor 8 = .ok (.iconst 1, 1) := by decide +kernel
theorem dX6_widthFor_9 : decode cX6_widthFor 9 = .ok (.iload_n 1, 1) := by decide +kernel
theorem dX6_widthFor_10 : decode cX6_widthFor 10 = .ok (.ishl, 1) := by decide +kernel
theorem dX6_widthFor_11 : decode cX6_widthFor 11 = .ok (.iload_n 0, 1) := by decide +kernel
theorem dX6_widthFor_12 : decode cX6_widthFor 12 = .ok (.if_icmp .ge 9, 3) := by decide +kernel
theorem dX6_widthFor_15 : decode cX6_widthFor 15 = .ok (.iinc 1 1, 3) := by decide +kernel
theorem dX6_widthFor_18 : decode cX6_widthFor 18 = .ok (.goto (-16), 3) := by decide +kernel
theorem dX6_widthFor_21 : decode cX6_widthFor 21 = .ok (.iload_n 1, 1) := by decide +kernel
theorem dX6_widthFor_22 : decode cX6_widthFor 22 = .ok (.ireturn, 1) := by decide +kernel
theorem dX7_init_0 : decode cX7_init 0 = .ok (.aload_n 0, 1) := by decide +kernel
theorem dX7_init_1 : decode cX7_init 1 = .ok (.invokespecial 1, 3) := by decide +kernel
theorem dX7_init_4 : decode cX7_init 4 = .ok (.aload_n 0, 1) := by decide +kernel
theorem dX7_init_5 : decode cX7_init 5 = .ok (.bipush 16, 2) := by decide +kernel
theorem dX7_init_7 : decode cX7_init 7 = .ok (.newarray .int, 2) := by decide +kernel
theorem dX7_init_9 : decode cX7_init 9 = .ok (.putfield 7, 3) := by decide +kernel
theorem dX7_init_12 : decode cX7_init 12 = .ok (.aload_n 0, 1) := by decide +kernel
theorem dX7_init_13 : decode cX7_init 13 = .ok (.bipush 16, 2) := by decide +kernel
theorem dX7_init_15 : decode cX7_init 15 = .ok (.newarray .int, 2) := by decide +kernel
theorem dX7_init_17 : decode cX7_init 17 = .ok (.putfield 13, 3) := by decide +kernel
theorem dX7_init_20 : decode cX7_init 20 = .ok (.aload_n 0, 1) := by decide +kernel
theorem dX7_init_21 : decode cX7_init 21 = .ok (.bipush 16, 2) := by decide +kernel
theorem dX7_init_23 : decode cX7_init 23 = .ok (.newarray .int, 2) := by decide +kernel
theorem dX7_init_25 : decode cX7_init 25 = .ok (.putfield 16, 3) := by decide +kernel
theorem dX7_init_28 : decode cX7_init 28 = .ok (.aload_n 0, 1) := by decide +kernel
theorem dX7_init_29 : decode cX7_init 29 = .ok (.bipush 96, 2) := by decide +kernel
theorem dX7_init_31 : decode cX7_init 31 = .ok (.newarray .int, 2) := by decide +kernel
theorem dX7_init_33 : decode cX7_init 33 = .ok (.putfield 19, 3) := by decide +kernel
theorem dX7_init_36 : decode cX7_init 36 = .ok (.aload_n 0, 1) := by decide +kernel
theorem dX7_init_37 : decode cX7_init 37 = .ok (.bipush 16, 2) := by decide +kernel
theorem dX7_init_39 : decode cX7_init 39 = .ok (.newarray .int, 2) := by decide +kernel
theorem dX7_init_41 : decode cX7_init 41 = .ok (.putfield 22, 3) := by decide +kernel
theorem dX7_init_44 : decode cX7_init 44 = .ok (.aload_n 0, 1) := by decide +kernel
theorem dX7_init_45 : decode cX7_init 45 = .ok (.bipush 48, 2) := by decide +kernel
theorem dX7_init_47 : decode cX7_init 47 = .ok (.newarray .int, 2) := by decide +kernel
theorem dX7_init_49 : decode cX7_init 49 = .ok (.putfield 25, 3) := by decide +kernel
theorem dX7_init_52 : decode cX7_init 52 = .ok (.aload_n 0, 1) := by decide +kernel
theorem dX7_init_53 : decode cX7_init 53 = .ok (.bipush 16, 2) := by decide +kernel
theorem dX7_init_55 : decode cX7_init 55 = .ok (.newarray .int, 2) := by decide +kernel
theorem dX7_init_57 : decode cX7_init 57 = .ok (.putfield 28, 3) := by decide +kernel
theorem dX7_init_60 : decode cX7_init 60 = .ok (.aload_n 0, 1) := by decide +kernel
theorem dX7_init_61 : decode cX7_init 61 = .ok (.bipush 16, 2) := by decide +kernel
theorem dX7_init_63 : decode cX7_init 63 = .ok (.newarray .int, 2) := by decide +kernel
theorem dX7_init_65 : decode cX7_init 65 = .ok (.putfield 31, 3) := by decide +kernel
theorem dX7_init_68 : decode cX7_init 68 = .ok (.aload_n 0, 1) := by decide +kernel
theorem dX7_init_69 : decode cX7_init 69 = .ok (.bipush 16, 2) := by decide +kernel
theorem dX7_init_71 : decode cX7_init 71 = .ok (.newarray .int, 2) := by decide +kernel
theorem dX7_init_73 : decode cX7_init 73 = .ok (.putfield 34, 3) := by decide +kernel
theorem dX7_init_76 : decode cX7_init 76 = .ok (.aload_n 0, 1) := by decide +kernel
theorem dX7_init_77 : decode cX7_init 77 = .ok (.bipush 16, 2) := by decide +kernel
theorem dX7_init_79 : decode cX7_init 79 = .ok (.newarray .int, 2) := by decide +kernel
theorem dX7_init_81 : decode cX7_init 81 = .ok (.putfield 37, 3) := by decide +kernel
theorem dX7_init_84 : decode cX7_init 84 = .ok (.aload_n 0, 1) := by decide +kernel
theorem dX7_init_85 : decode cX7_init 85 = .ok (.bipush 6, 2) := by decide +kernel
theorem dX7_init_87 : decode cX7_init 87 = .ok (.newarray .int, 2) := by decide +kernel
theorem dX7_init_89 : decode cX7_init 89 = .ok (.putfield 40, 3) := by decide +kernel
theorem dX7_init_92 : decode cX7_init 92 = .ok (.aload_n 0, 1) := by decide +kernel
theorem dX7_init_93 : decode cX7_init 93 = .ok (.sipush 300, 3) := by decide +kernel
theorem dX7_init_96 : decode cX7_init 96 = .ok (.newarray .int, 2) := by decide +kernel
theorem dX7_init_98 : decode cX7_init 98 = .ok (.putfield 43, 3) := by decide +kernel
theorem dX7_init_101 : decode cX7_init 101 = .ok (.aload_n 0, 1) := by decide +kernel
theorem dX7_init_102 : decode cX7_init 102 = .ok (.sipush 300, 3) := by decide +kernel
theorem dX7_init_105 : decode cX7_init 105 = .ok (.newarray .int, 2) := by decide +kernel
theorem dX7_init_107 : decode cX7_init 107 = .ok (.putfield 46, 3) := by decide +kernel
theorem dX7_init_110 : decode cX7_init 110 = .ok (.aload_n 0, 1) := by decide +kernel
theorem dX7_init_111 : decode cX7_init 111 = .ok (.sipush 300, 3) := by decide +kernel
theorem dX7_init_114 : decode cX7_init 114 = .ok (.newarray .int, 2) := by decide +kernel
theorem dX7_init_116 : decode cX7_init 116 = .ok (.putfield 49, 3) := by decide +kernel
theorem dX7_init_119 : decode cX7_init 119 = .ok (.aload_n 0, 1) := by decide +kernel
theorem dX7_init_120 : decode cX7_init 120 = .ok (.bipush 20, 2) := by decide +kernel
theorem dX7_init_122 : decode cX7_init 122 = .ok (.newarray .int, 2) := by decide +kernel
theorem dX7_init_124 : decode cX7_init 124 = .ok (.putfield 52, 3) := by decide +kernel
theorem dX7_init_127 : decode cX7_init 127 = .ok (.aload_n 0, 1) := by decide +kernel
theorem dX7_init_128 : decode cX7_init 128 = .ok (.bipush 20, 2) := by decide +kernel
theorem dX7_init_130 : decode cX7_init 130 = .ok (.newarray .int, 2) := by decide +kernel
theorem dX7_init_132 : decode cX7_init 132 = .ok (.putfield 55, 3) := by decide +kernel
theorem dX7_init_135 : decode cX7_init 135 = .ok (.aload_n 0, 1) := by decide +kernel
theorem dX7_init_136 : decode cX7_init 136 = .ok (.bipush 20, 2) := by decide +kernel
theorem dX7_init_138 : decode cX7_init 138 = .ok (.newarray .int, 2) := by decide +kernel
theorem dX7_init_140 : decode cX7_init 140 = .ok (.putfield 58, 3) := by decide +kernel
theorem dX7_init_143 : decode cX7_init 143 = .ok (.aload_n 0, 1) := by decide +kernel
theorem dX7_init_144 : decode cX7_init 144 = .ok (.bipush 20, 2) := by decide +kernel
theorem dX7_init_146 : decode cX7_init 146 = .ok (.newarray .int, 2) := by decide +kernel
theorem dX7_init_148 : decode cX7_init 148 = .ok (.putfield 61, 3) := by decide +kernel
theorem dX7_init_151 : decode cX7_init 151 = .ok (.aload_n 0, 1) := by decide +kernel
theorem dX7_init_152 : decode cX7_init 152 = .ok (.bipush 20, 2) := by decide +kernel
theorem dX7_init_154 : decode cX7_init 154 = .ok (.newarray .int, 2) := by decide +kernel
theorem dX7_init_156 : decode cX7_init 156 = .ok (.putfield 64, 3) := by decide +kernel
theorem dX7_init_159 : decode cX7_init 159 = .ok (.aload_n 0, 1) := by decide +kernel
theorem dX7_init_160 : decode cX7_init 160 = .ok (.bipush 20, 2) := by decide +kernel
theorem dX7_init_162 : decode cX7_init 162 = .ok (.newarray .int, 2) := by decide +kernel
theorem dX7_init_164 : decode cX7_init 164 = .ok (.putfield 67, 3) := by decide +kernel
theorem dX7_init_167 : decode cX7_init 167 = .ok (.aload_n 0, 1) := by decide +kernel
theorem dX7_init_168 : decode cX7_init 168 = .ok (.bipush 20, 2) := by decide +kernel
theorem dX7_init_170 : decode cX7_init 170 = .ok (.newarray .int, 2) := by decide +kernel
theorem dX7_init_172 : decode cX7_init 172 = .ok (.putfield 70, 3) := by decide +kernel
theorem dX7_init_175 : decode cX7_init 175 = .ok (.return_, 1) := by decide +kernel
theorem dX7_thrown_0 : decode cX7_thrown 0 = .ok (.aload_n 0, 1) := by decide +kernel
theorem dX7_thrown_1 : decode cX7_thrown 1 = .ok (.getfield 73, 3) := by decide +kernel
theorem dX7_thrown_4 : decode cX7_thrown 4 = .ok (.ireturn, 1) := by decide +kernel
theorem dX7_refused_0 : decode cX7_refused 0 = .ok (.aload_n 0, 1) := by decide +kernel
theorem dX7_refused_1 : decode cX7_refused 1 = .ok (.iload_n 1, 1) := by decide +kernel
theorem dX7_refused_2 : decode cX7_refused 2 = .ok (.putfield 73, 3) := by decide +kernel
theorem dX7_refused_5 : decode cX7_refused 5 = .ok (.iload_n 1, 1) := by decide +kernel
theorem dX7_refused_6 : decode cX7_refused 6 = .ok (.ifCond .eq 7, 3) := by decide +kernel
theorem dX7_refused_9 : decode cX7_refused 9 = .ok (.iconst 1, 1) := by decide +kernel
theorem dX7_refused_10 : decode cX7_refused 10 = .ok (.goto 4, 3) := by decide +kernel
theorem dX7_refused_13 : decode cX7_refused 13 = .ok (.iconst 0, 1) := by decide +kernel
theorem dX7_refused_14 : decode cX7_refused 14 = .ok (.ireturn, 1) := by decide +kernel
theorem dX7_fine_0 : decode cX7_fine 0 = .ok (.aload_n 0, 1) := by decide +kernel
theorem dX7_fine_1 : decode cX7_fine 1 = .ok (.iconst 0, 1) := by decide +kernel
theorem dX7_fine_2 : decode cX7_fine 2 = .ok (.putfield 73, 3) := by decide +kernel
theorem dX7_fine_5 : decode cX7_fine 5 = .ok (.iload_n 1, 1) := by decide +kernel
theorem dX7_fine_6 : decode cX7_fine 6 = .ok (.ireturn, 1) := by decide +kernel
theorem dX7_in_0 : decode cX7_in 0 = .ok (.iload_n 0, 1) := by decide +kernel
theorem dX7_in_1 : decode cX7_in 1 = .ok (.iload_n 1, 1) := by decide +kernel
theorem dX7_in_2 : decode cX7_in 2 = .ok (.if_icmp .lt 12, 3) := by decide +kernel
theorem dX7_in_5 : decode cX7_in 5 = .ok (.iload_n 0, 1) := by decide +kernel
theorem dX7_in_6 : decode cX7_in 6 = .ok (.iload_n 2, 1) := by decide +kernel
theorem dX7_in_7 : decode cX7_in 7 = .ok (.if_icmp .gt 7, 3) := by decide +kernel
theorem dX7_in_10 : decode cX7_in 10 = .ok (.iconst 1, 1) := by decide +kernel
theorem dX7_in_11 : decode cX7_in 11 = .ok (.goto 4, 3) := by decide +kernel
theorem dX7_in_14 : decode cX7_in 14 = .ok (.iconst 0, 1) := by decide +kernel
theorem dX7_in_15 : decode cX7_in 15 = .ok (.ireturn, 1) := by decide +kernel
set_option maxRecDepth 20000 in
theorem ggX7_isType_X7_in : GoodIn wsX7_isType wsX7_in := goodIn_r _ [5] (by decide +kernel) (by decide +kernel)
set_option maxRecDepth 20000 in
theorem gX7_isType_X7_in : GoodIn wsX7_isType (va_wsS RX7 80 yX7_in wsX7_in) := goodIn_app (goodIn_of _ (by decide +kernel)) ggX7_isType_X7_in
theorem dX7_isType_0 : decode cX7_isType 0 = .ok (.iload_n 1, 1) := by decide +kernel
theorem dX7_isType_1 : decode cX7_isType 1 = .ok (.iconst 0, 1) := by decide +kernel
theorem dX7_isType_2 : decode cX7_isType 2 = .ok (.aload_n 0, 1) := by decide +kernel
theorem dX7_isType_3 : decode cX7_isType 3 = .ok (.getfield 77, 3) := by decide +kernel
theorem dX7_isType_6 : decode cX7_isType 6 = .ok (.iconst 1, 1) := by decide +kernel
theorem dX7_isType_7 : decode cX7_isType 7 = .ok (.isub, 1) := by decide +kernel
theorem dX7_isType_8 : decode cX7_isType 8 = .ok (.invokestatic 80, 3) := by decide +kernel
theorem dX7_isType_11 : decode cX7_isType 11 = .ok (.ireturn, 1) := by decide +kernel
theorem dX7_width_0 : decode cX7_width 0 = .ok (.iconst 0, 1) := by decide +kernel
theorem dX7_width_1 : decode cX7_width 1 = .ok (.istore_n 1, 1) := by decide +kernel
theorem dX7_width_2 : decode cX7_width 2 = .ok (.iconst 1, 1) := by decide +kernel
theorem dX7_width_3 : decode cX7_width 3 = .ok (.iload_n 1, 1) := by decide +kernel
theorem dX7_width_4 : decode cX7_width 4 = .ok (.ishl, 1) := by decide +kernel
theorem dX7_width_5 : decode cX7_width 5 = .ok (.iload_n 0, 1) := by decide +kernel
theorem dX7_width_6 : decode cX7_width 6 = .ok (.if_icmp .ge 9, 3) := by decide +kernel
theorem dX7_width_9 : decode cX7_width 9 = .ok (.iinc 1 1, 3) := by decide +kernel
theorem dX7_width_12 : decode cX7_width 12 = .ok (.goto (-10), 3) := by decide +kernel
theorem dX7_width_15 : decode cX7_width 15 = .ok (.iload_n 1, 1) := by decide +kernel
theorem dX7_width_16 : decode cX7_width 16 = .ok (.ireturn, 1) := by decide +kernel
set_option maxRecDepth 20000 in
theorem ggX7_widthOf_X7_width : GoodIn wsX7_widthOf wsX7_width := goodIn_r _ [8] (by decide +kernel) (by decide +kernel)
set_option maxRecDepth 20000 in
theorem gX7_widthOf_X7_width : GoodIn wsX7_widthOf (va_wsS RX7 84 yX7_width wsX7_width) := goodIn_app (goodIn_of _ (by decide +kernel)) ggX7_widthOf_X7_width
theorem dX7_widthOf_0 : decode cX7_widthOf 0 = .ok (.aload_n 0, 1) := by decide +kernel
theorem dX7_widthOf_1 : decode cX7_widthOf 1 = .ok (.getfield 7, 3) := by decide +kernel
theorem dX7_widthOf_4 : decode cX7_widthOf 4 = .ok (.iload_n 1, 1) := by decide +kernel
theorem dX7_widthOf_5 : decode cX7_widthOf 5 = .ok (.iaload, 1) := by decide +kernel
theorem dX7_widthOf_6 : decode cX7_widthOf 6 = .ok (.iconst 3, 1) := by decide +kernel
theorem dX7_widthOf_7 : decode cX7_widthOf 7 = .ok (.if_icmp .ne 15, 3) := by decide +kernel
theorem dX7_widthOf_10 : decode cX7_widthOf 10 = .ok (.aload_n 0, 1) := by decide +kernel
theorem dX7_widthOf_11 : decode cX7_widthOf 11 = .ok (.getfield 22, 3) := by decide +kernel
theorem dX7_widthOf_14 : decode cX7_widthOf 14 = .ok (.iload_n 1, 1) := by decide +kernel
theorem dX7_widthOf_15 : decode cX7_widthOf 15 = .ok (.iaload, 1) := by decide +kernel
theorem dX7_widthOf_16 : decode cX7_widthOf 16 = .ok (.invokestatic 84, 3) := by decide +kernel
theorem dX7_widthOf_19 : decode cX7_widthOf 19 = .ok (.goto 21, 3) := by decide +kernel
theorem dX7_widthOf_22 : decode cX7_widthOf 22 = .ok (.aload_n 0, 1) := by decide +kernel
theorem dX7_widthOf_23 : decode cX7_widthOf 23 = .ok (.getfield 16, 3) := by decide +kernel
theorem dX7_widthOf_26 : decode cX7_widthOf 26 = .ok (.iload_n 1, 1) := by decide +kernel
theorem dX7_widthOf_27 : decode cX7_widthOf 27 = .ok (.iaload, 1) := by decide +kernel
theorem dX7_widthOf_28 : decode cX7_widthOf 28 = .ok (.aload_n 0, 1) := by decide +kernel
theorem dX7_widthOf_29 : decode cX7_widthOf 29 = .ok (.getfield 13, 3) := by decide +kernel
theorem dX7_widthOf_32 : decode cX7_widthOf 32 = .ok (.iload_n 1, 1) := by decide +kernel
theorem dX7_widthOf_33 : decode cX7_widthOf 33 = .ok (.iaload, 1) := by decide +kernel
theorem dX7_widthOf_34 : decode cX7_widthOf 34 = .ok (.isub, 1) := by decide +kernel
theorem dX7_widthOf_35 : decode cX7_widthOf 35 = .ok (.iconst 1, 1) := by decide +kernel
theorem dX7_widthOf_36 : decode cX7_widthOf 36 = .ok (.iadd, 1) := by decide +kernel
theorem dX7_widthOf_37 : decode cX7_widthOf 37 = .ok (.invokestatic 84, 3) := by decide +kernel
theorem dX7_widthOf_40 : decode cX7_widthOf 40 = .ok (.ireturn, 1) := by decide +kernel
theorem dX7_partOf_0 : decode cX7_partOf 0 = .ok (.aload_n 0, 1) := by decide +kernel
theorem dX7_partOf_1 : decode cX7_partOf 1 = .ok (.getfield 19, 3) := by decide +kernel
theorem dX7_partOf_4 : decode cX7_partOf 4 = .ok (.bipush 6, 2) := by decide +kernel
theorem dX7_partOf_6 : decode cX7_partOf 6 = .ok (.iload_n 1, 1) := by decide +kernel
theorem dX7_partOf_7 : decode cX7_partOf 7 = .ok (.imul, 1) := by decide +kernel
theorem dX7_partOf_8 : decode cX7_partOf 8 = .ok (.iload_n 2, 1) := by decide +kernel
theorem dX7_partOf_9 : decode cX7_partOf 9 = .ok (.iadd, 1) := by decide +kernel
theorem dX7_partOf_10 : decode cX7_partOf 10 = .ok (.iaload, 1) := by decide +kernel
theorem dX7_partOf_11 : decode cX7_partOf 11 = .ok (.bipush 100, 2) := by decide +kernel
theorem dX7_partOf_13 : decode cX7_partOf 13 = .ok (.irem, 1) := by decide +kernel
theorem dX7_partOf_14 : decode cX7_partOf 14 = .ok (.ireturn, 1) := by decide +kernel
theorem dX7_isOptional_0 : decode cX7_isOptional 0 = .ok (.aload_n 0, 1) := by decide +kernel
theorem dX7_isOptional_1 : decode cX7_isOptional 1 = .ok (.getfield 19, 3) := by decide +kernel
theorem dX7_isOptional_4 : decode cX7_isOptional 4 = .ok (.bipush 6, 2) := by decide +kernel
theorem dX7_isOptional_6 : decode cX7_isOptional 6 = .ok (.iload_n 1, 1) := by decide +kernel
theorem dX7_isOptional_7 : decode cX7_isOptional 7 = .ok (.imul, 1) := by decide +kernel
theorem dX7_isOptional_8 : decode cX7_isOptional 8 = .ok (.iload_n 2, 1) := by decide +kernel
theorem dX7_isOptional_9 : decode cX7_isOptional 9 = .ok (.iadd, 1) := by decide +kernel
theorem dX7_isOptional_10 : decode cX7_isOptional 10 = .ok (.iaload, 1) := by decide +kernel
theorem dX7_isOptional_11 : decode cX7_isOptional 11 = .ok (.bipush 100, 2) := by decide +kernel
theorem dX7_isOptional_13 : decode cX7_isOptional 13 = .ok (.if_icmp .lt 7, 3) := by decide +kernel
theorem dX7_isOptional_16 : decode cX7_isOptional 16 = .ok (.iconst 1, 1) := by decide +kernel
theorem dX7_isOptional_17 : decode cX7_isOptional 17 = .ok (.goto 4, 3) := by decide +kernel
theorem dX7_isOptional_20 : decode cX7_isOptional 20 = .ok (.iconst 0, 1) := by decide +kernel
theorem dX7_isOptional_21 : decode cX7_isOptional 21 = .ok (.ireturn, 1) := by decide +kernel
set_option maxRecDepth 20000 in
theorem ggX7_optionals_X7_isOptional : GoodIn wsX7_optionals wsX7_isOptional := goodIn_r _ [6, 7, 8, 9, 10, 11, 12, 13, 14, 15, 16, 17, 18, 19, 20, 21, 22, 23, 24, 25, 26, 27, 28, 29, 30, 31, 32, 33, 34, 35, 36, 37] (by decide +kernel) (by decide +kernel)
set_option maxRecDepth 20000 in
theorem gX7_optionals_X7_isOptional : GoodIn wsX7_optionals (wsV RX7 88 RX7 yX7_isOptional wsX7_isOptional) := goodIn_app (goodIn_of _ (by decide +kernel)) ggX7_optionals_X7_isOptional
theorem dX7_optionals_0 : decode cX7_optionals 0 = .ok (.iconst 0, 1) := by decide +kernel
theorem dX7_optionals_1 : decode cX7_optionals 1 = .ok (.istore_n 2, 1) := by decide +kernel
theorem dX7_optionals_2 : decode cX7_optionals 2 = .ok (.iconst 0, 1) := by decide +kernel
theorem dX7_optionals_3 : decode cX7_optionals 3 = .ok (.istore_n 3, 1) := by decide +kernel
theorem dX7_optionals_4 : decode cX7_optionals 4 = .ok (.iload_n 3, 1) := by decide +kernel
theorem dX7_optionals_5 : decode cX7_optionals 5 = .ok (.aload_n 0, 1) := by decide +kernel
theorem dX7_optionals_6 : decode cX7_optionals 6 = .ok (.getfield 22, 3) := by decide +kernel
theorem dX7_optionals_9 : decode cX7_optionals 9 = .ok (.iload_n 1, 1) := by decide +kernel
theorem dX7_optionals_10 : decode cX7_optionals 10 = .ok (.iaload, 1) := by decide +kernel
theorem dX7_optionals_11 : decode cX7_optionals 11 = .ok (.if_icmp .ge 26, 3) := by decide +kernel
theorem dX7_optionals_14 : decode cX7_optionals 14 = .ok (.iload_n 2, 1) := by decide +kernel
theorem dX7_optionals_15 : decode cX7_optionals 15 = .ok (.aload_n 0, 1) := by decide +kernel
theorem dX7_optionals_16 : decode cX7_optionals 16 = .ok (.iload_n 1, 1) := by decide +kernel
theorem dX7_optionals_17 : decode cX7_optionals 17 = .ok (.iload_n 3, 1) := by decide +kernel
theorem dX7_optionals_18 : decode cX7_optionals 18 = .ok (.invokevirtual 88, 3) := by decide +kernel
theorem dX7_optionals_21 : decode cX7_optionals 21 = .ok (.ifCond .eq 7, 3) := by decide +kernel
theorem dX7_optionals_24 : decode cX7_optionals 24 = .ok (.iconst 1, 1) := by decide +kernel
theorem dX7_optionals_25 : decode cX7_optionals 25 = .ok (.goto 4, 3) := by decide +kernel
theorem dX7_optionals_28 : decode cX7_optionals 28 = .ok (.iconst 0, 1) := by decide +kernel
theorem dX7_optionals_29 : decode cX7_optionals 29 = .ok (.iadd, 1) := by decide +kernel
theorem dX7_optionals_30 : decode cX7_optionals 30 = .ok (.istore_n 2, 1) := by decide +kernel
theorem dX7_optionals_31 : decode cX7_optionals 31 = .ok (.iinc 3 1, 3) := by decide +kernel
theorem dX7_optionals_34 : decode cX7_optionals 34 = .ok (.goto (-30), 3) := by decide +kernel
theorem dX7_optionals_37 : decode cX7_optionals 37 = .ok (.iload_n 2, 1) := by decide +kernel
theorem dX7_optionals_38 : decode cX7_optionals 38 = .ok (.ireturn, 1) := by decide +kernel
set_option maxRecDepth 20000 in
theorem ggX7_measureSequence_X7_optionals : GoodIn wsX7_measureSequence wsX7_optionals := goodIn_r _ [11, 5, 12, 13, 14, 10, 15, 16, 21, 22, 23, 24, 25, 26, 27, 28, 29, 30, 31, 32, 33, 34, 35, 36, 37, 38, 39, 40, 41, 42, 43, 44, 45, 46, 47, 48, 49, 50] (by decide +kernel) (by decide +kernel)
set_option maxRecDepth 20000 in
theorem gX7_measureSequence_X7_optionals : GoodIn wsX7_measureSequence (wsV RX7 92 RX7 yX7_optionals wsX7_optionals) := goodIn_app (goodIn_of _ (by decide +kernel)) ggX7_measureSequence_X7_optionals
set_option maxRecDepth 20000 in
theorem ggX7_measureSequence_X7_partOf : GoodIn wsX7_measureSequence wsX7_partOf := goodIn_r _ [20, 16, 21, 22, 23, 24, 25, 26, 27, 28, 29, 30, 31, 32, 33, 34, 35, 36, 37, 38, 39, 40, 41, 42, 43, 44, 45, 46, 47, 48, 49, 50] (by decide +kernel) (by decide +kernel)
set_option maxRecDepth 20000 in
theorem gX7_measureSequence_X7_partOf : GoodIn wsX7_measureSequence (wsV RX7 95 RX7 yX7_partOf wsX7_partOf) := goodIn_app (goodIn_of _ (by decide +kernel)) ggX7_measureSequence_X7_partOf
set_option maxRecDepth 20000 in
theorem ggX7_measureSequence_X7_isOptional : GoodIn wsX7_measureSequence wsX7_isOptional := goodIn_r _ [15, 16, 21, 22, 23, 24, 25, 26, 27, 28, 29, 30, 31, 32, 33, 34, 35, 36, 37, 38, 39, 40, 41, 42, 43, 44, 45, 46, 47, 48, 49, 50] (by decide +kernel) (by decide +kernel)
set_option maxRecDepth 20000 in
theorem gX7_measureSequence_X7_isOptional : GoodIn wsX7_measureSequence (wsV RX7 88 RX7 yX7_isOptional wsX7_isOptional) := goodIn_app (goodIn_of _ (by decide +kernel)) ggX7_measureSequence_X7_isOptional
theorem dX7_measureSequence_0 : decode cX7_measureSequence 0 = .ok (.aload_n 0, 1) := by decide +kernel
theorem dX7_measureSequence_1 : decode cX7_measureSequence 1 = .ok (.iload_n 1, 1) := by decide +kernel
theorem dX7_measureSequence_2 : decode cX7_measureSequence 2 = .ok (.invokevirtual 92, 3) := by decide +kernel
theorem dX7_measureSequence_5 : decode cX7_measureSequence 5 = .ok (.istore_n 2, 1) := by decide +kernel
theorem dX7_measureSequence_6 : decode cX7_measureSequence 6 = .ok (.aload_n 0, 1) := by decide +kernel
theorem dX7_measureSequence_7 : decode cX7_measureSequence 7 = .ok (.getfield 31, 3) := by decide +kernel
theorem dX7_measureSequence_10 : decode cX7_measureSequence 10 = .ok (.iload_n 1, 1) := by decide +kernel
theorem dX7_measureSequence_11 : decode cX7_measureSequence 11 = .ok (.iconst 1, 1) := by decide +kernel
theorem dX7_measureSequence_12 : decode cX7_measureSequence 12 = .ok (.iload_n 2, 1) := by decide +kernel
theorem dX7_measureSequence_13 : decode cX7_measureSequence 13 = .ok (.iadd, 1) := by decide +kernel
theorem dX7_measureSequence_14 : decode cX7_measureSequence 14 = .ok (.iastore, 1) := by decide +kernel
theorem dX7_measureSequence_15 : decode cX7_measureSequence 15 = .ok (.aload_n 0, 1) := by decide +kernel
theorem dX7_measureSequence_16 : decode cX7_measureSequence 16 = .ok (.getfield 34, 3) := by decide +kernel
theorem dX7_measureSequence_19 : decode cX7_measureSequence 19 = .ok (.iload_n 1, 1) := by decide +kernel
theorem dX7_measureSequence_20 : decode cX7_measureSequence 20 = .ok (.iconst 1, 1) := by decide +kernel
theorem dX7_measureSequence_21 : decode cX7_measureSequence 21 = .ok (.iload_n 2, 1) := by decide +kernel
theorem dX7_measureSequence_22 : decode cX7_measureSequence 22 = .ok (.iadd, 1) := by decide +kernel
theorem dX7_measureSequence_23 : decode cX7_measureSequence 23 = .ok (.aload_n 0, 1) := by decide +kernel
theorem dX7_measureSequence_24 : decode cX7_measureSequence 24 = .ok (.getfield 28, 3) := by decide +kernel
theorem dX7_measureSequence_27 : decode cX7_measureSequence 27 = .ok (.iload_n 1, 1) := by decide +kernel
theorem dX7_measureSequence_28 : decode cX7_measureSequence 28 = .ok (.iaload, 1) := by decide +kernel
theorem dX7_measureSequence_29 : decode cX7_measureSequence 29 = .ok (.ifCond .le 7, 3) := by decide +kernel
theorem dX7_measureSequence_32 : decode cX7_measureSequence 32 = .ok (.iconst 2, 1) := by decide +kernel
theorem dX7_measureSequence_33 : decode cX7_measureSequence 33 = .ok (.goto 4, 3) := by decide +kernel
theorem dX7_measureSequence_36 : decode cX7_measureSequence 36 = .ok (.iconst 0, 1) := by decide +kernel
theorem dX7_measureSequence_37 : decode cX7_measureSequence 37 = .ok (.iadd, 1) := by decide +kernel
theorem dX7_measureSequence_38 : decode cX7_measureSequence 38 = .ok (.iastore, 1) := by decide +kernel
theorem dX7_measureSequence_39 : decode cX7_measureSequence 39 = .ok (.aload_n 0, 1) := by decide +kernel
theorem dX7_measureSequence_40 : decode cX7_measureSequence 40 = .ok (.getfield 37, 3) := by decide +kernel
theorem dX7_measureSequence_43 : decode cX7_measureSequence 43 = .ok (.iload_n 1, 1) := by decide +kernel
theorem dX7_measureSequence_44 : decode cX7_measureSequence 44 = .ok (.iconst 1, 1) := by decide +kernel
theorem dX7_measureSequence_45 : decode cX7_measureSequence 45 = .ok (.iload_n 2, 1) := by decide +kernel
theorem dX7_measureSequence_46 : decode cX7_measureSequence 46 = .ok (.iadd, 1) := by decide +kernel
theorem dX7_measureSequence_47 : decode cX7_measureSequence 47 = .ok (.iastore, 1) := by decide +kernel
theorem dX7_measureSequence_48 : decode cX7_measureSequence 48 = .ok (.iconst 0, 1) := by decide +kernel
theorem dX7_measureSequence_49 : decode cX7_measureSequence 49 = .ok (.istore_n 3, 1) := by decide +kernel
theorem dX7_measureSequence_50 : decode cX7_measureSequence 50 = .ok (.iload_n 3, 1) := by decide +kernel
theorem dX7_measureSequence_51 : decode cX7_measureSequence 51 = .ok (.aload_n 0, 1) := by decide +kernel
theorem dX7_measureSequence_52 : decode cX7_measureSequence 52 = .ok (.getfield 22, 3) := by decide +kernel
theorem dX7_measureSequence_55 : decode cX7_measureSequence 55 = .ok (.iload_n 1, 1) := by decide +kernel
theorem dX7_measureSequence_56 : decode cX7_measureSequence 56 = .ok (.iaload, 1) := by decide +kernel
theorem dX7_measureSequence_57 : decode cX7_measureSequence 57 = .ok (.if_icmp .ge 78, 3) := by decide +kernel
theorem dX7_measureSequence_60 : decode cX7_measureSequence 60 = .ok (.aload_n 0, 1) := by decide +kernel
theorem dX7_measureSequence_61 : decode cX7_measureSequence 61 = .ok (.iload_n 1, 1) := by decide +kernel
theorem dX7_measureSequence_62 : decode cX7_measureSequence 62 = .ok (.iload_n 3, 1) := by decide +kernel
theorem dX7_measureSequence_63 : decode cX7_measureSequence 63 = .ok (.invokevirtual 95, 3) := by decide +kernel
theorem dX7_measureSequence_66 : decode cX7_measureSequence 66 = .ok (.istore 4, 2) := by decide +kernel
theorem dX7_measureSequence_68 : decode cX7_measureSequence 68 = .ok (.aload_n 0, 1) := by decide +kernel
theorem dX7_measureSequence_69 : decode cX7_measureSequence 69 = .ok (.getfield 31, 3) := by decide +kernel
theorem dX7_measureSequence_72 : decode cX7_measureSequence 72 = .ok (.iload_n 1, 1) := by decide +kernel
theorem dX7_measureSequence_73 : decode cX7_measureSequence 73 = .ok (.dup2, 1) := by decide +kernel
theorem dX7_measureSequence_74 : decode cX7_measureSequence 74 = .ok (.iaload, 1) := by decide +kernel
theorem dX7_measureSequence_75 : decode cX7_measureSequence 75 = .ok (.aload_n 0, 1) := by decide +kernel
theorem dX7_measureSequence_76 : decode cX7_measureSequence 76 = .ok (.iload_n 1, 1) := by decide +kernel
theorem dX7_measureSequence_77 : decode cX7_measureSequence 77 = .ok (.iload_n 3, 1) := by decide +kernel
theorem dX7_measureSequence_78 : decode cX7_measureSequence 78 = .ok (.invokevirtual 88, 3) := by decide +kernel
theorem dX7_measureSequence_81 : decode cX7_measureSequence 81 = .ok (.ifCond .eq 7, 3) := by decide +kernel
theorem dX7_measureSequence_84 : decode cX7_measureSequence 84 = .ok (.iconst 0, 1) := by decide +kernel
theorem dX7_measureSequence_85 : decode cX7_measureSequence 85 = .ok (.goto 10, 3) := by decide +kernel
theorem dX7_measureSequence_88 : decode cX7_measureSequence 88 = .ok (.aload_n 0, 1) := by decide +kernel
theorem dX7_measureSequence_89 : decode cX7_measureSequence 89 = .ok (.getfield 31, 3) := by decide +kernel
theorem dX7_measureSequence_92 : decode cX7_measureSequence 92 = .ok (.iload 4, 2) := by decide +kernel
theorem dX7_measureSequence_94 : decode cX7_measureSequence 94 = .ok (.iaload, 1) := by decide +kernel
theorem dX7_measureSequence_95 : decode cX7_measureSequence 95 = .ok (.iadd, 1) := by decide +kernel
theorem dX7_measureSequence_96 : decode cX7_measureSequence 96 = .ok (.iastore, 1) := by decide +kernel
theorem dX7_measureSequence_97 : decode cX7_measureSequence 97 = .ok (.aload_n 0, 1) := by decide +kernel
theorem dX7_measureSequence_98 : decode cX7_measureSequence 98 = .ok (.getfield 34, 3) := by decide +kernel
theorem dX7_measureSequence_101 : decode cX7_measureSequence 101 = .ok (.iload_n 1, 1) := by decide +kernel
theorem dX7_measureSequence_102 : decode cX7_measureSequence 102 = .ok (.dup2, 1) := by decide +kernel
theorem dX7_measureSequence_103 : decode cX7_measureSequence 103 = .ok (.iaload, 1) := by decide +kernel
theorem dX7_measureSequence_104 : decode cX7_measureSequence 104 = .ok (.aload_n 0, 1) := by decide +kernel
theorem dX7_measureSequence_105 : decode cX7_measureSequence 105 = .ok (.getfield 34, 3) := by decide +kernel
theorem dX7_measureSequence_108 : decode cX7_measureSequence 108 = .ok (.iload 4, 2) := by decide +kernel
theorem dX7_measureSequence_110 : decode cX7_measureSequence 110 = .ok (.iaload, 1) := by decide +kernel
theorem dX7_measureSequence_111 : decode cX7_measureSequence 111 = .ok (.iadd, 1) := by decide +kernel
theorem dX7_measureSequence_112 : decode cX7_measureSequence 112 = .ok (.iastore, 1) := by decide +kernel
theorem dX7_measureSequence_113 : decode cX7_measureSequence 113 = .ok (.aload_n 0, 1) := by decide +kernel
theorem dX7_measureSequence_114 : decode cX7_measureSequence 114 = .ok (.getfield 37, 3) := by decide +kernel
theorem dX7_measureSequence_117 : decode cX7_measureSequence 117 = .ok (.iload_n 1, 1) := by decide +kernel
theorem dX7_measureSequence_118 : decode cX7_measureSequence 118 = .ok (.dup2, 1) := by decide +kernel
theorem dX7_measureSequence_119 : decode cX7_measureSequence 119 = .ok (.iaload, 1) := by decide +kernel
theorem dX7_measureSequence_120 : decode cX7_measureSequence 120 = .ok (.aload_n 0, 1) := by decide +kernel
theorem dX7_measureSequence_121 : decode cX7_measureSequence 121 = .ok (.getfield 37, 3) := by decide +kernel
theorem dX7_measureSequence_124 : decode cX7_measureSequence 124 = .ok (.iload 4, 2) := by decide +kernel
theorem dX7_measureSequence_126 : decode cX7_measureSequence 126 = .ok (.iaload, 1) := by decide +kernel
theorem dX7_measureSequence_127 : decode cX7_measureSequence 127 = .ok (.iadd, 1) := by decide +kernel
theorem dX7_measureSequence_128 : decode cX7_measureSequence 128 = .ok (.iastore, 1) := by decide +kernel
theorem dX7_measureSequence_129 : decode cX7_measureSequence 129 = .ok (.iinc 3 1, 3) := by decide +kernel
theorem dX7_measureSequence_132 : decode cX7_measureSequence 132 = .ok (.goto (-82), 3) := by decide +kernel
theorem dX7_measureSequence_135 : decode cX7_measureSequence 135 = .ok (.iconst 0, 1) := by decide +kernel
theorem dX7_measureSequence_136 : decode cX7_measureSequence 136 = .ok (.istore_n 3, 1) := by decide +kernel
theorem dX7_measureSequence_137 : decode cX7_measureSequence 137 = .ok (.iload_n 3, 1) := by decide +kernel
theorem dX7_measureSequence_138 : decode cX7_measureSequence 138 = .ok (.aload_n 0, 1) := by decide +kernel
theorem dX7_measureSequence_139 : decode cX7_measureSequence 139 = .ok (.getfield 28, 3) := by decide +kernel
theorem dX7_measureSequence_142 : decode cX7_measureSequence 142 = .ok (.iload_n 1, 1) := by decide +kernel
theorem dX7_measureSequence_143 : decode cX7_measureSequence 143 = .ok (.iaload, 1) := by decide +kernel
theorem dX7_measureSequence_144 : decode cX7_measureSequence 144 = .ok (.if_icmp .ge 60, 3) := by decide +kernel
theorem dX7_measureSequence_147 : decode cX7_measureSequence 147 = .ok (.aload_n 0, 1) := by decide +kernel
theorem dX7_measureSequence_148 : decode cX7_measureSequence 148 = .ok (.getfield 34, 3) := by decide +kernel
theorem dX7_measureSequence_151 : decode cX7_measureSequence 151 = .ok (.iload_n 1, 1) := by decide +kernel
theorem dX7_measureSequence_152 : decode cX7_measureSequence 152 = .ok (.dup2, 1) := by decide +kernel
theorem dX7_measureSequence_153 : decode cX7_measureSequence 153 = .ok (.iaload, 1) := by decide +kernel
theorem dX7_measureSequence_154 : decode cX7_measureSequence 154 = .ok (.bipush 8, 2) := by decide +kernel
theorem dX7_measureSequence_156 : decode cX7_measureSequence 156 = .ok (.aload_n 0, 1) := by decide +kernel
theorem dX7_measureSequence_157 : decode cX7_measureSequence 157 = .ok (.getfield 34, 3) := by decide +kernel
theorem dX7_measureSequence_160 : decode cX7_measureSequence 160 = .ok (.aload_n 0, 1) := by decide +kernel
theorem dX7_measureSequence_161 : decode cX7_measureSequence 161 = .ok (.getfield 25, 3) := by decide +kernel
theorem dX7_measureSequence_164 : decode cX7_measureSequence 164 = .ok (.iconst 3, 1) := by decide +kernel
theorem dX7_measureSequence_165 : decode cX7_measureSequence 165 = .ok (.iload_n 1, 1) := by decide +kernel
theorem dX7_measureSequence_166 : decode cX7_measureSequence 166 = .ok (.imul, 1) := by decide +kernel
theorem dX7_measureSequence_167 : decode cX7_measureSequence 167 = .ok (.iload_n 3, 1) := by decide +kernel
theorem dX7_measureSequence_168 : decode cX7_measureSequence 168 = .ok (.iadd, 1) := by decide +kernel
theorem dX7_measureSequence_169 : decode cX7_measureSequence 169 = .ok (.iaload, 1) := by decide +kernel
theorem dX7_measureSequence_170 : decode cX7_measureSequence 170 = .ok (.iaload, 1) := by decide +kernel
theorem dX7_measureSequence_171 : decode cX7_measureSequence 171 = .ok (.iadd, 1) := by decide +kernel
theorem dX7_measureSequence_172 : decode cX7_measureSequence 172 = .ok (.iadd, 1) := by decide +kernel
theorem dX7_measureSequence_173 : decode cX7_measureSequence 173 = .ok (.iastore, 1) := by decide +kernel
theorem dX7_measureSequence_174 : decode cX7_measureSequence 174 = .ok (.aload_n 0, 1) := by decide +kernel
theorem dX7_measureSequence_175 : decode cX7_measureSequence 175 = .ok (.getfield 37, 3) := by decide +kernel
theorem dX7_measureSequence_178 : decode cX7_measureSequence 178 = .ok (.iload_n 1, 1) := by decide +kernel
theorem dX7_measureSequence_179 : decode cX7_measureSequence 179 = .ok (.dup2, 1) := by decide +kernel
theorem dX7_measureSequence_180 : decode cX7_measureSequence 180 = .ok (.iaload, 1) := by decide +kernel
theorem dX7_measureSequence_181 : decode cX7_measureSequence 181 = .ok (.aload_n 0, 1) := by decide +kernel
theorem dX7_measureSequence_182 : decode cX7_measureSequence 182 = .ok (.getfield 37, 3) := by decide +kernel
theorem dX7_measureSequence_185 : decode cX7_measureSequence 185 = .ok (.aload_n 0, 1) := by decide +kernel
theorem dX7_measureSequence_186 : decode cX7_measureSequence 186 = .ok (.getfield 25, 3) := by decide +kernel
theorem dX7_measureSequence_189 : decode cX7_measureSequence 189 = .ok (.iconst 3, 1) := by decide +kernel
theorem dX7_measureSequence_190 : decode cX7_measureSequence 190 = .ok (.iload_n 1, 1) := by decide +kernel
theorem dX7_measureSequence_191 : decode cX7_measureSequence 191 = .ok (.imul, 1) := by decide +kernel
theorem dX7_measureSequence_192 : decode cX7_measureSequence 192 = .ok (.iload_n 3, 1) := by decide +kernel
theorem dX7_measureSequence_193 : decode cX7_measureSequence 193 = .ok (.iadd, 1) := by decide +kernel
theorem dX7_measureSequence_194 : decode cX7_measureSequence 194 = .ok (.iaload, 1) := by decide +kernel
theorem dX7_measureSequence_195 : decode cX7_measureSequence 195 = .ok (.iaload, 1) := by decide +kernel
theorem dX7_measureSequence_196 : decode cX7_measureSequence 196 = .ok (.iadd, 1) := by decide +kernel
theorem dX7_measureSequence_197 : decode cX7_measureSequence 197 = .ok (.iastore, 1) := by decide +kernel
theorem dX7_measureSequence_198 : decode cX7_measureSequence 198 = .ok (.iinc 3 1, 3) := by decide +kernel
theorem dX7_measureSequence_201 : decode cX7_measureSequence 201 = .ok (.goto (-64), 3) := by decide +kernel
theorem dX7_measureSequence_204 : decode cX7_measureSequence 204 = .ok (.return_, 1) := by decide +kernel
set_option maxRecDepth 20000 in
theorem ggX7_measureChoice_X7_partOf : GoodIn wsX7_measureChoice wsX7_partOf := goodIn_r _ [9, 10, 21, 22, 23, 24, 25, 26, 27, 28, 29, 30, 31, 32, 33, 34, 35, 36, 37, 38, 39, 40, 41, 42, 43, 44, 45, 46, 47, 48, 49, 50] (by decide +kernel) (by decide +kernel)
set_option maxRecDepth 20000 in
theorem gX7_measureChoice_X7_partOf : GoodIn wsX7_measureChoice (wsV RX7 95 RX7 yX7_partOf wsX7_partOf) := goodIn_app (goodIn_of _ (by decide +kernel)) ggX7_measureChoice_X7_partOf
set_option maxRecDepth 20000 in
theorem ggX7_measureChoice_X7_widthOf : GoodIn wsX7_measureChoice wsX7_widthOf := goodIn_r _ [14, 15, 1, 16, 17, 18, 19, 8, 20, 21, 22, 23, 24, 25, 26, 27, 28, 29, 30, 31, 32, 33, 34, 35, 36, 37, 38, 39, 40, 41, 42, 43, 44, 45, 46, 47, 48, 49, 50] (by decide +kernel) (by decide +kernel)
set_option maxRecDepth 20000 in
theorem gX7_measureChoice_X7_widthOf : GoodIn wsX7_measureChoice (wsV RX7 99 RX7 yX7_widthOf wsX7_widthOf) := goodIn_app (goodIn_of _ (by decide +kernel)) ggX7_measureChoice_X7_widthOf
theorem dX7_measureChoice_0 : decode cX7_measureChoice 0 = .ok (.sipush 241, 3) := by decide +kernel
theorem dX7_measureChoice_3 : decode cX7_measureChoice 3 = .ok (.istore_n 2, 1) := by decide +kernel
theorem dX7_measureChoice_4 : decode cX7_measureChoice 4 = .ok (.iconst 0, 1) := by decide +kernel
theorem dX7_measureChoice_5 : decode cX7_measureChoice 5 = .ok (.istore_n 3, 1) := by decide +kernel
theorem dX7_measureChoice_6 : decode cX7_measureChoice 6 = .ok (.iconst 0, 1) := by decide +kernel
theorem dX7_measureChoice_7 : decode cX7_measureChoice 7 = .ok (.istore 4, 2) := by decide +kernel
theorem dX7_measureChoice_9 : decode cX7_measureChoice 9 = .ok (.iconst 0, 1) := by decide +kernel
theorem dX7_measureChoice_10 : decode cX7_measureChoice 10 = .ok (.istore 5, 2) := by decide +kernel
theorem dX7_measureChoice_12 : decode cX7_measureChoice 12 = .ok (.iload 5, 2) := by decide +kernel
theorem dX7_measureChoice_14 : decode cX7_measureChoice 14 = .ok (.aload_n 0, 1) := by decide +kernel
theorem dX7_measureChoice_15 : decode cX7_measureChoice 15 = .ok (.getfield 22, 3) := by decide +kernel
theorem dX7_measureChoice_18 : decode cX7_measureChoice 18 = .ok (.iload_n 1, 1) := by decide +kernel
theorem dX7_measureChoice_19 : decode cX7_measureChoice 19 = .ok (.iaload, 1) := by decide +kernel
theorem dX7_measureChoice_20 : decode cX7_measureChoice 20 = .ok (.if_icmp .ge 90, 3) := by decide +kernel
theorem dX7_measureChoice_23 : decode cX7_measureChoice 23 = .ok (.aload_n 0, 1) := by decide +kernel
theorem dX7_measureChoice_24 : decode cX7_measureChoice 24 = .ok (.iload_n 1, 1) := by decide +kernel
theorem dX7_measureChoice_25 : decode cX7_measureChoice 25 = .ok (.iload 5, 2) := by decide +kernel
theorem dX7_measureChoice_27 : decode cX7_measureChoice 27 = .ok (.invokevirtual 95, 3) := by decide +kernel
theorem dX7_measureChoice_30 : decode cX7_measureChoice 30 = .ok (.istore 6, 2) := by decide +kernel
theorem dX7_measureChoice_32 : decode cX7_measureChoice 32 = .ok (.aload_n 0, 1) := by decide +kernel
theorem dX7_measureChoice_33 : decode cX7_measureChoice 33 = .ok (.getfield 31, 3) := by decide +kernel
theorem dX7_measureChoice_36 : decode cX7_measureChoice 36 = .ok (.iload 6, 2) := by decide +kernel
theorem dX7_measureChoice_38 : decode cX7_measureChoice 38 = .ok (.iaload, 1) := by decide +kernel
theorem dX7_measureChoice_39 : decode cX7_measureChoice 39 = .ok (.iload_n 2, 1) := by decide +kernel
theorem dX7_measureChoice_40 : decode cX7_measureChoice 40 = .ok (.if_icmp .ge 13, 3) := by decide +kernel
theorem dX7_measureChoice_43 : decode cX7_measureChoice 43 = .ok (.aload_n 0, 1) := by decide +kernel
theorem dX7_measureChoice_44 : decode cX7_measureChoice 44 = .ok (.getfield 31, 3) := by decide +kernel
theorem dX7_measureChoice_47 : decode cX7_measureChoice 47 = .ok (.iload 6, 2) := by decide +kernel
theorem dX7_measureChoice_49 : decode cX7_measureChoice 49 = .ok (.iaload, 1) := by decide +kernel
theorem dX7_measureChoice_50 : decode cX7_measureChoice 50 = .ok (.goto 4, 3) := by decide +kernel
theorem dX7_measureChoice_53 : decode cX7_measureChoice 53 = .ok (.iload_n 2, 1) := by decide +kernel
theorem dX7_measureChoice_54 : decode cX7_measureChoice 54 = .ok (.istore_n 2, 1) := by decide +kernel
theorem dX7_measureChoice_55 : decode cX7_measureChoice 55 = .ok (.aload_n 0, 1) := by decide +kernel
theorem dX7_measureChoice_56 : decode cX7_measureChoice 56 = .ok (.getfield 34, 3) := by decide +kernel
theorem dX7_measureChoice_59 : decode cX7_measureChoice 59 = .ok (.iload 6, 2) := by decide +kernel
theorem dX7_measureChoice_61 : decode cX7_measureChoice 61 = .ok (.iaload, 1) := by decide +kernel
theorem dX7_measureChoice_62 : decode cX7_measureChoice 62 = .ok (.iload_n 3, 1) := by decide +kernel
theorem dX7_measureChoice_63 : decode cX7_measureChoice 63 = .ok (.if_icmp .le 13, 3) := by decide +kernel
theorem dX7_measureChoice_66 : decode cX7_measureChoice 66 = .ok (.aload_n 0, 1) := by decide +kernel
theorem dX7_measureChoice_67 : decode cX7_measureChoice 67 = .ok (.getfield 34, 3) := by decide +kernel
theorem dX7_measureChoice_70 : decode cX7_measureChoice 70 = .ok (.iload 6, 2) := by decide +kernel
theorem dX7_measureChoice_72 : decode cX7_measureChoice 72 = .ok (.iaload, 1) := by decide +kernel
theorem dX7_measureChoice_73 : decode cX7_measureChoice 73 = .ok (.goto 4, 3) := by decide +kernel
theorem dX7_measureChoice_76 : decode cX7_measureChoice 76 = .ok (.iload_n 3, 1) := by decide +kernel
theorem dX7_measureChoice_77 : decode cX7_measureChoice 77 = .ok (.istore_n 3, 1) := by decide +kernel
theorem dX7_measureChoice_78 : decode cX7_measureChoice 78 = .ok (.aload_n 0, 1) := by decide +kernel
theorem dX7_measureChoice_79 : decode cX7_measureChoice 79 = .ok (.getfield 37, 3) := by decide +kernel
theorem dX7_measureChoice_82 : decode cX7_measureChoice 82 = .ok (.iload 6, 2) := by decide +kernel
theorem dX7_measureChoice_84 : decode cX7_measureChoice 84 = .ok (.iaload, 1) := by decide +kernel
theorem dX7_measureChoice_85 : decode cX7_measureChoice 85 = .ok (.iload 4, 2) := by decide +kernel
theorem dX7_measureChoice_87 : decode cX7_measureChoice 87 = .ok (.if_icmp .le 13, 3) := by decide +kernel
theorem dX7_measureChoice_90 : decode cX7_measureChoice 90 = .ok (.aload_n 0, 1) := by decide +kernel
theorem dX7_measureChoice_91 : decode cX7_measureChoice 91 = .ok (.getfield 37, 3) := by decide +kernel
theorem dX7_measureChoice_94 : decode cX7_measureChoice 94 = .ok (.iload 6, 2) := by decide +kernel
theorem dX7_measureChoice_96 : decode cX7_measureChoice 96 = .ok (.iaload, 1) := by decide +kernel
theorem dX7_measureChoice_97 : decode cX7_measureChoice 97 = .ok (.goto 5, 3) := by decide +kernel
theorem dX7_measureChoice_100 : decode cX7_measureChoice 100 = .ok (.iload 4, 2) := by decide +kernel
theorem dX7_measureChoice_102 : decode cX7_measureChoice 102 = .ok (.istore 4, 2) := by decide +kernel
theorem dX7_measureChoice_104 : decode cX7_measureChoice 104 = .ok (.iinc 5 1, 3) := by decide +kernel
theorem dX7_measureChoice_107 : decode cX7_measureChoice 107 = .ok (.goto (-95), 3) := by decide +kernel
theorem dX7_measureChoice_110 : decode cX7_measureChoice 110 = .ok (.aload_n 0, 1) := by decide +kernel
theorem dX7_measureChoice_111 : decode cX7_measureChoice 111 = .ok (.getfield 31, 3) := by decide +kernel
theorem dX7_measureChoice_114 : decode cX7_measureChoice 114 = .ok (.iload_n 1, 1) := by decide +kernel
theorem dX7_measureChoice_115 : decode cX7_measureChoice 115 = .ok (.aload_n 0, 1) := by decide +kernel
theorem dX7_measureChoice_116 : decode cX7_measureChoice 116 = .ok (.iload_n 1, 1) := by decide +kernel
theorem dX7_measureChoice_117 : decode cX7_measureChoice 117 = .ok (.invokevirtual 99, 3) := by decide +kernel
theorem dX7_measureChoice_120 : decode cX7_measureChoice 120 = .ok (.iload_n 2, 1) := by decide +kernel
theorem dX7_measureChoice_121 : decode cX7_measureChoice 121 = .ok (.iadd, 1) := by decide +kernel
theorem dX7_measureChoice_122 : decode cX7_measureChoice 122 = .ok (.iastore, 1) := by decide +kernel
theorem dX7_measureChoice_123 : decode cX7_measureChoice 123 = .ok (.aload_n 0, 1) := by decide +kernel
theorem dX7_measureChoice_124 : decode cX7_measureChoice 124 = .ok (.getfield 34, 3) := by decide +kernel
theorem dX7_measureChoice_127 : decode cX7_measureChoice 127 = .ok (.iload_n 1, 1) := by decide +kernel
theorem dX7_measureChoice_128 : decode cX7_measureChoice 128 = .ok (.aload_n 0, 1) := by decide +kernel
theorem dX7_measureChoice_129 : decode cX7_measureChoice 129 = .ok (.iload_n 1, 1) := by decide +kernel
theorem dX7_measureChoice_130 : decode cX7_measureChoice 130 = .ok (.invokevirtual 99, 3) := by decide +kernel
theorem dX7_measureChoice_133 : decode cX7_measureChoice 133 = .ok (.iload_n 3, 1) := by decide +kernel
theorem dX7_measureChoice_134 : decode cX7_measureChoice 134 = .ok (.iadd, 1) := by decide +kernel
theorem dX7_measureChoice_135 : decode cX7_measureChoice 135 = .ok (.iastore, 1) := by decide +kernel
theorem dX7_measureChoice_136 : decode cX7_measureChoice 136 = .ok (.aload_n 0, 1) := by decide +kernel
theorem dX7_measureChoice_137 : decode cX7_measureChoice 137 = .ok (.getfield 37, 3) := by decide +kernel
theorem dX7_measureChoice_140 : decode cX7_measureChoice 140 = .ok (.iload_n 1, 1) := by decide +kernel
theorem dX7_measureChoice_141 : decode cX7_measureChoice 141 = .ok (.iconst 1, 1) := by decide +kernel
theorem dX7_measureChoice_142 : decode cX7_measureChoice 142 = .ok (.iload 4, 2) := by decide +kernel
theorem dX7_measureChoice_144 : decode cX7_measureChoice 144 = .ok (.iadd, 1) := by decide +kernel
theorem dX7_measureChoice_145 : decode cX7_measureChoice 145 = .ok (.iastore, 1) := by decide +kernel
theorem dX7_measureChoice_146 : decode cX7_measureChoice 146 = .ok (.return_, 1) := by decide +kernel
set_option maxRecDepth 20000 in
theorem ggX7_measure_X7_measureSequence : GoodIn wsX7_measure wsX7_measureSequence := goodIn_r _ [11, 2, 4, 12, 6, 13, 14, 15, 16, 17, 10, 18, 19, 20, 21, 22, 23, 24, 25, 26, 27, 39, 40, 41, 42, 43, 44, 45, 46, 47, 48, 49, 50, 51, 52, 53, 54, 55, 56, 57, 58, 59, 60, 61, 62, 63, 64, 65, 66, 67, 68] (by decide +kernel) (by decide +kernel)
set_option maxRecDepth 20000 in
theorem gX7_measure_X7_measureSequence : GoodIn wsX7_measure (wsV RX7 102 RX7 yX7_measureSequence wsX7_measureSequence) := goodIn_app (goodIn_of _ (by decide +kernel)) ggX7_measure_X7_measureSequence
set_option maxRecDepth 20000 in
theorem ggX7_measure_X7_measureChoice : GoodIn wsX7_measure wsX7_measureChoice := goodIn_r _ [31, 13, 2, 4, 6, 24, 25, 26, 10, 27, 23, 32, 33, 34, 35, 1, 5, 3, 36, 37, 38, 39, 40, 41, 42, 43, 44, 45, 46, 47, 48, 49, 50, 51, 52, 53, 54, 55, 56, 57, 58, 59, 60, 61, 62, 63, 64, 65, 66, 67, 68] (by decide +kernel) (by decide +kernel)
set_option maxRecDepth 20000 in
theorem gX7_measure_X7_measureChoice : GoodIn wsX7_measure (wsV RX7 106 RX7 yX7_measureChoice wsX7_measureChoice) := goodIn_app (goodIn_of _ (by decide +kernel)) ggX7_measure_X7_measureChoice
set_option maxRecDepth 20000 in
theorem ggX7_measure_X7_partOf : GoodIn wsX7_measure wsX7_partOf := goodIn_r _ [27, 23, 39, 40, 41, 42, 43, 44, 45, 46, 47, 48, 49, 50, 51, 52, 53, 54, 55, 56, 57, 58, 59, 60, 61, 62, 63, 64, 65, 66, 67, 68] (by decide +kernel) (by decide +kernel)
set_option maxRecDepth 20000 in
theorem gX7_measure_X7_partOf : GoodIn wsX7_measure (wsV RX7 95 RX7 yX7_partOf wsX7_partOf) := goodIn_app (goodIn_of _ (by decide +kernel)) ggX7_measure_X7_partOf
set_option maxRecDepth 20000 in
theorem ggX7_measure_X7_widthOf : GoodIn wsX7_measure wsX7_widthOf := goodIn_r _ [35, 1, 13, 5, 3, 36, 37, 10, 38, 39, 40, 41, 42, 43, 44, 45, 46, 47, 48, 49, 50, 51, 52, 53, 54, 55, 56, 57, 58, 59, 60, 61, 62, 63, 64, 65, 66, 67, 68] (by decide +kernel) (by decide +kernel)
set_option maxRecDepth 20000 in
theorem gX7_measure_X7_widthOf : GoodIn wsX7_measure (wsV RX7 99 RX7 yX7_widthOf wsX7_widthOf) := goodIn_app (goodIn_of _ (by decide +kernel)) ggX7_measure_X7_widthOf
theorem dX7_measure_0 : decode cX7_measure 0 = .ok (.aload_n 0, 1) := by decide +kernel
theorem dX7_measure_1 : decode cX7_measure 1 = .ok (.getfield 7, 3) := by decide +kernel
theorem dX7_measure_4 : decode cX7_measure 4 = .ok (.iload_n 1, 1) := by decide +kernel
theorem dX7_measure_5 : decode cX7_measure 5 = .ok (.iaload, 1) := by decide +kernel
theorem dX7_measure_6 : decode cX7_measure 6 = .ok (.iconst 2, 1) := by decide +kernel
theorem dX7_measure_7 : decode cX7_measure 7 = .ok (.if_icmp .ne 11, 3) := by decide +kernel
theorem dX7_measure_10 : decode cX7_measure 10 = .ok (.aload_n 0, 1) := by decide +kernel
theorem dX7_measure_11 : decode cX7_measure 11 = .ok (.iload_n 1, 1) := by decide +kernel
theorem dX7_measure_12 : decode cX7_measure 12 = .ok (.invokevirtual 102, 3) := by decide +kernel
theorem dX7_measure_15 : decode cX7_measure 15 = .ok (.goto 139, 3) := by decide +kernel
theorem dX7_measure_18 : decode cX7_measure 18 = .ok (.aload_n 0, 1) := by decide +kernel
theorem dX7_measure_19 : decode cX7_measure 19 = .ok (.getfield 7, 3) := by decide +kernel
theorem dX7_measure_22 : decode cX7_measure 22 = .ok (.iload_n 1, 1) := by decide +kernel
theorem dX7_measure_23 : decode cX7_measure 23 = .ok (.iaload, 1) := by decide +kernel
theorem dX7_measure_24 : decode cX7_measure 24 = .ok (.iconst 3, 1) := by decide +kernel
theorem dX7_measure_25 : decode cX7_measure 25 = .ok (.if_icmp .ne 11, 3) := by decide +kernel
theorem dX7_measure_28 : decode cX7_measure 28 = .ok (.aload_n 0, 1) := by decide +kernel
theorem dX7_measure_29 : decode cX7_measure 29 = .ok (.iload_n 1, 1) := by decide +kernel
theorem dX7_measure_30 : decode cX7_measure 30 = .ok (.invokevirtual 106, 3) := by decide +kernel
theorem dX7_measure_33 : decode cX7_measure 33 = .ok (.goto 121, 3) := by decide +kernel
theorem dX7_measure_36 : decode cX7_measure 36 = .ok (.aload_n 0, 1) := by decide +kernel
theorem dX7_measure_37 : decode cX7_measure 37 = .ok (.getfield 7, 3) := by decide +kernel
theorem dX7_measure_40 : decode cX7_measure 40 = .ok (.iload_n 1, 1) := by decide +kernel
theorem dX7_measure_41 : decode cX7_measure 41 = .ok (.iaload, 1) := by decide +kernel
theorem dX7_measure_42 : decode cX7_measure 42 = .ok (.iconst 1, 1) := by decide +kernel
theorem dX7_measure_43 : decode cX7_measure 43 = .ok (.if_icmp .ne 7, 3) := by decide +kernel
theorem dX7_measure_46 : decode cX7_measure 46 = .ok (.iconst 1, 1) := by decide +kernel
theorem dX7_measure_47 : decode cX7_measure 47 = .ok (.goto 4, 3) := by decide +kernel
theorem dX7_measure_50 : decode cX7_measure 50 = .ok (.iconst 0, 1) := by decide +kernel
theorem dX7_measure_51 : decode cX7_measure 51 = .ok (.istore_n 2, 1) := by decide +kernel
theorem dX7_measure_52 : decode cX7_measure 52 = .ok (.aload_n 0, 1) := by decide +kernel
theorem dX7_measure_53 : decode cX7_measure 53 = .ok (.iload_n 1, 1) := by decide +kernel
theorem dX7_measure_54 : decode cX7_measure 54 = .ok (.iconst 0, 1) := by decide +kernel
theorem dX7_measure_55 : decode cX7_measure 55 = .ok (.invokevirtual 95, 3) := by decide +kernel
theorem dX7_measure_58 : decode cX7_measure 58 = .ok (.istore_n 3, 1) := by decide +kernel
theorem dX7_measure_59 : decode cX7_measure 59 = .ok (.aload_n 0, 1) := by decide +kernel
theorem dX7_measure_60 : decode cX7_measure 60 = .ok (.getfield 31, 3) := by decide +kernel
theorem dX7_measure_63 : decode cX7_measure 63 = .ok (.iload_n 1, 1) := by decide +kernel
theorem dX7_measure_64 : decode cX7_measure 64 = .ok (.aload_n 0, 1) := by decide +kernel
theorem dX7_measure_65 : decode cX7_measure 65 = .ok (.iload_n 1, 1) := by decide +kernel
theorem dX7_measure_66 : decode cX7_measure 66 = .ok (.invokevirtual 99, 3) := by decide +kernel
theorem dX7_measure_69 : decode cX7_measure 69 = .ok (.iload_n 2, 1) := by decide +kernel
theorem dX7_measure_70 : decode cX7_measure 70 = .ok (.ifCond .eq 19, 3) := by decide +kernel
theorem dX7_measure_73 : decode cX7_measure 73 = .ok (.aload_n 0, 1) := by decide +kernel
theorem dX7_measure_74 : decode cX7_measure 74 = .ok (.getfield 13, 3) := by decide +kernel
theorem dX7_measure_77 : decode cX7_measure 77 = .ok (.iload_n 1, 1) := by decide +kernel
theorem dX7_measure_78 : decode cX7_measure 78 = .ok (.iaload, 1) := by decide +kernel
theorem dX7_measure_79 : decode cX7_measure 79 = .ok (.aload_n 0, 1) := by decide +kernel
theorem dX7_measure_80 : decode cX7_measure 80 = .ok (.getfield 31, 3) := by decide +kernel
theorem dX7_measure_83 : decode cX7_measure 83 = .ok (.iload_n 3, 1) := by decide +kernel
theorem dX7_measure_84 : decode cX7_measure 84 = .ok (.iaload, 1) := by decide +kernel
theorem dX7_measure_85 : decode cX7_measure 85 = .ok (.imul, 1) := by decide +kernel
theorem dX7_measure_86 : decode cX7_measure 86 = .ok (.goto 4, 3) := by decide +kernel
theorem dX7_measure_89 : decode cX7_measure 89 = .ok (.iconst 0, 1) := by decide +kernel
theorem dX7_measure_90 : decode cX7_measure 90 = .ok (.iadd, 1) := by decide +kernel
theorem dX7_measure_91 : decode cX7_measure 91 = .ok (.iastore, 1) := by decide +kernel
theorem dX7_measure_92 : decode cX7_measure 92 = .ok (.aload_n 0, 1) := by decide +kernel
theorem dX7_measure_93 : decode cX7_measure 93 = .ok (.getfield 34, 3) := by decide +kernel
theorem dX7_measure_96 : decode cX7_measure 96 = .ok (.iload_n 1, 1) := by decide +kernel
theorem dX7_measure_97 : decode cX7_measure 97 = .ok (.aload_n 0, 1) := by decide +kernel
theorem dX7_measure_98 : decode cX7_measure 98 = .ok (.iload_n 1, 1) := by decide +kernel
theorem dX7_measure_99 : decode cX7_measure 99 = .ok (.invokevirtual 99, 3) := by decide +kernel
theorem dX7_measure_102 : decode cX7_measure 102 = .ok (.iload_n 2, 1) := by decide +kernel
theorem dX7_measure_103 : decode cX7_measure 103 = .ok (.ifCond .eq 19, 3) := by decide +kernel
theorem dX7_measure_106 : decode cX7_measure 106 = .ok (.aload_n 0, 1) := by decide +kernel
theorem dX7_measure_107 : decode cX7_measure 107 = .ok (.getfield 16, 3) := by decide +kernel
theorem dX7_measure_110 : decode cX7_measure 110 = .ok (.iload_n 1, 1) := by decide +kernel
theorem dX7_measure_111 : decode cX7_measure 111 = .ok (.iaload, 1) := by decide +kernel
theorem dX7_measure_112 : decode cX7_measure 112 = .ok (.aload_n 0, 1) := by decide +kernel
theorem dX7_measure_113 : decode cX7_measure 113 = .ok (.getfield 34, 3) := by decide +kernel
theorem dX7_measure_116 : decode cX7_measure 116 = .ok (.iload_n 3, 1) := by decide +kernel
theorem dX7_measure_117 : decode cX7_measure 117 = .ok (.iaload, 1) := by decide +kernel
theorem dX7_measure_118 : decode cX7_measure 118 = .ok (.imul, 1) := by decide +kernel
theorem dX7_measure_119 : decode cX7_measure 119 = .ok (.goto 4, 3) := by decide +kernel
theorem dX7_measure_122 : decode cX7_measure 122 = .ok (.iconst 0, 1) := by decide +kernel
theorem dX7_measure_123 : decode cX7_measure 123 = .ok (.iadd, 1) := by decide +kernel
theorem dX7_measure_124 : decode cX7_measure 124 = .ok (.iastore, 1) := by decide +kernel
theorem dX7_measure_125 : decode cX7_measure 125 = .ok (.aload_n 0, 1) := by decide +kernel
theorem dX7_measure_126 : decode cX7_measure 126 = .ok (.getfield 37, 3) := by decide +kernel
theorem dX7_measure_129 : decode cX7_measure 129 = .ok (.iload_n 1, 1) := by decide +kernel
theorem dX7_measure_130 : decode cX7_measure 130 = .ok (.iconst 1, 1) := by decide +kernel
theorem dX7_measure_131 : decode cX7_measure 131 = .ok (.iload_n 2, 1) := by decide +kernel
theorem dX7_measure_132 : decode cX7_measure 132 = .ok (.ifCond .eq 19, 3) := by decide +kernel
theorem dX7_measure_135 : decode cX7_measure 135 = .ok (.aload_n 0, 1) := by decide +kernel
theorem dX7_measure_136 : decode cX7_measure 136 = .ok (.getfield 16, 3) := by decide +kernel
theorem dX7_measure_139 : decode cX7_measure 139 = .ok (.iload_n 1, 1) := by decide +kernel
theorem dX7_measure_140 : decode cX7_measure 140 = .ok (.iaload, 1) := by decide +kernel
theorem dX7_measure_141 : decode cX7_measure 141 = .ok (.aload_n 0, 1) := by decide +kernel
theorem dX7_measure_142 : decode cX7_measure 142 = .ok (.getfield 37, 3) := by decide +kernel
theorem dX7_measure_145 : decode cX7_measure 145 = .ok (.iload_n 3, 1) := by decide +kernel
theorem dX7_measure_146 : decode cX7_measure 146 = .ok (.iaload, 1) := by decide +kernel
theorem dX7_measure_147 : decode cX7_measure 147 = .ok (.imul, 1) := by decide +kernel
theorem dX7_measure_148 : decode cX7_measure 148 = .ok (.goto 4, 3) := by decide +kernel
theorem dX7_measure_151 : decode cX7_measure 151 = .ok (.iconst 0, 1) := by decide +kernel
theorem dX7_measure_152 : decode cX7_measure 152 = .ok (.iadd, 1) := by decide +kernel
theorem dX7_measure_153 : decode cX7_measure 153 = .ok (.iastore, 1) := by decide +kernel
theorem dX7_measure_154 : decode cX7_measure 154 = .ok (.aload_n 0, 1) := by decide +kernel
theorem dX7_measure_155 : decode cX7_measure 155 = .ok (.getfield 34, 3) := by decide +kernel
theorem dX7_measure_158 : decode cX7_measure 158 = .ok (.iload_n 1, 1) := by decide +kernel
theorem dX7_measure_159 : decode cX7_measure 159 = .ok (.iaload, 1) := by decide +kernel
theorem dX7_measure_160 : decode cX7_measure 160 = .ok (.sipush 240, 3) := by decide +kernel
theorem dX7_measure_163 : decode cX7_measure 163 = .ok (.if_icmp .gt 19, 3) := by decide +kernel
theorem dX7_measure_166 : decode cX7_measure 166 = .ok (.aload_n 0, 1) := by decide +kernel
theorem dX7_measure_167 : decode cX7_measure 167 = .ok (.getfield 37, 3) := by decide +kernel
theorem dX7_measure_170 : decode cX7_measure 170 = .ok (.iload_n 1, 1) := by decide +kernel
theorem dX7_measure_171 : decode cX7_measure 171 = .ok (.iaload, 1) := by decide +kernel
theorem dX7_measure_172 : decode cX7_measure 172 = .ok (.sipush 240, 3) := by decide +kernel
theorem dX7_measure_175 : decode cX7_measure 175 = .ok (.if_icmp .gt 7, 3) := by decide +kernel
theorem dX7_measure_178 : decode cX7_measure 178 = .ok (.iconst 1, 1) := by decide +kernel
theorem dX7_measure_179 : decode cX7_measure 179 = .ok (.goto 4, 3) := by decide +kernel
theorem dX7_measure_182 : decode cX7_measure 182 = .ok (.iconst 0, 1) := by decide +kernel
theorem dX7_measure_183 : decode cX7_measure 183 = .ok (.ireturn, 1) := by decide +kernel
theorem dX7_lay_0 : decode cX7_lay 0 = .ok (.aload_n 0, 1) := by decide +kernel
theorem dX7_lay_1 : decode cX7_lay 1 = .ok (.getfield 77, 3) := by decide +kernel
theorem dX7_lay_4 : decode cX7_lay 4 = .ok (.bipush 16, 2) := by decide +kernel
theorem dX7_lay_6 : decode cX7_lay 6 = .ok (.if_icmp .ge 54, 3) := by decide +kernel
theorem dX7_lay_9 : decode cX7_lay 9 = .ok (.aload_n 0, 1) := by decide +kernel
theorem dX7_lay_10 : decode cX7_lay 10 = .ok (.getfield 7, 3) := by decide +kernel
theorem dX7_lay_13 : decode cX7_lay 13 = .ok (.aload_n 0, 1) := by decide +kernel
theorem dX7_lay_14 : decode cX7_lay 14 = .ok (.getfield 77, 3) := by decide +kernel
theorem dX7_lay_17 : decode cX7_lay 17 = .ok (.iload_n 1, 1) := by decide +kernel
theorem dX7_lay_18 : decode cX7_lay 18 = .ok (.iastore, 1) := by decide +kernel
theorem dX7_lay_19 : decode cX7_lay 19 = .ok (.aload_n 0, 1) := by decide +kernel
theorem dX7_lay_20 : decode cX7_lay 20 = .ok (.getfield 13, 3) := by decide +kernel
theorem dX7_lay_23 : decode cX7_lay 23 = .ok (.aload_n 0, 1) := by decide +kernel
theorem dX7_lay_24 : decode cX7_lay 24 = .ok (.getfield 77, 3) := by decide +kernel
theorem dX7_lay_27 : decode cX7_lay 27 = .ok (.iload_n 2, 1) := by decide +kernel
theorem dX7_lay_28 : decode cX7_lay 28 = .ok (.iastore, 1) := by decide +kernel
theorem dX7_lay_29 : decode cX7_lay 29 = .ok (.aload_n 0, 1) := by decide +kernel
theorem dX7_lay_30 : decode cX7_lay 30 = .ok (.getfield 16, 3) := by decide +kernel
theorem dX7_lay_33 : decode cX7_lay 33 = .ok (.aload_n 0, 1) := by decide +kernel
theorem dX7_lay_34 : decode cX7_lay 34 = .ok (.getfield 77, 3) := by decide +kernel
theorem dX7_lay_37 : decode cX7_lay 37 = .ok (.iload_n 3, 1) := by decide +kernel
theorem dX7_lay_38 : decode cX7_lay 38 = .ok (.iastore, 1) := by decide +kernel
theorem dX7_lay_39 : decode cX7_lay 39 = .ok (.aload_n 0, 1) := by decide +kernel
theorem dX7_lay_40 : decode cX7_lay 40 = .ok (.getfield 22, 3) := by decide +kernel
theorem dX7_lay_43 : decode cX7_lay 43 = .ok (.aload_n 0, 1) := by decide +kernel
theorem dX7_lay_44 : decode cX7_lay 44 = .ok (.getfield 77, 3) := by decide +kernel
theorem dX7_lay_47 : decode cX7_lay 47 = .ok (.iload 4, 2) := by decide +kernel
theorem dX7_lay_49 : decode cX7_lay 49 = .ok (.iastore, 1) := by decide +kernel
theorem dX7_lay_50 : decode cX7_lay 50 = .ok (.aload_n 0, 1) := by decide +kernel
theorem dX7_lay_51 : decode cX7_lay 51 = .ok (.getfield 28, 3) := by decide +kernel
theorem dX7_lay_54 : decode cX7_lay 54 = .ok (.aload_n 0, 1) := by decide +kernel
theorem dX7_lay_55 : decode cX7_lay 55 = .ok (.getfield 77, 3) := by decide +kernel
theorem dX7_lay_58 : decode cX7_lay 58 = .ok (.iconst 0, 1) := by decide +kernel
theorem dX7_lay_59 : decode cX7_lay 59 = .ok (.iastore, 1) := by decide +kernel
theorem dX7_lay_60 : decode cX7_lay 60 = .ok (.return_, 1) := by decide +kernel
set_option maxRecDepth 20000 in
theorem ggX7_addNumber_X7_in : GoodIn wsX7_addNumber wsX7_in := goodIn_r _ [5] (by decide +kernel) (by decide +kernel)
set_option maxRecDepth 20000 in
theorem gX7_addNumber_X7_in : GoodIn wsX7_addNumber (va_wsS RX7 80 yX7_in wsX7_in) := goodIn_app (goodIn_of _ (by decide +kernel)) ggX7_addNumber_X7_in
set_option maxRecDepth 20000 in
theorem ggX7_addNumber_X7_refused : GoodIn wsX7_addNumber wsX7_refused := goodIn_r _ [9, 10, 56, 57, 58, 59, 60, 61, 62, 63, 64, 65, 66, 67, 68, 69, 70, 71, 72, 73, 74, 75, 76, 77, 78, 79, 80, 81, 82, 83, 84, 85] (by decide +kernel) (by decide +kernel)
set_option maxRecDepth 20000 in
theorem gX7_addNumber_X7_refused : GoodIn wsX7_addNumber (wsV RX7 109 RX7 yX7_refused wsX7_refused) := goodIn_app (goodIn_of _ (by decide +kernel)) ggX7_addNumber_X7_refused
set_option maxRecDepth 20000 in
theorem ggX7_addNumber_X7_lay : GoodIn wsX7_addNumber wsX7_lay := goodIn_r _ [14, 1, 15, 16, 17, 18, 19, 56, 57, 58, 59, 60, 61, 62, 63, 64, 65, 66, 67, 68, 69, 70, 71, 72, 73, 74, 75, 76, 77, 78, 79, 80, 81, 82, 83, 84, 85] (by decide +kernel) (by decide +kernel)
set_option maxRecDepth 20000 in
theorem gX7_addNumber_X7_lay : GoodIn wsX7_addNumber (wsV RX7 113 RX7 yX7_lay wsX7_lay) := goodIn_app (goodIn_of _ (by decide +kernel)) ggX7_addNumber_X7_lay
set_option maxRecDepth 20000 in
theorem ggX7_addNumber_X7_measure : GoodIn wsX7_addNumber wsX7_measure := goodIn_r _ [23, 15, 24, 16, 25, 17, 26, 27, 28, 29, 4, 30, 19, 18, 31, 32, 33, 34, 35, 36, 37, 38, 39, 40, 41, 42, 43, 44, 45, 46, 47, 48, 49, 50, 51, 52, 53, 54, 55, 56, 57, 58, 59, 60, 61, 62, 63, 64, 65, 66, 67, 68, 69, 70, 71, 72, 73, 74, 75, 76, 77, 78, 79, 80, 81, 82, 83, 84, 85] (by decide +kernel) (by decide +kernel)
set_option maxRecDepth 20000 in
theorem gX7_addNumber_X7_measure : GoodIn wsX7_addNumber (wsV RX7 117 RX7 yX7_measure wsX7_measure) := goodIn_app (goodIn_of _ (by decide +kernel)) ggX7_addNumber_X7_measure
theorem dX7_addNumber_0 : decode cX7_addNumber 0 = .ok (.iload_n 1, 1) := by decide +kernel
theorem dX7_addNumber_1 : decode cX7_addNumber 1 = .ok (.sipush (-1000), 3) := by decide +kernel
theorem dX7_addNumber_4 : decode cX7_addNumber 4 = .ok (.sipush 1000, 3) := by decide +kernel
theorem dX7_addNumber_7 : decode cX7_addNumber 7 = .ok (.invokestatic 80, 3) := by decide +kernel
theorem dX7_addNumber_10 : decode cX7_addNumber 10 = .ok (.ifCond .eq 18, 3) := by decide +kernel
theorem dX7_addNumber_13 : decode cX7_addNumber 13 = .ok (.iload_n 2, 1) := by decide +kernel
theorem dX7_addNumber_14 : decode cX7_addNumber 14 = .ok (.iload_n 1, 1) := by decide +kernel
theorem dX7_addNumber_15 : decode cX7_addNumber 15 = .ok (.sipush 1000, 3) := by decide +kernel
theorem dX7_addNumber_18 : decode cX7_addNumber 18 = .ok (.invokestatic 80, 3) := by decide +kernel
theorem dX7_addNumber_21 : decode cX7_addNumber 21 = .ok (.ifCond .eq 7, 3) := by decide +kernel
theorem dX7_addNumber_24 : decode cX7_addNumber 24 = .ok (.iconst 1, 1) := by decide +kernel
theorem dX7_addNumber_25 : decode cX7_addNumber 25 = .ok (.goto 4, 3) := by decide +kernel
theorem dX7_addNumber_28 : decode cX7_addNumber 28 = .ok (.iconst 0, 1) := by decide +kernel
theorem dX7_addNumber_29 : decode cX7_addNumber 29 = .ok (.istore_n 3, 1) := by decide +kernel
theorem dX7_addNumber_30 : decode cX7_addNumber 30 = .ok (.aload_n 0, 1) := by decide +kernel
theorem dX7_addNumber_31 : decode cX7_addNumber 31 = .ok (.iload_n 3, 1) := by decide +kernel
theorem dX7_addNumber_32 : decode cX7_addNumber 32 = .ok (.ifCond .ne 7, 3) := by decide +kernel
theorem dX7_addNumber_35 : decode cX7_addNumber 35 = .ok (.iconst 1, 1) := by decide +kernel
theorem dX7_addNumber_36 : decode cX7_addNumber 36 = .ok (.goto 17, 3) := by decide +kernel
theorem dX7_addNumber_39 : decode cX7_addNumber 39 = .ok (.aload_n 0, 1) := by decide +kernel
theorem dX7_addNumber_40 : decode cX7_addNumber 40 = .ok (.getfield 77, 3) := by decide +kernel
theorem dX7_addNumber_43 : decode cX7_addNumber 43 = .ok (.bipush 16, 2) := by decide +kernel
theorem dX7_addNumber_45 : decode cX7_addNumber 45 = .ok (.if_icmp .ne 7, 3) := by decide +kernel
theorem dX7_addNumber_48 : decode cX7_addNumber 48 = .ok (.iconst 2, 1) := by decide +kernel
theorem dX7_addNumber_49 : decode cX7_addNumber 49 = .ok (.goto 4, 3) := by decide +kernel
theorem dX7_addNumber_52 : decode cX7_addNumber 52 = .ok (.iconst 0, 1) := by decide +kernel
theorem dX7_addNumber_53 : decode cX7_addNumber 53 = .ok (.invokevirtual 109, 3) := by decide +kernel
theorem dX7_addNumber_56 : decode cX7_addNumber 56 = .ok (.ifCond .eq 5, 3) := by decide +kernel
theorem dX7_addNumber_59 : decode cX7_addNumber 59 = .ok (.iconst 0, 1) := by decide +kernel
theorem dX7_addNumber_60 : decode cX7_addNumber 60 = .ok (.ireturn, 1) := by decide +kernel
theorem dX7_addNumber_61 : decode cX7_addNumber 61 = .ok (.aload_n 0, 1) := by decide +kernel
theorem dX7_addNumber_62 : decode cX7_addNumber 62 = .ok (.iconst 0, 1) := by decide +kernel
theorem dX7_addNumber_63 : decode cX7_addNumber 63 = .ok (.iload_n 1, 1) := by decide +kernel
theorem dX7_addNumber_64 : decode cX7_addNumber 64 = .ok (.iload_n 2, 1) := by decide +kernel
theorem dX7_addNumber_65 : decode cX7_addNumber 65 = .ok (.iconst 0, 1) := by decide +kernel
theorem dX7_addNumber_66 : decode cX7_addNumber 66 = .ok (.invokevirtual 113, 3) := by decide +kernel
theorem dX7_addNumber_69 : decode cX7_addNumber 69 = .ok (.aload_n 0, 1) := by decide +kernel
theorem dX7_addNumber_70 : decode cX7_addNumber 70 = .ok (.aload_n 0, 1) := by decide +kernel
theorem dX7_addNumber_71 : decode cX7_addNumber 71 = .ok (.getfield 77, 3) := by decide +kernel
theorem dX7_addNumber_74 : decode cX7_addNumber 74 = .ok (.invokevirtual 117, 3) := by decide +kernel
theorem dX7_addNumber_77 : decode cX7_addNumber 77 = .ok (.pop, 1) := by decide +kernel
theorem dX7_addNumber_78 : decode cX7_addNumber 78 = .ok (.aload_n 0, 1) := by decide +kernel
theorem dX7_addNumber_79 : decode cX7_addNumber 79 = .ok (.dup, 1) := by decide +kernel
theorem dX7_addNumber_80 : decode cX7_addNumber 80 = .ok (.getfield 77, 3) := by decide +kernel
theorem dX7_addNumber_83 : decode cX7_addNumber 83 = .ok (.iconst 1, 1) := by decide +kernel
theorem dX7_addNumber_84 : decode cX7_addNumber 84 = .ok (.iadd, 1) := by decide +kernel
theorem dX7_addNumber_85 : decode cX7_addNumber 85 = .ok (.putfield 77, 3) := by decide +kernel
theorem dX7_addNumber_88 : decode cX7_addNumber 88 = .ok (.aload_n 0, 1) := by decide +kernel
theorem dX7_addNumber_89 : decode cX7_addNumber 89 = .ok (.getfield 77, 3) := by decide +kernel
theorem dX7_addNumber_92 : decode cX7_addNumber 92 = .ok (.iconst 1, 1) := by decide +kernel
theorem dX7_addNumber_93 : decode cX7_addNumber 93 = .ok (.isub, 1) := by decide +kernel
theorem dX7_addNumber_94 : decode cX7_addNumber 94 = .ok (.ireturn, 1) := by decide +kernel
set_option maxRecDepth 20000 in
theorem ggX7_addList_X7_in : GoodIn wsX7_addList wsX7_in := goodIn_r _ [6] (by decide +kernel) (by decide +kernel)
set_option maxRecDepth 20000 in
theorem gX7_addList_X7_in : GoodIn wsX7_addList (va_wsS RX7 80 yX7_in wsX7_in) := goodIn_app (goodIn_of _ (by decide +kernel)) ggX7_addList_X7_in
set_option maxRecDepth 20000 in
theorem ggX7_addList_X7_isType : GoodIn wsX7_addList wsX7_isType := goodIn_r _ [10, 1, 3, 4, 5, 6, 60, 61, 62, 63, 64, 65, 66, 67, 68, 69, 70, 71, 72, 73, 74, 75, 76, 77, 78, 79, 80, 81, 82, 83, 84, 85, 86, 87, 88, 89] (by decide +kernel) (by decide +kernel)
set_option maxRecDepth 20000 in
theorem gX7_addList_X7_isType : GoodIn wsX7_addList (wsV RX7 120 RX7 yX7_isType wsX7_isType) := goodIn_app (goodIn_of _ (by decide +kernel)) ggX7_addList_X7_isType
set_option maxRecDepth 20000 in
theorem ggX7_addList_X7_lay : GoodIn wsX7_addList wsX7_lay := goodIn_r _ [14, 1, 15, 16, 17, 18, 19, 60, 61, 62, 63, 64, 65, 66, 67, 68, 69, 70, 71, 72, 73, 74, 75, 76, 77, 78, 79, 80, 81, 82, 83, 84, 85, 86, 87, 88, 89] (by decide +kernel) (by decide +kernel)
set_option maxRecDepth 20000 in
theorem gX7_addList_X7_lay : GoodIn wsX7_addList (wsV RX7 113 RX7 yX7_lay wsX7_lay) := goodIn_app (goodIn_of _ (by decide +kernel)) ggX7_addList_X7_lay
set_option maxRecDepth 20000 in
theorem ggX7_addList_X7_measure : GoodIn wsX7_addList wsX7_measure := goodIn_r _ [23, 15, 24, 16, 25, 17, 26, 27, 28, 29, 5, 30, 19, 18, 31, 32, 33, 34, 35, 36, 37, 38, 39, 2, 40, 41, 42, 43, 44, 45, 46, 47, 48, 49, 50, 51, 52, 53, 54, 60, 61, 62, 63, 64, 65, 66, 67, 68, 69, 70, 71, 72, 73, 74, 75, 76, 77, 78, 79, 80, 81, 82, 83, 84, 85, 86, 87, 88, 89] (by decide +kernel) (by decide +kernel)
set_option maxRecDepth 20000 in
theorem gX7_addList_X7_measure : GoodIn wsX7_addList (wsV RX7 117 RX7 yX7_measure wsX7_measure) := goodIn_app (goodIn_of _ (by decide +kernel)) ggX7_addList_X7_measure
set_option maxRecDepth 20000 in
theorem ggX7_addList_X7_refused : GoodIn wsX7_addList wsX7_refused := goodIn_r _ [58, 59, 60, 61, 62, 63, 64, 65, 66, 67, 68, 69, 70, 71, 72, 73, 74, 75, 76, 77, 78, 79, 80, 81, 82, 83, 84, 85, 86, 87, 88, 89] (by decide +kernel) (by decide +kernel)
set_option maxRecDepth 20000 in
theorem gX7_addList_X7_refused : GoodIn wsX7_addList (wsV RX7 109 RX7 yX7_refused wsX7_refused) := goodIn_app (goodIn_of _ (by decide +kernel)) ggX7_addList_X7_refused
theorem dX7_addList_0 : decode cX7_addList 0 = .ok (.iload_n 2, 1) := by decide +kernel
theorem dX7_addList_1 : decode cX7_addList 1 = .ok (.iconst 0, 1) := by decide +kernel
theorem dX7_addList_2 : decode cX7_addList 2 = .ok (.bipush 8, 2) := by decide +kernel
theorem dX7_addList_4 : decode cX7_addList 4 = .ok (.invokestatic 80, 3) := by decide +kernel
theorem dX7_addList_7 : decode cX7_addList 7 = .ok (.ifCond .eq 17, 3) := by decide +kernel
theorem dX7_addList_10 : decode cX7_addList 10 = .ok (.iload_n 3, 1) := by decide +kernel
theorem dX7_addList_11 : decode cX7_addList 11 = .ok (.iload_n 2, 1) := by decide +kernel
theorem dX7_addList_12 : decode cX7_addList 12 = .ok (.bipush 8, 2) := by decide +kernel
theorem dX7_addList_14 : decode cX7_addList 14 = .ok (.invokestatic 80, 3) := by decide +kernel
theorem dX7_addList_17 : decode cX7_addList 17 = .ok (.ifCond .eq 7, 3) := by decide +kernel
theorem dX7_addList_20 : decode cX7_addList 20 = .ok (.iconst 1, 1) := by decide +kernel
theorem dX7_addList_21 : decode cX7_addList 21 = .ok (.goto 4, 3) := by decide +kernel
theorem dX7_addList_24 : decode cX7_addList 24 = .ok (.iconst 0, 1) := by decide +kernel
theorem dX7_addList_25 : decode cX7_addList 25 = .ok (.istore 4, 2) := by decide +kernel
theorem dX7_addList_27 : decode cX7_addList 27 = .ok (.aload_n 0, 1) := by decide +kernel
theorem dX7_addList_28 : decode cX7_addList 28 = .ok (.iload_n 1, 1) := by decide +kernel
theorem dX7_addList_29 : decode cX7_addList 29 = .ok (.invokevirtual 120, 3) := by decide +kernel
theorem dX7_addList_32 : decode cX7_addList 32 = .ok (.ifCond .eq 21, 3) := by decide +kernel
theorem dX7_addList_35 : decode cX7_addList 35 = .ok (.iload 4, 2) := by decide +kernel
theorem dX7_addList_37 : decode cX7_addList 37 = .ok (.ifCond .eq 16, 3) := by decide +kernel
theorem dX7_addList_40 : decode cX7_addList 40 = .ok (.aload_n 0, 1) := by decide +kernel
theorem dX7_addList_41 : decode cX7_addList 41 = .ok (.getfield 77, 3) := by decide +kernel
theorem dX7_addList_44 : decode cX7_addList 44 = .ok (.bipush 16, 2) := by decide +kernel
theorem dX7_addList_46 : decode cX7_addList 46 = .ok (.if_icmp .ge 7, 3) := by decide +kernel
theorem dX7_addList_49 : decode cX7_addList 49 = .ok (.iconst 1, 1) := by decide +kernel
theorem dX7_addList_50 : decode cX7_addList 50 = .ok (.goto 4, 3) := by decide +kernel
theorem dX7_addList_53 : decode cX7_addList 53 = .ok (.iconst 0, 1) := by decide +kernel
theorem dX7_addList_54 : decode cX7_addList 54 = .ok (.istore 5, 2) := by decide +kernel
theorem dX7_addList_56 : decode cX7_addList 56 = .ok (.iload 5, 2) := by decide +kernel
theorem dX7_addList_58 : decode cX7_addList 58 = .ok (.ifCond .eq 34, 3) := by decide +kernel
theorem dX7_addList_61 : decode cX7_addList 61 = .ok (.aload_n 0, 1) := by decide +kernel
theorem dX7_addList_62 : decode cX7_addList 62 = .ok (.iconst 1, 1) := by decide +kernel
theorem dX7_addList_63 : decode cX7_addList 63 = .ok (.iload_n 2, 1) := by decide +kernel
theorem dX7_addList_64 : decode cX7_addList 64 = .ok (.iload_n 3, 1) := by decide +kernel
theorem dX7_addList_65 : decode cX7_addList 65 = .ok (.iconst 1, 1) := by decide +kernel
theorem dX7_addList_66 : decode cX7_addList 66 = .ok (.invokevirtual 113, 3) := by decide +kernel
theorem dX7_addList_69 : decode cX7_addList 69 = .ok (.aload_n 0, 1) := by decide +kernel
theorem dX7_addList_70 : decode cX7_addList 70 = .ok (.getfield 19, 3) := by decide +kernel
theorem dX7_addList_73 : decode cX7_addList 73 = .ok (.bipush 6, 2) := by decide +kernel
theorem dX7_addList_75 : decode cX7_addList 75 = .ok (.aload_n 0, 1) := by decide +kernel
theorem dX7_addList_76 : decode cX7_addList 76 = .ok (.getfield 77, 3) := by decide +kernel
theorem dX7_addList_79 : decode cX7_addList 79 = .ok (.imul, 1) := by decide +kernel
theorem dX7_addList_80 : decode cX7_addList 80 = .ok (.iload_n 1, 1) := by decide +kernel
theorem dX7_addList_81 : decode cX7_addList 81 = .ok (.iastore, 1) := by decide +kernel
theorem dX7_addList_82 : decode cX7_addList 82 = .ok (.aload_n 0, 1) := by decide +kernel
theorem dX7_addList_83 : decode cX7_addList 83 = .ok (.aload_n 0, 1) := by decide +kernel
theorem dX7_addList_84 : decode cX7_addList 84 = .ok (.getfield 77, 3) := by decide +kernel
theorem dX7_addList_87 : decode cX7_addList 87 = .ok (.invokevirtual 117, 3) := by decide +kernel
theorem dX7_addList_90 : decode cX7_addList 90 = .ok (.istore 5, 2) := by decide +kernel
theorem dX7_addList_92 : decode cX7_addList 92 = .ok (.aload_n 0, 1) := by decide +kernel
theorem dX7_addList_93 : decode cX7_addList 93 = .ok (.aload_n 0, 1) := by decide +kernel
theorem dX7_addList_94 : decode cX7_addList 94 = .ok (.iload_n 1, 1) := by decide +kernel
theorem dX7_addList_95 : decode cX7_addList 95 = .ok (.invokevirtual 120, 3) := by decide +kernel
theorem dX7_addList_98 : decode cX7_addList 98 = .ok (.ifCond .ne 7, 3) := by decide +kernel
theorem dX7_addList_101 : decode cX7_addList 101 = .ok (.iconst 1, 1) := by decide +kernel
theorem dX7_addList_102 : decode cX7_addList 102 = .ok (.goto 22, 3) := by decide +kernel
theorem dX7_addList_105 : decode cX7_addList 105 = .ok (.iload 4, 2) := by decide +kernel
theorem dX7_addList_107 : decode cX7_addList 107 = .ok (.ifCond .ne 7, 3) := by decide +kernel
theorem dX7_addList_110 : decode cX7_addList 110 = .ok (.iconst 2, 1) := by decide +kernel
theorem dX7_addList_111 : decode cX7_addList 111 = .ok (.goto 13, 3) := by decide +kernel
theorem dX7_addList_114 : decode cX7_addList 114 = .ok (.iload 5, 2) := by decide +kernel
theorem dX7_addList_116 : decode cX7_addList 116 = .ok (.ifCond .eq 7, 3) := by decide +kernel
theorem dX7_addList_119 : decode cX7_addList 119 = .ok (.iconst 0, 1) := by decide +kernel
theorem dX7_addList_120 : decode cX7_addList 120 = .ok (.goto 4, 3) := by decide +kernel
theorem dX7_addList_123 : decode cX7_addList 123 = .ok (.iconst 3, 1) := by decide +kernel
theorem dX7_addList_124 : decode cX7_addList 124 = .ok (.invokevirtual 109, 3) := by decide +kernel
theorem dX7_addList_127 : decode cX7_addList 127 = .ok (.ifCond .eq 5, 3) := by decide +kernel
theorem dX7_addList_130 : decode cX7_addList 130 = .ok (.iconst 0, 1) := by decide +kernel
theorem dX7_addList_131 : decode cX7_addList 131 = .ok (.ireturn, 1) := by decide +kernel
theorem dX7_addList_132 : decode cX7_addList 132 = .ok (.aload_n 0, 1) := by decide +kernel
theorem dX7_addList_133 : decode cX7_addList 133 = .ok (.dup, 1) := by decide +kernel
theorem dX7_addList_134 : decode cX7_addList 134 = .ok (.getfield 77, 3) := by decide +kernel
theorem dX7_addList_137 : decode cX7_addList 137 = .ok (.iconst 1, 1) := by decide +kernel
theorem dX7_addList_138 : decode cX7_addList 138 = .ok (.iadd, 1) := by decide +kernel
theorem dX7_addList_139 : decode cX7_addList 139 = .ok (.putfield 77, 3) := by decide +kernel
theorem dX7_addList_142 : decode cX7_addList 142 = .ok (.aload_n 0, 1) := by decide +kernel
theorem dX7_addList_143 : decode cX7_addList 143 = .ok (.getfield 77, 3) := by decide +kernel
theorem dX7_addList_146 : decode cX7_addList 146 = .ok (.iconst 1, 1) := by decide +kernel
theorem dX7_addList_147 : decode cX7_addList 147 = .ok (.isub, 1) := by decide +kernel
theorem dX7_addList_148 : decode cX7_addList 148 = .ok (.ireturn, 1) := by decide +kernel
set_option maxRecDepth 20000 in
theorem ggX7_part_X7_isType : GoodIn wsX7_part wsX7_isType := goodIn_r _ [7, 8, 9, 10, 6, 11, 17, 18, 19, 20, 21, 22, 23, 24, 25, 26, 27, 28, 29, 30, 31, 32, 33, 34, 35, 36, 37, 38, 39, 40, 41, 42, 43, 44, 45, 46] (by decide +kernel) (by decide +kernel)
set_option maxRecDepth 20000 in
theorem gX7_part_X7_isType : GoodIn wsX7_part (wsV RX7 120 RX7 yX7_isType wsX7_isType) := goodIn_app (goodIn_of _ (by decide +kernel)) ggX7_part_X7_isType
set_option maxRecDepth 20000 in
theorem ggX7_part_X7_refused : GoodIn wsX7_part wsX7_refused := goodIn_r _ [15, 16, 17, 18, 19, 20, 21, 22, 23, 24, 25, 26, 27, 28, 29, 30, 31, 32, 33, 34, 35, 36, 37, 38, 39, 40, 41, 42, 43, 44, 45, 46] (by decide +kernel) (by decide +kernel)
set_option maxRecDepth 20000 in
theorem gX7_part_X7_refused : GoodIn wsX7_part (wsV RX7 109 RX7 yX7_refused wsX7_refused) := goodIn_app (goodIn_of _ (by decide +kernel)) ggX7_part_X7_refused
theorem dX7_part_0 : decode cX7_part 0 = .ok (.aload_n 0, 1) := by decide +kernel
theorem dX7_part_1 : decode cX7_part 1 = .ok (.aload_n 0, 1) := by decide +kernel
theorem dX7_part_2 : decode cX7_part 2 = .ok (.iload_n 1, 1) := by decide +kernel
theorem dX7_part_3 : decode cX7_part 3 = .ok (.invokevirtual 120, 3) := by decide +kernel
theorem dX7_part_6 : decode cX7_part 6 = .ok (.ifCond .ne 7, 3) := by decide +kernel
theorem dX7_part_9 : decode cX7_part 9 = .ok (.iconst 1, 1) := by decide +kernel
theorem dX7_part_10 : decode cX7_part 10 = .ok (.goto 17, 3) := by decide +kernel
theorem dX7_part_13 : decode cX7_part 13 = .ok (.aload_n 0, 1) := by decide +kernel
theorem dX7_part_14 : decode cX7_part 14 = .ok (.getfield 123, 3) := by decide +kernel
theorem dX7_part_17 : decode cX7_part 17 = .ok (.bipush 6, 2) := by decide +kernel
theorem dX7_part_19 : decode cX7_part 19 = .ok (.if_icmp .ne 7, 3) := by decide +kernel
theorem dX7_part_22 : decode cX7_part 22 = .ok (.iconst 2, 1) := by decide +kernel
theorem dX7_part_23 : decode cX7_part 23 = .ok (.goto 4, 3) := by decide +kernel
theorem dX7_part_26 : decode cX7_part 26 = .ok (.iconst 0, 1) := by decide +kernel
theorem dX7_part_27 : decode cX7_part 27 = .ok (.invokevirtual 109, 3) := by decide +kernel
theorem dX7_part_30 : decode cX7_part 30 = .ok (.ifCond .eq 5, 3) := by decide +kernel
theorem dX7_part_33 : decode cX7_part 33 = .ok (.iconst 0, 1) := by decide +kernel
theorem dX7_part_34 : decode cX7_part 34 = .ok (.ireturn, 1) := by decide +kernel
theorem dX7_part_35 : decode cX7_part 35 = .ok (.aload_n 0, 1) := by decide +kernel
theorem dX7_part_36 : decode cX7_part 36 = .ok (.getfield 40, 3) := by decide +kernel
theorem dX7_part_39 : decode cX7_part 39 = .ok (.aload_n 0, 1) := by decide +kernel
theorem dX7_part_40 : decode cX7_part 40 = .ok (.getfield 123, 3) := by decide +kernel
theorem dX7_part_43 : decode cX7_part 43 = .ok (.iload_n 1, 1) := by decide +kernel
theorem dX7_part_44 : decode cX7_part 44 = .ok (.iload_n 2, 1) := by decide +kernel
theorem dX7_part_45 : decode cX7_part 45 = .ok (.ifCond .eq 8, 3) := by decide +kernel
theorem dX7_part_48 : decode cX7_part 48 = .ok (.bipush 100, 2) := by decide +kernel
theorem dX7_part_50 : decode cX7_part 50 = .ok (.goto 4, 3) := by decide +kernel
theorem dX7_part_53 : decode cX7_part 53 = .ok (.iconst 0, 1) := by decide +kernel
theorem dX7_part_54 : decode cX7_part 54 = .ok (.iadd, 1) := by decide +kernel
theorem dX7_part_55 : decode cX7_part 55 = .ok (.iastore, 1) := by decide +kernel
theorem dX7_part_56 : decode cX7_part 56 = .ok (.aload_n 0, 1) := by decide +kernel
theorem dX7_part_57 : decode cX7_part 57 = .ok (.dup, 1) := by decide +kernel
theorem dX7_part_58 : decode cX7_part 58 = .ok (.getfield 123, 3) := by decide +kernel
theorem dX7_part_61 : decode cX7_part 61 = .ok (.iconst 1, 1) := by decide +kernel
theorem dX7_part_62 : decode cX7_part 62 = .ok (.iadd, 1) := by decide +kernel
theorem dX7_part_63 : decode cX7_part 63 = .ok (.putfield 123, 3) := by decide +kernel
theorem dX7_part_66 : decode cX7_part 66 = .ok (.aload_n 0, 1) := by decide +kernel
theorem dX7_part_67 : decode cX7_part 67 = .ok (.getfield 123, 3) := by decide +kernel
theorem dX7_part_70 : decode cX7_part 70 = .ok (.ireturn, 1) := by decide +kernel
set_option maxRecDepth 20000 in
theorem ggX7_addDraft_X7_lay : GoodIn wsX7_addDraft wsX7_lay := goodIn_r _ [9, 2, 10, 11, 12, 13, 14, 55, 56, 57, 58, 59, 60, 61, 62, 63, 64, 65, 66, 67, 68, 69, 70, 71, 72, 73, 74, 75, 76, 77, 78, 79, 80, 81, 82, 83, 84] (by decide +kernel) (by decide +kernel)
set_option maxRecDepth 20000 in
theorem gX7_addDraft_X7_lay : GoodIn wsX7_addDraft (wsV RX7 113 RX7 yX7_lay wsX7_lay) := goodIn_app (goodIn_of _ (by decide +kernel)) ggX7_addDraft_X7_lay
set_option maxRecDepth 20000 in
theorem ggX7_addDraft_X7_measure : GoodIn wsX7_addDraft wsX7_measure := goodIn_r _ [18, 10, 19, 11, 20, 12, 21, 22, 23, 24, 8, 25, 14, 13, 26, 27, 28, 29, 30, 31, 32, 33, 34, 3, 35, 36, 37, 38, 39, 40, 41, 42, 43, 44, 45, 46, 47, 48, 49, 55, 56, 57, 58, 59, 60, 61, 62, 63, 64, 65, 66, 67, 68, 69, 70, 71, 72, 73, 74, 75, 76, 77, 78, 79, 80, 81, 82, 83, 84] (by decide +kernel) (by decide +kernel)
set_option maxRecDepth 20000 in
theorem gX7_addDraft_X7_measure : GoodIn wsX7_addDraft (wsV RX7 117 RX7 yX7_measure wsX7_measure) := goodIn_app (goodIn_of _ (by decide +kernel)) ggX7_addDraft_X7_measure
set_option maxRecDepth 20000 in
theorem ggX7_addDraft_X7_refused : GoodIn wsX7_addDraft wsX7_refused := goodIn_r _ [53, 54, 55, 56, 57, 58, 59, 60, 61, 62, 63, 64, 65, 66, 67, 68, 69, 70, 71, 72, 73, 74, 75, 76, 77, 78, 79, 80, 81, 82, 83, 84] (by decide +kernel) (by decide +kernel)
set_option maxRecDepth 20000 in
theorem gX7_addDraft_X7_refused : GoodIn wsX7_addDraft (wsV RX7 109 RX7 yX7_refused wsX7_refused) := goodIn_app (goodIn_of _ (by decide +kernel)) ggX7_addDraft_X7_refused
theorem dX7_addDraft_0 : decode cX7_addDraft 0 = .ok (.aload_n 0, 1) := by decide +kernel
theorem dX7_addDraft_1 : decode cX7_addDraft 1 = .ok (.getfield 123, 3) := by decide +kernel
theorem dX7_addDraft_4 : decode cX7_addDraft 4 = .ok (.ifCond .le 16, 3) := by decide +kernel
theorem dX7_addDraft_7 : decode cX7_addDraft 7 = .ok (.aload_n 0, 1) := by decide +kernel
theorem dX7_addDraft_8 : decode cX7_addDraft 8 = .ok (.getfield 77, 3) := by decide +kernel
theorem dX7_addDraft_11 : decode cX7_addDraft 11 = .ok (.bipush 16, 2) := by decide +kernel
theorem dX7_addDraft_13 : decode cX7_addDraft 13 = .ok (.if_icmp .ge 7, 3) := by decide +kernel
theorem dX7_addDraft_16 : decode cX7_addDraft 16 = .ok (.iconst 1, 1) := by decide +kernel
theorem dX7_addDraft_17 : decode cX7_addDraft 17 = .ok (.goto 4, 3) := by decide +kernel
theorem dX7_addDraft_20 : decode cX7_addDraft 20 = .ok (.iconst 0, 1) := by decide +kernel
theorem dX7_addDraft_21 : decode cX7_addDraft 21 = .ok (.istore_n 2, 1) := by decide +kernel
theorem dX7_addDraft_22 : decode cX7_addDraft 22 = .ok (.iload_n 2, 1) := by decide +kernel
theorem dX7_addDraft_23 : decode cX7_addDraft 23 = .ok (.ifCond .eq 59, 3) := by decide +kernel
theorem dX7_addDraft_26 : decode cX7_addDraft 26 = .ok (.aload_n 0, 1) := by decide +kernel
theorem dX7_addDraft_27 : decode cX7_addDraft 27 = .ok (.iload_n 1, 1) := by decide +kernel
theorem dX7_addDraft_28 : decode cX7_addDraft 28 = .ok (.iconst 0, 1) := by decide +kernel
theorem dX7_addDraft_29 : decode cX7_addDraft 29 = .ok (.iconst 0, 1) := by decide +kernel
theorem dX7_addDraft_30 : decode cX7_addDraft 30 = .ok (.aload_n 0, 1) := by decide +kernel
theorem dX7_addDraft_31 : decode cX7_addDraft 31 = .ok (.getfield 123, 3) := by decide +kernel
theorem dX7_addDraft_34 : decode cX7_addDraft 34 = .ok (.invokevirtual 113, 3) := by decide +kernel
theorem dX7_addDraft_37 : decode cX7_addDraft 37 = .ok (.iconst 0, 1) := by decide +kernel
theorem dX7_addDraft_38 : decode cX7_addDraft 38 = .ok (.istore_n 3, 1) := by decide +kernel
theorem dX7_addDraft_39 : decode cX7_addDraft 39 = .ok (.iload_n 3, 1) := by decide +kernel
theorem dX7_addDraft_40 : decode cX7_addDraft 40 = .ok (.aload_n 0, 1) := by decide +kernel
theorem dX7_addDraft_41 : decode cX7_addDraft 41 = .ok (.getfield 123, 3) := by decide +kernel
theorem dX7_addDraft_44 : decode cX7_addDraft 44 = .ok (.if_icmp .ge 29, 3) := by decide +kernel
theorem dX7_addDraft_47 : decode cX7_addDraft 47 = .ok (.aload_n 0, 1) := by decide +kernel
theorem dX7_addDraft_48 : decode cX7_addDraft 48 = .ok (.getfield 19, 3) := by decide +kernel
theorem dX7_addDraft_51 : decode cX7_addDraft 51 = .ok (.bipush 6, 2) := by decide +kernel
theorem dX7_addDraft_53 : decode cX7_addDraft 53 = .ok (.aload_n 0, 1) := by decide +kernel
theorem dX7_addDraft_54 : decode cX7_addDraft 54 = .ok (.getfield 77, 3) := by decide +kernel
theorem dX7_addDraft_57 : decode cX7_addDraft 57 = .ok (.imul, 1) := by decide +kernel
theorem dX7_addDraft_58 : decode cX7_addDraft 58 = .ok (.iload_n 3, 1) := by decide +kernel
theorem dX7_addDraft_59 : decode cX7_addDraft 59 = .ok (.iadd, 1) := by decide +kernel
theorem dX7_addDraft_60 : decode cX7_addDraft 60 = .ok (.aload_n 0, 1) := by decide +kernel
theorem dX7_addDraft_61 : decode cX7_addDraft 61 = .ok (.getfield 40, 3) := by decide +kernel
theorem dX7_addDraft_64 : decode cX7_addDraft 64 = .ok (.iload_n 3, 1) := by decide +kernel
theorem dX7_addDraft_65 : decode cX7_addDraft 65 = .ok (.iaload, 1) := by decide +kernel
theorem dX7_addDraft_66 : decode cX7_addDraft 66 = .ok (.iastore, 1) := by decide +kernel
theorem dX7_addDraft_67 : decode cX7_addDraft 67 = .ok (.iinc 3 1, 3) := by decide +kernel
theorem dX7_addDraft_70 : decode cX7_addDraft 70 = .ok (.goto (-31), 3) := by decide +kernel
theorem dX7_addDraft_73 : decode cX7_addDraft 73 = .ok (.aload_n 0, 1) := by decide +kernel
theorem dX7_addDraft_74 : decode cX7_addDraft 74 = .ok (.aload_n 0, 1) := by decide +kernel
theorem dX7_addDraft_75 : decode cX7_addDraft 75 = .ok (.getfield 77, 3) := by decide +kernel
theorem dX7_addDraft_78 : decode cX7_addDraft 78 = .ok (.invokevirtual 117, 3) := by decide +kernel
theorem dX7_addDraft_81 : decode cX7_addDraft 81 = .ok (.istore_n 2, 1) := by decide +kernel
theorem dX7_addDraft_82 : decode cX7_addDraft 82 = .ok (.aload_n 0, 1) := by decide +kernel
theorem dX7_addDraft_83 : decode cX7_addDraft 83 = .ok (.iload_n 2, 1) := by decide +kernel
theorem dX7_addDraft_84 : decode cX7_addDraft 84 = .ok (.ifCond .eq 7, 3) := by decide +kernel
theorem dX7_addDraft_87 : decode cX7_addDraft 87 = .ok (.iconst 0, 1) := by decide +kernel
theorem dX7_addDraft_88 : decode cX7_addDraft 88 = .ok (.goto 4, 3) := by decide +kernel
theorem dX7_addDraft_91 : decode cX7_addDraft 91 = .ok (.iconst 1, 1) := by decide +kernel
theorem dX7_addDraft_92 : decode cX7_addDraft 92 = .ok (.invokevirtual 109, 3) := by decide +kernel
theorem dX7_addDraft_95 : decode cX7_addDraft 95 = .ok (.ifCond .eq 5, 3) := by decide +kernel
theorem dX7_addDraft_98 : decode cX7_addDraft 98 = .ok (.iconst 0, 1) := by decide +kernel
theorem dX7_addDraft_99 : decode cX7_addDraft 99 = .ok (.ireturn, 1) := by decide +kernel
theorem dX7_addDraft_100 : decode cX7_addDraft 100 = .ok (.aload_n 0, 1) := by decide +kernel
theorem dX7_addDraft_101 : decode cX7_addDraft 101 = .ok (.iconst 0, 1) := by decide +kernel
theorem dX7_addDraft_102 : decode cX7_addDraft 102 = .ok (.putfield 123, 3) := by decide +kernel
theorem dX7_addDraft_105 : decode cX7_addDraft 105 = .ok (.aload_n 0, 1) := by decide +kernel
theorem dX7_addDraft_106 : decode cX7_addDraft 106 = .ok (.dup, 1) := by decide +kernel
theorem dX7_addDraft_107 : decode cX7_addDraft 107 = .ok (.getfield 77, 3) := by decide +kernel
theorem dX7_addDraft_110 : decode cX7_addDraft 110 = .ok (.iconst 1, 1) := by decide +kernel
theorem dX7_addDraft_111 : decode cX7_addDraft 111 = .ok (.iadd, 1) := by decide +kernel
theorem dX7_addDraft_112 : decode cX7_addDraft 112 = .ok (.putfield 77, 3) := by decide +kernel
theorem dX7_addDraft_115 : decode cX7_addDraft 115 = .ok (.aload_n 0, 1) := by decide +kernel
theorem dX7_addDraft_116 : decode cX7_addDraft 116 = .ok (.getfield 77, 3) := by decide +kernel
theorem dX7_addDraft_119 : decode cX7_addDraft 119 = .ok (.iconst 1, 1) := by decide +kernel
theorem dX7_addDraft_120 : decode cX7_addDraft 120 = .ok (.isub, 1) := by decide +kernel
theorem dX7_addDraft_121 : decode cX7_addDraft 121 = .ok (.ireturn, 1) := by decide +kernel
set_option maxRecDepth 20000 in
theorem ggX7_addSequence_X7_addDraft : GoodIn wsX7_addSequence wsX7_addDraft := goodIn_r _ [5, 6, 7, 8, 9, 10, 11, 12, 4, 13, 14, 15, 16, 17, 18, 19, 20, 21, 22, 23, 24, 25, 26, 27, 28, 29, 30, 31, 32, 33, 34, 35, 36, 37, 38, 39, 40, 41, 42, 43, 44, 45, 46, 47, 48, 49, 50, 51, 52, 53, 54, 55, 56, 57, 58, 59, 60, 61, 62, 63, 64, 65, 66, 67, 68, 69, 70, 71, 72, 73, 74, 75, 76, 77, 78, 79, 80, 81, 82, 83, 84, 85, 86, 87, 88] (by decide +kernel) (by decide +kernel)
set_option maxRecDepth 20000 in
theorem gX7_addSequence_X7_addDraft : GoodIn wsX7_addSequence (wsV RX7 126 RX7 yX7_addDraft wsX7_addDraft) := goodIn_app (goodIn_of _ (by decide +kernel)) ggX7_addSequence_X7_addDraft
theorem dX7_addSequence_0 : decode cX7_addSequence 0 = .ok (.aload_n 0, 1) := by decide +kernel
theorem dX7_addSequence_1 : decode cX7_addSequence 1 = .ok (.iconst 2, 1) := by decide +kernel
theorem dX7_addSequence_2 : decode cX7_addSequence 2 = .ok (.invokevirtual 126, 3) := by decide +kernel
theorem dX7_addSequence_5 : decode cX7_addSequence 5 = .ok (.ireturn, 1) := by decide +kernel
set_option maxRecDepth 20000 in
theorem ggX7_addChoice_X7_addDraft : GoodIn wsX7_addChoice wsX7_addDraft := goodIn_r _ [5, 6, 7, 8, 9, 10, 11, 12, 4, 13, 14, 15, 16, 17, 18, 19, 20, 21, 22, 23, 24, 25, 26, 27, 28, 29, 30, 31, 32, 33, 34, 35, 36, 37, 38, 39, 40, 41, 42, 43, 44, 45, 46, 47, 48, 49, 50, 51, 52, 53, 54, 55, 56, 57, 58, 59, 60, 61, 62, 63, 64, 65, 66, 67, 68, 69, 70, 71, 72, 73, 74, 75, 76, 77, 78, 79, 80, 81, 82, 83, 84, 85, 86, 87, 88] (by decide +kernel) (by decide +kernel)
set_option maxRecDepth 20000 in
theorem gX7_addChoice_X7_addDraft : GoodIn wsX7_addChoice (wsV RX7 126 RX7 yX7_addDraft wsX7_addDraft) := goodIn_app (goodIn_of _ (by decide +kernel)) ggX7_addChoice_X7_addDraft
theorem dX7_addChoice_0 : decode cX7_addChoice 0 = .ok (.aload_n 0, 1) := by decide +kernel
theorem dX7_addChoice_1 : decode cX7_addChoice 1 = .ok (.iconst 3, 1) := by decide +kernel
theorem dX7_addChoice_2 : decode cX7_addChoice 2 = .ok (.invokevirtual 126, 3) := by decide +kernel
theorem dX7_addChoice_5 : decode cX7_addChoice 5 = .ok (.ireturn, 1) := by decide +kernel
set_option maxRecDepth 20000 in
theorem ggX7_measureAll_X7_measure : GoodIn wsX7_measureAll wsX7_measure := goodIn_r _ [6, 7, 8, 9, 10, 11, 12, 13, 14, 15, 5, 16, 17, 18, 19, 20, 21, 22, 23, 24, 25, 26, 27, 28, 29, 30, 31, 32, 33, 34, 35, 36, 37, 38, 39, 40, 41, 42, 43, 44, 45, 46, 47, 48, 49, 50, 51, 52, 53, 54, 55, 56, 57, 58, 59, 60, 61, 62, 63, 64, 65, 66, 67, 68, 69, 70, 71, 72, 73] (by decide +kernel) (by decide +kernel)
set_option maxRecDepth 20000 in
theorem gX7_measureAll_X7_measure : GoodIn wsX7_measureAll (wsV RX7 117 RX7 yX7_measure wsX7_measure) := goodIn_app (goodIn_of _ (by decide +kernel)) ggX7_measureAll_X7_measure
theorem dX7_measureAll_0 : decode cX7_measureAll 0 = .ok (.iconst 1, 1) := by decide +kernel
theorem dX7_measureAll_1 : decode cX7_measureAll 1 = .ok (.istore_n 1, 1) := by decide +kernel
theorem dX7_measureAll_2 : decode cX7_measureAll 2 = .ok (.iconst 0, 1) := by decide +kernel
theorem dX7_measureAll_3 : decode cX7_measureAll 3 = .ok (.istore_n 2, 1) := by decide +kernel
theorem dX7_measureAll_4 : decode cX7_measureAll 4 = .ok (.iload_n 2, 1) := by decide +kernel
theorem dX7_measureAll_5 : decode cX7_measureAll 5 = .ok (.aload_n 0, 1) := by decide +kernel
theorem dX7_measureAll_6 : decode cX7_measureAll 6 = .ok (.getfield 77, 3) := by decide +kernel
theorem dX7_measureAll_9 : decode cX7_measureAll 9 = .ok (.if_icmp .ge 17, 3) := by decide +kernel
theorem dX7_measureAll_12 : decode cX7_measureAll 12 = .ok (.iload_n 1, 1) := by decide +kernel
theorem dX7_measureAll_13 : decode cX7_measureAll 13 = .ok (.aload_n 0, 1) := by decide +kernel
theorem dX7_measureAll_14 : decode cX7_measureAll 14 = .ok (.iload_n 2, 1) := by decide +kernel
theorem dX7_measureAll_15 : decode cX7_measureAll 15 = .ok (.invokevirtual 117, 3) := by decide +kernel
theorem dX7_measureAll_18 : decode cX7_measureAll 18 = .ok (.iand, 1) := by decide +kernel
theorem dX7_measureAll_19 : decode cX7_measureAll 19 = .ok (.istore_n 1, 1) := by decide +kernel
theorem dX7_measureAll_20 : decode cX7_measureAll 20 = .ok (.iinc 2 1, 3) := by decide +kernel
theorem dX7_measureAll_23 : decode cX7_measureAll 23 = .ok (.goto (-19), 3) := by decide +kernel
theorem dX7_measureAll_26 : decode cX7_measureAll 26 = .ok (.iload_n 1, 1) := by decide +kernel
theorem dX7_measureAll_27 : decode cX7_measureAll 27 = .ok (.ireturn, 1) := by decide +kernel
set_option maxRecDepth 20000 in
theorem ggX7_extend_X7_isType : GoodIn wsX7_extend wsX7_isType := goodIn_r _ [8, 9, 10, 11, 7, 12, 60, 61, 62, 63, 64, 65, 66, 67, 68, 69, 70, 71, 72, 73, 74, 75, 76, 77, 78, 79, 80, 81, 82, 83, 84, 85, 86, 87, 88, 89] (by decide +kernel) (by decide +kernel)
set_option maxRecDepth 20000 in
theorem gX7_extend_X7_isType : GoodIn wsX7_extend (wsV RX7 120 RX7 yX7_isType wsX7_isType) := goodIn_app (goodIn_of _ (by decide +kernel)) ggX7_extend_X7_isType
set_option maxRecDepth 20000 in
theorem ggX7_extend_X7_measureAll : GoodIn wsX7_extend wsX7_measureAll := goodIn_r _ [16, 9, 17, 18, 19, 7, 20, 1, 21, 22, 23, 24, 25, 26, 27, 28, 29, 2, 30, 3, 31, 32, 33, 34, 35, 36, 37, 38, 39, 40, 41, 42, 43, 44, 45, 46, 47, 48, 49, 50, 51, 52, 53, 54, 60, 61, 62, 63, 64, 65, 66, 67, 68, 69, 70, 71, 72, 73, 74, 75, 76, 77, 78, 79, 80, 81, 82, 83, 84, 85, 86, 87, 88, 89] (by decide +kernel) (by decide +kernel)
set_option maxRecDepth 20000 in
theorem gX7_extend_X7_measureAll : GoodIn wsX7_extend (wsV RX7 129 RX7 yX7_measureAll wsX7_measureAll) := goodIn_app (goodIn_of _ (by decide +kernel)) ggX7_extend_X7_measureAll
set_option maxRecDepth 20000 in
theorem ggX7_extend_X7_refused : GoodIn wsX7_extend wsX7_refused := goodIn_r _ [58, 59, 60, 61, 62, 63, 64, 65, 66, 67, 68, 69, 70, 71, 72, 73, 74, 75, 76, 77, 78, 79, 80, 81, 82, 83, 84, 85, 86, 87, 88, 89] (by decide +kernel) (by decide +kernel)
set_option maxRecDepth 20000 in
theorem gX7_extend_X7_refused : GoodIn wsX7_extend (wsV RX7 109 RX7 yX7_refused wsX7_refused) := goodIn_app (goodIn_of _ (by decide +kernel)) ggX7_extend_X7_refused
theorem dX7_extend_0 : decode cX7_extend 0 = .ok (.aload_n 0, 1) := by decide +kernel
theorem dX7_extend_1 : decode cX7_extend 1 = .ok (.iload_n 1, 1) := by decide +kernel
theorem dX7_extend_2 : decode cX7_extend 2 = .ok (.invokevirtual 120, 3) := by decide +kernel
theorem dX7_extend_5 : decode cX7_extend 5 = .ok (.ifCond .eq 15, 3) := by decide +kernel
theorem dX7_extend_8 : decode cX7_extend 8 = .ok (.aload_n 0, 1) := by decide +kernel
theorem dX7_extend_9 : decode cX7_extend 9 = .ok (.iload_n 2, 1) := by decide +kernel
theorem dX7_extend_10 : decode cX7_extend 10 = .ok (.invokevirtual 120, 3) := by decide +kernel
theorem dX7_extend_13 : decode cX7_extend 13 = .ok (.ifCond .eq 7, 3) := by decide +kernel
theorem dX7_extend_16 : decode cX7_extend 16 = .ok (.iconst 1, 1) := by decide +kernel
theorem dX7_extend_17 : decode cX7_extend 17 = .ok (.goto 4, 3) := by decide +kernel
theorem dX7_extend_20 : decode cX7_extend 20 = .ok (.iconst 0, 1) := by decide +kernel
theorem dX7_extend_21 : decode cX7_extend 21 = .ok (.istore_n 3, 1) := by decide +kernel
theorem dX7_extend_22 : decode cX7_extend 22 = .ok (.iload_n 3, 1) := by decide +kernel
theorem dX7_extend_23 : decode cX7_extend 23 = .ok (.ifCond .eq 22, 3) := by decide +kernel
theorem dX7_extend_26 : decode cX7_extend 26 = .ok (.aload_n 0, 1) := by decide +kernel
theorem dX7_extend_27 : decode cX7_extend 27 = .ok (.getfield 7, 3) := by decide +kernel
theorem dX7_extend_30 : decode cX7_extend 30 = .ok (.iload_n 1, 1) := by decide +kernel
theorem dX7_extend_31 : decode cX7_extend 31 = .ok (.iaload, 1) := by decide +kernel
theorem dX7_extend_32 : decode cX7_extend 32 = .ok (.iconst 2, 1) := by decide +kernel
theorem dX7_extend_33 : decode cX7_extend 33 = .ok (.if_icmp .ne 12, 3) := by decide +kernel
theorem dX7_extend_36 : decode cX7_extend 36 = .ok (.iload_n 2, 1) := by decide +kernel
theorem dX7_extend_37 : decode cX7_extend 37 = .ok (.iload_n 1, 1) := by decide +kernel
theorem dX7_extend_38 : decode cX7_extend 38 = .ok (.if_icmp .ge 7, 3) := by decide +kernel
theorem dX7_extend_41 : decode cX7_extend 41 = .ok (.iconst 1, 1) := by decide +kernel
theorem dX7_extend_42 : decode cX7_extend 42 = .ok (.goto 4, 3) := by decide +kernel
theorem dX7_extend_45 : decode cX7_extend 45 = .ok (.iconst 0, 1) := by decide +kernel
theorem dX7_extend_46 : decode cX7_extend 46 = .ok (.istore 4, 2) := by decide +kernel
theorem dX7_extend_48 : decode cX7_extend 48 = .ok (.iload 4, 2) := by decide +kernel
theorem dX7_extend_50 : decode cX7_extend 50 = .ok (.ifCond .eq 17, 3) := by decide +kernel
theorem dX7_extend_53 : decode cX7_extend 53 = .ok (.aload_n 0, 1) := by decide +kernel
theorem dX7_extend_54 : decode cX7_extend 54 = .ok (.getfield 28, 3) := by decide +kernel
theorem dX7_extend_57 : decode cX7_extend 57 = .ok (.iload_n 1, 1) := by decide +kernel
theorem dX7_extend_58 : decode cX7_extend 58 = .ok (.iaload, 1) := by decide +kernel
theorem dX7_extend_59 : decode cX7_extend 59 = .ok (.iconst 3, 1) := by decide +kernel
theorem dX7_extend_60 : decode cX7_extend 60 = .ok (.if_icmp .ge 7, 3) := by decide +kernel
theorem dX7_extend_63 : decode cX7_extend 63 = .ok (.iconst 1, 1) := by decide +kernel
theorem dX7_extend_64 : decode cX7_extend 64 = .ok (.goto 4, 3) := by decide +kernel
theorem dX7_extend_67 : decode cX7_extend 67 = .ok (.iconst 0, 1) := by decide +kernel
theorem dX7_extend_68 : decode cX7_extend 68 = .ok (.istore 5, 2) := by decide +kernel
theorem dX7_extend_70 : decode cX7_extend 70 = .ok (.iload 5, 2) := by decide +kernel
theorem dX7_extend_72 : decode cX7_extend 72 = .ok (.ifCond .eq 59, 3) := by decide +kernel
theorem dX7_extend_75 : decode cX7_extend 75 = .ok (.aload_n 0, 1) := by decide +kernel
theorem dX7_extend_76 : decode cX7_extend 76 = .ok (.getfield 25, 3) := by decide +kernel
theorem dX7_extend_79 : decode cX7_extend 79 = .ok (.iconst 3, 1) := by decide +kernel
theorem dX7_extend_80 : decode cX7_extend 80 = .ok (.iload_n 1, 1) := by decide +kernel
theorem dX7_extend_81 : decode cX7_extend 81 = .ok (.imul, 1) := by decide +kernel
theorem dX7_extend_82 : decode cX7_extend 82 = .ok (.aload_n 0, 1) := by decide +kernel
theorem dX7_extend_83 : decode cX7_extend 83 = .ok (.getfield 28, 3) := by decide +kernel
theorem dX7_extend_86 : decode cX7_extend 86 = .ok (.iload_n 1, 1) := by decide +kernel
theorem dX7_extend_87 : decode cX7_extend 87 = .ok (.iaload, 1) := by decide +kernel
theorem dX7_extend_88 : decode cX7_extend 88 = .ok (.iadd, 1) := by decide +kernel
theorem dX7_extend_89 : decode cX7_extend 89 = .ok (.iload_n 2, 1) := by decide +kernel
theorem dX7_extend_90 : decode cX7_extend 90 = .ok (.iastore, 1) := by decide +kernel
theorem dX7_extend_91 : decode cX7_extend 91 = .ok (.aload_n 0, 1) := by decide +kernel
theorem dX7_extend_92 : decode cX7_extend 92 = .ok (.getfield 28, 3) := by decide +kernel
theorem dX7_extend_95 : decode cX7_extend 95 = .ok (.iload_n 1, 1) := by decide +kernel
theorem dX7_extend_96 : decode cX7_extend 96 = .ok (.dup2, 1) := by decide +kernel
theorem dX7_extend_97 : decode cX7_extend 97 = .ok (.iaload, 1) := by decide +kernel
theorem dX7_extend_98 : decode cX7_extend 98 = .ok (.iconst 1, 1) := by decide +kernel
theorem dX7_extend_99 : decode cX7_extend 99 = .ok (.iadd, 1) := by decide +kernel
theorem dX7_extend_100 : decode cX7_extend 100 = .ok (.iastore, 1) := by decide +kernel
theorem dX7_extend_101 : decode cX7_extend 101 = .ok (.aload_n 0, 1) := by decide +kernel
theorem dX7_extend_102 : decode cX7_extend 102 = .ok (.invokevirtual 129, 3) := by decide +kernel
theorem dX7_extend_105 : decode cX7_extend 105 = .ok (.istore 5, 2) := by decide +kernel
theorem dX7_extend_107 : decode cX7_extend 107 = .ok (.aload_n 0, 1) := by decide +kernel
theorem dX7_extend_108 : decode cX7_extend 108 = .ok (.getfield 28, 3) := by decide +kernel
theorem dX7_extend_111 : decode cX7_extend 111 = .ok (.iload_n 1, 1) := by decide +kernel
theorem dX7_extend_112 : decode cX7_extend 112 = .ok (.dup2, 1) := by decide +kernel
theorem dX7_extend_113 : decode cX7_extend 113 = .ok (.iaload, 1) := by decide +kernel
theorem dX7_extend_114 : decode cX7_extend 114 = .ok (.iload 5, 2) := by decide +kernel
theorem dX7_extend_116 : decode cX7_extend 116 = .ok (.ifCond .eq 7, 3) := by decide +kernel
theorem dX7_extend_119 : decode cX7_extend 119 = .ok (.iconst 0, 1) := by decide +kernel
theorem dX7_extend_120 : decode cX7_extend 120 = .ok (.goto 4, 3) := by decide +kernel
theorem dX7_extend_123 : decode cX7_extend 123 = .ok (.iconst 1, 1) := by decide +kernel
theorem dX7_extend_124 : decode cX7_extend 124 = .ok (.isub, 1) := by decide +kernel
theorem dX7_extend_125 : decode cX7_extend 125 = .ok (.iastore, 1) := by decide +kernel
theorem dX7_extend_126 : decode cX7_extend 126 = .ok (.aload_n 0, 1) := by decide +kernel
theorem dX7_extend_127 : decode cX7_extend 127 = .ok (.invokevirtual 129, 3) := by decide +kernel
theorem dX7_extend_130 : decode cX7_extend 130 = .ok (.pop, 1) := by decide +kernel
theorem dX7_extend_131 : decode cX7_extend 131 = .ok (.aload_n 0, 1) := by decide +kernel
theorem dX7_extend_132 : decode cX7_extend 132 = .ok (.iload_n 3, 1) := by decide +kernel
theorem dX7_extend_133 : decode cX7_extend 133 = .ok (.ifCond .ne 7, 3) := by decide +kernel
theorem dX7_extend_136 : decode cX7_extend 136 = .ok (.iconst 1, 1) := by decide +kernel
theorem dX7_extend_137 : decode cX7_extend 137 = .ok (.goto 22, 3) := by decide +kernel
theorem dX7_extend_140 : decode cX7_extend 140 = .ok (.iload 4, 2) := by decide +kernel
theorem dX7_extend_142 : decode cX7_extend 142 = .ok (.ifCond .ne 7, 3) := by decide +kernel
theorem dX7_extend_145 : decode cX7_extend 145 = .ok (.iconst 2, 1) := by decide +kernel
theorem dX7_extend_146 : decode cX7_extend 146 = .ok (.goto 13, 3) := by decide +kernel
theorem dX7_extend_149 : decode cX7_extend 149 = .ok (.iload 5, 2) := by decide +kernel
theorem dX7_extend_151 : decode cX7_extend 151 = .ok (.ifCond .eq 7, 3) := by decide +kernel
theorem dX7_extend_154 : decode cX7_extend 154 = .ok (.iconst 0, 1) := by decide +kernel
theorem dX7_extend_155 : decode cX7_extend 155 = .ok (.goto 4, 3) := by decide +kernel
theorem dX7_extend_158 : decode cX7_extend 158 = .ok (.iconst 3, 1) := by decide +kernel
theorem dX7_extend_159 : decode cX7_extend 159 = .ok (.invokevirtual 109, 3) := by decide +kernel
theorem dX7_extend_162 : decode cX7_extend 162 = .ok (.ifCond .eq 7, 3) := by decide +kernel
theorem dX7_extend_165 : decode cX7_extend 165 = .ok (.iconst 0, 1) := by decide +kernel
theorem dX7_extend_166 : decode cX7_extend 166 = .ok (.goto 9, 3) := by decide +kernel
theorem dX7_extend_169 : decode cX7_extend 169 = .ok (.aload_n 0, 1) := by decide +kernel
theorem dX7_extend_170 : decode cX7_extend 170 = .ok (.getfield 28, 3) := by decide +kernel
theorem dX7_extend_173 : decode cX7_extend 173 = .ok (.iload_n 1, 1) := by decide +kernel
theorem dX7_extend_174 : decode cX7_extend 174 = .ok (.iaload, 1) := by decide +kernel
theorem dX7_extend_175 : decode cX7_extend 175 = .ok (.ireturn, 1) := by decide +kernel
set_option maxRecDepth 20000 in
theorem ggX7_types_X7_fine : GoodIn wsX7_types wsX7_fine := goodIn_r _ [6, 7, 8, 9, 10, 11, 12, 13, 14, 15, 16, 17, 18, 19, 20, 21, 22, 23, 24, 25, 26, 27, 28, 29, 30, 31, 32, 33, 34, 35, 36, 37] (by decide +kernel) (by decide +kernel)
set_option maxRecDepth 20000 in
theorem gX7_types_X7_fine : GoodIn wsX7_types (wsV RX7 133 RX7 yX7_fine wsX7_fine) := goodIn_app (goodIn_of _ (by decide +kernel)) ggX7_types_X7_fine
theorem dX7_types_0 : decode cX7_types 0 = .ok (.aload_n 0, 1) := by decide +kernel
theorem dX7_types_1 : decode cX7_types 1 = .ok (.aload_n 0, 1) := by decide +kernel
theorem dX7_types_2 : decode cX7_types 2 = .ok (.getfield 77, 3) := by decide +kernel
theorem dX7_types_5 : decode cX7_types 5 = .ok (.invokevirtual 133, 3) := by decide +kernel
theorem dX7_types_8 : decode cX7_types 8 = .ok (.ireturn, 1) := by decide +kernel
set_option maxRecDepth 20000 in
theorem ggX7_noType_X7_isType : GoodIn wsX7_noType wsX7_isType := goodIn_r _ [5, 6, 7, 8, 4, 9, 15, 16, 17, 18, 19, 20, 21, 22, 23, 24, 25, 26, 27, 28, 29, 30, 31, 32, 33, 34, 35, 36, 37, 38, 39, 40, 41, 42, 43, 44] (by decide +kernel) (by decide +kernel)
set_option maxRecDepth 20000 in
theorem gX7_noType_X7_isType : GoodIn wsX7_noType (wsV RX7 120 RX7 yX7_isType wsX7_isType) := goodIn_app (goodIn_of _ (by decide +kernel)) ggX7_noType_X7_isType
set_option maxRecDepth 20000 in
theorem ggX7_noType_X7_refused : GoodIn wsX7_noType wsX7_refused := goodIn_r _ [13, 14, 15, 16, 17, 18, 19, 20, 21, 22, 23, 24, 25, 26, 27, 28, 29, 30, 31, 32, 33, 34, 35, 36, 37, 38, 39, 40, 41, 42, 43, 44] (by decide +kernel) (by decide +kernel)
set_option maxRecDepth 20000 in
theorem gX7_noType_X7_refused : GoodIn wsX7_noType (wsV RX7 109 RX7 yX7_refused wsX7_refused) := goodIn_app (goodIn_of _ (by decide +kernel)) ggX7_noType_X7_refused
theorem dX7_noType_0 : decode cX7_noType 0 = .ok (.aload_n 0, 1) := by decide +kernel
theorem dX7_noType_1 : decode cX7_noType 1 = .ok (.aload_n 0, 1) := by decide +kernel
theorem dX7_noType_2 : decode cX7_noType 2 = .ok (.iload_n 1, 1) := by decide +kernel
theorem dX7_noType_3 : decode cX7_noType 3 = .ok (.invokevirtual 120, 3) := by decide +kernel
theorem dX7_noType_6 : decode cX7_noType 6 = .ok (.ifCond .eq 7, 3) := by decide +kernel
theorem dX7_noType_9 : decode cX7_noType 9 = .ok (.iconst 0, 1) := by decide +kernel
theorem dX7_noType_10 : decode cX7_noType 10 = .ok (.goto 4, 3) := by decide +kernel
theorem dX7_noType_13 : decode cX7_noType 13 = .ok (.iconst 1, 1) := by decide +kernel
theorem dX7_noType_14 : decode cX7_noType 14 = .ok (.invokevirtual 109, 3) := by decide +kernel
theorem dX7_noType_17 : decode cX7_noType 17 = .ok (.ireturn, 1) := by decide +kernel
set_option maxRecDepth 20000 in
theorem ggX7_leastBits_X7_noType : GoodIn wsX7_leastBits wsX7_noType := goodIn_r _ [6, 7, 8, 9, 5, 10, 11, 12, 13, 14, 15, 16, 17, 18, 19, 20, 21, 22, 23, 24, 25, 26, 27, 28, 29, 30, 31, 32, 33, 34, 35, 36, 37, 38, 39, 40, 41, 42, 43, 44, 45, 46, 47, 48, 49] (by decide +kernel) (by decide +kernel)
set_option maxRecDepth 20000 in
theorem gX7_leastBits_X7_noType : GoodIn wsX7_leastBits (wsV RX7 136 RX7 yX7_noType wsX7_noType) := goodIn_app (goodIn_of _ (by decide +kernel)) ggX7_leastBits_X7_noType
theorem dX7_leastBits_0 : decode cX7_leastBits 0 = .ok (.aload_n 0, 1) := by decide +kernel
theorem dX7_leastBits_1 : decode cX7_leastBits 1 = .ok (.iload_n 1, 1) := by decide +kernel
theorem dX7_leastBits_2 : decode cX7_leastBits 2 = .ok (.invokevirtual 136, 3) := by decide +kernel
theorem dX7_leastBits_5 : decode cX7_leastBits 5 = .ok (.ifCond .eq 7, 3) := by decide +kernel
theorem dX7_leastBits_8 : decode cX7_leastBits 8 = .ok (.iconst 0, 1) := by decide +kernel
theorem dX7_leastBits_9 : decode cX7_leastBits 9 = .ok (.goto 9, 3) := by decide +kernel
theorem dX7_leastBits_12 : decode cX7_leastBits 12 = .ok (.aload_n 0, 1) := by decide +kernel
theorem dX7_leastBits_13 : decode cX7_leastBits 13 = .ok (.getfield 31, 3) := by decide +kernel
theorem dX7_leastBits_16 : decode cX7_leastBits 16 = .ok (.iload_n 1, 1) := by decide +kernel
theorem dX7_leastBits_17 : decode cX7_leastBits 17 = .ok (.iaload, 1) := by decide +kernel
theorem dX7_leastBits_18 : decode cX7_leastBits 18 = .ok (.ireturn, 1) := by decide +kernel
set_option maxRecDepth 20000 in
theorem ggX7_mostBits_X7_noType : GoodIn wsX7_mostBits wsX7_noType := goodIn_r _ [6, 7, 8, 9, 5, 10, 11, 12, 13, 14, 15, 16, 17, 18, 19, 20, 21, 22, 23, 24, 25, 26, 27, 28, 29, 30, 31, 32, 33, 34, 35, 36, 37, 38, 39, 40, 41, 42, 43, 44, 45, 46, 47, 48, 49] (by decide +kernel) (by decide +kernel)
set_option maxRecDepth 20000 in
theorem gX7_mostBits_X7_noType : GoodIn wsX7_mostBits (wsV RX7 136 RX7 yX7_noType wsX7_noType) := goodIn_app (goodIn_of _ (by decide +kernel)) ggX7_mostBits_X7_noType
theorem dX7_mostBits_0 : decode cX7_mostBits 0 = .ok (.aload_n 0, 1) := by decide +kernel
theorem dX7_mostBits_1 : decode cX7_mostBits 1 = .ok (.iload_n 1, 1) := by decide +kernel
theorem dX7_mostBits_2 : decode cX7_mostBits 2 = .ok (.invokevirtual 136, 3) := by decide +kernel
theorem dX7_mostBits_5 : decode cX7_mostBits 5 = .ok (.ifCond .eq 7, 3) := by decide +kernel
theorem dX7_mostBits_8 : decode cX7_mostBits 8 = .ok (.iconst 0, 1) := by decide +kernel
theorem dX7_mostBits_9 : decode cX7_mostBits 9 = .ok (.goto 9, 3) := by decide +kernel
theorem dX7_mostBits_12 : decode cX7_mostBits 12 = .ok (.aload_n 0, 1) := by decide +kernel
theorem dX7_mostBits_13 : decode cX7_mostBits 13 = .ok (.getfield 34, 3) := by decide +kernel
theorem dX7_mostBits_16 : decode cX7_mostBits 16 = .ok (.iload_n 1, 1) := by decide +kernel
theorem dX7_mostBits_17 : decode cX7_mostBits 17 = .ok (.iaload, 1) := by decide +kernel
theorem dX7_mostBits_18 : decode cX7_mostBits 18 = .ok (.ireturn, 1) := by decide +kernel
set_option maxRecDepth 20000 in
theorem ggX7_tell_X7_in : GoodIn wsX7_tell wsX7_in := goodIn_r _ [6] (by decide +kernel) (by decide +kernel)
set_option maxRecDepth 20000 in
theorem gX7_tell_X7_in : GoodIn wsX7_tell (va_wsS RX7 80 yX7_in wsX7_in) := goodIn_app (goodIn_of _ (by decide +kernel)) ggX7_tell_X7_in
set_option maxRecDepth 20000 in
theorem ggX7_tell_X7_refused : GoodIn wsX7_tell wsX7_refused := goodIn_r _ [10, 11, 12, 13, 14, 15, 16, 17, 18, 19, 20, 21, 22, 23, 24, 25, 26, 27, 28, 29, 30, 31, 32, 33, 34, 35, 36, 37, 38, 39, 40, 41] (by decide +kernel) (by decide +kernel)
set_option maxRecDepth 20000 in
theorem gX7_tell_X7_refused : GoodIn wsX7_tell (wsV RX7 109 RX7 yX7_refused wsX7_refused) := goodIn_app (goodIn_of _ (by decide +kernel)) ggX7_tell_X7_refused
theorem dX7_tell_0 : decode cX7_tell 0 = .ok (.aload_n 0, 1) := by decide +kernel
theorem dX7_tell_1 : decode cX7_tell 1 = .ok (.iload_n 1, 1) := by decide +kernel
theorem dX7_tell_2 : decode cX7_tell 2 = .ok (.sipush (-1000), 3) := by decide +kernel
theorem dX7_tell_5 : decode cX7_tell 5 = .ok (.sipush 1000, 3) := by decide +kernel
theorem dX7_tell_8 : decode cX7_tell 8 = .ok (.invokestatic 80, 3) := by decide +kernel
theorem dX7_tell_11 : decode cX7_tell 11 = .ok (.ifCond .ne 7, 3) := by decide +kernel
theorem dX7_tell_14 : decode cX7_tell 14 = .ok (.iconst 1, 1) := by decide +kernel
theorem dX7_tell_15 : decode cX7_tell 15 = .ok (.goto 18, 3) := by decide +kernel
theorem dX7_tell_18 : decode cX7_tell 18 = .ok (.aload_n 0, 1) := by decide +kernel
theorem dX7_tell_19 : decode cX7_tell 19 = .ok (.getfield 139, 3) := by decide +kernel
theorem dX7_tell_22 : decode cX7_tell 22 = .ok (.sipush 300, 3) := by decide +kernel
theorem dX7_tell_25 : decode cX7_tell 25 = .ok (.if_icmp .ne 7, 3) := by decide +kernel
theorem dX7_tell_28 : decode cX7_tell 28 = .ok (.iconst 2, 1) := by decide +kernel
theorem dX7_tell_29 : decode cX7_tell 29 = .ok (.goto 4, 3) := by decide +kernel
theorem dX7_tell_32 : decode cX7_tell 32 = .ok (.iconst 0, 1) := by decide +kernel
theorem dX7_tell_33 : decode cX7_tell 33 = .ok (.invokevirtual 109, 3) := by decide +kernel
theorem dX7_tell_36 : decode cX7_tell 36 = .ok (.ifCond .eq 5, 3) := by decide +kernel
theorem dX7_tell_39 : decode cX7_tell 39 = .ok (.iconst 0, 1) := by decide +kernel
theorem dX7_tell_40 : decode cX7_tell 40 = .ok (.ireturn, 1) := by decide +kernel
theorem dX7_tell_41 : decode cX7_tell 41 = .ok (.aload_n 0, 1) := by decide +kernel
theorem dX7_tell_42 : decode cX7_tell 42 = .ok (.getfield 43, 3) := by decide +kernel
theorem dX7_tell_45 : decode cX7_tell 45 = .ok (.aload_n 0, 1) := by decide +kernel
theorem dX7_tell_46 : decode cX7_tell 46 = .ok (.getfield 139, 3) := by decide +kernel
theorem dX7_tell_49 : decode cX7_tell 49 = .ok (.iload_n 1, 1) := by decide +kernel
theorem dX7_tell_50 : decode cX7_tell 50 = .ok (.iastore, 1) := by decide +kernel
theorem dX7_tell_51 : decode cX7_tell 51 = .ok (.aload_n 0, 1) := by decide +kernel
theorem dX7_tell_52 : decode cX7_tell 52 = .ok (.dup, 1) := by decide +kernel
theorem dX7_tell_53 : decode cX7_tell 53 = .ok (.getfield 139, 3) := by decide +kernel
theorem dX7_tell_56 : decode cX7_tell 56 = .ok (.iconst 1, 1) := by decide +kernel
theorem dX7_tell_57 : decode cX7_tell 57 = .ok (.iadd, 1) := by decide +kernel
theorem dX7_tell_58 : decode cX7_tell 58 = .ok (.putfield 139, 3) := by decide +kernel
theorem dX7_tell_61 : decode cX7_tell 61 = .ok (.aload_n 0, 1) := by decide +kernel
theorem dX7_tell_62 : decode cX7_tell 62 = .ok (.getfield 139, 3) := by decide +kernel
theorem dX7_tell_65 : decode cX7_tell 65 = .ok (.ireturn, 1) := by decide +kernel
set_option maxRecDepth 20000 in
theorem ggX7_forget_X7_fine : GoodIn wsX7_forget wsX7_fine := goodIn_r _ [6, 7, 8, 9, 10, 11, 12, 13, 14, 15, 16, 17, 18, 19, 20, 21, 22, 23, 24, 25, 26, 27, 28, 29, 30, 31, 32, 33, 34, 35, 36, 37] (by decide +kernel) (by decide +kernel)
set_option maxRecDepth 20000 in
theorem gX7_forget_X7_fine : GoodIn wsX7_forget (wsV RX7 133 RX7 yX7_fine wsX7_fine) := goodIn_app (goodIn_of _ (by decide +kernel)) ggX7_forget_X7_fine
theorem dX7_forget_0 : decode cX7_forget 0 = .ok (.aload_n 0, 1) := by decide +kernel
theorem dX7_forget_1 : decode cX7_forget 1 = .ok (.getfield 139, 3) := by decide +kernel
theorem dX7_forget_4 : decode cX7_forget 4 = .ok (.istore_n 1, 1) := by decide +kernel
theorem dX7_forget_5 : decode cX7_forget 5 = .ok (.aload_n 0, 1) := by decide +kernel
theorem dX7_forget_6 : decode cX7_forget 6 = .ok (.iconst 0, 1) := by decide +kernel
theorem dX7_forget_7 : decode cX7_forget 7 = .ok (.putfield 139, 3) := by decide +kernel
theorem dX7_forget_10 : decode cX7_forget 10 = .ok (.aload_n 0, 1) := by decide +kernel
theorem dX7_forget_11 : decode cX7_forget 11 = .ok (.iload_n 1, 1) := by decide +kernel
theorem dX7_forget_12 : decode cX7_forget 12 = .ok (.invokevirtual 133, 3) := by decide +kernel
theorem dX7_forget_15 : decode cX7_forget 15 = .ok (.ireturn, 1) := by decide +kernel
set_option maxRecDepth 20000 in
theorem ggX7_length_X7_fine : GoodIn wsX7_length wsX7_fine := goodIn_r _ [6, 7, 8, 9, 10, 11, 12, 13, 14, 15, 16, 17, 18, 19, 20, 21, 22, 23, 24, 25, 26, 27, 28, 29, 30, 31, 32, 33, 34, 35, 36, 37] (by decide +kernel) (by decide +kernel)
set_option maxRecDepth 20000 in
theorem gX7_length_X7_fine : GoodIn wsX7_length (wsV RX7 133 RX7 yX7_fine wsX7_fine) := goodIn_app (goodIn_of _ (by decide +kernel)) ggX7_length_X7_fine
theorem dX7_length_0 : decode cX7_length 0 = .ok (.aload_n 0, 1) := by decide +kernel
theorem dX7_length_1 : decode cX7_length 1 = .ok (.aload_n 0, 1) := by decide +kernel
theorem dX7_length_2 : decode cX7_length 2 = .ok (.getfield 139, 3) := by decide +kernel
theorem dX7_length_5 : decode cX7_length 5 = .ok (.invokevirtual 133, 3) := by decide +kernel
theorem dX7_length_8 : decode cX7_length 8 = .ok (.ireturn, 1) := by decide +kernel
set_option maxRecDepth 20000 in
theorem ggX7_told_X7_in : GoodIn wsX7_told wsX7_in := goodIn_r _ [6] (by decide +kernel) (by decide +kernel)
set_option maxRecDepth 20000 in
theorem gX7_told_X7_in : GoodIn wsX7_told (va_wsS RX7 80 yX7_in wsX7_in) := goodIn_app (goodIn_of _ (by decide +kernel)) ggX7_told_X7_in
set_option maxRecDepth 20000 in
theorem ggX7_told_X7_refused : GoodIn wsX7_told wsX7_refused := goodIn_r _ [10, 11, 12, 13, 14, 15, 16, 17, 18, 19, 20, 21, 22, 23, 24, 25, 26, 27, 28, 29, 30, 31, 32, 33, 34, 35, 36, 37, 38, 39, 40, 41] (by decide +kernel) (by decide +kernel)
set_option maxRecDepth 20000 in
theorem gX7_told_X7_refused : GoodIn wsX7_told (wsV RX7 109 RX7 yX7_refused wsX7_refused) := goodIn_app (goodIn_of _ (by decide +kernel)) ggX7_told_X7_refused
theorem dX7_told_0 : decode cX7_told 0 = .ok (.aload_n 0, 1) := by decide +kernel
theorem dX7_told_1 : decode cX7_told 1 = .ok (.iload_n 1, 1) := by decide +kernel
theorem dX7_told_2 : decode cX7_told 2 = .ok (.iconst 0, 1) := by decide +kernel
theorem dX7_told_3 : decode cX7_told 3 = .ok (.aload_n 0, 1) := by decide +kernel
theorem dX7_told_4 : decode cX7_told 4 = .ok (.getfield 139, 3) := by decide +kernel
theorem dX7_told_7 : decode cX7_told 7 = .ok (.iconst 1, 1) := by decide +kernel
theorem dX7_told_8 : decode cX7_told 8 = .ok (.isub, 1) := by decide +kernel
theorem dX7_told_9 : decode cX7_told 9 = .ok (.invokestatic 80, 3) := by decide +kernel
theorem dX7_told_12 : decode cX7_told 12 = .ok (.ifCond .eq 7, 3) := by decide +kernel
theorem dX7_told_15 : decode cX7_told 15 = .ok (.iconst 0, 1) := by decide +kernel
theorem dX7_told_16 : decode cX7_told 16 = .ok (.goto 4, 3) := by decide +kernel
theorem dX7_told_19 : decode cX7_told 19 = .ok (.iconst 1, 1) := by decide +kernel
theorem dX7_told_20 : decode cX7_told 20 = .ok (.invokevirtual 109, 3) := by decide +kernel
theorem dX7_told_23 : decode cX7_told 23 = .ok (.ifCond .eq 7, 3) := by decide +kernel
theorem dX7_told_26 : decode cX7_told 26 = .ok (.iconst 0, 1) := by decide +kernel
theorem dX7_told_27 : decode cX7_told 27 = .ok (.goto 9, 3) := by decide +kernel
theorem dX7_told_30 : decode cX7_told 30 = .ok (.aload_n 0, 1) := by decide +kernel
theorem dX7_told_31 : decode cX7_told 31 = .ok (.getfield 43, 3) := by decide +kernel
theorem dX7_told_34 : decode cX7_told 34 = .ok (.iload_n 1, 1) := by decide +kernel
theorem dX7_told_35 : decode cX7_told 35 = .ok (.iaload, 1) := by decide +kernel
theorem dX7_told_36 : decode cX7_told 36 = .ok (.ireturn, 1) := by decide +kernel
theorem dX7_push_0 : decode cX7_push 0 = .ok (.aload_n 0, 1) := by decide +kernel
theorem dX7_push_1 : decode cX7_push 1 = .ok (.getfield 52, 3) := by decide +kernel
theorem dX7_push_4 : decode cX7_push 4 = .ok (.aload_n 0, 1) := by decide +kernel
theorem dX7_push_5 : decode cX7_push 5 = .ok (.getfield 142, 3) := by decide +kernel
theorem dX7_push_8 : decode cX7_push 8 = .ok (.iload_n 1, 1) := by decide +kernel
theorem dX7_push_9 : decode cX7_push 9 = .ok (.iastore, 1) := by decide +kernel
theorem dX7_push_10 : decode cX7_push 10 = .ok (.aload_n 0, 1) := by decide +kernel
theorem dX7_push_11 : decode cX7_push 11 = .ok (.getfield 55, 3) := by decide +kernel
theorem dX7_push_14 : decode cX7_push 14 = .ok (.aload_n 0, 1) := by decide +kernel
theorem dX7_push_15 : decode cX7_push 15 = .ok (.getfield 142, 3) := by decide +kernel
theorem dX7_push_18 : decode cX7_push 18 = .ok (.iconst 0, 1) := by decide +kernel
theorem dX7_push_19 : decode cX7_push 19 = .ok (.iastore, 1) := by decide +kernel
theorem dX7_push_20 : decode cX7_push 20 = .ok (.aload_n 0, 1) := by decide +kernel
theorem dX7_push_21 : decode cX7_push 21 = .ok (.getfield 64, 3) := by decide +kernel
theorem dX7_push_24 : decode cX7_push 24 = .ok (.aload_n 0, 1) := by decide +kernel
theorem dX7_push_25 : decode cX7_push 25 = .ok (.getfield 142, 3) := by decide +kernel
theorem dX7_push_28 : decode cX7_push 28 = .ok (.iconst (-1), 1) := by decide +kernel
theorem dX7_push_29 : decode cX7_push 29 = .ok (.iastore, 1) := by decide +kernel
theorem dX7_push_30 : decode cX7_push 30 = .ok (.aload_n 0, 1) := by decide +kernel
theorem dX7_push_31 : decode cX7_push 31 = .ok (.dup, 1) := by decide +kernel
theorem dX7_push_32 : decode cX7_push 32 = .ok (.getfield 142, 3) := by decide +kernel
theorem dX7_push_35 : decode cX7_push 35 = .ok (.iconst 1, 1) := by decide +kernel
theorem dX7_push_36 : decode cX7_push 36 = .ok (.iadd, 1) := by decide +kernel
theorem dX7_push_37 : decode cX7_push 37 = .ok (.putfield 142, 3) := by decide +kernel
theorem dX7_push_40 : decode cX7_push 40 = .ok (.return_, 1) := by decide +kernel
theorem dX7_emit_0 : decode cX7_emit 0 = .ok (.iload_n 2, 1) := by decide +kernel
theorem dX7_emit_1 : decode cX7_emit 1 = .ok (.iconst 1, 1) := by decide +kernel
theorem dX7_emit_2 : decode cX7_emit 2 = .ok (.isub, 1) := by decide +kernel
theorem dX7_emit_3 : decode cX7_emit 3 = .ok (.istore 4, 2) := by decide +kernel
theorem dX7_emit_5 : decode cX7_emit 5 = .ok (.iload 4, 2) := by decide +kernel
theorem dX7_emit_7 : decode cX7_emit 7 = .ok (.ifCond .lt 38, 3) := by decide +kernel
theorem dX7_emit_10 : decode cX7_emit 10 = .ok (.iload_n 3, 1) := by decide +kernel
theorem dX7_emit_11 : decode cX7_emit 11 = .ok (.ifCond .eq 34, 3) := by decide +kernel
theorem dX7_emit_14 : decode cX7_emit 14 = .ok (.aload_n 0, 1) := by decide +kernel
theorem dX7_emit_15 : decode cX7_emit 15 = .ok (.getfield 46, 3) := by decide +kernel
theorem dX7_emit_18 : decode cX7_emit 18 = .ok (.aload_n 0, 1) := by decide +kernel
theorem dX7_emit_19 : decode cX7_emit 19 = .ok (.getfield 145, 3) := by decide +kernel
theorem dX7_emit_22 : decode cX7_emit 22 = .ok (.iload_n 1, 1) := by decide +kernel
theorem dX7_emit_23 : decode cX7_emit 23 = .ok (.iload 4, 2) := by decide +kernel
theorem dX7_emit_25 : decode cX7_emit 25 = .ok (.ishr, 1) := by decide +kernel
theorem dX7_emit_26 : decode cX7_emit 26 = .ok (.iconst 1, 1) := by decide +kernel
theorem dX7_emit_27 : decode cX7_emit 27 = .ok (.iand, 1) := by decide +kernel
theorem dX7_emit_28 : decode cX7_emit 28 = .ok (.iastore, 1) := by decide +kernel
theorem dX7_emit_29 : decode cX7_emit 29 = .ok (.aload_n 0, 1) := by decide +kernel
theorem dX7_emit_30 : decode cX7_emit 30 = .ok (.dup, 1) := by decide +kernel
theorem dX7_emit_31 : decode cX7_emit 31 = .ok (.getfield 145, 3) := by decide +kernel
theorem dX7_emit_34 : decode cX7_emit 34 = .ok (.iconst 1, 1) := by decide +kernel
theorem dX7_emit_35 : decode cX7_emit 35 = .ok (.iadd, 1) := by decide +kernel
theorem dX7_emit_36 : decode cX7_emit 36 = .ok (.putfield 145, 3) := by decide +kernel
theorem dX7_emit_39 : decode cX7_emit 39 = .ok (.iinc 4 (-1), 3) := by decide +kernel
theorem dX7_emit_42 : decode cX7_emit 42 = .ok (.goto (-37), 3) := by decide +kernel
theorem dX7_emit_45 : decode cX7_emit 45 = .ok (.return_, 1) := by decide +kernel
set_option maxRecDepth 20000 in
theorem ggX7_isWrong_X7_in : GoodIn wsX7_isWrong wsX7_in := goodIn_r _ [8] (by decide +kernel) (by decide +kernel)
set_option maxRecDepth 20000 in
theorem gX7_isWrong_X7_in : GoodIn wsX7_isWrong (va_wsS RX7 80 yX7_in wsX7_in) := goodIn_app (goodIn_of _ (by decide +kernel)) ggX7_isWrong_X7_in
theorem dX7_isWrong_0 : decode cX7_isWrong 0 = .ok (.aload_n 0, 1) := by decide +kernel
theorem dX7_isWrong_1 : decode cX7_isWrong 1 = .ok (.getfield 148, 3) := by decide +kernel
theorem dX7_isWrong_4 : decode cX7_isWrong 4 = .ok (.aload_n 0, 1) := by decide +kernel
theorem dX7_isWrong_5 : decode cX7_isWrong 5 = .ok (.getfield 139, 3) := by decide +kernel
theorem dX7_isWrong_8 : decode cX7_isWrong 8 = .ok (.if_icmp .ge 20, 3) := by decide +kernel
theorem dX7_isWrong_11 : decode cX7_isWrong 11 = .ok (.aload_n 0, 1) := by decide +kernel
theorem dX7_isWrong_12 : decode cX7_isWrong 12 = .ok (.getfield 43, 3) := by decide +kernel
theorem dX7_isWrong_15 : decode cX7_isWrong 15 = .ok (.aload_n 0, 1) := by decide +kernel
theorem dX7_isWrong_16 : decode cX7_isWrong 16 = .ok (.getfield 148, 3) := by decide +kernel
theorem dX7_isWrong_19 : decode cX7_isWrong 19 = .ok (.iaload, 1) := by decide +kernel
theorem dX7_isWrong_20 : decode cX7_isWrong 20 = .ok (.iload_n 1, 1) := by decide +kernel
theorem dX7_isWrong_21 : decode cX7_isWrong 21 = .ok (.iload_n 2, 1) := by decide +kernel
theorem dX7_isWrong_22 : decode cX7_isWrong 22 = .ok (.invokestatic 80, 3) := by decide +kernel
theorem dX7_isWrong_25 : decode cX7_isWrong 25 = .ok (.ifCond .ne 7, 3) := by decide +kernel
theorem dX7_isWrong_28 : decode cX7_isWrong 28 = .ok (.iconst 1, 1) := by decide +kernel
theorem dX7_isWrong_29 : decode cX7_isWrong 29 = .ok (.goto 4, 3) := by decide +kernel
theorem dX7_isWrong_32 : decode cX7_isWrong 32 = .ok (.iconst 0, 1) := by decide +kernel
theorem dX7_isWrong_33 : decode cX7_isWrong 33 = .ok (.istore_n 3, 1) := by decide +kernel
theorem dX7_isWrong_34 : decode cX7_isWrong 34 = .ok (.aload_n 0, 1) := by decide +kernel
theorem dX7_isWrong_35 : decode cX7_isWrong 35 = .ok (.iload_n 3, 1) := by decide +kernel
theorem dX7_isWrong_36 : decode cX7_isWrong 36 = .ok (.ifCond .eq 10, 3) := by decide +kernel
theorem dX7_isWrong_39 : decode cX7_isWrong 39 = .ok (.aload_n 0, 1) := by decide +kernel
theorem dX7_isWrong_40 : decode cX7_isWrong 40 = .ok (.getfield 148, 3) := by decide +kernel
theorem dX7_isWrong_43 : decode cX7_isWrong 43 = .ok (.goto 7, 3) := by decide +kernel
theorem dX7_isWrong_46 : decode cX7_isWrong 46 = .ok (.aload_n 0, 1) := by decide +kernel
theorem dX7_isWrong_47 : decode cX7_isWrong 47 = .ok (.getfield 151, 3) := by decide +kernel
theorem dX7_isWrong_50 : decode cX7_isWrong 50 = .ok (.putfield 151, 3) := by decide +kernel
theorem dX7_isWrong_53 : decode cX7_isWrong 53 = .ok (.iload_n 3, 1) := by decide +kernel
theorem dX7_isWrong_54 : decode cX7_isWrong 54 = .ok (.ireturn, 1) := by decide +kernel
set_option maxRecDepth 20000 in
theorem ggX7_goOverTale_X7_headOfTale : GoodIn wsX7_goOverTale wsX7_headOfTale := goodIn_r _ [15, 8, 6, 9, 10, 16, 17, 18, 19, 20, 14, 21, 22, 23, 24, 25, 26, 27, 28, 29, 30, 31, 32, 33, 34, 35, 36, 37, 59, 60, 61, 62, 63, 64, 65, 66, 67, 68, 69, 70, 71, 72, 73, 74, 75, 76, 77, 78, 79, 80, 81, 82, 83, 84, 85, 86, 87, 88] (by decide +kernel) (by decide +kernel)
set_option maxRecDepth 20000 in
theorem gX7_goOverTale_X7_headOfTale : GoodIn wsX7_goOverTale (wsV RX7 154 RX7 yX7_headOfTale wsX7_headOfTale) := goodIn_app (goodIn_of _ (by decide +kernel)) ggX7_goOverTale_X7_headOfTale
set_option maxRecDepth 20000 in
theorem ggX7_goOverTale_X7_sequenceOfTale : GoodIn wsX7_goOverTale wsX7_sequenceOfTale := goodIn_r _ [41, 42, 36, 37, 6, 8, 17, 1, 43, 44, 45, 46, 14, 47, 22, 48, 49, 50, 51, 2, 3, 32, 33, 34, 35, 59, 60, 61, 62, 63, 64, 65, 66, 67, 68, 69, 70, 71, 72, 73, 74, 75, 76, 77, 78, 79, 80, 81, 82, 83, 84, 85, 86, 87, 88] (by decide +kernel) (by decide +kernel)
set_option maxRecDepth 20000 in
theorem gX7_goOverTale_X7_sequenceOfTale : GoodIn wsX7_goOverTale (wsV RX7 158 RX7 yX7_sequenceOfTale wsX7_sequenceOfTale) := goodIn_app (goodIn_of _ (by decide +kernel)) ggX7_goOverTale_X7_sequenceOfTale
set_option maxRecDepth 20000 in
theorem ggX7_goOverTale_X7_isWrong : GoodIn wsX7_goOverTale wsX7_isWrong := goodIn_r _ [26, 10, 27, 9, 28, 29, 30, 14, 31, 59, 60, 61, 62, 63, 64, 65, 66, 67, 68, 69, 70, 71, 72, 73, 74, 75, 76, 77, 78, 79, 80, 81, 82, 83, 84, 85, 86, 87, 88] (by decide +kernel) (by decide +kernel)
set_option maxRecDepth 20000 in
theorem gX7_goOverTale_X7_isWrong : GoodIn wsX7_goOverTale (wsV RX7 162 RX7 yX7_isWrong wsX7_isWrong) := goodIn_app (goodIn_of _ (by decide +kernel)) ggX7_goOverTale_X7_isWrong
set_option maxRecDepth 20000 in
theorem ggX7_goOverTale_X7_widthOf : GoodIn wsX7_goOverTale wsX7_widthOf := goodIn_r _ [55, 4, 6, 7, 5, 56, 57, 14, 58, 59, 60, 61, 62, 63, 64, 65, 66, 67, 68, 69, 70, 71, 72, 73, 74, 75, 76, 77, 78, 79, 80, 81, 82, 83, 84, 85, 86, 87, 88] (by decide +kernel) (by decide +kernel)
set_option maxRecDepth 20000 in
theorem gX7_goOverTale_X7_widthOf : GoodIn wsX7_goOverTale (wsV RX7 99 RX7 yX7_widthOf wsX7_widthOf) := goodIn_app (goodIn_of _ (by decide +kernel)) ggX7_goOverTale_X7_widthOf
set_option maxRecDepth 20000 in
theorem ggX7_goOverTale_X7_emit : GoodIn wsX7_goOverTale wsX7_emit := goodIn_r _ [35, 36, 37, 59, 60, 61, 62, 63, 64, 65, 66, 67, 68, 69, 70, 71, 72, 73, 74, 75, 76, 77, 78, 79, 80, 81, 82, 83, 84, 85, 86, 87, 88] (by decide +kernel) (by decide +kernel)
set_option maxRecDepth 20000 in
theorem gX7_goOverTale_X7_emit : GoodIn wsX7_goOverTale (wsV RX7 165 RX7 yX7_emit wsX7_emit) := goodIn_app (goodIn_of _ (by decide +kernel)) ggX7_goOverTale_X7_emit
set_option maxRecDepth 20000 in
theorem ggX7_goOverTale_X7_partOf : GoodIn wsX7_goOverTale wsX7_partOf := goodIn_r _ [47, 22, 59, 60, 61, 62, 63, 64, 65, 66, 67, 68, 69, 70, 71, 72, 73, 74, 75, 76, 77, 78, 79, 80, 81, 82, 83, 84, 85, 86, 87, 88] (by decide +kernel) (by decide +kernel)
set_option maxRecDepth 20000 in
theorem gX7_goOverTale_X7_partOf : GoodIn wsX7_goOverTale (wsV RX7 95 RX7 yX7_partOf wsX7_partOf) := goodIn_app (goodIn_of _ (by decide +kernel)) ggX7_goOverTale_X7_partOf
set_option maxRecDepth 20000 in
theorem ggX7_goOverTale_X7_push : GoodIn wsX7_goOverTale wsX7_push := goodIn_r _ [51, 2, 1, 3, 42, 59, 60, 61, 62, 63, 64, 65, 66, 67, 68, 69, 70, 71, 72, 73, 74, 75, 76, 77, 78, 79, 80, 81, 82, 83, 84, 85, 86, 87, 88] (by decide +kernel) (by decide +kernel)
set_option maxRecDepth 20000 in
theorem gX7_goOverTale_X7_push : GoodIn wsX7_goOverTale (wsV RX7 169 RX7 yX7_push wsX7_push) := goodIn_app (goodIn_of _ (by decide +kernel)) ggX7_goOverTale_X7_push
theorem dX7_goOverTale_0 : decode cX7_goOverTale 0 = .ok (.aload_n 0, 1) := by decide +kernel
theorem dX7_goOverTale_1 : decode cX7_goOverTale 1 = .ok (.getfield 142, 3) := by decide +kernel
theorem dX7_goOverTale_4 : decode cX7_goOverTale 4 = .ok (.iconst 1, 1) := by decide +kernel
theorem dX7_goOverTale_5 : decode cX7_goOverTale 5 = .ok (.isub, 1) := by decide +kernel
theorem dX7_goOverTale_6 : decode cX7_goOverTale 6 = .ok (.istore_n 2, 1) := by decide +kernel
theorem dX7_goOverTale_7 : decode cX7_goOverTale 7 = .ok (.aload_n 0, 1) := by decide +kernel
theorem dX7_goOverTale_8 : decode cX7_goOverTale 8 = .ok (.getfield 52, 3) := by decide +kernel
theorem dX7_goOverTale_11 : decode cX7_goOverTale 11 = .ok (.iload_n 2, 1) := by decide +kernel
theorem dX7_goOverTale_12 : decode cX7_goOverTale 12 = .ok (.iaload, 1) := by decide +kernel
theorem dX7_goOverTale_13 : decode cX7_goOverTale 13 = .ok (.istore_n 3, 1) := by decide +kernel
theorem dX7_goOverTale_14 : decode cX7_goOverTale 14 = .ok (.aload_n 0, 1) := by decide +kernel
theorem dX7_goOverTale_15 : decode cX7_goOverTale 15 = .ok (.getfield 55, 3) := by decide +kernel
theorem dX7_goOverTale_18 : decode cX7_goOverTale 18 = .ok (.iload_n 2, 1) := by decide +kernel
theorem dX7_goOverTale_19 : decode cX7_goOverTale 19 = .ok (.iaload, 1) := by decide +kernel
theorem dX7_goOverTale_20 : decode cX7_goOverTale 20 = .ok (.istore 4, 2) := by decide +kernel
theorem dX7_goOverTale_22 : decode cX7_goOverTale 22 = .ok (.aload_n 0, 1) := by decide +kernel
theorem dX7_goOverTale_23 : decode cX7_goOverTale 23 = .ok (.getfield 55, 3) := by decide +kernel
theorem dX7_goOverTale_26 : decode cX7_goOverTale 26 = .ok (.iload_n 2, 1) := by decide +kernel
theorem dX7_goOverTale_27 : decode cX7_goOverTale 27 = .ok (.dup2, 1) := by decide +kernel
theorem dX7_goOverTale_28 : decode cX7_goOverTale 28 = .ok (.iaload, 1) := by decide +kernel
theorem dX7_goOverTale_29 : decode cX7_goOverTale 29 = .ok (.iconst 1, 1) := by decide +kernel
theorem dX7_goOverTale_30 : decode cX7_goOverTale 30 = .ok (.iadd, 1) := by decide +kernel
theorem dX7_goOverTale_31 : decode cX7_goOverTale 31 = .ok (.iastore, 1) := by decide +kernel
theorem dX7_goOverTale_32 : decode cX7_goOverTale 32 = .ok (.aload_n 0, 1) := by decide +kernel
theorem dX7_goOverTale_33 : decode cX7_goOverTale 33 = .ok (.getfield 7, 3) := by decide +kernel
theorem dX7_goOverTale_36 : decode cX7_goOverTale 36 = .ok (.iload_n 3, 1) := by decide +kernel
theorem dX7_goOverTale_37 : decode cX7_goOverTale 37 = .ok (.iaload, 1) := by decide +kernel
theorem dX7_goOverTale_38 : decode cX7_goOverTale 38 = .ok (.iconst 2, 1) := by decide +kernel
theorem dX7_goOverTale_39 : decode cX7_goOverTale 39 = .ok (.if_icmp .ne 30, 3) := by decide +kernel
theorem dX7_goOverTale_42 : decode cX7_goOverTale 42 = .ok (.iload 4, 2) := by decide +kernel
theorem dX7_goOverTale_44 : decode cX7_goOverTale 44 = .ok (.ifCond .ne 13, 3) := by decide +kernel
theorem dX7_goOverTale_47 : decode cX7_goOverTale 47 = .ok (.aload_n 0, 1) := by decide +kernel
theorem dX7_goOverTale_48 : decode cX7_goOverTale 48 = .ok (.iload_n 3, 1) := by decide +kernel
theorem dX7_goOverTale_49 : decode cX7_goOverTale 49 = .ok (.iload_n 2, 1) := by decide +kernel
theorem dX7_goOverTale_50 : decode cX7_goOverTale 50 = .ok (.iload_n 1, 1) := by decide +kernel
theorem dX7_goOverTale_51 : decode cX7_goOverTale 51 = .ok (.invokevirtual 154, 3) := by decide +kernel
theorem dX7_goOverTale_54 : decode cX7_goOverTale 54 = .ok (.goto 14, 3) := by decide +kernel
theorem dX7_goOverTale_57 : decode cX7_goOverTale 57 = .ok (.aload_n 0, 1) := by decide +kernel
theorem dX7_goOverTale_58 : decode cX7_goOverTale 58 = .ok (.iload_n 3, 1) := by decide +kernel
theorem dX7_goOverTale_59 : decode cX7_goOverTale 59 = .ok (.iload_n 2, 1) := by decide +kernel
theorem dX7_goOverTale_60 : decode cX7_goOverTale 60 = .ok (.iload 4, 2) := by decide +kernel
theorem dX7_goOverTale_62 : decode cX7_goOverTale 62 = .ok (.iconst 1, 1) := by decide +kernel
theorem dX7_goOverTale_63 : decode cX7_goOverTale 63 = .ok (.isub, 1) := by decide +kernel
theorem dX7_goOverTale_64 : decode cX7_goOverTale 64 = .ok (.iload_n 1, 1) := by decide +kernel
theorem dX7_goOverTale_65 : decode cX7_goOverTale 65 = .ok (.invokevirtual 158, 3) := by decide +kernel
theorem dX7_goOverTale_68 : decode cX7_goOverTale 68 = .ok (.ireturn, 1) := by decide +kernel
theorem dX7_goOverTale_69 : decode cX7_goOverTale 69 = .ok (.iload 4, 2) := by decide +kernel
theorem dX7_goOverTale_71 : decode cX7_goOverTale 71 = .ok (.ifCond .ne 117, 3) := by decide +kernel
theorem dX7_goOverTale_74 : decode cX7_goOverTale 74 = .ok (.aload_n 0, 1) := by decide +kernel
theorem dX7_goOverTale_75 : decode cX7_goOverTale 75 = .ok (.getfield 7, 3) := by decide +kernel
theorem dX7_goOverTale_78 : decode cX7_goOverTale 78 = .ok (.iload_n 3, 1) := by decide +kernel
theorem dX7_goOverTale_79 : decode cX7_goOverTale 79 = .ok (.iaload, 1) := by decide +kernel
theorem dX7_goOverTale_80 : decode cX7_goOverTale 80 = .ok (.iconst 3, 1) := by decide +kernel
theorem dX7_goOverTale_81 : decode cX7_goOverTale 81 = .ok (.if_icmp .ne 7, 3) := by decide +kernel
theorem dX7_goOverTale_84 : decode cX7_goOverTale 84 = .ok (.iconst 1, 1) := by decide +kernel
theorem dX7_goOverTale_85 : decode cX7_goOverTale 85 = .ok (.goto 4, 3) := by decide +kernel
theorem dX7_goOverTale_88 : decode cX7_goOverTale 88 = .ok (.iconst 0, 1) := by decide +kernel
theorem dX7_goOverTale_89 : decode cX7_goOverTale 89 = .ok (.istore 5, 2) := by decide +kernel
theorem dX7_goOverTale_91 : decode cX7_goOverTale 91 = .ok (.iload 5, 2) := by decide +kernel
theorem dX7_goOverTale_93 : decode cX7_goOverTale 93 = .ok (.ifCond .eq 7, 3) := by decide +kernel
theorem dX7_goOverTale_96 : decode cX7_goOverTale 96 = .ok (.iconst 0, 1) := by decide +kernel
theorem dX7_goOverTale_97 : decode cX7_goOverTale 97 = .ok (.goto 9, 3) := by decide +kernel
theorem dX7_goOverTale_100 : decode cX7_goOverTale 100 = .ok (.aload_n 0, 1) := by decide +kernel
theorem dX7_goOverTale_101 : decode cX7_goOverTale 101 = .ok (.getfield 13, 3) := by decide +kernel
theorem dX7_goOverTale_104 : decode cX7_goOverTale 104 = .ok (.iload_n 3, 1) := by decide +kernel
theorem dX7_goOverTale_105 : decode cX7_goOverTale 105 = .ok (.iaload, 1) := by decide +kernel
theorem dX7_goOverTale_106 : decode cX7_goOverTale 106 = .ok (.istore 6, 2) := by decide +kernel
theorem dX7_goOverTale_108 : decode cX7_goOverTale 108 = .ok (.aload_n 0, 1) := by decide +kernel
theorem dX7_goOverTale_109 : decode cX7_goOverTale 109 = .ok (.iload 6, 2) := by decide +kernel
theorem dX7_goOverTale_111 : decode cX7_goOverTale 111 = .ok (.iload 5, 2) := by decide +kernel
theorem dX7_goOverTale_113 : decode cX7_goOverTale 113 = .ok (.ifCond .eq 14, 3) := by decide +kernel
theorem dX7_goOverTale_116 : decode cX7_goOverTale 116 = .ok (.aload_n 0, 1) := by decide +kernel
theorem dX7_goOverTale_117 : decode cX7_goOverTale 117 = .ok (.getfield 22, 3) := by decide +kernel
theorem dX7_goOverTale_120 : decode cX7_goOverTale 120 = .ok (.iload_n 3, 1) := by decide +kernel
theorem dX7_goOverTale_121 : decode cX7_goOverTale 121 = .ok (.iaload, 1) := by decide +kernel
theorem dX7_goOverTale_122 : decode cX7_goOverTale 122 = .ok (.iconst 1, 1) := by decide +kernel
theorem dX7_goOverTale_123 : decode cX7_goOverTale 123 = .ok (.isub, 1) := by decide +kernel
theorem dX7_goOverTale_124 : decode cX7_goOverTale 124 = .ok (.goto 9, 3) := by decide +kernel
theorem dX7_goOverTale_127 : decode cX7_goOverTale 127 = .ok (.aload_n 0, 1) := by decide +kernel
theorem dX7_goOverTale_128 : decode cX7_goOverTale 128 = .ok (.getfield 16, 3) := by decide +kernel
theorem dX7_goOverTale_131 : decode cX7_goOverTale 131 = .ok (.iload_n 3, 1) := by decide +kernel
theorem dX7_goOverTale_132 : decode cX7_goOverTale 132 = .ok (.iaload, 1) := by decide +kernel
theorem dX7_goOverTale_133 : decode cX7_goOverTale 133 = .ok (.invokevirtual 162, 3) := by decide +kernel
theorem dX7_goOverTale_136 : decode cX7_goOverTale 136 = .ok (.ifCond .eq 5, 3) := by decide +kernel
theorem dX7_goOverTale_139 : decode cX7_goOverTale 139 = .ok (.iconst 0, 1) := by decide +kernel
theorem dX7_goOverTale_140 : decode cX7_goOverTale 140 = .ok (.ireturn, 1) := by decide +kernel
theorem dX7_goOverTale_141 : decode cX7_goOverTale 141 = .ok (.aload_n 0, 1) := by decide +kernel
theorem dX7_goOverTale_142 : decode cX7_goOverTale 142 = .ok (.getfield 58, 3) := by decide +kernel
theorem dX7_goOverTale_145 : decode cX7_goOverTale 145 = .ok (.iload_n 2, 1) := by decide +kernel
theorem dX7_goOverTale_146 : decode cX7_goOverTale 146 = .ok (.aload_n 0, 1) := by decide +kernel
theorem dX7_goOverTale_147 : decode cX7_goOverTale 147 = .ok (.getfield 43, 3) := by decide +kernel
theorem dX7_goOverTale_150 : decode cX7_goOverTale 150 = .ok (.aload_n 0, 1) := by decide +kernel
theorem dX7_goOverTale_151 : decode cX7_goOverTale 151 = .ok (.getfield 148, 3) := by decide +kernel
theorem dX7_goOverTale_154 : decode cX7_goOverTale 154 = .ok (.iaload, 1) := by decide +kernel
theorem dX7_goOverTale_155 : decode cX7_goOverTale 155 = .ok (.iastore, 1) := by decide +kernel
theorem dX7_goOverTale_156 : decode cX7_goOverTale 156 = .ok (.aload_n 0, 1) := by decide +kernel
theorem dX7_goOverTale_157 : decode cX7_goOverTale 157 = .ok (.aload_n 0, 1) := by decide +kernel
theorem dX7_goOverTale_158 : decode cX7_goOverTale 158 = .ok (.getfield 43, 3) := by decide +kernel
theorem dX7_goOverTale_161 : decode cX7_goOverTale 161 = .ok (.aload_n 0, 1) := by decide +kernel
theorem dX7_goOverTale_162 : decode cX7_goOverTale 162 = .ok (.getfield 148, 3) := by decide +kernel
theorem dX7_goOverTale_165 : decode cX7_goOverTale 165 = .ok (.iaload, 1) := by decide +kernel
theorem dX7_goOverTale_166 : decode cX7_goOverTale 166 = .ok (.iload 6, 2) := by decide +kernel
theorem dX7_goOverTale_168 : decode cX7_goOverTale 168 = .ok (.isub, 1) := by decide +kernel
theorem dX7_goOverTale_169 : decode cX7_goOverTale 169 = .ok (.aload_n 0, 1) := by decide +kernel
theorem dX7_goOverTale_170 : decode cX7_goOverTale 170 = .ok (.iload_n 3, 1) := by decide +kernel
theorem dX7_goOverTale_171 : decode cX7_goOverTale 171 = .ok (.invokevirtual 99, 3) := by decide +kernel
theorem dX7_goOverTale_174 : decode cX7_goOverTale 174 = .ok (.iload_n 1, 1) := by decide +kernel
theorem dX7_goOverTale_175 : decode cX7_goOverTale 175 = .ok (.invokevirtual 165, 3) := by decide +kernel
theorem dX7_goOverTale_178 : decode cX7_goOverTale 178 = .ok (.aload_n 0, 1) := by decide +kernel
theorem dX7_goOverTale_179 : decode cX7_goOverTale 179 = .ok (.dup, 1) := by decide +kernel
theorem dX7_goOverTale_180 : decode cX7_goOverTale 180 = .ok (.getfield 148, 3) := by decide +kernel
theorem dX7_goOverTale_183 : decode cX7_goOverTale 183 = .ok (.iconst 1, 1) := by decide +kernel
theorem dX7_goOverTale_184 : decode cX7_goOverTale 184 = .ok (.iadd, 1) := by decide +kernel
theorem dX7_goOverTale_185 : decode cX7_goOverTale 185 = .ok (.putfield 148, 3) := by decide +kernel
theorem dX7_goOverTale_188 : decode cX7_goOverTale 188 = .ok (.aload_n 0, 1) := by decide +kernel
theorem dX7_goOverTale_189 : decode cX7_goOverTale 189 = .ok (.getfield 7, 3) := by decide +kernel
theorem dX7_goOverTale_192 : decode cX7_goOverTale 192 = .ok (.iload_n 3, 1) := by decide +kernel
theorem dX7_goOverTale_193 : decode cX7_goOverTale 193 = .ok (.iaload, 1) := by decide +kernel
theorem dX7_goOverTale_194 : decode cX7_goOverTale 194 = .ok (.iconst 1, 1) := by decide +kernel
theorem dX7_goOverTale_195 : decode cX7_goOverTale 195 = .ok (.if_icmp .ne 27, 3) := by decide +kernel
theorem dX7_goOverTale_198 : decode cX7_goOverTale 198 = .ok (.iload 4, 2) := by decide +kernel
theorem dX7_goOverTale_200 : decode cX7_goOverTale 200 = .ok (.aload_n 0, 1) := by decide +kernel
theorem dX7_goOverTale_201 : decode cX7_goOverTale 201 = .ok (.getfield 58, 3) := by decide +kernel
theorem dX7_goOverTale_204 : decode cX7_goOverTale 204 = .ok (.iload_n 2, 1) := by decide +kernel
theorem dX7_goOverTale_205 : decode cX7_goOverTale 205 = .ok (.iaload, 1) := by decide +kernel
theorem dX7_goOverTale_206 : decode cX7_goOverTale 206 = .ok (.if_icmp .ge 16, 3) := by decide +kernel
theorem dX7_goOverTale_209 : decode cX7_goOverTale 209 = .ok (.aload_n 0, 1) := by decide +kernel
theorem dX7_goOverTale_210 : decode cX7_goOverTale 210 = .ok (.aload_n 0, 1) := by decide +kernel
theorem dX7_goOverTale_211 : decode cX7_goOverTale 211 = .ok (.iload_n 3, 1) := by decide +kernel
theorem dX7_goOverTale_212 : decode cX7_goOverTale 212 = .ok (.iconst 0, 1) := by decide +kernel
theorem dX7_goOverTale_213 : decode cX7_goOverTale 213 = .ok (.invokevirtual 95, 3) := by decide +kernel
theorem dX7_goOverTale_216 : decode cX7_goOverTale 216 = .ok (.invokevirtual 169, 3) := by decide +kernel
theorem dX7_goOverTale_219 : decode cX7_goOverTale 219 = .ok (.goto 46, 3) := by decide +kernel
theorem dX7_goOverTale_222 : decode cX7_goOverTale 222 = .ok (.aload_n 0, 1) := by decide +kernel
theorem dX7_goOverTale_223 : decode cX7_goOverTale 223 = .ok (.getfield 7, 3) := by decide +kernel
theorem dX7_goOverTale_226 : decode cX7_goOverTale 226 = .ok (.iload_n 3, 1) := by decide +kernel
theorem dX7_goOverTale_227 : decode cX7_goOverTale 227 = .ok (.iaload, 1) := by decide +kernel
theorem dX7_goOverTale_228 : decode cX7_goOverTale 228 = .ok (.iconst 3, 1) := by decide +kernel
theorem dX7_goOverTale_229 : decode cX7_goOverTale 229 = .ok (.if_icmp .ne 26, 3) := by decide +kernel
theorem dX7_goOverTale_232 : decode cX7_goOverTale 232 = .ok (.iload 4, 2) := by decide +kernel
theorem dX7_goOverTale_234 : decode cX7_goOverTale 234 = .ok (.ifCond .ne 21, 3) := by decide +kernel
theorem dX7_goOverTale_237 : decode cX7_goOverTale 237 = .ok (.aload_n 0, 1) := by decide +kernel
theorem dX7_goOverTale_238 : decode cX7_goOverTale 238 = .ok (.aload_n 0, 1) := by decide +kernel
theorem dX7_goOverTale_239 : decode cX7_goOverTale 239 = .ok (.iload_n 3, 1) := by decide +kernel
theorem dX7_goOverTale_240 : decode cX7_goOverTale 240 = .ok (.aload_n 0, 1) := by decide +kernel
theorem dX7_goOverTale_241 : decode cX7_goOverTale 241 = .ok (.getfield 58, 3) := by decide +kernel
theorem dX7_goOverTale_244 : decode cX7_goOverTale 244 = .ok (.iload_n 2, 1) := by decide +kernel
theorem dX7_goOverTale_245 : decode cX7_goOverTale 245 = .ok (.iaload, 1) := by decide +kernel
theorem dX7_goOverTale_246 : decode cX7_goOverTale 246 = .ok (.invokevirtual 95, 3) := by decide +kernel
theorem dX7_goOverTale_249 : decode cX7_goOverTale 249 = .ok (.invokevirtual 169, 3) := by decide +kernel
theorem dX7_goOverTale_252 : decode cX7_goOverTale 252 = .ok (.goto 13, 3) := by decide +kernel
theorem dX7_goOverTale_255 : decode cX7_goOverTale 255 = .ok (.aload_n 0, 1) := by decide +kernel
theorem dX7_goOverTale_256 : decode cX7_goOverTale 256 = .ok (.dup, 1) := by decide +kernel
theorem dX7_goOverTale_257 : decode cX7_goOverTale 257 = .ok (.getfield 142, 3) := by decide +kernel
theorem dX7_goOverTale_260 : decode cX7_goOverTale 260 = .ok (.iconst 1, 1) := by decide +kernel
theorem dX7_goOverTale_261 : decode cX7_goOverTale 261 = .ok (.isub, 1) := by decide +kernel
theorem dX7_goOverTale_262 : decode cX7_goOverTale 262 = .ok (.putfield 142, 3) := by decide +kernel
theorem dX7_goOverTale_265 : decode cX7_goOverTale 265 = .ok (.iconst 1, 1) := by decide +kernel
theorem dX7_goOverTale_266 : decode cX7_goOverTale 266 = .ok (.ireturn, 1) := by decide +kernel
set_option maxRecDepth 20000 in
theorem ggX7_headOfTale_X7_isOptional : GoodIn wsX7_headOfTale wsX7_isOptional := goodIn_r _ [11, 12, 28, 29, 30, 31, 32, 33, 34, 35, 36, 37, 38, 39, 40, 41, 42, 43, 44, 45, 46, 47, 48, 49, 50, 51, 52, 53, 54, 55, 56, 57] (by decide +kernel) (by decide +kernel)
set_option maxRecDepth 20000 in
theorem gX7_headOfTale_X7_isOptional : GoodIn wsX7_headOfTale (wsV RX7 88 RX7 yX7_isOptional wsX7_isOptional) := goodIn_app (goodIn_of _ (by decide +kernel)) ggX7_headOfTale_X7_isOptional
set_option maxRecDepth 20000 in
theorem ggX7_headOfTale_X7_isWrong : GoodIn wsX7_headOfTale wsX7_isWrong := goodIn_r _ [16, 4, 17, 3, 18, 19, 20, 10, 21, 28, 29, 30, 31, 32, 33, 34, 35, 36, 37, 38, 39, 40, 41, 42, 43, 44, 45, 46, 47, 48, 49, 50, 51, 52, 53, 54, 55, 56, 57] (by decide +kernel) (by decide +kernel)
set_option maxRecDepth 20000 in
theorem gX7_headOfTale_X7_isWrong : GoodIn wsX7_headOfTale (wsV RX7 162 RX7 yX7_isWrong wsX7_isWrong) := goodIn_app (goodIn_of _ (by decide +kernel)) ggX7_headOfTale_X7_isWrong
set_option maxRecDepth 20000 in
theorem ggX7_headOfTale_X7_emit : GoodIn wsX7_headOfTale wsX7_emit := goodIn_r _ [25, 26, 27, 28, 29, 30, 31, 32, 33, 34, 35, 36, 37, 38, 39, 40, 41, 42, 43, 44, 45, 46, 47, 48, 49, 50, 51, 52, 53, 54, 55, 56, 57] (by decide +kernel) (by decide +kernel)
set_option maxRecDepth 20000 in
theorem gX7_headOfTale_X7_emit : GoodIn wsX7_headOfTale (wsV RX7 165 RX7 yX7_emit wsX7_emit) := goodIn_app (goodIn_of _ (by decide +kernel)) ggX7_headOfTale_X7_emit
theorem dX7_headOfTale_0 : decode cX7_headOfTale 0 = .ok (.aload_n 0, 1) := by decide +kernel
theorem dX7_headOfTale_1 : decode cX7_headOfTale 1 = .ok (.getfield 58, 3) := by decide +kernel
theorem dX7_headOfTale_4 : decode cX7_headOfTale 4 = .ok (.iload_n 2, 1) := by decide +kernel
theorem dX7_headOfTale_5 : decode cX7_headOfTale 5 = .ok (.iconst 0, 1) := by decide +kernel
theorem dX7_headOfTale_6 : decode cX7_headOfTale 6 = .ok (.iastore, 1) := by decide +kernel
theorem dX7_headOfTale_7 : decode cX7_headOfTale 7 = .ok (.iconst 0, 1) := by decide +kernel
theorem dX7_headOfTale_8 : decode cX7_headOfTale 8 = .ok (.istore 4, 2) := by decide +kernel
theorem dX7_headOfTale_10 : decode cX7_headOfTale 10 = .ok (.iload 4, 2) := by decide +kernel
theorem dX7_headOfTale_12 : decode cX7_headOfTale 12 = .ok (.aload_n 0, 1) := by decide +kernel
theorem dX7_headOfTale_13 : decode cX7_headOfTale 13 = .ok (.getfield 22, 3) := by decide +kernel
theorem dX7_headOfTale_16 : decode cX7_headOfTale 16 = .ok (.iload_n 1, 1) := by decide +kernel
theorem dX7_headOfTale_17 : decode cX7_headOfTale 17 = .ok (.iaload, 1) := by decide +kernel
theorem dX7_headOfTale_18 : decode cX7_headOfTale 18 = .ok (.if_icmp .ge 88, 3) := by decide +kernel
theorem dX7_headOfTale_21 : decode cX7_headOfTale 21 = .ok (.aload_n 0, 1) := by decide +kernel
theorem dX7_headOfTale_22 : decode cX7_headOfTale 22 = .ok (.iload_n 1, 1) := by decide +kernel
theorem dX7_headOfTale_23 : decode cX7_headOfTale 23 = .ok (.iload 4, 2) := by decide +kernel
theorem dX7_headOfTale_25 : decode cX7_headOfTale 25 = .ok (.invokevirtual 88, 3) := by decide +kernel
theorem dX7_headOfTale_28 : decode cX7_headOfTale 28 = .ok (.istore 5, 2) := by decide +kernel
theorem dX7_headOfTale_30 : decode cX7_headOfTale 30 = .ok (.iload 5, 2) := by decide +kernel
theorem dX7_headOfTale_32 : decode cX7_headOfTale 32 = .ok (.ifCond .eq 14, 3) := by decide +kernel
theorem dX7_headOfTale_35 : decode cX7_headOfTale 35 = .ok (.aload_n 0, 1) := by decide +kernel
theorem dX7_headOfTale_36 : decode cX7_headOfTale 36 = .ok (.iconst 0, 1) := by decide +kernel
theorem dX7_headOfTale_37 : decode cX7_headOfTale 37 = .ok (.iconst 1, 1) := by decide +kernel
theorem dX7_headOfTale_38 : decode cX7_headOfTale 38 = .ok (.invokevirtual 162, 3) := by decide +kernel
theorem dX7_headOfTale_41 : decode cX7_headOfTale 41 = .ok (.ifCond .eq 5, 3) := by decide +kernel
theorem dX7_headOfTale_44 : decode cX7_headOfTale 44 = .ok (.iconst 0, 1) := by decide +kernel
theorem dX7_headOfTale_45 : decode cX7_headOfTale 45 = .ok (.ireturn, 1) := by decide +kernel
theorem dX7_headOfTale_46 : decode cX7_headOfTale 46 = .ok (.aload_n 0, 1) := by decide +kernel
theorem dX7_headOfTale_47 : decode cX7_headOfTale 47 = .ok (.getfield 58, 3) := by decide +kernel
theorem dX7_headOfTale_50 : decode cX7_headOfTale 50 = .ok (.iload_n 2, 1) := by decide +kernel
theorem dX7_headOfTale_51 : decode cX7_headOfTale 51 = .ok (.dup2, 1) := by decide +kernel
theorem dX7_headOfTale_52 : decode cX7_headOfTale 52 = .ok (.iaload, 1) := by decide +kernel
theorem dX7_headOfTale_53 : decode cX7_headOfTale 53 = .ok (.iload 5, 2) := by decide +kernel
theorem dX7_headOfTale_55 : decode cX7_headOfTale 55 = .ok (.ifCond .eq 16, 3) := by decide +kernel
theorem dX7_headOfTale_58 : decode cX7_headOfTale 58 = .ok (.aload_n 0, 1) := by decide +kernel
theorem dX7_headOfTale_59 : decode cX7_headOfTale 59 = .ok (.getfield 43, 3) := by decide +kernel
theorem dX7_headOfTale_62 : decode cX7_headOfTale 62 = .ok (.aload_n 0, 1) := by decide +kernel
theorem dX7_headOfTale_63 : decode cX7_headOfTale 63 = .ok (.getfield 148, 3) := by decide +kernel
theorem dX7_headOfTale_66 : decode cX7_headOfTale 66 = .ok (.iaload, 1) := by decide +kernel
theorem dX7_headOfTale_67 : decode cX7_headOfTale 67 = .ok (.iconst 1, 1) := by decide +kernel
theorem dX7_headOfTale_68 : decode cX7_headOfTale 68 = .ok (.if_icmp .ne 10, 3) := by decide +kernel
theorem dX7_headOfTale_71 : decode cX7_headOfTale 71 = .ok (.iconst 1, 1) := by decide +kernel
theorem dX7_headOfTale_72 : decode cX7_headOfTale 72 = .ok (.iload 4, 2) := by decide +kernel
theorem dX7_headOfTale_74 : decode cX7_headOfTale 74 = .ok (.ishl, 1) := by decide +kernel
theorem dX7_headOfTale_75 : decode cX7_headOfTale 75 = .ok (.goto 4, 3) := by decide +kernel
theorem dX7_headOfTale_78 : decode cX7_headOfTale 78 = .ok (.iconst 0, 1) := by decide +kernel
theorem dX7_headOfTale_79 : decode cX7_headOfTale 79 = .ok (.ior, 1) := by decide +kernel
theorem dX7_headOfTale_80 : decode cX7_headOfTale 80 = .ok (.iastore, 1) := by decide +kernel
theorem dX7_headOfTale_81 : decode cX7_headOfTale 81 = .ok (.aload_n 0, 1) := by decide +kernel
theorem dX7_headOfTale_82 : decode cX7_headOfTale 82 = .ok (.dup, 1) := by decide +kernel
theorem dX7_headOfTale_83 : decode cX7_headOfTale 83 = .ok (.getfield 148, 3) := by decide +kernel
theorem dX7_headOfTale_86 : decode cX7_headOfTale 86 = .ok (.iload 5, 2) := by decide +kernel
theorem dX7_headOfTale_88 : decode cX7_headOfTale 88 = .ok (.ifCond .eq 7, 3) := by decide +kernel
theorem dX7_headOfTale_91 : decode cX7_headOfTale 91 = .ok (.iconst 1, 1) := by decide +kernel
theorem dX7_headOfTale_92 : decode cX7_headOfTale 92 = .ok (.goto 4, 3) := by decide +kernel
theorem dX7_headOfTale_95 : decode cX7_headOfTale 95 = .ok (.iconst 0, 1) := by decide +kernel
theorem dX7_headOfTale_96 : decode cX7_headOfTale 96 = .ok (.iadd, 1) := by decide +kernel
theorem dX7_headOfTale_97 : decode cX7_headOfTale 97 = .ok (.putfield 148, 3) := by decide +kernel
theorem dX7_headOfTale_100 : decode cX7_headOfTale 100 = .ok (.iinc 4 1, 3) := by decide +kernel
theorem dX7_headOfTale_103 : decode cX7_headOfTale 103 = .ok (.goto (-93), 3) := by decide +kernel
theorem dX7_headOfTale_106 : decode cX7_headOfTale 106 = .ok (.aload_n 0, 1) := by decide +kernel
theorem dX7_headOfTale_107 : decode cX7_headOfTale 107 = .ok (.iconst 0, 1) := by decide +kernel
theorem dX7_headOfTale_108 : decode cX7_headOfTale 108 = .ok (.aload_n 0, 1) := by decide +kernel
theorem dX7_headOfTale_109 : decode cX7_headOfTale 109 = .ok (.getfield 28, 3) := by decide +kernel
theorem dX7_headOfTale_112 : decode cX7_headOfTale 112 = .ok (.iload_n 1, 1) := by decide +kernel
theorem dX7_headOfTale_113 : decode cX7_headOfTale 113 = .ok (.iaload, 1) := by decide +kernel
theorem dX7_headOfTale_114 : decode cX7_headOfTale 114 = .ok (.invokevirtual 162, 3) := by decide +kernel
theorem dX7_headOfTale_117 : decode cX7_headOfTale 117 = .ok (.ifCond .eq 5, 3) := by decide +kernel
theorem dX7_headOfTale_120 : decode cX7_headOfTale 120 = .ok (.iconst 0, 1) := by decide +kernel
theorem dX7_headOfTale_121 : decode cX7_headOfTale 121 = .ok (.ireturn, 1) := by decide +kernel
theorem dX7_headOfTale_122 : decode cX7_headOfTale 122 = .ok (.aload_n 0, 1) := by decide +kernel
theorem dX7_headOfTale_123 : decode cX7_headOfTale 123 = .ok (.getfield 61, 3) := by decide +kernel
theorem dX7_headOfTale_126 : decode cX7_headOfTale 126 = .ok (.iload_n 2, 1) := by decide +kernel
theorem dX7_headOfTale_127 : decode cX7_headOfTale 127 = .ok (.aload_n 0, 1) := by decide +kernel
theorem dX7_headOfTale_128 : decode cX7_headOfTale 128 = .ok (.getfield 43, 3) := by decide +kernel
theorem dX7_headOfTale_131 : decode cX7_headOfTale 131 = .ok (.aload_n 0, 1) := by decide +kernel
theorem dX7_headOfTale_132 : decode cX7_headOfTale 132 = .ok (.getfield 148, 3) := by decide +kernel
theorem dX7_headOfTale_135 : decode cX7_headOfTale 135 = .ok (.iaload, 1) := by decide +kernel
theorem dX7_headOfTale_136 : decode cX7_headOfTale 136 = .ok (.iastore, 1) := by decide +kernel
theorem dX7_headOfTale_137 : decode cX7_headOfTale 137 = .ok (.aload_n 0, 1) := by decide +kernel
theorem dX7_headOfTale_138 : decode cX7_headOfTale 138 = .ok (.dup, 1) := by decide +kernel
theorem dX7_headOfTale_139 : decode cX7_headOfTale 139 = .ok (.getfield 148, 3) := by decide +kernel
theorem dX7_headOfTale_142 : decode cX7_headOfTale 142 = .ok (.iconst 1, 1) := by decide +kernel
theorem dX7_headOfTale_143 : decode cX7_headOfTale 143 = .ok (.iadd, 1) := by decide +kernel
theorem dX7_headOfTale_144 : decode cX7_headOfTale 144 = .ok (.putfield 148, 3) := by decide +kernel
theorem dX7_headOfTale_147 : decode cX7_headOfTale 147 = .ok (.aload_n 0, 1) := by decide +kernel
theorem dX7_headOfTale_148 : decode cX7_headOfTale 148 = .ok (.aload_n 0, 1) := by decide +kernel
theorem dX7_headOfTale_149 : decode cX7_headOfTale 149 = .ok (.getfield 61, 3) := by decide +kernel
theorem dX7_headOfTale_152 : decode cX7_headOfTale 152 = .ok (.iload_n 2, 1) := by decide +kernel
theorem dX7_headOfTale_153 : decode cX7_headOfTale 153 = .ok (.iaload, 1) := by decide +kernel
theorem dX7_headOfTale_154 : decode cX7_headOfTale 154 = .ok (.ifCond .le 7, 3) := by decide +kernel
theorem dX7_headOfTale_157 : decode cX7_headOfTale 157 = .ok (.iconst 1, 1) := by decide +kernel
theorem dX7_headOfTale_158 : decode cX7_headOfTale 158 = .ok (.goto 4, 3) := by decide +kernel
theorem dX7_headOfTale_161 : decode cX7_headOfTale 161 = .ok (.iconst 0, 1) := by decide +kernel
theorem dX7_headOfTale_162 : decode cX7_headOfTale 162 = .ok (.iconst 1, 1) := by decide +kernel
theorem dX7_headOfTale_163 : decode cX7_headOfTale 163 = .ok (.iload_n 3, 1) := by decide +kernel
theorem dX7_headOfTale_164 : decode cX7_headOfTale 164 = .ok (.invokevirtual 165, 3) := by decide +kernel
theorem dX7_headOfTale_167 : decode cX7_headOfTale 167 = .ok (.iconst 0, 1) := by decide +kernel
theorem dX7_headOfTale_168 : decode cX7_headOfTale 168 = .ok (.istore 4, 2) := by decide +kernel
theorem dX7_headOfTale_170 : decode cX7_headOfTale 170 = .ok (.iload 4, 2) := by decide +kernel
theorem dX7_headOfTale_172 : decode cX7_headOfTale 172 = .ok (.aload_n 0, 1) := by decide +kernel
theorem dX7_headOfTale_173 : decode cX7_headOfTale 173 = .ok (.getfield 22, 3) := by decide +kernel
theorem dX7_headOfTale_176 : decode cX7_headOfTale 176 = .ok (.iload_n 1, 1) := by decide +kernel
theorem dX7_headOfTale_177 : decode cX7_headOfTale 177 = .ok (.iaload, 1) := by decide +kernel
theorem dX7_headOfTale_178 : decode cX7_headOfTale 178 = .ok (.if_icmp .ge 40, 3) := by decide +kernel
theorem dX7_headOfTale_181 : decode cX7_headOfTale 181 = .ok (.aload_n 0, 1) := by decide +kernel
theorem dX7_headOfTale_182 : decode cX7_headOfTale 182 = .ok (.aload_n 0, 1) := by decide +kernel
theorem dX7_headOfTale_183 : decode cX7_headOfTale 183 = .ok (.getfield 58, 3) := by decide +kernel
theorem dX7_headOfTale_186 : decode cX7_headOfTale 186 = .ok (.iload_n 2, 1) := by decide +kernel
theorem dX7_headOfTale_187 : decode cX7_headOfTale 187 = .ok (.iaload, 1) := by decide +kernel
theorem dX7_headOfTale_188 : decode cX7_headOfTale 188 = .ok (.iload 4, 2) := by decide +kernel
theorem dX7_headOfTale_190 : decode cX7_headOfTale 190 = .ok (.ishr, 1) := by decide +kernel
theorem dX7_headOfTale_191 : decode cX7_headOfTale 191 = .ok (.iconst 1, 1) := by decide +kernel
theorem dX7_headOfTale_192 : decode cX7_headOfTale 192 = .ok (.iand, 1) := by decide +kernel
theorem dX7_headOfTale_193 : decode cX7_headOfTale 193 = .ok (.aload_n 0, 1) := by decide +kernel
theorem dX7_headOfTale_194 : decode cX7_headOfTale 194 = .ok (.iload_n 1, 1) := by decide +kernel
theorem dX7_headOfTale_195 : decode cX7_headOfTale 195 = .ok (.iload 4, 2) := by decide +kernel
theorem dX7_headOfTale_197 : decode cX7_headOfTale 197 = .ok (.invokevirtual 88, 3) := by decide +kernel
theorem dX7_headOfTale_200 : decode cX7_headOfTale 200 = .ok (.ifCond .eq 7, 3) := by decide +kernel
theorem dX7_headOfTale_203 : decode cX7_headOfTale 203 = .ok (.iconst 1, 1) := by decide +kernel
theorem dX7_headOfTale_204 : decode cX7_headOfTale 204 = .ok (.goto 4, 3) := by decide +kernel
theorem dX7_headOfTale_207 : decode cX7_headOfTale 207 = .ok (.iconst 0, 1) := by decide +kernel
theorem dX7_headOfTale_208 : decode cX7_headOfTale 208 = .ok (.iload_n 3, 1) := by decide +kernel
theorem dX7_headOfTale_209 : decode cX7_headOfTale 209 = .ok (.invokevirtual 165, 3) := by decide +kernel
theorem dX7_headOfTale_212 : decode cX7_headOfTale 212 = .ok (.iinc 4 1, 3) := by decide +kernel
theorem dX7_headOfTale_215 : decode cX7_headOfTale 215 = .ok (.goto (-45), 3) := by decide +kernel
theorem dX7_headOfTale_218 : decode cX7_headOfTale 218 = .ok (.iconst 1, 1) := by decide +kernel
theorem dX7_headOfTale_219 : decode cX7_headOfTale 219 = .ok (.ireturn, 1) := by decide +kernel
set_option maxRecDepth 20000 in
theorem ggX7_sequenceOfTale_X7_partOf : GoodIn wsX7_sequenceOfTale wsX7_partOf := goodIn_r _ [13, 14, 25, 26, 27, 28, 29, 30, 31, 32, 33, 34, 35, 36, 37, 38, 39, 40, 41, 42, 43, 44, 45, 46, 47, 48, 49, 50, 51, 52, 53, 54] (by decide +kernel) (by decide +kernel)
set_option maxRecDepth 20000 in
theorem gX7_sequenceOfTale_X7_partOf : GoodIn wsX7_sequenceOfTale (wsV RX7 95 RX7 yX7_partOf wsX7_partOf) := goodIn_app (goodIn_of _ (by decide +kernel)) ggX7_sequenceOfTale_X7_partOf
set_option maxRecDepth 20000 in
theorem ggX7_sequenceOfTale_X7_push : GoodIn wsX7_sequenceOfTale wsX7_push := goodIn_r _ [18, 19, 7, 20, 1, 25, 26, 27, 28, 29, 30, 31, 32, 33, 34, 35, 36, 37, 38, 39, 40, 41, 42, 43, 44, 45, 46, 47, 48, 49, 50, 51, 52, 53, 54] (by decide +kernel) (by decide +kernel)
set_option maxRecDepth 20000 in
theorem gX7_sequenceOfTale_X7_push : GoodIn wsX7_sequenceOfTale (wsV RX7 169 RX7 yX7_push wsX7_push) := goodIn_app (goodIn_of _ (by decide +kernel)) ggX7_sequenceOfTale_X7_push
set_option maxRecDepth 20000 in
theorem ggX7_sequenceOfTale_X7_emit : GoodIn wsX7_sequenceOfTale wsX7_emit := goodIn_r _ [24, 2, 3, 25, 26, 27, 28, 29, 30, 31, 32, 33, 34, 35, 36, 37, 38, 39, 40, 41, 42, 43, 44, 45, 46, 47, 48, 49, 50, 51, 52, 53, 54] (by decide +kernel) (by decide +kernel)
set_option maxRecDepth 20000 in
theorem gX7_sequenceOfTale_X7_emit : GoodIn wsX7_sequenceOfTale (wsV RX7 165 RX7 yX7_emit wsX7_emit) := goodIn_app (goodIn_of _ (by decide +kernel)) ggX7_sequenceOfTale_X7_emit
theorem dX7_sequenceOfTale_0 : decode cX7_sequenceOfTale 0 = .ok (.iconst 0, 1) := by decide +kernel
theorem dX7_sequenceOfTale_1 : decode cX7_sequenceOfTale 1 = .ok (.istore 5, 2) := by decide +kernel
theorem dX7_sequenceOfTale_3 : decode cX7_sequenceOfTale 3 = .ok (.iload 5, 2) := by decide +kernel
theorem dX7_sequenceOfTale_5 : decode cX7_sequenceOfTale 5 = .ok (.bipush 8, 2) := by decide +kernel
theorem dX7_sequenceOfTale_7 : decode cX7_sequenceOfTale 7 = .ok (.if_icmp .ge 54, 3) := by decide +kernel
theorem dX7_sequenceOfTale_10 : decode cX7_sequenceOfTale 10 = .ok (.aload_n 0, 1) := by decide +kernel
theorem dX7_sequenceOfTale_11 : decode cX7_sequenceOfTale 11 = .ok (.getfield 64, 3) := by decide +kernel
theorem dX7_sequenceOfTale_14 : decode cX7_sequenceOfTale 14 = .ok (.iload_n 2, 1) := by decide +kernel
theorem dX7_sequenceOfTale_15 : decode cX7_sequenceOfTale 15 = .ok (.iaload, 1) := by decide +kernel
theorem dX7_sequenceOfTale_16 : decode cX7_sequenceOfTale 16 = .ok (.ifCond .lt 45, 3) := by decide +kernel
theorem dX7_sequenceOfTale_19 : decode cX7_sequenceOfTale 19 = .ok (.aload_n 0, 1) := by decide +kernel
theorem dX7_sequenceOfTale_20 : decode cX7_sequenceOfTale 20 = .ok (.getfield 46, 3) := by decide +kernel
theorem dX7_sequenceOfTale_23 : decode cX7_sequenceOfTale 23 = .ok (.aload_n 0, 1) := by decide +kernel
theorem dX7_sequenceOfTale_24 : decode cX7_sequenceOfTale 24 = .ok (.getfield 64, 3) := by decide +kernel
theorem dX7_sequenceOfTale_27 : decode cX7_sequenceOfTale 27 = .ok (.iload_n 2, 1) := by decide +kernel
theorem dX7_sequenceOfTale_28 : decode cX7_sequenceOfTale 28 = .ok (.iaload, 1) := by decide +kernel
theorem dX7_sequenceOfTale_29 : decode cX7_sequenceOfTale 29 = .ok (.iload 5, 2) := by decide +kernel
theorem dX7_sequenceOfTale_31 : decode cX7_sequenceOfTale 31 = .ok (.iadd, 1) := by decide +kernel
theorem dX7_sequenceOfTale_32 : decode cX7_sequenceOfTale 32 = .ok (.aload_n 0, 1) := by decide +kernel
theorem dX7_sequenceOfTale_33 : decode cX7_sequenceOfTale 33 = .ok (.getfield 145, 3) := by decide +kernel
theorem dX7_sequenceOfTale_36 : decode cX7_sequenceOfTale 36 = .ok (.aload_n 0, 1) := by decide +kernel
theorem dX7_sequenceOfTale_37 : decode cX7_sequenceOfTale 37 = .ok (.getfield 64, 3) := by decide +kernel
theorem dX7_sequenceOfTale_40 : decode cX7_sequenceOfTale 40 = .ok (.iload_n 2, 1) := by decide +kernel
theorem dX7_sequenceOfTale_41 : decode cX7_sequenceOfTale 41 = .ok (.iaload, 1) := by decide +kernel
theorem dX7_sequenceOfTale_42 : decode cX7_sequenceOfTale 42 = .ok (.isub, 1) := by decide +kernel
theorem dX7_sequenceOfTale_43 : decode cX7_sequenceOfTale 43 = .ok (.bipush 8, 2) := by decide +kernel
theorem dX7_sequenceOfTale_45 : decode cX7_sequenceOfTale 45 = .ok (.isub, 1) := by decide +kernel
theorem dX7_sequenceOfTale_46 : decode cX7_sequenceOfTale 46 = .ok (.bipush 7, 2) := by decide +kernel
theorem dX7_sequenceOfTale_48 : decode cX7_sequenceOfTale 48 = .ok (.iload 5, 2) := by decide +kernel
theorem dX7_sequenceOfTale_50 : decode cX7_sequenceOfTale 50 = .ok (.isub, 1) := by decide +kernel
theorem dX7_sequenceOfTale_51 : decode cX7_sequenceOfTale 51 = .ok (.ishr, 1) := by decide +kernel
theorem dX7_sequenceOfTale_52 : decode cX7_sequenceOfTale 52 = .ok (.iconst 1, 1) := by decide +kernel
theorem dX7_sequenceOfTale_53 : decode cX7_sequenceOfTale 53 = .ok (.iand, 1) := by decide +kernel
theorem dX7_sequenceOfTale_54 : decode cX7_sequenceOfTale 54 = .ok (.iastore, 1) := by decide +kernel
theorem dX7_sequenceOfTale_55 : decode cX7_sequenceOfTale 55 = .ok (.iinc 5 1, 3) := by decide +kernel
theorem dX7_sequenceOfTale_58 : decode cX7_sequenceOfTale 58 = .ok (.goto (-55), 3) := by decide +kernel
theorem dX7_sequenceOfTale_61 : decode cX7_sequenceOfTale 61 = .ok (.aload_n 0, 1) := by decide +kernel
theorem dX7_sequenceOfTale_62 : decode cX7_sequenceOfTale 62 = .ok (.getfield 64, 3) := by decide +kernel
theorem dX7_sequenceOfTale_65 : decode cX7_sequenceOfTale 65 = .ok (.iload_n 2, 1) := by decide +kernel
theorem dX7_sequenceOfTale_66 : decode cX7_sequenceOfTale 66 = .ok (.iconst (-1), 1) := by decide +kernel
theorem dX7_sequenceOfTale_67 : decode cX7_sequenceOfTale 67 = .ok (.iastore, 1) := by decide +kernel
theorem dX7_sequenceOfTale_68 : decode cX7_sequenceOfTale 68 = .ok (.iload_n 3, 1) := by decide +kernel
theorem dX7_sequenceOfTale_69 : decode cX7_sequenceOfTale 69 = .ok (.aload_n 0, 1) := by decide +kernel
theorem dX7_sequenceOfTale_70 : decode cX7_sequenceOfTale 70 = .ok (.getfield 22, 3) := by decide +kernel
theorem dX7_sequenceOfTale_73 : decode cX7_sequenceOfTale 73 = .ok (.iload_n 1, 1) := by decide +kernel
theorem dX7_sequenceOfTale_74 : decode cX7_sequenceOfTale 74 = .ok (.iaload, 1) := by decide +kernel
theorem dX7_sequenceOfTale_75 : decode cX7_sequenceOfTale 75 = .ok (.if_icmp .ge 29, 3) := by decide +kernel
theorem dX7_sequenceOfTale_78 : decode cX7_sequenceOfTale 78 = .ok (.aload_n 0, 1) := by decide +kernel
theorem dX7_sequenceOfTale_79 : decode cX7_sequenceOfTale 79 = .ok (.getfield 58, 3) := by decide +kernel
theorem dX7_sequenceOfTale_82 : decode cX7_sequenceOfTale 82 = .ok (.iload_n 2, 1) := by decide +kernel
theorem dX7_sequenceOfTale_83 : decode cX7_sequenceOfTale 83 = .ok (.iaload, 1) := by decide +kernel
theorem dX7_sequenceOfTale_84 : decode cX7_sequenceOfTale 84 = .ok (.iload_n 3, 1) := by decide +kernel
theorem dX7_sequenceOfTale_85 : decode cX7_sequenceOfTale 85 = .ok (.ishr, 1) := by decide +kernel
theorem dX7_sequenceOfTale_86 : decode cX7_sequenceOfTale 86 = .ok (.iconst 1, 1) := by decide +kernel
theorem dX7_sequenceOfTale_87 : decode cX7_sequenceOfTale 87 = .ok (.iand, 1) := by decide +kernel
theorem dX7_sequenceOfTale_88 : decode cX7_sequenceOfTale 88 = .ok (.iconst 1, 1) := by decide +kernel
theorem dX7_sequenceOfTale_89 : decode cX7_sequenceOfTale 89 = .ok (.if_icmp .ne 13, 3) := by decide +kernel
theorem dX7_sequenceOfTale_92 : decode cX7_sequenceOfTale 92 = .ok (.aload_n 0, 1) := by decide +kernel
theorem dX7_sequenceOfTale_93 : decode cX7_sequenceOfTale 93 = .ok (.aload_n 0, 1) := by decide +kernel
theorem dX7_sequenceOfTale_94 : decode cX7_sequenceOfTale 94 = .ok (.iload_n 1, 1) := by decide +kernel
theorem dX7_sequenceOfTale_95 : decode cX7_sequenceOfTale 95 = .ok (.iload_n 3, 1) := by decide +kernel
theorem dX7_sequenceOfTale_96 : decode cX7_sequenceOfTale 96 = .ok (.invokevirtual 95, 3) := by decide +kernel
theorem dX7_sequenceOfTale_99 : decode cX7_sequenceOfTale 99 = .ok (.invokevirtual 169, 3) := by decide +kernel
theorem dX7_sequenceOfTale_102 : decode cX7_sequenceOfTale 102 = .ok (.iconst 1, 1) := by decide +kernel
theorem dX7_sequenceOfTale_103 : decode cX7_sequenceOfTale 103 = .ok (.ireturn, 1) := by decide +kernel
theorem dX7_sequenceOfTale_104 : decode cX7_sequenceOfTale 104 = .ok (.iload_n 3, 1) := by decide +kernel
theorem dX7_sequenceOfTale_105 : decode cX7_sequenceOfTale 105 = .ok (.aload_n 0, 1) := by decide +kernel
theorem dX7_sequenceOfTale_106 : decode cX7_sequenceOfTale 106 = .ok (.getfield 22, 3) := by decide +kernel
theorem dX7_sequenceOfTale_109 : decode cX7_sequenceOfTale 109 = .ok (.iload_n 1, 1) := by decide +kernel
theorem dX7_sequenceOfTale_110 : decode cX7_sequenceOfTale 110 = .ok (.iaload, 1) := by decide +kernel
theorem dX7_sequenceOfTale_111 : decode cX7_sequenceOfTale 111 = .ok (.isub, 1) := by decide +kernel
theorem dX7_sequenceOfTale_112 : decode cX7_sequenceOfTale 112 = .ok (.istore 5, 2) := by decide +kernel
theorem dX7_sequenceOfTale_114 : decode cX7_sequenceOfTale 114 = .ok (.iload 5, 2) := by decide +kernel
theorem dX7_sequenceOfTale_116 : decode cX7_sequenceOfTale 116 = .ok (.aload_n 0, 1) := by decide +kernel
theorem dX7_sequenceOfTale_117 : decode cX7_sequenceOfTale 117 = .ok (.getfield 61, 3) := by decide +kernel
theorem dX7_sequenceOfTale_120 : decode cX7_sequenceOfTale 120 = .ok (.iload_n 2, 1) := by decide +kernel
theorem dX7_sequenceOfTale_121 : decode cX7_sequenceOfTale 121 = .ok (.iaload, 1) := by decide +kernel
theorem dX7_sequenceOfTale_122 : decode cX7_sequenceOfTale 122 = .ok (.if_icmp .lt 15, 3) := by decide +kernel
theorem dX7_sequenceOfTale_125 : decode cX7_sequenceOfTale 125 = .ok (.aload_n 0, 1) := by decide +kernel
theorem dX7_sequenceOfTale_126 : decode cX7_sequenceOfTale 126 = .ok (.dup, 1) := by decide +kernel
theorem dX7_sequenceOfTale_127 : decode cX7_sequenceOfTale 127 = .ok (.getfield 142, 3) := by decide +kernel
theorem dX7_sequenceOfTale_130 : decode cX7_sequenceOfTale 130 = .ok (.iconst 1, 1) := by decide +kernel
theorem dX7_sequenceOfTale_131 : decode cX7_sequenceOfTale 131 = .ok (.isub, 1) := by decide +kernel
theorem dX7_sequenceOfTale_132 : decode cX7_sequenceOfTale 132 = .ok (.putfield 142, 3) := by decide +kernel
theorem dX7_sequenceOfTale_135 : decode cX7_sequenceOfTale 135 = .ok (.iconst 1, 1) := by decide +kernel
theorem dX7_sequenceOfTale_136 : decode cX7_sequenceOfTale 136 = .ok (.ireturn, 1) := by decide +kernel
theorem dX7_sequenceOfTale_137 : decode cX7_sequenceOfTale 137 = .ok (.aload_n 0, 1) := by decide +kernel
theorem dX7_sequenceOfTale_138 : decode cX7_sequenceOfTale 138 = .ok (.aload_n 0, 1) := by decide +kernel
theorem dX7_sequenceOfTale_139 : decode cX7_sequenceOfTale 139 = .ok (.getfield 61, 3) := by decide +kernel
theorem dX7_sequenceOfTale_142 : decode cX7_sequenceOfTale 142 = .ok (.iload_n 2, 1) := by decide +kernel
theorem dX7_sequenceOfTale_143 : decode cX7_sequenceOfTale 143 = .ok (.iaload, 1) := by decide +kernel
theorem dX7_sequenceOfTale_144 : decode cX7_sequenceOfTale 144 = .ok (.iconst 1, 1) := by decide +kernel
theorem dX7_sequenceOfTale_145 : decode cX7_sequenceOfTale 145 = .ok (.isub, 1) := by decide +kernel
theorem dX7_sequenceOfTale_146 : decode cX7_sequenceOfTale 146 = .ok (.iload 5, 2) := by decide +kernel
theorem dX7_sequenceOfTale_148 : decode cX7_sequenceOfTale 148 = .ok (.ifCond .ne 7, 3) := by decide +kernel
theorem dX7_sequenceOfTale_151 : decode cX7_sequenceOfTale 151 = .ok (.iconst 2, 1) := by decide +kernel
theorem dX7_sequenceOfTale_152 : decode cX7_sequenceOfTale 152 = .ok (.goto 4, 3) := by decide +kernel
theorem dX7_sequenceOfTale_155 : decode cX7_sequenceOfTale 155 = .ok (.iconst 0, 1) := by decide +kernel
theorem dX7_sequenceOfTale_156 : decode cX7_sequenceOfTale 156 = .ok (.iload 4, 2) := by decide +kernel
theorem dX7_sequenceOfTale_158 : decode cX7_sequenceOfTale 158 = .ok (.invokevirtual 165, 3) := by decide +kernel
theorem dX7_sequenceOfTale_161 : decode cX7_sequenceOfTale 161 = .ok (.aload_n 0, 1) := by decide +kernel
theorem dX7_sequenceOfTale_162 : decode cX7_sequenceOfTale 162 = .ok (.getfield 64, 3) := by decide +kernel
theorem dX7_sequenceOfTale_165 : decode cX7_sequenceOfTale 165 = .ok (.iload_n 2, 1) := by decide +kernel
theorem dX7_sequenceOfTale_166 : decode cX7_sequenceOfTale 166 = .ok (.iload 4, 2) := by decide +kernel
theorem dX7_sequenceOfTale_168 : decode cX7_sequenceOfTale 168 = .ok (.ifCond .eq 10, 3) := by decide +kernel
theorem dX7_sequenceOfTale_171 : decode cX7_sequenceOfTale 171 = .ok (.aload_n 0, 1) := by decide +kernel
theorem dX7_sequenceOfTale_172 : decode cX7_sequenceOfTale 172 = .ok (.getfield 145, 3) := by decide +kernel
theorem dX7_sequenceOfTale_175 : decode cX7_sequenceOfTale 175 = .ok (.goto 4, 3) := by decide +kernel
theorem dX7_sequenceOfTale_178 : decode cX7_sequenceOfTale 178 = .ok (.iconst (-1), 1) := by decide +kernel
theorem dX7_sequenceOfTale_179 : decode cX7_sequenceOfTale 179 = .ok (.iastore, 1) := by decide +kernel
theorem dX7_sequenceOfTale_180 : decode cX7_sequenceOfTale 180 = .ok (.aload_n 0, 1) := by decide +kernel
theorem dX7_sequenceOfTale_181 : decode cX7_sequenceOfTale 181 = .ok (.iconst 0, 1) := by decide +kernel
theorem dX7_sequenceOfTale_182 : decode cX7_sequenceOfTale 182 = .ok (.bipush 8, 2) := by decide +kernel
theorem dX7_sequenceOfTale_184 : decode cX7_sequenceOfTale 184 = .ok (.iload 4, 2) := by decide +kernel
theorem dX7_sequenceOfTale_186 : decode cX7_sequenceOfTale 186 = .ok (.invokevirtual 165, 3) := by decide +kernel
theorem dX7_sequenceOfTale_189 : decode cX7_sequenceOfTale 189 = .ok (.aload_n 0, 1) := by decide +kernel
theorem dX7_sequenceOfTale_190 : decode cX7_sequenceOfTale 190 = .ok (.aload_n 0, 1) := by decide +kernel
theorem dX7_sequenceOfTale_191 : decode cX7_sequenceOfTale 191 = .ok (.getfield 25, 3) := by decide +kernel
theorem dX7_sequenceOfTale_194 : decode cX7_sequenceOfTale 194 = .ok (.iconst 3, 1) := by decide +kernel
theorem dX7_sequenceOfTale_195 : decode cX7_sequenceOfTale 195 = .ok (.iload_n 1, 1) := by decide +kernel
theorem dX7_sequenceOfTale_196 : decode cX7_sequenceOfTale 196 = .ok (.imul, 1) := by decide +kernel
theorem dX7_sequenceOfTale_197 : decode cX7_sequenceOfTale 197 = .ok (.iload 5, 2) := by decide +kernel
theorem dX7_sequenceOfTale_199 : decode cX7_sequenceOfTale 199 = .ok (.iadd, 1) := by decide +kernel
theorem dX7_sequenceOfTale_200 : decode cX7_sequenceOfTale 200 = .ok (.iaload, 1) := by decide +kernel
theorem dX7_sequenceOfTale_201 : decode cX7_sequenceOfTale 201 = .ok (.invokevirtual 169, 3) := by decide +kernel
theorem dX7_sequenceOfTale_204 : decode cX7_sequenceOfTale 204 = .ok (.iconst 1, 1) := by decide +kernel
theorem dX7_sequenceOfTale_205 : decode cX7_sequenceOfTale 205 = .ok (.ireturn, 1) := by decide +kernel
set_option maxRecDepth 20000 in
theorem ggX7_walk_X7_push : GoodIn wsX7_walk wsX7_push := goodIn_r _ [9, 10, 1, 11, 12, 63, 64, 65, 66, 67, 68, 69, 70, 71, 72, 73, 74, 75, 76, 77, 78, 79, 80, 81, 82, 83, 84, 85, 86, 87, 88, 89, 90, 91, 92] (by decide +kernel) (by decide +kernel)
set_option maxRecDepth 20000 in
theorem gX7_walk_X7_push : GoodIn wsX7_walk (wsV RX7 169 RX7 yX7_push wsX7_push) := goodIn_app (goodIn_of _ (by decide +kernel)) ggX7_walk_X7_push
set_option maxRecDepth 20000 in
theorem ggX7_walk_X7_goOverTale : GoodIn wsX7_walk wsX7_goOverTale := goodIn_r _ [16, 1, 10, 11, 17, 18, 19, 20, 21, 22, 2, 23, 24, 25, 8, 26, 27, 28, 29, 30, 31, 32, 33, 34, 35, 36, 37, 4, 3, 38, 39, 40, 41, 42, 43, 44, 45, 46, 47, 48, 49, 50, 12, 51, 52, 53, 54, 55, 5, 6, 7, 9, 56, 57, 58, 59, 60, 61, 62, 63, 64, 65, 66, 67, 68, 69, 70, 71, 72, 73, 74, 75, 76, 77, 78, 79, 80, 81, 82, 83, 84, 85, 86, 87, 88, 89, 90, 91, 92] (by decide +kernel) (by decide +kernel)
set_option maxRecDepth 20000 in
theorem gX7_walk_X7_goOverTale : GoodIn wsX7_walk (wsV RX7 172 RX7 yX7_goOverTale wsX7_goOverTale) := goodIn_app (goodIn_of _ (by decide +kernel)) ggX7_walk_X7_goOverTale
theorem dX7_walk_0 : decode cX7_walk 0 = .ok (.aload_n 0, 1) := by decide +kernel
theorem dX7_walk_1 : decode cX7_walk 1 = .ok (.iconst 0, 1) := by decide +kernel
theorem dX7_walk_2 : decode cX7_walk 2 = .ok (.putfield 142, 3) := by decide +kernel
theorem dX7_walk_5 : decode cX7_walk 5 = .ok (.aload_n 0, 1) := by decide +kernel
theorem dX7_walk_6 : decode cX7_walk 6 = .ok (.iconst 0, 1) := by decide +kernel
theorem dX7_walk_7 : decode cX7_walk 7 = .ok (.putfield 148, 3) := by decide +kernel
theorem dX7_walk_10 : decode cX7_walk 10 = .ok (.aload_n 0, 1) := by decide +kernel
theorem dX7_walk_11 : decode cX7_walk 11 = .ok (.iconst (-1), 1) := by decide +kernel
theorem dX7_walk_12 : decode cX7_walk 12 = .ok (.putfield 151, 3) := by decide +kernel
theorem dX7_walk_15 : decode cX7_walk 15 = .ok (.aload_n 0, 1) := by decide +kernel
theorem dX7_walk_16 : decode cX7_walk 16 = .ok (.iload_n 1, 1) := by decide +kernel
theorem dX7_walk_17 : decode cX7_walk 17 = .ok (.invokevirtual 169, 3) := by decide +kernel
theorem dX7_walk_20 : decode cX7_walk 20 = .ok (.iconst 1, 1) := by decide +kernel
theorem dX7_walk_21 : decode cX7_walk 21 = .ok (.istore_n 3, 1) := by decide +kernel
theorem dX7_walk_22 : decode cX7_walk 22 = .ok (.aload_n 0, 1) := by decide +kernel
theorem dX7_walk_23 : decode cX7_walk 23 = .ok (.getfield 142, 3) := by decide +kernel
theorem dX7_walk_26 : decode cX7_walk 26 = .ok (.ifCond .le 16, 3) := by decide +kernel
theorem dX7_walk_29 : decode cX7_walk 29 = .ok (.iload_n 3, 1) := by decide +kernel
theorem dX7_walk_30 : decode cX7_walk 30 = .ok (.ifCond .eq 12, 3) := by decide +kernel
theorem dX7_walk_33 : decode cX7_walk 33 = .ok (.aload_n 0, 1) := by decide +kernel
theorem dX7_walk_34 : decode cX7_walk 34 = .ok (.iload_n 2, 1) := by decide +kernel
theorem dX7_walk_35 : decode cX7_walk 35 = .ok (.invokevirtual 172, 3) := by decide +kernel
theorem dX7_walk_38 : decode cX7_walk 38 = .ok (.istore_n 3, 1) := by decide +kernel
theorem dX7_walk_39 : decode cX7_walk 39 = .ok (.goto (-17), 3) := by decide +kernel
theorem dX7_walk_42 : decode cX7_walk 42 = .ok (.iload_n 3, 1) := by decide +kernel
theorem dX7_walk_43 : decode cX7_walk 43 = .ok (.ifCond .ne 10, 3) := by decide +kernel
theorem dX7_walk_46 : decode cX7_walk 46 = .ok (.aload_n 0, 1) := by decide +kernel
theorem dX7_walk_47 : decode cX7_walk 47 = .ok (.getfield 151, 3) := by decide +kernel
theorem dX7_walk_50 : decode cX7_walk 50 = .ok (.goto 22, 3) := by decide +kernel
theorem dX7_walk_53 : decode cX7_walk 53 = .ok (.aload_n 0, 1) := by decide +kernel
theorem dX7_walk_54 : decode cX7_walk 54 = .ok (.getfield 148, 3) := by decide +kernel
theorem dX7_walk_57 : decode cX7_walk 57 = .ok (.aload_n 0, 1) := by decide +kernel
theorem dX7_walk_58 : decode cX7_walk 58 = .ok (.getfield 139, 3) := by decide +kernel
theorem dX7_walk_61 : decode cX7_walk 61 = .ok (.if_icmp .ge 10, 3) := by decide +kernel
theorem dX7_walk_64 : decode cX7_walk 64 = .ok (.aload_n 0, 1) := by decide +kernel
theorem dX7_walk_65 : decode cX7_walk 65 = .ok (.getfield 148, 3) := by decide +kernel
theorem dX7_walk_68 : decode cX7_walk 68 = .ok (.goto 4, 3) := by decide +kernel
theorem dX7_walk_71 : decode cX7_walk 71 = .ok (.iconst (-1), 1) := by decide +kernel
theorem dX7_walk_72 : decode cX7_walk 72 = .ok (.ireturn, 1) := by decide +kernel
set_option maxRecDepth 20000 in
theorem ggX7_wrongAt_X7_noType : GoodIn wsX7_wrongAt wsX7_noType := goodIn_r _ [5, 6, 7, 8, 4, 9, 10, 11, 12, 13, 14, 15, 16, 17, 18, 81, 82, 83, 84, 85, 86, 87, 88, 89, 90, 91, 92, 93, 94, 95, 96, 97, 98, 99, 100, 101, 102, 103, 104, 105, 106, 107, 108, 109, 110] (by decide +kernel) (by decide +kernel)
set_option maxRecDepth 20000 in
theorem gX7_wrongAt_X7_noType : GoodIn wsX7_wrongAt (wsV RX7 136 RX7 yX7_noType wsX7_noType) := goodIn_app (goodIn_of _ (by decide +kernel)) ggX7_wrongAt_X7_noType
set_option maxRecDepth 20000 in
theorem ggX7_wrongAt_X7_walk : GoodIn wsX7_wrongAt wsX7_walk := goodIn_r _ [22, 23, 24, 25, 26, 27, 28, 29, 4, 30, 31, 32, 33, 34, 35, 36, 37, 38, 39, 40, 41, 42, 43, 44, 45, 46, 47, 48, 49, 50, 51, 52, 53, 54, 55, 56, 57, 58, 11, 12, 13, 59, 60, 61, 62, 63, 64, 65, 66, 67, 68, 69, 70, 71, 72, 73, 74, 75, 76, 77, 78, 79, 80, 81, 82, 83, 84, 85, 86, 87, 88, 89, 90, 91, 92, 93, 94, 95, 96, 97, 98, 99, 100, 101, 102, 103, 104, 105, 106, 107, 108, 109, 110] (by decide +kernel) (by decide +kernel)
set_option maxRecDepth 20000 in
theorem gX7_wrongAt_X7_walk : GoodIn wsX7_wrongAt (wsV RX7 176 RX7 yX7_walk wsX7_walk) := goodIn_app (goodIn_of _ (by decide +kernel)) ggX7_wrongAt_X7_walk
theorem dX7_wrongAt_0 : decode cX7_wrongAt 0 = .ok (.aload_n 0, 1) := by decide +kernel
theorem dX7_wrongAt_1 : decode cX7_wrongAt 1 = .ok (.iload_n 1, 1) := by decide +kernel
theorem dX7_wrongAt_2 : decode cX7_wrongAt 2 = .ok (.invokevirtual 136, 3) := by decide +kernel
theorem dX7_wrongAt_5 : decode cX7_wrongAt 5 = .ok (.ifCond .eq 7, 3) := by decide +kernel
theorem dX7_wrongAt_8 : decode cX7_wrongAt 8 = .ok (.iconst 0, 1) := by decide +kernel
theorem dX7_wrongAt_9 : decode cX7_wrongAt 9 = .ok (.goto 9, 3) := by decide +kernel
theorem dX7_wrongAt_12 : decode cX7_wrongAt 12 = .ok (.aload_n 0, 1) := by decide +kernel
theorem dX7_wrongAt_13 : decode cX7_wrongAt 13 = .ok (.iload_n 1, 1) := by decide +kernel
theorem dX7_wrongAt_14 : decode cX7_wrongAt 14 = .ok (.iconst 0, 1) := by decide +kernel
theorem dX7_wrongAt_15 : decode cX7_wrongAt 15 = .ok (.invokevirtual 176, 3) := by decide +kernel
theorem dX7_wrongAt_18 : decode cX7_wrongAt 18 = .ok (.ireturn, 1) := by decide +kernel
set_option maxRecDepth 20000 in
theorem ggX7_write_X7_isType : GoodIn wsX7_write wsX7_isType := goodIn_r _ [6, 7, 8, 9, 5, 10, 77, 78, 79, 80, 81, 82, 83, 84, 85, 86, 87, 88, 89, 90, 91, 92, 93, 94, 95, 96, 97, 98, 99, 100, 101, 102, 103, 104, 105, 106] (by decide +kernel) (by decide +kernel)
set_option maxRecDepth 20000 in
theorem gX7_write_X7_isType : GoodIn wsX7_write (wsV RX7 120 RX7 yX7_isType wsX7_isType) := goodIn_app (goodIn_of _ (by decide +kernel)) ggX7_write_X7_isType
set_option maxRecDepth 20000 in
theorem ggX7_write_X7_walk : GoodIn wsX7_write wsX7_walk := goodIn_r _ [14, 15, 16, 17, 18, 19, 20, 21, 5, 22, 23, 24, 25, 26, 27, 28, 29, 30, 31, 32, 33, 34, 35, 36, 37, 38, 39, 40, 41, 42, 43, 44, 45, 46, 47, 48, 49, 50, 8, 9, 10, 51, 52, 53, 54, 55, 1, 56, 57, 58, 59, 60, 61, 62, 63, 64, 65, 66, 67, 68, 69, 70, 71, 77, 78, 79, 80, 81, 82, 83, 84, 85, 86, 87, 88, 89, 90, 91, 92, 93, 94, 95, 96, 97, 98, 99, 100, 101, 102, 103, 104, 105, 106] (by decide +kernel) (by decide +kernel)
set_option maxRecDepth 20000 in
theorem gX7_write_X7_walk : GoodIn wsX7_write (wsV RX7 176 RX7 yX7_walk wsX7_walk) := goodIn_app (goodIn_of _ (by decide +kernel)) ggX7_write_X7_walk
set_option maxRecDepth 20000 in
theorem ggX7_write_X7_refused : GoodIn wsX7_write wsX7_refused := goodIn_r _ [75, 76, 77, 78, 79, 80, 81, 82, 83, 84, 85, 86, 87, 88, 89, 90, 91, 92, 93, 94, 95, 96, 97, 98, 99, 100, 101, 102, 103, 104, 105, 106] (by decide +kernel) (by decide +kernel)
set_option maxRecDepth 20000 in
theorem gX7_write_X7_refused : GoodIn wsX7_write (wsV RX7 109 RX7 yX7_refused wsX7_refused) := goodIn_app (goodIn_of _ (by decide +kernel)) ggX7_write_X7_refused
theorem dX7_write_0 : decode cX7_write 0 = .ok (.aload_n 0, 1) := by decide +kernel
theorem dX7_write_1 : decode cX7_write 1 = .ok (.aload_n 0, 1) := by decide +kernel
theorem dX7_write_2 : decode cX7_write 2 = .ok (.iload_n 1, 1) := by decide +kernel
theorem dX7_write_3 : decode cX7_write 3 = .ok (.invokevirtual 120, 3) := by decide +kernel
theorem dX7_write_6 : decode cX7_write 6 = .ok (.ifCond .ne 7, 3) := by decide +kernel
theorem dX7_write_9 : decode cX7_write 9 = .ok (.iconst 1, 1) := by decide +kernel
theorem dX7_write_10 : decode cX7_write 10 = .ok (.goto 17, 3) := by decide +kernel
theorem dX7_write_13 : decode cX7_write 13 = .ok (.aload_n 0, 1) := by decide +kernel
theorem dX7_write_14 : decode cX7_write 14 = .ok (.iload_n 1, 1) := by decide +kernel
theorem dX7_write_15 : decode cX7_write 15 = .ok (.iconst 0, 1) := by decide +kernel
theorem dX7_write_16 : decode cX7_write 16 = .ok (.invokevirtual 176, 3) := by decide +kernel
theorem dX7_write_19 : decode cX7_write 19 = .ok (.ifCond .lt 7, 3) := by decide +kernel
theorem dX7_write_22 : decode cX7_write 22 = .ok (.iconst 2, 1) := by decide +kernel
theorem dX7_write_23 : decode cX7_write 23 = .ok (.goto 4, 3) := by decide +kernel
theorem dX7_write_26 : decode cX7_write 26 = .ok (.iconst 0, 1) := by decide +kernel
theorem dX7_write_27 : decode cX7_write 27 = .ok (.invokevirtual 109, 3) := by decide +kernel
theorem dX7_write_30 : decode cX7_write 30 = .ok (.ifCond .eq 5, 3) := by decide +kernel
theorem dX7_write_33 : decode cX7_write 33 = .ok (.iconst 0, 1) := by decide +kernel
theorem dX7_write_34 : decode cX7_write 34 = .ok (.ireturn, 1) := by decide +kernel
theorem dX7_write_35 : decode cX7_write 35 = .ok (.aload_n 0, 1) := by decide +kernel
theorem dX7_write_36 : decode cX7_write 36 = .ok (.iconst 0, 1) := by decide +kernel
theorem dX7_write_37 : decode cX7_write 37 = .ok (.putfield 145, 3) := by decide +kernel
theorem dX7_write_40 : decode cX7_write 40 = .ok (.aload_n 0, 1) := by decide +kernel
theorem dX7_write_41 : decode cX7_write 41 = .ok (.iload_n 1, 1) := by decide +kernel
theorem dX7_write_42 : decode cX7_write 42 = .ok (.iconst 1, 1) := by decide +kernel
theorem dX7_write_43 : decode cX7_write 43 = .ok (.invokevirtual 176, 3) := by decide +kernel
theorem dX7_write_46 : decode cX7_write 46 = .ok (.pop, 1) := by decide +kernel
theorem dX7_write_47 : decode cX7_write 47 = .ok (.aload_n 0, 1) := by decide +kernel
theorem dX7_write_48 : decode cX7_write 48 = .ok (.getfield 145, 3) := by decide +kernel
theorem dX7_write_51 : decode cX7_write 51 = .ok (.ireturn, 1) := by decide +kernel
set_option maxRecDepth 20000 in
theorem ggX7_bits_X7_fine : GoodIn wsX7_bits wsX7_fine := goodIn_r _ [6, 7, 8, 9, 10, 11, 12, 13, 14, 15, 16, 17, 18, 19, 20, 21, 22, 23, 24, 25, 26, 27, 28, 29, 30, 31, 32, 33, 34, 35, 36, 37] (by decide +kernel) (by decide +kernel)
set_option maxRecDepth 20000 in
theorem gX7_bits_X7_fine : GoodIn wsX7_bits (wsV RX7 133 RX7 yX7_fine wsX7_fine) := goodIn_app (goodIn_of _ (by decide +kernel)) ggX7_bits_X7_fine
theorem dX7_bits_0 : decode cX7_bits 0 = .ok (.aload_n 0, 1) := by decide +kernel
theorem dX7_bits_1 : decode cX7_bits 1 = .ok (.aload_n 0, 1) := by decide +kernel
theorem dX7_bits_2 : decode cX7_bits 2 = .ok (.getfield 145, 3) := by decide +kernel
theorem dX7_bits_5 : decode cX7_bits 5 = .ok (.invokevirtual 133, 3) := by decide +kernel
theorem dX7_bits_8 : decode cX7_bits 8 = .ok (.ireturn, 1) := by decide +kernel
set_option maxRecDepth 20000 in
theorem ggX7_noBit_X7_in : GoodIn wsX7_noBit wsX7_in := goodIn_r _ [5] (by decide +kernel) (by decide +kernel)
set_option maxRecDepth 20000 in
theorem gX7_noBit_X7_in : GoodIn wsX7_noBit (va_wsS RX7 80 yX7_in wsX7_in) := goodIn_app (goodIn_of _ (by decide +kernel)) ggX7_noBit_X7_in
set_option maxRecDepth 20000 in
theorem ggX7_noBit_X7_refused : GoodIn wsX7_noBit wsX7_refused := goodIn_r _ [9, 10, 11, 12, 13, 14, 15, 16, 17, 18, 19, 20, 21, 22, 23, 24, 25, 26, 27, 28, 29, 30, 31, 32, 33, 34, 35, 36, 37, 38, 39, 40] (by decide +kernel) (by decide +kernel)
set_option maxRecDepth 20000 in
theorem gX7_noBit_X7_refused : GoodIn wsX7_noBit (wsV RX7 109 RX7 yX7_refused wsX7_refused) := goodIn_app (goodIn_of _ (by decide +kernel)) ggX7_noBit_X7_refused
theorem dX7_noBit_0 : decode cX7_noBit 0 = .ok (.aload_n 0, 1) := by decide +kernel
theorem dX7_noBit_1 : decode cX7_noBit 1 = .ok (.iload_n 1, 1) := by decide +kernel
theorem dX7_noBit_2 : decode cX7_noBit 2 = .ok (.iconst 0, 1) := by decide +kernel
theorem dX7_noBit_3 : decode cX7_noBit 3 = .ok (.aload_n 0, 1) := by decide +kernel
theorem dX7_noBit_4 : decode cX7_noBit 4 = .ok (.getfield 145, 3) := by decide +kernel
theorem dX7_noBit_7 : decode cX7_noBit 7 = .ok (.iconst 1, 1) := by decide +kernel
theorem dX7_noBit_8 : decode cX7_noBit 8 = .ok (.isub, 1) := by decide +kernel
theorem dX7_noBit_9 : decode cX7_noBit 9 = .ok (.invokestatic 80, 3) := by decide +kernel
theorem dX7_noBit_12 : decode cX7_noBit 12 = .ok (.ifCond .eq 7, 3) := by decide +kernel
theorem dX7_noBit_15 : decode cX7_noBit 15 = .ok (.iconst 0, 1) := by decide +kernel
theorem dX7_noBit_16 : decode cX7_noBit 16 = .ok (.goto 4, 3) := by decide +kernel
theorem dX7_noBit_19 : decode cX7_noBit 19 = .ok (.iconst 1, 1) := by decide +kernel
theorem dX7_noBit_20 : decode cX7_noBit 20 = .ok (.invokevirtual 109, 3) := by decide +kernel
theorem dX7_noBit_23 : decode cX7_noBit 23 = .ok (.ireturn, 1) := by decide +kernel
set_option maxRecDepth 20000 in
theorem ggX7_bit_X7_noBit : GoodIn wsX7_bit wsX7_noBit := goodIn_r _ [6, 7, 8, 9, 5, 10, 11, 12, 13, 14, 15, 16, 17, 18, 19, 20, 21, 22, 23, 24, 25, 26, 27, 28, 29, 30, 31, 32, 33, 34, 35, 36, 37, 38, 39, 40, 41, 42, 43, 44, 45] (by decide +kernel) (by decide +kernel)
set_option maxRecDepth 20000 in
theorem gX7_bit_X7_noBit : GoodIn wsX7_bit (wsV RX7 180 RX7 yX7_noBit wsX7_noBit) := goodIn_app (goodIn_of _ (by decide +kernel)) ggX7_bit_X7_noBit
theorem dX7_bit_0 : decode cX7_bit 0 = .ok (.aload_n 0, 1) := by decide +kernel
theorem dX7_bit_1 : decode cX7_bit 1 = .ok (.iload_n 1, 1) := by decide +kernel
theorem dX7_bit_2 : decode cX7_bit 2 = .ok (.invokevirtual 180, 3) := by decide +kernel
theorem dX7_bit_5 : decode cX7_bit 5 = .ok (.ifCond .eq 7, 3) := by decide +kernel
theorem dX7_bit_8 : decode cX7_bit 8 = .ok (.iconst 0, 1) := by decide +kernel
theorem dX7_bit_9 : decode cX7_bit 9 = .ok (.goto 9, 3) := by decide +kernel
theorem dX7_bit_12 : decode cX7_bit 12 = .ok (.aload_n 0, 1) := by decide +kernel
theorem dX7_bit_13 : decode cX7_bit 13 = .ok (.getfield 46, 3) := by decide +kernel
theorem dX7_bit_16 : decode cX7_bit 16 = .ok (.iload_n 1, 1) := by decide +kernel
theorem dX7_bit_17 : decode cX7_bit 17 = .ok (.iaload, 1) := by decide +kernel
theorem dX7_bit_18 : decode cX7_bit 18 = .ok (.ireturn, 1) := by decide +kernel
set_option maxRecDepth 20000 in
theorem ggX7_flip_X7_noBit : GoodIn wsX7_flip wsX7_noBit := goodIn_r _ [6, 7, 8, 9, 5, 10, 11, 12, 13, 14, 15, 16, 17, 18, 19, 20, 21, 22, 23, 24, 25, 26, 27, 28, 29, 30, 31, 32, 33, 34, 35, 36, 37, 38, 39, 40, 41, 42, 43, 44, 45] (by decide +kernel) (by decide +kernel)
set_option maxRecDepth 20000 in
theorem gX7_flip_X7_noBit : GoodIn wsX7_flip (wsV RX7 180 RX7 yX7_noBit wsX7_noBit) := goodIn_app (goodIn_of _ (by decide +kernel)) ggX7_flip_X7_noBit
theorem dX7_flip_0 : decode cX7_flip 0 = .ok (.aload_n 0, 1) := by decide +kernel
theorem dX7_flip_1 : decode cX7_flip 1 = .ok (.iload_n 1, 1) := by decide +kernel
theorem dX7_flip_2 : decode cX7_flip 2 = .ok (.invokevirtual 180, 3) := by decide +kernel
theorem dX7_flip_5 : decode cX7_flip 5 = .ok (.ifCond .eq 5, 3) := by decide +kernel
theorem dX7_flip_8 : decode cX7_flip 8 = .ok (.iconst 0, 1) := by decide +kernel
theorem dX7_flip_9 : decode cX7_flip 9 = .ok (.ireturn, 1) := by decide +kernel
theorem dX7_flip_10 : decode cX7_flip 10 = .ok (.aload_n 0, 1) := by decide +kernel
theorem dX7_flip_11 : decode cX7_flip 11 = .ok (.getfield 46, 3) := by decide +kernel
theorem dX7_flip_14 : decode cX7_flip 14 = .ok (.iload_n 1, 1) := by decide +kernel
theorem dX7_flip_15 : decode cX7_flip 15 = .ok (.iconst 1, 1) := by decide +kernel
theorem dX7_flip_16 : decode cX7_flip 16 = .ok (.aload_n 0, 1) := by decide +kernel
theorem dX7_flip_17 : decode cX7_flip 17 = .ok (.getfield 46, 3) := by decide +kernel
theorem dX7_flip_20 : decode cX7_flip 20 = .ok (.iload_n 1, 1) := by decide +kernel
theorem dX7_flip_21 : decode cX7_flip 21 = .ok (.iaload, 1) := by decide +kernel
theorem dX7_flip_22 : decode cX7_flip 22 = .ok (.isub, 1) := by decide +kernel
theorem dX7_flip_23 : decode cX7_flip 23 = .ok (.iastore, 1) := by decide +kernel
theorem dX7_flip_24 : decode cX7_flip 24 = .ok (.aload_n 0, 1) := by decide +kernel
theorem dX7_flip_25 : decode cX7_flip 25 = .ok (.getfield 46, 3) := by decide +kernel
theorem dX7_flip_28 : decode cX7_flip 28 = .ok (.iload_n 1, 1) := by decide +kernel
theorem dX7_flip_29 : decode cX7_flip 29 = .ok (.iaload, 1) := by decide +kernel
theorem dX7_flip_30 : decode cX7_flip 30 = .ok (.ireturn, 1) := by decide +kernel
set_option maxRecDepth 20000 in
theorem ggX7_cut_X7_in : GoodIn wsX7_cut wsX7_in := goodIn_r _ [5] (by decide +kernel) (by decide +kernel)
set_option maxRecDepth 20000 in
theorem gX7_cut_X7_in : GoodIn wsX7_cut (va_wsS RX7 80 yX7_in wsX7_in) := goodIn_app (goodIn_of _ (by decide +kernel)) ggX7_cut_X7_in
set_option maxRecDepth 20000 in
theorem ggX7_cut_X7_refused : GoodIn wsX7_cut wsX7_refused := goodIn_r _ [9, 10, 11, 12, 13, 14, 15, 16, 17, 18, 19, 20, 21, 22, 23, 24, 25, 26, 27, 28, 29, 30, 31, 32, 33, 34, 35, 36, 37, 38, 39, 40] (by decide +kernel) (by decide +kernel)
set_option maxRecDepth 20000 in
theorem gX7_cut_X7_refused : GoodIn wsX7_cut (wsV RX7 109 RX7 yX7_refused wsX7_refused) := goodIn_app (goodIn_of _ (by decide +kernel)) ggX7_cut_X7_refused
theorem dX7_cut_0 : decode cX7_cut 0 = .ok (.aload_n 0, 1) := by decide +kernel
theorem dX7_cut_1 : decode cX7_cut 1 = .ok (.iload_n 1, 1) := by decide +kernel
theorem dX7_cut_2 : decode cX7_cut 2 = .ok (.iconst 0, 1) := by decide +kernel
theorem dX7_cut_3 : decode cX7_cut 3 = .ok (.aload_n 0, 1) := by decide +kernel
theorem dX7_cut_4 : decode cX7_cut 4 = .ok (.getfield 145, 3) := by decide +kernel
theorem dX7_cut_7 : decode cX7_cut 7 = .ok (.invokestatic 80, 3) := by decide +kernel
theorem dX7_cut_10 : decode cX7_cut 10 = .ok (.ifCond .eq 7, 3) := by decide +kernel
theorem dX7_cut_13 : decode cX7_cut 13 = .ok (.iconst 0, 1) := by decide +kernel
theorem dX7_cut_14 : decode cX7_cut 14 = .ok (.goto 4, 3) := by decide +kernel
theorem dX7_cut_17 : decode cX7_cut 17 = .ok (.iconst 1, 1) := by decide +kernel
theorem dX7_cut_18 : decode cX7_cut 18 = .ok (.invokevirtual 109, 3) := by decide +kernel
theorem dX7_cut_21 : decode cX7_cut 21 = .ok (.ifCond .eq 5, 3) := by decide +kernel
theorem dX7_cut_24 : decode cX7_cut 24 = .ok (.iconst 0, 1) := by decide +kernel
theorem dX7_cut_25 : decode cX7_cut 25 = .ok (.ireturn, 1) := by decide +kernel
theorem dX7_cut_26 : decode cX7_cut 26 = .ok (.aload_n 0, 1) := by decide +kernel
theorem dX7_cut_27 : decode cX7_cut 27 = .ok (.getfield 145, 3) := by decide +kernel
theorem dX7_cut_30 : decode cX7_cut 30 = .ok (.iload_n 1, 1) := by decide +kernel
theorem dX7_cut_31 : decode cX7_cut 31 = .ok (.isub, 1) := by decide +kernel
theorem dX7_cut_32 : decode cX7_cut 32 = .ok (.istore_n 2, 1) := by decide +kernel
theorem dX7_cut_33 : decode cX7_cut 33 = .ok (.aload_n 0, 1) := by decide +kernel
theorem dX7_cut_34 : decode cX7_cut 34 = .ok (.iload_n 1, 1) := by decide +kernel
theorem dX7_cut_35 : decode cX7_cut 35 = .ok (.putfield 145, 3) := by decide +kernel
theorem dX7_cut_38 : decode cX7_cut 38 = .ok (.iload_n 2, 1) := by decide +kernel
theorem dX7_cut_39 : decode cX7_cut 39 = .ok (.ireturn, 1) := by decide +kernel
theorem dX7_take_0 : decode cX7_take 0 = .ok (.aload_n 0, 1) := by decide +kernel
theorem dX7_take_1 : decode cX7_take 1 = .ok (.getfield 151, 3) := by decide +kernel
theorem dX7_take_4 : decode cX7_take 4 = .ok (.ifCond .lt 5, 3) := by decide +kernel
theorem dX7_take_7 : decode cX7_take 7 = .ok (.iconst 0, 1) := by decide +kernel
theorem dX7_take_8 : decode cX7_take 8 = .ok (.ireturn, 1) := by decide +kernel
theorem dX7_take_9 : decode cX7_take 9 = .ok (.aload_n 0, 1) := by decide +kernel
theorem dX7_take_10 : decode cX7_take 10 = .ok (.getfield 148, 3) := by decide +kernel
theorem dX7_take_13 : decode cX7_take 13 = .ok (.iload_n 1, 1) := by decide +kernel
theorem dX7_take_14 : decode cX7_take 14 = .ok (.iadd, 1) := by decide +kernel
theorem dX7_take_15 : decode cX7_take 15 = .ok (.aload_n 0, 1) := by decide +kernel
theorem dX7_take_16 : decode cX7_take 16 = .ok (.getfield 145, 3) := by decide +kernel
theorem dX7_take_19 : decode cX7_take 19 = .ok (.if_icmp .le 13, 3) := by decide +kernel
theorem dX7_take_22 : decode cX7_take 22 = .ok (.aload_n 0, 1) := by decide +kernel
theorem dX7_take_23 : decode cX7_take 23 = .ok (.aload_n 0, 1) := by decide +kernel
theorem dX7_take_24 : decode cX7_take 24 = .ok (.getfield 145, 3) := by decide +kernel
theorem dX7_take_27 : decode cX7_take 27 = .ok (.putfield 151, 3) := by decide +kernel
theorem dX7_take_30 : decode cX7_take 30 = .ok (.iconst 0, 1) := by decide +kernel
theorem dX7_take_31 : decode cX7_take 31 = .ok (.ireturn, 1) := by decide +kernel
theorem dX7_take_32 : decode cX7_take 32 = .ok (.iconst 0, 1) := by decide +kernel
theorem dX7_take_33 : decode cX7_take 33 = .ok (.istore_n 2, 1) := by decide +kernel
theorem dX7_take_34 : decode cX7_take 34 = .ok (.iconst 0, 1) := by decide +kernel
theorem dX7_take_35 : decode cX7_take 35 = .ok (.istore_n 3, 1) := by decide +kernel
theorem dX7_take_36 : decode cX7_take 36 = .ok (.iload_n 3, 1) := by decide +kernel
theorem dX7_take_37 : decode cX7_take 37 = .ok (.iload_n 1, 1) := by decide +kernel
theorem dX7_take_38 : decode cX7_take 38 = .ok (.if_icmp .ge 33, 3) := by decide +kernel
theorem dX7_take_41 : decode cX7_take 41 = .ok (.iconst 2, 1) := by decide +kernel
theorem dX7_take_42 : decode cX7_take 42 = .ok (.iload_n 2, 1) := by decide +kernel
theorem dX7_take_43 : decode cX7_take 43 = .ok (.imul, 1) := by decide +kernel
theorem dX7_take_44 : decode cX7_take 44 = .ok (.aload_n 0, 1) := by decide +kernel
theorem dX7_take_45 : decode cX7_take 45 = .ok (.getfield 46, 3) := by decide +kernel
theorem dX7_take_48 : decode cX7_take 48 = .ok (.aload_n 0, 1) := by decide +kernel
theorem dX7_take_49 : decode cX7_take 49 = .ok (.getfield 148, 3) := by decide +kernel
theorem dX7_take_52 : decode cX7_take 52 = .ok (.iaload, 1) := by decide +kernel
theorem dX7_take_53 : decode cX7_take 53 = .ok (.iadd, 1) := by decide +kernel
theorem dX7_take_54 : decode cX7_take 54 = .ok (.istore_n 2, 1) := by decide +kernel
theorem dX7_take_55 : decode cX7_take 55 = .ok (.aload_n 0, 1) := by decide +kernel
theorem dX7_take_56 : decode cX7_take 56 = .ok (.dup, 1) := by decide +kernel
theorem dX7_take_57 : decode cX7_take 57 = .ok (.getfield 148, 3) := by decide +kernel
theorem dX7_take_60 : decode cX7_take 60 = .ok (.iconst 1, 1) := by decide +kernel
theorem dX7_take_61 : decode cX7_take 61 = .ok (.iadd, 1) := by decide +kernel
theorem dX7_take_62 : decode cX7_take 62 = .ok (.putfield 148, 3) := by decide +kernel
theorem dX7_take_65 : decode cX7_take 65 = .ok (.iinc 3 1, 3) := by decide +kernel
theorem dX7_take_68 : decode cX7_take 68 = .ok (.goto (-32), 3) := by decide +kernel
theorem dX7_take_71 : decode cX7_take 71 = .ok (.iload_n 2, 1) := by decide +kernel
theorem dX7_take_72 : decode cX7_take 72 = .ok (.ireturn, 1) := by decide +kernel
set_option maxRecDepth 20000 in
theorem ggX7_takeBelow_X7_take : GoodIn wsX7_takeBelow wsX7_take := goodIn_r _ [7, 2, 1, 8, 9, 10, 11, 12, 13, 14, 15, 16, 17, 18, 19, 20, 21, 22, 23, 24, 25, 26, 27, 28, 29, 30, 31, 32, 33, 34, 35, 36, 37, 38, 39] (by decide +kernel) (by decide +kernel)
set_option maxRecDepth 20000 in
theorem gX7_takeBelow_X7_take : GoodIn wsX7_takeBelow (wsV RX7 183 RX7 yX7_take wsX7_take) := goodIn_app (goodIn_of _ (by decide +kernel)) ggX7_takeBelow_X7_take
theorem dX7_takeBelow_0 : decode cX7_takeBelow 0 = .ok (.aload_n 0, 1) := by decide +kernel
theorem dX7_takeBelow_1 : decode cX7_takeBelow 1 = .ok (.getfield 148, 3) := by decide +kernel
theorem dX7_takeBelow_4 : decode cX7_takeBelow 4 = .ok (.istore_n 3, 1) := by decide +kernel
theorem dX7_takeBelow_5 : decode cX7_takeBelow 5 = .ok (.aload_n 0, 1) := by decide +kernel
theorem dX7_takeBelow_6 : decode cX7_takeBelow 6 = .ok (.iload_n 1, 1) := by decide +kernel
theorem dX7_takeBelow_7 : decode cX7_takeBelow 7 = .ok (.invokevirtual 183, 3) := by decide +kernel
theorem dX7_takeBelow_10 : decode cX7_takeBelow 10 = .ok (.istore 4, 2) := by decide +kernel
theorem dX7_takeBelow_12 : decode cX7_takeBelow 12 = .ok (.aload_n 0, 1) := by decide +kernel
theorem dX7_takeBelow_13 : decode cX7_takeBelow 13 = .ok (.aload_n 0, 1) := by decide +kernel
theorem dX7_takeBelow_14 : decode cX7_takeBelow 14 = .ok (.getfield 151, 3) := by decide +kernel
theorem dX7_takeBelow_17 : decode cX7_takeBelow 17 = .ok (.ifCond .ge 13, 3) := by decide +kernel
theorem dX7_takeBelow_20 : decode cX7_takeBelow 20 = .ok (.iload 4, 2) := by decide +kernel
theorem dX7_takeBelow_22 : decode cX7_takeBelow 22 = .ok (.iload_n 2, 1) := by decide +kernel
theorem dX7_takeBelow_23 : decode cX7_takeBelow 23 = .ok (.if_icmp .lt 7, 3) := by decide +kernel
theorem dX7_takeBelow_26 : decode cX7_takeBelow 26 = .ok (.iload_n 3, 1) := by decide +kernel
theorem dX7_takeBelow_27 : decode cX7_takeBelow 27 = .ok (.goto 7, 3) := by decide +kernel
theorem dX7_takeBelow_30 : decode cX7_takeBelow 30 = .ok (.aload_n 0, 1) := by decide +kernel
theorem dX7_takeBelow_31 : decode cX7_takeBelow 31 = .ok (.getfield 151, 3) := by decide +kernel
theorem dX7_takeBelow_34 : decode cX7_takeBelow 34 = .ok (.putfield 151, 3) := by decide +kernel
theorem dX7_takeBelow_37 : decode cX7_takeBelow 37 = .ok (.aload_n 0, 1) := by decide +kernel
theorem dX7_takeBelow_38 : decode cX7_takeBelow 38 = .ok (.getfield 151, 3) := by decide +kernel
theorem dX7_takeBelow_41 : decode cX7_takeBelow 41 = .ok (.ifCond .lt 7, 3) := by decide +kernel
theorem dX7_takeBelow_44 : decode cX7_takeBelow 44 = .ok (.iconst 0, 1) := by decide +kernel
theorem dX7_takeBelow_45 : decode cX7_takeBelow 45 = .ok (.goto 5, 3) := by decide +kernel
theorem dX7_takeBelow_48 : decode cX7_takeBelow 48 = .ok (.iload 4, 2) := by decide +kernel
theorem dX7_takeBelow_50 : decode cX7_takeBelow 50 = .ok (.ireturn, 1) := by decide +kernel
theorem dX7_note_0 : decode cX7_note 0 = .ok (.aload_n 0, 1) := by decide +kernel
theorem dX7_note_1 : decode cX7_note 1 = .ok (.getfield 49, 3) := by decide +kernel
theorem dX7_note_4 : decode cX7_note 4 = .ok (.aload_n 0, 1) := by decide +kernel
theorem dX7_note_5 : decode cX7_note 5 = .ok (.getfield 186, 3) := by decide +kernel
theorem dX7_note_8 : decode cX7_note 8 = .ok (.iload_n 1, 1) := by decide +kernel
theorem dX7_note_9 : decode cX7_note 9 = .ok (.iastore, 1) := by decide +kernel
theorem dX7_note_10 : decode cX7_note 10 = .ok (.aload_n 0, 1) := by decide +kernel
theorem dX7_note_11 : decode cX7_note 11 = .ok (.dup, 1) := by decide +kernel
theorem dX7_note_12 : decode cX7_note 12 = .ok (.getfield 186, 3) := by decide +kernel
theorem dX7_note_15 : decode cX7_note 15 = .ok (.iconst 1, 1) := by decide +kernel
theorem dX7_note_16 : decode cX7_note 16 = .ok (.iadd, 1) := by decide +kernel
theorem dX7_note_17 : decode cX7_note 17 = .ok (.putfield 186, 3) := by decide +kernel
theorem dX7_note_20 : decode cX7_note 20 = .ok (.return_, 1) := by decide +kernel
set_option maxRecDepth 20000 in
theorem ggX7_goOverBits_X7_headOfBits : GoodIn wsX7_goOverBits wsX7_headOfBits := goodIn_r _ [13, 14, 8, 5, 15, 16, 17, 18, 19, 12, 20, 21, 22, 23, 24, 25, 26, 27, 28, 29, 30, 31, 32, 33, 34, 66, 67, 68, 69, 70, 71, 72, 73, 74, 75, 76, 77, 78, 79, 80, 81, 82, 83, 84, 85, 86, 87, 88, 89, 90, 91, 92, 93, 94, 95] (by decide +kernel) (by decide +kernel)
set_option maxRecDepth 20000 in
theorem gX7_goOverBits_X7_headOfBits : GoodIn wsX7_goOverBits (wsV RX7 189 RX7 yX7_headOfBits wsX7_headOfBits) := goodIn_app (goodIn_of _ (by decide +kernel)) ggX7_goOverBits_X7_headOfBits
set_option maxRecDepth 20000 in
theorem ggX7_goOverBits_X7_sequenceOfBits : GoodIn wsX7_goOverBits wsX7_sequenceOfBits := goodIn_r _ [38, 39, 22, 40, 21, 5, 8, 14, 41, 34, 15, 1, 42, 43, 44, 45, 12, 46, 29, 47, 48, 49, 50, 2, 3, 51, 52, 53, 54, 17, 18, 19, 20, 23, 24, 55, 56, 57, 58, 66, 67, 68, 69, 70, 71, 72, 73, 74, 75, 76, 77, 78, 79, 80, 81, 82, 83, 84, 85, 86, 87, 88, 89, 90, 91, 92, 93, 94, 95] (by decide +kernel) (by decide +kernel)
set_option maxRecDepth 20000 in
theorem gX7_goOverBits_X7_sequenceOfBits : GoodIn wsX7_goOverBits (wsV RX7 193 RX7 yX7_sequenceOfBits wsX7_sequenceOfBits) := goodIn_app (goodIn_of _ (by decide +kernel)) ggX7_goOverBits_X7_sequenceOfBits
set_option maxRecDepth 20000 in
theorem ggX7_goOverBits_X7_widthOf : GoodIn wsX7_goOverBits wsX7_widthOf := goodIn_r _ [62, 4, 5, 6, 7, 63, 64, 12, 65, 66, 67, 68, 69, 70, 71, 72, 73, 74, 75, 76, 77, 78, 79, 80, 81, 82, 83, 84, 85, 86, 87, 88, 89, 90, 91, 92, 93, 94, 95] (by decide +kernel) (by decide +kernel)
set_option maxRecDepth 20000 in
theorem gX7_goOverBits_X7_widthOf : GoodIn wsX7_goOverBits (wsV RX7 99 RX7 yX7_widthOf wsX7_widthOf) := goodIn_app (goodIn_of _ (by decide +kernel)) ggX7_goOverBits_X7_widthOf
set_option maxRecDepth 20000 in
theorem ggX7_goOverBits_X7_takeBelow : GoodIn wsX7_goOverBits wsX7_takeBelow := goodIn_r _ [54, 22, 21, 17, 18, 19, 12, 20, 23, 24, 66, 67, 68, 69, 70, 71, 72, 73, 74, 75, 76, 77, 78, 79, 80, 81, 82, 83, 84, 85, 86, 87, 88, 89, 90, 91, 92, 93, 94, 95] (by decide +kernel) (by decide +kernel)
set_option maxRecDepth 20000 in
theorem gX7_goOverBits_X7_takeBelow : GoodIn wsX7_goOverBits (wsV RX7 196 RX7 yX7_takeBelow wsX7_takeBelow) := goodIn_app (goodIn_of _ (by decide +kernel)) ggX7_goOverBits_X7_takeBelow
set_option maxRecDepth 20000 in
theorem ggX7_goOverBits_X7_note : GoodIn wsX7_goOverBits wsX7_note := goodIn_r _ [33, 34, 16, 66, 67, 68, 69, 70, 71, 72, 73, 74, 75, 76, 77, 78, 79, 80, 81, 82, 83, 84, 85, 86, 87, 88, 89, 90, 91, 92, 93, 94, 95] (by decide +kernel) (by decide +kernel)
set_option maxRecDepth 20000 in
theorem gX7_goOverBits_X7_note : GoodIn wsX7_goOverBits (wsV RX7 199 RX7 yX7_note wsX7_note) := goodIn_app (goodIn_of _ (by decide +kernel)) ggX7_goOverBits_X7_note
set_option maxRecDepth 20000 in
theorem ggX7_goOverBits_X7_partOf : GoodIn wsX7_goOverBits wsX7_partOf := goodIn_r _ [46, 29, 66, 67, 68, 69, 70, 71, 72, 73, 74, 75, 76, 77, 78, 79, 80, 81, 82, 83, 84, 85, 86, 87, 88, 89, 90, 91, 92, 93, 94, 95] (by decide +kernel) (by decide +kernel)
set_option maxRecDepth 20000 in
theorem gX7_goOverBits_X7_partOf : GoodIn wsX7_goOverBits (wsV RX7 95 RX7 yX7_partOf wsX7_partOf) := goodIn_app (goodIn_of _ (by decide +kernel)) ggX7_goOverBits_X7_partOf
set_option maxRecDepth 20000 in
theorem ggX7_goOverBits_X7_push : GoodIn wsX7_goOverBits wsX7_push := goodIn_r _ [50, 2, 1, 3, 39, 66, 67, 68, 69, 70, 71, 72, 73, 74, 75, 76, 77, 78, 79, 80, 81, 82, 83, 84, 85, 86, 87, 88, 89, 90, 91, 92, 93, 94, 95] (by decide +kernel) (by decide +kernel)
set_option maxRecDepth 20000 in
theorem gX7_goOverBits_X7_push : GoodIn wsX7_goOverBits (wsV RX7 169 RX7 yX7_push wsX7_push) := goodIn_app (goodIn_of _ (by decide +kernel)) ggX7_goOverBits_X7_push
theorem dX7_goOverBits_0 : decode cX7_goOverBits 0 = .ok (.aload_n 0, 1) := by decide +kernel
theorem dX7_goOverBits_1 : decode cX7_goOverBits 1 = .ok (.getfield 142, 3) := by decide +kernel
theorem dX7_goOverBits_4 : decode cX7_goOverBits 4 = .ok (.iconst 1, 1) := by decide +kernel
theorem dX7_goOverBits_5 : decode cX7_goOverBits 5 = .ok (.isub, 1) := by decide +kernel
theorem dX7_goOverBits_6 : decode cX7_goOverBits 6 = .ok (.istore_n 2, 1) := by decide +kernel
theorem dX7_goOverBits_7 : decode cX7_goOverBits 7 = .ok (.aload_n 0, 1) := by decide +kernel
theorem dX7_goOverBits_8 : decode cX7_goOverBits 8 = .ok (.getfield 52, 3) := by decide +kernel
theorem dX7_goOverBits_11 : decode cX7_goOverBits 11 = .ok (.iload_n 2, 1) := by decide +kernel
theorem dX7_goOverBits_12 : decode cX7_goOverBits 12 = .ok (.iaload, 1) := by decide +kernel
theorem dX7_goOverBits_13 : decode cX7_goOverBits 13 = .ok (.istore_n 3, 1) := by decide +kernel
theorem dX7_goOverBits_14 : decode cX7_goOverBits 14 = .ok (.aload_n 0, 1) := by decide +kernel
theorem dX7_goOverBits_15 : decode cX7_goOverBits 15 = .ok (.getfield 55, 3) := by decide +kernel
theorem dX7_goOverBits_18 : decode cX7_goOverBits 18 = .ok (.iload_n 2, 1) := by decide +kernel
theorem dX7_goOverBits_19 : decode cX7_goOverBits 19 = .ok (.iaload, 1) := by decide +kernel
theorem dX7_goOverBits_20 : decode cX7_goOverBits 20 = .ok (.istore 4, 2) := by decide +kernel
theorem dX7_goOverBits_22 : decode cX7_goOverBits 22 = .ok (.aload_n 0, 1) := by decide +kernel
theorem dX7_goOverBits_23 : decode cX7_goOverBits 23 = .ok (.getfield 55, 3) := by decide +kernel
theorem dX7_goOverBits_26 : decode cX7_goOverBits 26 = .ok (.iload_n 2, 1) := by decide +kernel
theorem dX7_goOverBits_27 : decode cX7_goOverBits 27 = .ok (.dup2, 1) := by decide +kernel
theorem dX7_goOverBits_28 : decode cX7_goOverBits 28 = .ok (.iaload, 1) := by decide +kernel
theorem dX7_goOverBits_29 : decode cX7_goOverBits 29 = .ok (.iconst 1, 1) := by decide +kernel
theorem dX7_goOverBits_30 : decode cX7_goOverBits 30 = .ok (.iadd, 1) := by decide +kernel
theorem dX7_goOverBits_31 : decode cX7_goOverBits 31 = .ok (.iastore, 1) := by decide +kernel
theorem dX7_goOverBits_32 : decode cX7_goOverBits 32 = .ok (.aload_n 0, 1) := by decide +kernel
theorem dX7_goOverBits_33 : decode cX7_goOverBits 33 = .ok (.getfield 7, 3) := by decide +kernel
theorem dX7_goOverBits_36 : decode cX7_goOverBits 36 = .ok (.iload_n 3, 1) := by decide +kernel
theorem dX7_goOverBits_37 : decode cX7_goOverBits 37 = .ok (.iaload, 1) := by decide +kernel
theorem dX7_goOverBits_38 : decode cX7_goOverBits 38 = .ok (.iconst 2, 1) := by decide +kernel
theorem dX7_goOverBits_39 : decode cX7_goOverBits 39 = .ok (.if_icmp .ne 29, 3) := by decide +kernel
theorem dX7_goOverBits_42 : decode cX7_goOverBits 42 = .ok (.iload 4, 2) := by decide +kernel
theorem dX7_goOverBits_44 : decode cX7_goOverBits 44 = .ok (.ifCond .ne 12, 3) := by decide +kernel
theorem dX7_goOverBits_47 : decode cX7_goOverBits 47 = .ok (.aload_n 0, 1) := by decide +kernel
theorem dX7_goOverBits_48 : decode cX7_goOverBits 48 = .ok (.iload_n 3, 1) := by decide +kernel
theorem dX7_goOverBits_49 : decode cX7_goOverBits 49 = .ok (.iload_n 2, 1) := by decide +kernel
theorem dX7_goOverBits_50 : decode cX7_goOverBits 50 = .ok (.invokevirtual 189, 3) := by decide +kernel
theorem dX7_goOverBits_53 : decode cX7_goOverBits 53 = .ok (.goto 14, 3) := by decide +kernel
theorem dX7_goOverBits_56 : decode cX7_goOverBits 56 = .ok (.aload_n 0, 1) := by decide +kernel
theorem dX7_goOverBits_57 : decode cX7_goOverBits 57 = .ok (.iload_n 3, 1) := by decide +kernel
theorem dX7_goOverBits_58 : decode cX7_goOverBits 58 = .ok (.iload_n 2, 1) := by decide +kernel
theorem dX7_goOverBits_59 : decode cX7_goOverBits 59 = .ok (.iload 4, 2) := by decide +kernel
theorem dX7_goOverBits_61 : decode cX7_goOverBits 61 = .ok (.iconst 1, 1) := by decide +kernel
theorem dX7_goOverBits_62 : decode cX7_goOverBits 62 = .ok (.isub, 1) := by decide +kernel
theorem dX7_goOverBits_63 : decode cX7_goOverBits 63 = .ok (.iload_n 1, 1) := by decide +kernel
theorem dX7_goOverBits_64 : decode cX7_goOverBits 64 = .ok (.invokevirtual 193, 3) := by decide +kernel
theorem dX7_goOverBits_67 : decode cX7_goOverBits 67 = .ok (.return_, 1) := by decide +kernel
theorem dX7_goOverBits_68 : decode cX7_goOverBits 68 = .ok (.aload_n 0, 1) := by decide +kernel
theorem dX7_goOverBits_69 : decode cX7_goOverBits 69 = .ok (.getfield 7, 3) := by decide +kernel
theorem dX7_goOverBits_72 : decode cX7_goOverBits 72 = .ok (.iload_n 3, 1) := by decide +kernel
theorem dX7_goOverBits_73 : decode cX7_goOverBits 73 = .ok (.iaload, 1) := by decide +kernel
theorem dX7_goOverBits_74 : decode cX7_goOverBits 74 = .ok (.iconst 3, 1) := by decide +kernel
theorem dX7_goOverBits_75 : decode cX7_goOverBits 75 = .ok (.if_icmp .ne 7, 3) := by decide +kernel
theorem dX7_goOverBits_78 : decode cX7_goOverBits 78 = .ok (.iconst 1, 1) := by decide +kernel
theorem dX7_goOverBits_79 : decode cX7_goOverBits 79 = .ok (.goto 4, 3) := by decide +kernel
theorem dX7_goOverBits_82 : decode cX7_goOverBits 82 = .ok (.iconst 0, 1) := by decide +kernel
theorem dX7_goOverBits_83 : decode cX7_goOverBits 83 = .ok (.istore 5, 2) := by decide +kernel
theorem dX7_goOverBits_85 : decode cX7_goOverBits 85 = .ok (.iload 4, 2) := by decide +kernel
theorem dX7_goOverBits_87 : decode cX7_goOverBits 87 = .ok (.ifCond .ne 78, 3) := by decide +kernel
theorem dX7_goOverBits_90 : decode cX7_goOverBits 90 = .ok (.aload_n 0, 1) := by decide +kernel
theorem dX7_goOverBits_91 : decode cX7_goOverBits 91 = .ok (.aload_n 0, 1) := by decide +kernel
theorem dX7_goOverBits_92 : decode cX7_goOverBits 92 = .ok (.iload_n 3, 1) := by decide +kernel
theorem dX7_goOverBits_93 : decode cX7_goOverBits 93 = .ok (.invokevirtual 99, 3) := by decide +kernel
theorem dX7_goOverBits_96 : decode cX7_goOverBits 96 = .ok (.iload 5, 2) := by decide +kernel
theorem dX7_goOverBits_98 : decode cX7_goOverBits 98 = .ok (.ifCond .eq 12, 3) := by decide +kernel
theorem dX7_goOverBits_101 : decode cX7_goOverBits 101 = .ok (.aload_n 0, 1) := by decide +kernel
theorem dX7_goOverBits_102 : decode cX7_goOverBits 102 = .ok (.getfield 22, 3) := by decide +kernel
theorem dX7_goOverBits_105 : decode cX7_goOverBits 105 = .ok (.iload_n 3, 1) := by decide +kernel
theorem dX7_goOverBits_106 : decode cX7_goOverBits 106 = .ok (.iaload, 1) := by decide +kernel
theorem dX7_goOverBits_107 : decode cX7_goOverBits 107 = .ok (.goto 18, 3) := by decide +kernel
theorem dX7_goOverBits_110 : decode cX7_goOverBits 110 = .ok (.aload_n 0, 1) := by decide +kernel
theorem dX7_goOverBits_111 : decode cX7_goOverBits 111 = .ok (.getfield 16, 3) := by decide +kernel
theorem dX7_goOverBits_114 : decode cX7_goOverBits 114 = .ok (.iload_n 3, 1) := by decide +kernel
theorem dX7_goOverBits_115 : decode cX7_goOverBits 115 = .ok (.iaload, 1) := by decide +kernel
theorem dX7_goOverBits_116 : decode cX7_goOverBits 116 = .ok (.aload_n 0, 1) := by decide +kernel
theorem dX7_goOverBits_117 : decode cX7_goOverBits 117 = .ok (.getfield 13, 3) := by decide +kernel
theorem dX7_goOverBits_120 : decode cX7_goOverBits 120 = .ok (.iload_n 3, 1) := by decide +kernel
theorem dX7_goOverBits_121 : decode cX7_goOverBits 121 = .ok (.iaload, 1) := by decide +kernel
theorem dX7_goOverBits_122 : decode cX7_goOverBits 122 = .ok (.isub, 1) := by decide +kernel
theorem dX7_goOverBits_123 : decode cX7_goOverBits 123 = .ok (.iconst 1, 1) := by decide +kernel
theorem dX7_goOverBits_124 : decode cX7_goOverBits 124 = .ok (.iadd, 1) := by decide +kernel
theorem dX7_goOverBits_125 : decode cX7_goOverBits 125 = .ok (.invokevirtual 196, 3) := by decide +kernel
theorem dX7_goOverBits_128 : decode cX7_goOverBits 128 = .ok (.istore 6, 2) := by decide +kernel
theorem dX7_goOverBits_130 : decode cX7_goOverBits 130 = .ok (.aload_n 0, 1) := by decide +kernel
theorem dX7_goOverBits_131 : decode cX7_goOverBits 131 = .ok (.getfield 58, 3) := by decide +kernel
theorem dX7_goOverBits_134 : decode cX7_goOverBits 134 = .ok (.iload_n 2, 1) := by decide +kernel
theorem dX7_goOverBits_135 : decode cX7_goOverBits 135 = .ok (.iload 5, 2) := by decide +kernel
theorem dX7_goOverBits_137 : decode cX7_goOverBits 137 = .ok (.ifCond .eq 8, 3) := by decide +kernel
theorem dX7_goOverBits_140 : decode cX7_goOverBits 140 = .ok (.iload 6, 2) := by decide +kernel
theorem dX7_goOverBits_142 : decode cX7_goOverBits 142 = .ok (.goto 12, 3) := by decide +kernel
theorem dX7_goOverBits_145 : decode cX7_goOverBits 145 = .ok (.iload 6, 2) := by decide +kernel
theorem dX7_goOverBits_147 : decode cX7_goOverBits 147 = .ok (.aload_n 0, 1) := by decide +kernel
theorem dX7_goOverBits_148 : decode cX7_goOverBits 148 = .ok (.getfield 13, 3) := by decide +kernel
theorem dX7_goOverBits_151 : decode cX7_goOverBits 151 = .ok (.iload_n 3, 1) := by decide +kernel
theorem dX7_goOverBits_152 : decode cX7_goOverBits 152 = .ok (.iaload, 1) := by decide +kernel
theorem dX7_goOverBits_153 : decode cX7_goOverBits 153 = .ok (.iadd, 1) := by decide +kernel
theorem dX7_goOverBits_154 : decode cX7_goOverBits 154 = .ok (.iastore, 1) := by decide +kernel
theorem dX7_goOverBits_155 : decode cX7_goOverBits 155 = .ok (.aload_n 0, 1) := by decide +kernel
theorem dX7_goOverBits_156 : decode cX7_goOverBits 156 = .ok (.aload_n 0, 1) := by decide +kernel
theorem dX7_goOverBits_157 : decode cX7_goOverBits 157 = .ok (.getfield 58, 3) := by decide +kernel
theorem dX7_goOverBits_160 : decode cX7_goOverBits 160 = .ok (.iload_n 2, 1) := by decide +kernel
theorem dX7_goOverBits_161 : decode cX7_goOverBits 161 = .ok (.iaload, 1) := by decide +kernel
theorem dX7_goOverBits_162 : decode cX7_goOverBits 162 = .ok (.invokevirtual 199, 3) := by decide +kernel
theorem dX7_goOverBits_165 : decode cX7_goOverBits 165 = .ok (.aload_n 0, 1) := by decide +kernel
theorem dX7_goOverBits_166 : decode cX7_goOverBits 166 = .ok (.getfield 7, 3) := by decide +kernel
theorem dX7_goOverBits_169 : decode cX7_goOverBits 169 = .ok (.iload_n 3, 1) := by decide +kernel
theorem dX7_goOverBits_170 : decode cX7_goOverBits 170 = .ok (.iaload, 1) := by decide +kernel
theorem dX7_goOverBits_171 : decode cX7_goOverBits 171 = .ok (.iconst 1, 1) := by decide +kernel
theorem dX7_goOverBits_172 : decode cX7_goOverBits 172 = .ok (.if_icmp .ne 27, 3) := by decide +kernel
theorem dX7_goOverBits_175 : decode cX7_goOverBits 175 = .ok (.iload 4, 2) := by decide +kernel
theorem dX7_goOverBits_177 : decode cX7_goOverBits 177 = .ok (.aload_n 0, 1) := by decide +kernel
theorem dX7_goOverBits_178 : decode cX7_goOverBits 178 = .ok (.getfield 58, 3) := by decide +kernel
theorem dX7_goOverBits_181 : decode cX7_goOverBits 181 = .ok (.iload_n 2, 1) := by decide +kernel
theorem dX7_goOverBits_182 : decode cX7_goOverBits 182 = .ok (.iaload, 1) := by decide +kernel
theorem dX7_goOverBits_183 : decode cX7_goOverBits 183 = .ok (.if_icmp .ge 16, 3) := by decide +kernel
theorem dX7_goOverBits_186 : decode cX7_goOverBits 186 = .ok (.aload_n 0, 1) := by decide +kernel
theorem dX7_goOverBits_187 : decode cX7_goOverBits 187 = .ok (.aload_n 0, 1) := by decide +kernel
theorem dX7_goOverBits_188 : decode cX7_goOverBits 188 = .ok (.iload_n 3, 1) := by decide +kernel
theorem dX7_goOverBits_189 : decode cX7_goOverBits 189 = .ok (.iconst 0, 1) := by decide +kernel
theorem dX7_goOverBits_190 : decode cX7_goOverBits 190 = .ok (.invokevirtual 95, 3) := by decide +kernel
theorem dX7_goOverBits_193 : decode cX7_goOverBits 193 = .ok (.invokevirtual 169, 3) := by decide +kernel
theorem dX7_goOverBits_196 : decode cX7_goOverBits 196 = .ok (.goto 41, 3) := by decide +kernel
theorem dX7_goOverBits_199 : decode cX7_goOverBits 199 = .ok (.iload 5, 2) := by decide +kernel
theorem dX7_goOverBits_201 : decode cX7_goOverBits 201 = .ok (.ifCond .eq 26, 3) := by decide +kernel
theorem dX7_goOverBits_204 : decode cX7_goOverBits 204 = .ok (.iload 4, 2) := by decide +kernel
theorem dX7_goOverBits_206 : decode cX7_goOverBits 206 = .ok (.ifCond .ne 21, 3) := by decide +kernel
theorem dX7_goOverBits_209 : decode cX7_goOverBits 209 = .ok (.aload_n 0, 1) := by decide +kernel
theorem dX7_goOverBits_210 : decode cX7_goOverBits 210 = .ok (.aload_n 0, 1) := by decide +kernel
theorem dX7_goOverBits_211 : decode cX7_goOverBits 211 = .ok (.iload_n 3, 1) := by decide +kernel
theorem dX7_goOverBits_212 : decode cX7_goOverBits 212 = .ok (.aload_n 0, 1) := by decide +kernel
theorem dX7_goOverBits_213 : decode cX7_goOverBits 213 = .ok (.getfield 58, 3) := by decide +kernel
theorem dX7_goOverBits_216 : decode cX7_goOverBits 216 = .ok (.iload_n 2, 1) := by decide +kernel
theorem dX7_goOverBits_217 : decode cX7_goOverBits 217 = .ok (.iaload, 1) := by decide +kernel
theorem dX7_goOverBits_218 : decode cX7_goOverBits 218 = .ok (.invokevirtual 95, 3) := by decide +kernel
theorem dX7_goOverBits_221 : decode cX7_goOverBits 221 = .ok (.invokevirtual 169, 3) := by decide +kernel
theorem dX7_goOverBits_224 : decode cX7_goOverBits 224 = .ok (.goto 13, 3) := by decide +kernel
theorem dX7_goOverBits_227 : decode cX7_goOverBits 227 = .ok (.aload_n 0, 1) := by decide +kernel
theorem dX7_goOverBits_228 : decode cX7_goOverBits 228 = .ok (.dup, 1) := by decide +kernel
theorem dX7_goOverBits_229 : decode cX7_goOverBits 229 = .ok (.getfield 142, 3) := by decide +kernel
theorem dX7_goOverBits_232 : decode cX7_goOverBits 232 = .ok (.iconst 1, 1) := by decide +kernel
theorem dX7_goOverBits_233 : decode cX7_goOverBits 233 = .ok (.isub, 1) := by decide +kernel
theorem dX7_goOverBits_234 : decode cX7_goOverBits 234 = .ok (.putfield 142, 3) := by decide +kernel
theorem dX7_goOverBits_237 : decode cX7_goOverBits 237 = .ok (.return_, 1) := by decide +kernel
set_option maxRecDepth 20000 in
theorem ggX7_headOfBits_X7_take : GoodIn wsX7_headOfBits wsX7_take := goodIn_r _ [10, 11, 12, 13, 14, 25, 26, 27, 28, 29, 30, 31, 32, 33, 34, 35, 36, 37, 38, 39, 40, 41, 42, 43, 44, 45, 46, 47, 48, 49, 50, 51, 52, 53, 54] (by decide +kernel) (by decide +kernel)
set_option maxRecDepth 20000 in
theorem gX7_headOfBits_X7_take : GoodIn wsX7_headOfBits (wsV RX7 183 RX7 yX7_take wsX7_take) := goodIn_app (goodIn_of _ (by decide +kernel)) ggX7_headOfBits_X7_take
set_option maxRecDepth 20000 in
theorem ggX7_headOfBits_X7_isOptional : GoodIn wsX7_headOfBits wsX7_isOptional := goodIn_r _ [18, 19, 25, 26, 27, 28, 29, 30, 31, 32, 33, 34, 35, 36, 37, 38, 39, 40, 41, 42, 43, 44, 45, 46, 47, 48, 49, 50, 51, 52, 53, 54] (by decide +kernel) (by decide +kernel)
set_option maxRecDepth 20000 in
theorem gX7_headOfBits_X7_isOptional : GoodIn wsX7_headOfBits (wsV RX7 88 RX7 yX7_isOptional wsX7_isOptional) := goodIn_app (goodIn_of _ (by decide +kernel)) ggX7_headOfBits_X7_isOptional
set_option maxRecDepth 20000 in
theorem ggX7_headOfBits_X7_note : GoodIn wsX7_headOfBits wsX7_note := goodIn_r _ [23, 24, 5, 25, 26, 27, 28, 29, 30, 31, 32, 33, 34, 35, 36, 37, 38, 39, 40, 41, 42, 43, 44, 45, 46, 47, 48, 49, 50, 51, 52, 53, 54] (by decide +kernel) (by decide +kernel)
set_option maxRecDepth 20000 in
theorem gX7_headOfBits_X7_note : GoodIn wsX7_headOfBits (wsV RX7 199 RX7 yX7_note wsX7_note) := goodIn_app (goodIn_of _ (by decide +kernel)) ggX7_headOfBits_X7_note
theorem dX7_headOfBits_0 : decode cX7_headOfBits 0 = .ok (.aload_n 0, 1) := by decide +kernel
theorem dX7_headOfBits_1 : decode cX7_headOfBits 1 = .ok (.getfield 61, 3) := by decide +kernel
theorem dX7_headOfBits_4 : decode cX7_headOfBits 4 = .ok (.iload_n 2, 1) := by decide +kernel
theorem dX7_headOfBits_5 : decode cX7_headOfBits 5 = .ok (.aload_n 0, 1) := by decide +kernel
theorem dX7_headOfBits_6 : decode cX7_headOfBits 6 = .ok (.iconst 1, 1) := by decide +kernel
theorem dX7_headOfBits_7 : decode cX7_headOfBits 7 = .ok (.invokevirtual 183, 3) := by decide +kernel
theorem dX7_headOfBits_10 : decode cX7_headOfBits 10 = .ok (.iastore, 1) := by decide +kernel
theorem dX7_headOfBits_11 : decode cX7_headOfBits 11 = .ok (.aload_n 0, 1) := by decide +kernel
theorem dX7_headOfBits_12 : decode cX7_headOfBits 12 = .ok (.getfield 58, 3) := by decide +kernel
theorem dX7_headOfBits_15 : decode cX7_headOfBits 15 = .ok (.iload_n 2, 1) := by decide +kernel
theorem dX7_headOfBits_16 : decode cX7_headOfBits 16 = .ok (.iconst 0, 1) := by decide +kernel
theorem dX7_headOfBits_17 : decode cX7_headOfBits 17 = .ok (.iastore, 1) := by decide +kernel
theorem dX7_headOfBits_18 : decode cX7_headOfBits 18 = .ok (.iconst 0, 1) := by decide +kernel
theorem dX7_headOfBits_19 : decode cX7_headOfBits 19 = .ok (.istore_n 3, 1) := by decide +kernel
theorem dX7_headOfBits_20 : decode cX7_headOfBits 20 = .ok (.iload_n 3, 1) := by decide +kernel
theorem dX7_headOfBits_21 : decode cX7_headOfBits 21 = .ok (.aload_n 0, 1) := by decide +kernel
theorem dX7_headOfBits_22 : decode cX7_headOfBits 22 = .ok (.getfield 22, 3) := by decide +kernel
theorem dX7_headOfBits_25 : decode cX7_headOfBits 25 = .ok (.iload_n 1, 1) := by decide +kernel
theorem dX7_headOfBits_26 : decode cX7_headOfBits 26 = .ok (.iaload, 1) := by decide +kernel
theorem dX7_headOfBits_27 : decode cX7_headOfBits 27 = .ok (.if_icmp .ge 57, 3) := by decide +kernel
theorem dX7_headOfBits_30 : decode cX7_headOfBits 30 = .ok (.aload_n 0, 1) := by decide +kernel
theorem dX7_headOfBits_31 : decode cX7_headOfBits 31 = .ok (.iload_n 1, 1) := by decide +kernel
theorem dX7_headOfBits_32 : decode cX7_headOfBits 32 = .ok (.iload_n 3, 1) := by decide +kernel
theorem dX7_headOfBits_33 : decode cX7_headOfBits 33 = .ok (.invokevirtual 88, 3) := by decide +kernel
theorem dX7_headOfBits_36 : decode cX7_headOfBits 36 = .ok (.istore 4, 2) := by decide +kernel
theorem dX7_headOfBits_38 : decode cX7_headOfBits 38 = .ok (.iload 4, 2) := by decide +kernel
theorem dX7_headOfBits_40 : decode cX7_headOfBits 40 = .ok (.ifCond .eq 11, 3) := by decide +kernel
theorem dX7_headOfBits_43 : decode cX7_headOfBits 43 = .ok (.aload_n 0, 1) := by decide +kernel
theorem dX7_headOfBits_44 : decode cX7_headOfBits 44 = .ok (.iconst 1, 1) := by decide +kernel
theorem dX7_headOfBits_45 : decode cX7_headOfBits 45 = .ok (.invokevirtual 183, 3) := by decide +kernel
theorem dX7_headOfBits_48 : decode cX7_headOfBits 48 = .ok (.goto 4, 3) := by decide +kernel
theorem dX7_headOfBits_51 : decode cX7_headOfBits 51 = .ok (.iconst 1, 1) := by decide +kernel
theorem dX7_headOfBits_52 : decode cX7_headOfBits 52 = .ok (.istore 5, 2) := by decide +kernel
theorem dX7_headOfBits_54 : decode cX7_headOfBits 54 = .ok (.aload_n 0, 1) := by decide +kernel
theorem dX7_headOfBits_55 : decode cX7_headOfBits 55 = .ok (.getfield 58, 3) := by decide +kernel
theorem dX7_headOfBits_58 : decode cX7_headOfBits 58 = .ok (.iload_n 2, 1) := by decide +kernel
theorem dX7_headOfBits_59 : decode cX7_headOfBits 59 = .ok (.dup2, 1) := by decide +kernel
theorem dX7_headOfBits_60 : decode cX7_headOfBits 60 = .ok (.iaload, 1) := by decide +kernel
theorem dX7_headOfBits_61 : decode cX7_headOfBits 61 = .ok (.iload 5, 2) := by decide +kernel
theorem dX7_headOfBits_63 : decode cX7_headOfBits 63 = .ok (.iload_n 3, 1) := by decide +kernel
theorem dX7_headOfBits_64 : decode cX7_headOfBits 64 = .ok (.ishl, 1) := by decide +kernel
theorem dX7_headOfBits_65 : decode cX7_headOfBits 65 = .ok (.ior, 1) := by decide +kernel
theorem dX7_headOfBits_66 : decode cX7_headOfBits 66 = .ok (.iastore, 1) := by decide +kernel
theorem dX7_headOfBits_67 : decode cX7_headOfBits 67 = .ok (.iload 4, 2) := by decide +kernel
theorem dX7_headOfBits_69 : decode cX7_headOfBits 69 = .ok (.ifCond .eq 9, 3) := by decide +kernel
theorem dX7_headOfBits_72 : decode cX7_headOfBits 72 = .ok (.aload_n 0, 1) := by decide +kernel
theorem dX7_headOfBits_73 : decode cX7_headOfBits 73 = .ok (.iload 5, 2) := by decide +kernel
theorem dX7_headOfBits_75 : decode cX7_headOfBits 75 = .ok (.invokevirtual 199, 3) := by decide +kernel
theorem dX7_headOfBits_78 : decode cX7_headOfBits 78 = .ok (.iinc 3 1, 3) := by decide +kernel
theorem dX7_headOfBits_81 : decode cX7_headOfBits 81 = .ok (.goto (-61), 3) := by decide +kernel
theorem dX7_headOfBits_84 : decode cX7_headOfBits 84 = .ok (.aload_n 0, 1) := by decide +kernel
theorem dX7_headOfBits_85 : decode cX7_headOfBits 85 = .ok (.getfield 70, 3) := by decide +kernel
theorem dX7_headOfBits_88 : decode cX7_headOfBits 88 = .ok (.iload_n 2, 1) := by decide +kernel
theorem dX7_headOfBits_89 : decode cX7_headOfBits 89 = .ok (.aload_n 0, 1) := by decide +kernel
theorem dX7_headOfBits_90 : decode cX7_headOfBits 90 = .ok (.getfield 186, 3) := by decide +kernel
theorem dX7_headOfBits_93 : decode cX7_headOfBits 93 = .ok (.iastore, 1) := by decide +kernel
theorem dX7_headOfBits_94 : decode cX7_headOfBits 94 = .ok (.aload_n 0, 1) := by decide +kernel
theorem dX7_headOfBits_95 : decode cX7_headOfBits 95 = .ok (.iconst 0, 1) := by decide +kernel
theorem dX7_headOfBits_96 : decode cX7_headOfBits 96 = .ok (.invokevirtual 199, 3) := by decide +kernel
theorem dX7_headOfBits_99 : decode cX7_headOfBits 99 = .ok (.return_, 1) := by decide +kernel
set_option maxRecDepth 20000 in
theorem ggX7_sequenceOfBits_X7_partOf : GoodIn wsX7_sequenceOfBits wsX7_partOf := goodIn_r _ [17, 18, 39, 40, 41, 42, 43, 44, 45, 46, 47, 48, 49, 50, 51, 52, 53, 54, 55, 56, 57, 58, 59, 60, 61, 62, 63, 64, 65, 66, 67, 68] (by decide +kernel) (by decide +kernel)
set_option maxRecDepth 20000 in
theorem gX7_sequenceOfBits_X7_partOf : GoodIn wsX7_sequenceOfBits (wsV RX7 95 RX7 yX7_partOf wsX7_partOf) := goodIn_app (goodIn_of _ (by decide +kernel)) ggX7_sequenceOfBits_X7_partOf
set_option maxRecDepth 20000 in
theorem ggX7_sequenceOfBits_X7_push : GoodIn wsX7_sequenceOfBits wsX7_push := goodIn_r _ [22, 23, 11, 24, 1, 39, 40, 41, 42, 43, 44, 45, 46, 47, 48, 49, 50, 51, 52, 53, 54, 55, 56, 57, 58, 59, 60, 61, 62, 63, 64, 65, 66, 67, 68] (by decide +kernel) (by decide +kernel)
set_option maxRecDepth 20000 in
theorem gX7_sequenceOfBits_X7_push : GoodIn wsX7_sequenceOfBits (wsV RX7 169 RX7 yX7_push wsX7_push) := goodIn_app (goodIn_of _ (by decide +kernel)) ggX7_sequenceOfBits_X7_push
set_option maxRecDepth 20000 in
theorem ggX7_sequenceOfBits_X7_takeBelow : GoodIn wsX7_sequenceOfBits wsX7_takeBelow := goodIn_r _ [28, 2, 4, 29, 30, 31, 16, 32, 33, 34, 39, 40, 41, 42, 43, 44, 45, 46, 47, 48, 49, 50, 51, 52, 53, 54, 55, 56, 57, 58, 59, 60, 61, 62, 63, 64, 65, 66, 67, 68] (by decide +kernel) (by decide +kernel)
set_option maxRecDepth 20000 in
theorem gX7_sequenceOfBits_X7_takeBelow : GoodIn wsX7_sequenceOfBits (wsV RX7 196 RX7 yX7_takeBelow wsX7_takeBelow) := goodIn_app (goodIn_of _ (by decide +kernel)) ggX7_sequenceOfBits_X7_takeBelow
set_option maxRecDepth 20000 in
theorem ggX7_sequenceOfBits_X7_take : GoodIn wsX7_sequenceOfBits wsX7_take := goodIn_r _ [32, 4, 2, 33, 34, 39, 40, 41, 42, 43, 44, 45, 46, 47, 48, 49, 50, 51, 52, 53, 54, 55, 56, 57, 58, 59, 60, 61, 62, 63, 64, 65, 66, 67, 68] (by decide +kernel) (by decide +kernel)
set_option maxRecDepth 20000 in
theorem gX7_sequenceOfBits_X7_take : GoodIn wsX7_sequenceOfBits (wsV RX7 183 RX7 yX7_take wsX7_take) := goodIn_app (goodIn_of _ (by decide +kernel)) ggX7_sequenceOfBits_X7_take
set_option maxRecDepth 20000 in
theorem ggX7_sequenceOfBits_X7_skip : GoodIn wsX7_sequenceOfBits wsX7_skip := goodIn_r _ [38, 4, 2, 33, 39, 40, 41, 42, 43, 44, 45, 46, 47, 48, 49, 50, 51, 52, 53, 54, 55, 56, 57, 58, 59, 60, 61, 62, 63, 64, 65, 66, 67, 68] (by decide +kernel) (by decide +kernel)
set_option maxRecDepth 20000 in
theorem gX7_sequenceOfBits_X7_skip : GoodIn wsX7_sequenceOfBits (wsV RX7 202 RX7 yX7_skip wsX7_skip) := goodIn_app (goodIn_of _ (by decide +kernel)) ggX7_sequenceOfBits_X7_skip
theorem dX7_sequenceOfBits_0 : decode cX7_sequenceOfBits 0 = .ok (.aload_n 0, 1) := by decide +kernel
theorem dX7_sequenceOfBits_1 : decode cX7_sequenceOfBits 1 = .ok (.getfield 64, 3) := by decide +kernel
theorem dX7_sequenceOfBits_4 : decode cX7_sequenceOfBits 4 = .ok (.iload_n 2, 1) := by decide +kernel
theorem dX7_sequenceOfBits_5 : decode cX7_sequenceOfBits 5 = .ok (.iaload, 1) := by decide +kernel
theorem dX7_sequenceOfBits_6 : decode cX7_sequenceOfBits 6 = .ok (.ifCond .lt 34, 3) := by decide +kernel
theorem dX7_sequenceOfBits_9 : decode cX7_sequenceOfBits 9 = .ok (.aload_n 0, 1) := by decide +kernel
theorem dX7_sequenceOfBits_10 : decode cX7_sequenceOfBits 10 = .ok (.getfield 148, 3) := by decide +kernel
theorem dX7_sequenceOfBits_13 : decode cX7_sequenceOfBits 13 = .ok (.aload_n 0, 1) := by decide +kernel
theorem dX7_sequenceOfBits_14 : decode cX7_sequenceOfBits 14 = .ok (.getfield 64, 3) := by decide +kernel
theorem dX7_sequenceOfBits_17 : decode cX7_sequenceOfBits 17 = .ok (.iload_n 2, 1) := by decide +kernel
theorem dX7_sequenceOfBits_18 : decode cX7_sequenceOfBits 18 = .ok (.iaload, 1) := by decide +kernel
theorem dX7_sequenceOfBits_19 : decode cX7_sequenceOfBits 19 = .ok (.isub, 1) := by decide +kernel
theorem dX7_sequenceOfBits_20 : decode cX7_sequenceOfBits 20 = .ok (.aload_n 0, 1) := by decide +kernel
theorem dX7_sequenceOfBits_21 : decode cX7_sequenceOfBits 21 = .ok (.getfield 67, 3) := by decide +kernel
theorem dX7_sequenceOfBits_24 : decode cX7_sequenceOfBits 24 = .ok (.iload_n 2, 1) := by decide +kernel
theorem dX7_sequenceOfBits_25 : decode cX7_sequenceOfBits 25 = .ok (.iaload, 1) := by decide +kernel
theorem dX7_sequenceOfBits_26 : decode cX7_sequenceOfBits 26 = .ok (.if_icmp .eq 14, 3) := by decide +kernel
theorem dX7_sequenceOfBits_29 : decode cX7_sequenceOfBits 29 = .ok (.aload_n 0, 1) := by decide +kernel
theorem dX7_sequenceOfBits_30 : decode cX7_sequenceOfBits 30 = .ok (.aload_n 0, 1) := by decide +kernel
theorem dX7_sequenceOfBits_31 : decode cX7_sequenceOfBits 31 = .ok (.getfield 64, 3) := by decide +kernel
theorem dX7_sequenceOfBits_34 : decode cX7_sequenceOfBits 34 = .ok (.iload_n 2, 1) := by decide +kernel
theorem dX7_sequenceOfBits_35 : decode cX7_sequenceOfBits 35 = .ok (.iaload, 1) := by decide +kernel
theorem dX7_sequenceOfBits_36 : decode cX7_sequenceOfBits 36 = .ok (.putfield 151, 3) := by decide +kernel
theorem dX7_sequenceOfBits_39 : decode cX7_sequenceOfBits 39 = .ok (.return_, 1) := by decide +kernel
theorem dX7_sequenceOfBits_40 : decode cX7_sequenceOfBits 40 = .ok (.aload_n 0, 1) := by decide +kernel
theorem dX7_sequenceOfBits_41 : decode cX7_sequenceOfBits 41 = .ok (.getfield 64, 3) := by decide +kernel
theorem dX7_sequenceOfBits_44 : decode cX7_sequenceOfBits 44 = .ok (.iload_n 2, 1) := by decide +kernel
theorem dX7_sequenceOfBits_45 : decode cX7_sequenceOfBits 45 = .ok (.iconst (-1), 1) := by decide +kernel
theorem dX7_sequenceOfBits_46 : decode cX7_sequenceOfBits 46 = .ok (.iastore, 1) := by decide +kernel
theorem dX7_sequenceOfBits_47 : decode cX7_sequenceOfBits 47 = .ok (.iload_n 3, 1) := by decide +kernel
theorem dX7_sequenceOfBits_48 : decode cX7_sequenceOfBits 48 = .ok (.aload_n 0, 1) := by decide +kernel
theorem dX7_sequenceOfBits_49 : decode cX7_sequenceOfBits 49 = .ok (.getfield 22, 3) := by decide +kernel
theorem dX7_sequenceOfBits_52 : decode cX7_sequenceOfBits 52 = .ok (.iload_n 1, 1) := by decide +kernel
theorem dX7_sequenceOfBits_53 : decode cX7_sequenceOfBits 53 = .ok (.iaload, 1) := by decide +kernel
theorem dX7_sequenceOfBits_54 : decode cX7_sequenceOfBits 54 = .ok (.if_icmp .ge 28, 3) := by decide +kernel
theorem dX7_sequenceOfBits_57 : decode cX7_sequenceOfBits 57 = .ok (.aload_n 0, 1) := by decide +kernel
theorem dX7_sequenceOfBits_58 : decode cX7_sequenceOfBits 58 = .ok (.getfield 58, 3) := by decide +kernel
theorem dX7_sequenceOfBits_61 : decode cX7_sequenceOfBits 61 = .ok (.iload_n 2, 1) := by decide +kernel
theorem dX7_sequenceOfBits_62 : decode cX7_sequenceOfBits 62 = .ok (.iaload, 1) := by decide +kernel
theorem dX7_sequenceOfBits_63 : decode cX7_sequenceOfBits 63 = .ok (.iload_n 3, 1) := by decide +kernel
theorem dX7_sequenceOfBits_64 : decode cX7_sequenceOfBits 64 = .ok (.ishr, 1) := by decide +kernel
theorem dX7_sequenceOfBits_65 : decode cX7_sequenceOfBits 65 = .ok (.iconst 1, 1) := by decide +kernel
theorem dX7_sequenceOfBits_66 : decode cX7_sequenceOfBits 66 = .ok (.iand, 1) := by decide +kernel
theorem dX7_sequenceOfBits_67 : decode cX7_sequenceOfBits 67 = .ok (.iconst 1, 1) := by decide +kernel
theorem dX7_sequenceOfBits_68 : decode cX7_sequenceOfBits 68 = .ok (.if_icmp .ne 13, 3) := by decide +kernel
theorem dX7_sequenceOfBits_71 : decode cX7_sequenceOfBits 71 = .ok (.aload_n 0, 1) := by decide +kernel
theorem dX7_sequenceOfBits_72 : decode cX7_sequenceOfBits 72 = .ok (.aload_n 0, 1) := by decide +kernel
theorem dX7_sequenceOfBits_73 : decode cX7_sequenceOfBits 73 = .ok (.iload_n 1, 1) := by decide +kernel
theorem dX7_sequenceOfBits_74 : decode cX7_sequenceOfBits 74 = .ok (.iload_n 3, 1) := by decide +kernel
theorem dX7_sequenceOfBits_75 : decode cX7_sequenceOfBits 75 = .ok (.invokevirtual 95, 3) := by decide +kernel
theorem dX7_sequenceOfBits_78 : decode cX7_sequenceOfBits 78 = .ok (.invokevirtual 169, 3) := by decide +kernel
theorem dX7_sequenceOfBits_81 : decode cX7_sequenceOfBits 81 = .ok (.return_, 1) := by decide +kernel
theorem dX7_sequenceOfBits_82 : decode cX7_sequenceOfBits 82 = .ok (.iload_n 3, 1) := by decide +kernel
theorem dX7_sequenceOfBits_83 : decode cX7_sequenceOfBits 83 = .ok (.aload_n 0, 1) := by decide +kernel
theorem dX7_sequenceOfBits_84 : decode cX7_sequenceOfBits 84 = .ok (.getfield 22, 3) := by decide +kernel
theorem dX7_sequenceOfBits_87 : decode cX7_sequenceOfBits 87 = .ok (.iload_n 1, 1) := by decide +kernel
theorem dX7_sequenceOfBits_88 : decode cX7_sequenceOfBits 88 = .ok (.iaload, 1) := by decide +kernel
theorem dX7_sequenceOfBits_89 : decode cX7_sequenceOfBits 89 = .ok (.isub, 1) := by decide +kernel
theorem dX7_sequenceOfBits_90 : decode cX7_sequenceOfBits 90 = .ok (.istore 5, 2) := by decide +kernel
theorem dX7_sequenceOfBits_92 : decode cX7_sequenceOfBits 92 = .ok (.iload 5, 2) := by decide +kernel
theorem dX7_sequenceOfBits_94 : decode cX7_sequenceOfBits 94 = .ok (.ifCond .ne 64, 3) := by decide +kernel
theorem dX7_sequenceOfBits_97 : decode cX7_sequenceOfBits 97 = .ok (.aload_n 0, 1) := by decide +kernel
theorem dX7_sequenceOfBits_98 : decode cX7_sequenceOfBits 98 = .ok (.getfield 61, 3) := by decide +kernel
theorem dX7_sequenceOfBits_101 : decode cX7_sequenceOfBits 101 = .ok (.iload_n 2, 1) := by decide +kernel
theorem dX7_sequenceOfBits_102 : decode cX7_sequenceOfBits 102 = .ok (.iaload, 1) := by decide +kernel
theorem dX7_sequenceOfBits_103 : decode cX7_sequenceOfBits 103 = .ok (.ifCond .le 55, 3) := by decide +kernel
theorem dX7_sequenceOfBits_106 : decode cX7_sequenceOfBits 106 = .ok (.aload_n 0, 1) := by decide +kernel
theorem dX7_sequenceOfBits_107 : decode cX7_sequenceOfBits 107 = .ok (.getfield 61, 3) := by decide +kernel
theorem dX7_sequenceOfBits_110 : decode cX7_sequenceOfBits 110 = .ok (.iload_n 2, 1) := by decide +kernel
theorem dX7_sequenceOfBits_111 : decode cX7_sequenceOfBits 111 = .ok (.aload_n 0, 1) := by decide +kernel
theorem dX7_sequenceOfBits_112 : decode cX7_sequenceOfBits 112 = .ok (.iconst 2, 1) := by decide +kernel
theorem dX7_sequenceOfBits_113 : decode cX7_sequenceOfBits 113 = .ok (.aload_n 0, 1) := by decide +kernel
theorem dX7_sequenceOfBits_114 : decode cX7_sequenceOfBits 114 = .ok (.getfield 28, 3) := by decide +kernel
theorem dX7_sequenceOfBits_117 : decode cX7_sequenceOfBits 117 = .ok (.iload_n 1, 1) := by decide +kernel
theorem dX7_sequenceOfBits_118 : decode cX7_sequenceOfBits 118 = .ok (.iaload, 1) := by decide +kernel
theorem dX7_sequenceOfBits_119 : decode cX7_sequenceOfBits 119 = .ok (.invokevirtual 196, 3) := by decide +kernel
theorem dX7_sequenceOfBits_122 : decode cX7_sequenceOfBits 122 = .ok (.iconst 1, 1) := by decide +kernel
theorem dX7_sequenceOfBits_123 : decode cX7_sequenceOfBits 123 = .ok (.iadd, 1) := by decide +kernel
theorem dX7_sequenceOfBits_124 : decode cX7_sequenceOfBits 124 = .ok (.iastore, 1) := by decide +kernel
theorem dX7_sequenceOfBits_125 : decode cX7_sequenceOfBits 125 = .ok (.aload_n 0, 1) := by decide +kernel
theorem dX7_sequenceOfBits_126 : decode cX7_sequenceOfBits 126 = .ok (.getfield 49, 3) := by decide +kernel
theorem dX7_sequenceOfBits_129 : decode cX7_sequenceOfBits 129 = .ok (.aload_n 0, 1) := by decide +kernel
theorem dX7_sequenceOfBits_130 : decode cX7_sequenceOfBits 130 = .ok (.getfield 70, 3) := by decide +kernel
theorem dX7_sequenceOfBits_133 : decode cX7_sequenceOfBits 133 = .ok (.iload_n 2, 1) := by decide +kernel
theorem dX7_sequenceOfBits_134 : decode cX7_sequenceOfBits 134 = .ok (.iaload, 1) := by decide +kernel
theorem dX7_sequenceOfBits_135 : decode cX7_sequenceOfBits 135 = .ok (.aload_n 0, 1) := by decide +kernel
theorem dX7_sequenceOfBits_136 : decode cX7_sequenceOfBits 136 = .ok (.getfield 61, 3) := by decide +kernel
theorem dX7_sequenceOfBits_139 : decode cX7_sequenceOfBits 139 = .ok (.iload_n 2, 1) := by decide +kernel
theorem dX7_sequenceOfBits_140 : decode cX7_sequenceOfBits 140 = .ok (.iaload, 1) := by decide +kernel
theorem dX7_sequenceOfBits_141 : decode cX7_sequenceOfBits 141 = .ok (.iload 4, 2) := by decide +kernel
theorem dX7_sequenceOfBits_143 : decode cX7_sequenceOfBits 143 = .ok (.if_icmp .ge 12, 3) := by decide +kernel
theorem dX7_sequenceOfBits_146 : decode cX7_sequenceOfBits 146 = .ok (.aload_n 0, 1) := by decide +kernel
theorem dX7_sequenceOfBits_147 : decode cX7_sequenceOfBits 147 = .ok (.getfield 61, 3) := by decide +kernel
theorem dX7_sequenceOfBits_150 : decode cX7_sequenceOfBits 150 = .ok (.iload_n 2, 1) := by decide +kernel
theorem dX7_sequenceOfBits_151 : decode cX7_sequenceOfBits 151 = .ok (.iaload, 1) := by decide +kernel
theorem dX7_sequenceOfBits_152 : decode cX7_sequenceOfBits 152 = .ok (.goto 5, 3) := by decide +kernel
theorem dX7_sequenceOfBits_155 : decode cX7_sequenceOfBits 155 = .ok (.iload 4, 2) := by decide +kernel
theorem dX7_sequenceOfBits_157 : decode cX7_sequenceOfBits 157 = .ok (.iastore, 1) := by decide +kernel
theorem dX7_sequenceOfBits_158 : decode cX7_sequenceOfBits 158 = .ok (.iload 5, 2) := by decide +kernel
theorem dX7_sequenceOfBits_160 : decode cX7_sequenceOfBits 160 = .ok (.aload_n 0, 1) := by decide +kernel
theorem dX7_sequenceOfBits_161 : decode cX7_sequenceOfBits 161 = .ok (.getfield 61, 3) := by decide +kernel
theorem dX7_sequenceOfBits_164 : decode cX7_sequenceOfBits 164 = .ok (.iload_n 2, 1) := by decide +kernel
theorem dX7_sequenceOfBits_165 : decode cX7_sequenceOfBits 165 = .ok (.iaload, 1) := by decide +kernel
theorem dX7_sequenceOfBits_166 : decode cX7_sequenceOfBits 166 = .ok (.if_icmp .ge 10, 3) := by decide +kernel
theorem dX7_sequenceOfBits_169 : decode cX7_sequenceOfBits 169 = .ok (.aload_n 0, 1) := by decide +kernel
theorem dX7_sequenceOfBits_170 : decode cX7_sequenceOfBits 170 = .ok (.getfield 151, 3) := by decide +kernel
theorem dX7_sequenceOfBits_173 : decode cX7_sequenceOfBits 173 = .ok (.ifCond .lt 14, 3) := by decide +kernel
theorem dX7_sequenceOfBits_176 : decode cX7_sequenceOfBits 176 = .ok (.aload_n 0, 1) := by decide +kernel
theorem dX7_sequenceOfBits_177 : decode cX7_sequenceOfBits 177 = .ok (.dup, 1) := by decide +kernel
theorem dX7_sequenceOfBits_178 : decode cX7_sequenceOfBits 178 = .ok (.getfield 142, 3) := by decide +kernel
theorem dX7_sequenceOfBits_181 : decode cX7_sequenceOfBits 181 = .ok (.iconst 1, 1) := by decide +kernel
theorem dX7_sequenceOfBits_182 : decode cX7_sequenceOfBits 182 = .ok (.isub, 1) := by decide +kernel
theorem dX7_sequenceOfBits_183 : decode cX7_sequenceOfBits 183 = .ok (.putfield 142, 3) := by decide +kernel
theorem dX7_sequenceOfBits_186 : decode cX7_sequenceOfBits 186 = .ok (.return_, 1) := by decide +kernel
theorem dX7_sequenceOfBits_187 : decode cX7_sequenceOfBits 187 = .ok (.aload_n 0, 1) := by decide +kernel
theorem dX7_sequenceOfBits_188 : decode cX7_sequenceOfBits 188 = .ok (.bipush 8, 2) := by decide +kernel
theorem dX7_sequenceOfBits_190 : decode cX7_sequenceOfBits 190 = .ok (.invokevirtual 183, 3) := by decide +kernel
theorem dX7_sequenceOfBits_193 : decode cX7_sequenceOfBits 193 = .ok (.istore 6, 2) := by decide +kernel
theorem dX7_sequenceOfBits_195 : decode cX7_sequenceOfBits 195 = .ok (.iload 5, 2) := by decide +kernel
theorem dX7_sequenceOfBits_197 : decode cX7_sequenceOfBits 197 = .ok (.iload 4, 2) := by decide +kernel
theorem dX7_sequenceOfBits_199 : decode cX7_sequenceOfBits 199 = .ok (.if_icmp .ge 39, 3) := by decide +kernel
theorem dX7_sequenceOfBits_202 : decode cX7_sequenceOfBits 202 = .ok (.aload_n 0, 1) := by decide +kernel
theorem dX7_sequenceOfBits_203 : decode cX7_sequenceOfBits 203 = .ok (.getfield 64, 3) := by decide +kernel
theorem dX7_sequenceOfBits_206 : decode cX7_sequenceOfBits 206 = .ok (.iload_n 2, 1) := by decide +kernel
theorem dX7_sequenceOfBits_207 : decode cX7_sequenceOfBits 207 = .ok (.aload_n 0, 1) := by decide +kernel
theorem dX7_sequenceOfBits_208 : decode cX7_sequenceOfBits 208 = .ok (.getfield 148, 3) := by decide +kernel
theorem dX7_sequenceOfBits_211 : decode cX7_sequenceOfBits 211 = .ok (.iastore, 1) := by decide +kernel
theorem dX7_sequenceOfBits_212 : decode cX7_sequenceOfBits 212 = .ok (.aload_n 0, 1) := by decide +kernel
theorem dX7_sequenceOfBits_213 : decode cX7_sequenceOfBits 213 = .ok (.getfield 67, 3) := by decide +kernel
theorem dX7_sequenceOfBits_216 : decode cX7_sequenceOfBits 216 = .ok (.iload_n 2, 1) := by decide +kernel
theorem dX7_sequenceOfBits_217 : decode cX7_sequenceOfBits 217 = .ok (.iload 6, 2) := by decide +kernel
theorem dX7_sequenceOfBits_219 : decode cX7_sequenceOfBits 219 = .ok (.iastore, 1) := by decide +kernel
theorem dX7_sequenceOfBits_220 : decode cX7_sequenceOfBits 220 = .ok (.aload_n 0, 1) := by decide +kernel
theorem dX7_sequenceOfBits_221 : decode cX7_sequenceOfBits 221 = .ok (.aload_n 0, 1) := by decide +kernel
theorem dX7_sequenceOfBits_222 : decode cX7_sequenceOfBits 222 = .ok (.getfield 25, 3) := by decide +kernel
theorem dX7_sequenceOfBits_225 : decode cX7_sequenceOfBits 225 = .ok (.iconst 3, 1) := by decide +kernel
theorem dX7_sequenceOfBits_226 : decode cX7_sequenceOfBits 226 = .ok (.iload_n 1, 1) := by decide +kernel
theorem dX7_sequenceOfBits_227 : decode cX7_sequenceOfBits 227 = .ok (.imul, 1) := by decide +kernel
theorem dX7_sequenceOfBits_228 : decode cX7_sequenceOfBits 228 = .ok (.iload 5, 2) := by decide +kernel
theorem dX7_sequenceOfBits_230 : decode cX7_sequenceOfBits 230 = .ok (.iadd, 1) := by decide +kernel
theorem dX7_sequenceOfBits_231 : decode cX7_sequenceOfBits 231 = .ok (.iaload, 1) := by decide +kernel
theorem dX7_sequenceOfBits_232 : decode cX7_sequenceOfBits 232 = .ok (.invokevirtual 169, 3) := by decide +kernel
theorem dX7_sequenceOfBits_235 : decode cX7_sequenceOfBits 235 = .ok (.goto 9, 3) := by decide +kernel
theorem dX7_sequenceOfBits_238 : decode cX7_sequenceOfBits 238 = .ok (.aload_n 0, 1) := by decide +kernel
theorem dX7_sequenceOfBits_239 : decode cX7_sequenceOfBits 239 = .ok (.iload 6, 2) := by decide +kernel
theorem dX7_sequenceOfBits_241 : decode cX7_sequenceOfBits 241 = .ok (.invokevirtual 202, 3) := by decide +kernel
theorem dX7_sequenceOfBits_244 : decode cX7_sequenceOfBits 244 = .ok (.return_, 1) := by decide +kernel
theorem dX7_skip_0 : decode cX7_skip 0 = .ok (.aload_n 0, 1) := by decide +kernel
theorem dX7_skip_1 : decode cX7_skip 1 = .ok (.getfield 151, 3) := by decide +kernel
theorem dX7_skip_4 : decode cX7_skip 4 = .ok (.ifCond .ge 24, 3) := by decide +kernel
theorem dX7_skip_7 : decode cX7_skip 7 = .ok (.aload_n 0, 1) := by decide +kernel
theorem dX7_skip_8 : decode cX7_skip 8 = .ok (.getfield 148, 3) := by decide +kernel
theorem dX7_skip_11 : decode cX7_skip 11 = .ok (.iload_n 1, 1) := by decide +kernel
theorem dX7_skip_12 : decode cX7_skip 12 = .ok (.iadd, 1) := by decide +kernel
theorem dX7_skip_13 : decode cX7_skip 13 = .ok (.aload_n 0, 1) := by decide +kernel
theorem dX7_skip_14 : decode cX7_skip 14 = .ok (.getfield 145, 3) := by decide +kernel
theorem dX7_skip_17 : decode cX7_skip 17 = .ok (.if_icmp .le 11, 3) := by decide +kernel
theorem dX7_skip_20 : decode cX7_skip 20 = .ok (.aload_n 0, 1) := by decide +kernel
theorem dX7_skip_21 : decode cX7_skip 21 = .ok (.aload_n 0, 1) := by decide +kernel
theorem dX7_skip_22 : decode cX7_skip 22 = .ok (.getfield 145, 3) := by decide +kernel
theorem dX7_skip_25 : decode cX7_skip 25 = .ok (.putfield 151, 3) := by decide +kernel
theorem dX7_skip_28 : decode cX7_skip 28 = .ok (.aload_n 0, 1) := by decide +kernel
theorem dX7_skip_29 : decode cX7_skip 29 = .ok (.dup, 1) := by decide +kernel
theorem dX7_skip_30 : decode cX7_skip 30 = .ok (.getfield 148, 3) := by decide +kernel
theorem dX7_skip_33 : decode cX7_skip 33 = .ok (.aload_n 0, 1) := by decide +kernel
theorem dX7_skip_34 : decode cX7_skip 34 = .ok (.getfield 151, 3) := by decide +kernel
theorem dX7_skip_37 : decode cX7_skip 37 = .ok (.ifCond .ge 7, 3) := by decide +kernel
theorem dX7_skip_40 : decode cX7_skip 40 = .ok (.iload_n 1, 1) := by decide +kernel
theorem dX7_skip_41 : decode cX7_skip 41 = .ok (.goto 4, 3) := by decide +kernel
theorem dX7_skip_44 : decode cX7_skip 44 = .ok (.iconst 0, 1) := by decide +kernel
theorem dX7_skip_45 : decode cX7_skip 45 = .ok (.iadd, 1) := by decide +kernel
theorem dX7_skip_46 : decode cX7_skip 46 = .ok (.putfield 148, 3) := by decide +kernel
theorem dX7_skip_49 : decode cX7_skip 49 = .ok (.return_, 1) := by decide +kernel
set_option maxRecDepth 20000 in
theorem ggX7_walkBits_X7_push : GoodIn wsX7_walkBits wsX7_push := goodIn_r _ [10, 11, 1, 12, 13, 70, 71, 72, 73, 74, 75, 76, 77, 78, 79, 80, 81, 82, 83, 84, 85, 86, 87, 88, 89, 90, 91, 92, 93, 94, 95, 96, 97, 98, 99] (by decide +kernel) (by decide +kernel)
set_option maxRecDepth 20000 in
theorem gX7_walkBits_X7_push : GoodIn wsX7_walkBits (wsV RX7 169 RX7 yX7_push wsX7_push) := goodIn_app (goodIn_of _ (by decide +kernel)) ggX7_walkBits_X7_push
set_option maxRecDepth 20000 in
theorem ggX7_walkBits_X7_goOverBits : GoodIn wsX7_walkBits wsX7_goOverBits := goodIn_r _ [17, 1, 11, 12, 18, 19, 20, 21, 22, 23, 24, 25, 9, 26, 27, 28, 4, 29, 30, 31, 32, 3, 2, 5, 33, 34, 35, 36, 37, 38, 39, 40, 41, 42, 43, 44, 45, 46, 47, 13, 48, 49, 50, 51, 52, 53, 54, 6, 7, 8, 10, 55, 56, 57, 58, 59, 60, 61, 62, 63, 64, 65, 66, 67, 68, 69, 70, 71, 72, 73, 74, 75, 76, 77, 78, 79, 80, 81, 82, 83, 84, 85, 86, 87, 88, 89, 90, 91, 92, 93, 94, 95, 96, 97, 98, 99] (by decide +kernel) (by decide +kernel)
set_option maxRecDepth 20000 in
theorem gX7_walkBits_X7_goOverBits : GoodIn wsX7_walkBits (wsV RX7 205 RX7 yX7_goOverBits wsX7_goOverBits) := goodIn_app (goodIn_of _ (by decide +kernel)) ggX7_walkBits_X7_goOverBits
theorem dX7_walkBits_0 : decode cX7_walkBits 0 = .ok (.aload_n 0, 1) := by decide +kernel
theorem dX7_walkBits_1 : decode cX7_walkBits 1 = .ok (.iconst 0, 1) := by decide +kernel
theorem dX7_walkBits_2 : decode cX7_walkBits 2 = .ok (.putfield 142, 3) := by decide +kernel
theorem dX7_walkBits_5 : decode cX7_walkBits 5 = .ok (.aload_n 0, 1) := by decide +kernel
theorem dX7_walkBits_6 : decode cX7_walkBits 6 = .ok (.iconst 0, 1) := by decide +kernel
theorem dX7_walkBits_7 : decode cX7_walkBits 7 = .ok (.putfield 148, 3) := by decide +kernel
theorem dX7_walkBits_10 : decode cX7_walkBits 10 = .ok (.aload_n 0, 1) := by decide +kernel
theorem dX7_walkBits_11 : decode cX7_walkBits 11 = .ok (.iconst (-1), 1) := by decide +kernel
theorem dX7_walkBits_12 : decode cX7_walkBits 12 = .ok (.putfield 151, 3) := by decide +kernel
theorem dX7_walkBits_15 : decode cX7_walkBits 15 = .ok (.aload_n 0, 1) := by decide +kernel
theorem dX7_walkBits_16 : decode cX7_walkBits 16 = .ok (.iconst 0, 1) := by decide +kernel
theorem dX7_walkBits_17 : decode cX7_walkBits 17 = .ok (.putfield 186, 3) := by decide +kernel
theorem dX7_walkBits_20 : decode cX7_walkBits 20 = .ok (.aload_n 0, 1) := by decide +kernel
theorem dX7_walkBits_21 : decode cX7_walkBits 21 = .ok (.iload_n 1, 1) := by decide +kernel
theorem dX7_walkBits_22 : decode cX7_walkBits 22 = .ok (.invokevirtual 169, 3) := by decide +kernel
theorem dX7_walkBits_25 : decode cX7_walkBits 25 = .ok (.aload_n 0, 1) := by decide +kernel
theorem dX7_walkBits_26 : decode cX7_walkBits 26 = .ok (.getfield 142, 3) := by decide +kernel
theorem dX7_walkBits_29 : decode cX7_walkBits 29 = .ok (.ifCond .le 18, 3) := by decide +kernel
theorem dX7_walkBits_32 : decode cX7_walkBits 32 = .ok (.aload_n 0, 1) := by decide +kernel
theorem dX7_walkBits_33 : decode cX7_walkBits 33 = .ok (.getfield 151, 3) := by decide +kernel
theorem dX7_walkBits_36 : decode cX7_walkBits 36 = .ok (.ifCond .ge 11, 3) := by decide +kernel
theorem dX7_walkBits_39 : decode cX7_walkBits 39 = .ok (.aload_n 0, 1) := by decide +kernel
theorem dX7_walkBits_40 : decode cX7_walkBits 40 = .ok (.iload_n 2, 1) := by decide +kernel
theorem dX7_walkBits_41 : decode cX7_walkBits 41 = .ok (.invokevirtual 205, 3) := by decide +kernel
theorem dX7_walkBits_44 : decode cX7_walkBits 44 = .ok (.goto (-19), 3) := by decide +kernel
theorem dX7_walkBits_47 : decode cX7_walkBits 47 = .ok (.aload_n 0, 1) := by decide +kernel
theorem dX7_walkBits_48 : decode cX7_walkBits 48 = .ok (.getfield 151, 3) := by decide +kernel
theorem dX7_walkBits_51 : decode cX7_walkBits 51 = .ok (.ifCond .lt 10, 3) := by decide +kernel
theorem dX7_walkBits_54 : decode cX7_walkBits 54 = .ok (.aload_n 0, 1) := by decide +kernel
theorem dX7_walkBits_55 : decode cX7_walkBits 55 = .ok (.getfield 151, 3) := by decide +kernel
theorem dX7_walkBits_58 : decode cX7_walkBits 58 = .ok (.goto 22, 3) := by decide +kernel
theorem dX7_walkBits_61 : decode cX7_walkBits 61 = .ok (.aload_n 0, 1) := by decide +kernel
theorem dX7_walkBits_62 : decode cX7_walkBits 62 = .ok (.getfield 148, 3) := by decide +kernel
theorem dX7_walkBits_65 : decode cX7_walkBits 65 = .ok (.aload_n 0, 1) := by decide +kernel
theorem dX7_walkBits_66 : decode cX7_walkBits 66 = .ok (.getfield 145, 3) := by decide +kernel
theorem dX7_walkBits_69 : decode cX7_walkBits 69 = .ok (.if_icmp .ge 10, 3) := by decide +kernel
theorem dX7_walkBits_72 : decode cX7_walkBits 72 = .ok (.aload_n 0, 1) := by decide +kernel
theorem dX7_walkBits_73 : decode cX7_walkBits 73 = .ok (.getfield 148, 3) := by decide +kernel
theorem dX7_walkBits_76 : decode cX7_walkBits 76 = .ok (.goto 4, 3) := by decide +kernel
theorem dX7_walkBits_79 : decode cX7_walkBits 79 = .ok (.iconst (-1), 1) := by decide +kernel
theorem dX7_walkBits_80 : decode cX7_walkBits 80 = .ok (.ireturn, 1) := by decide +kernel
set_option maxRecDepth 20000 in
theorem ggX7_read_X7_in : GoodIn wsX7_read wsX7_in := goodIn_r _ [8] (by decide +kernel) (by decide +kernel)
set_option maxRecDepth 20000 in
theorem gX7_read_X7_in : GoodIn wsX7_read (va_wsS RX7 80 yX7_in wsX7_in) := goodIn_app (goodIn_of _ (by decide +kernel)) ggX7_read_X7_in
set_option maxRecDepth 20000 in
theorem ggX7_read_X7_isType : GoodIn wsX7_read wsX7_isType := goodIn_r _ [12, 13, 5, 6, 7, 8, 89, 90, 91, 92, 93, 94, 95, 96, 97, 98, 99, 100, 101, 102, 103, 104, 105, 106, 107, 108, 109, 110, 111, 112, 113, 114, 115, 116, 117, 118] (by decide +kernel) (by decide +kernel)
set_option maxRecDepth 20000 in
theorem gX7_read_X7_isType : GoodIn wsX7_read (wsV RX7 120 RX7 yX7_isType wsX7_isType) := goodIn_app (goodIn_of _ (by decide +kernel)) ggX7_read_X7_isType
set_option maxRecDepth 20000 in
theorem ggX7_read_X7_walkBits : GoodIn wsX7_read wsX7_walkBits := goodIn_r _ [17, 18, 19, 20, 1, 21, 22, 23, 24, 7, 25, 26, 27, 28, 29, 30, 31, 32, 33, 34, 35, 36, 37, 38, 39, 40, 41, 42, 43, 44, 45, 46, 47, 48, 49, 50, 51, 52, 53, 54, 55, 56, 57, 3, 58, 59, 60, 61, 62, 63, 64, 65, 66, 67, 68, 69, 70, 71, 72, 73, 74, 75, 76, 77, 78, 79, 80, 81, 82, 83, 89, 90, 91, 92, 93, 94, 95, 96, 97, 98, 99, 100, 101, 102, 103, 104, 105, 106, 107, 108, 109, 110, 111, 112, 113, 114, 115, 116, 117, 118] (by decide +kernel) (by decide +kernel)
set_option maxRecDepth 20000 in
theorem gX7_read_X7_walkBits : GoodIn wsX7_read (wsV RX7 208 RX7 yX7_walkBits wsX7_walkBits) := goodIn_app (goodIn_of _ (by decide +kernel)) ggX7_read_X7_walkBits
set_option maxRecDepth 20000 in
theorem ggX7_read_X7_refused : GoodIn wsX7_read wsX7_refused := goodIn_r _ [87, 88, 89, 90, 91, 92, 93, 94, 95, 96, 97, 98, 99, 100, 101, 102, 103, 104, 105, 106, 107, 108, 109, 110, 111, 112, 113, 114, 115, 116, 117, 118] (by decide +kernel) (by decide +kernel)
set_option maxRecDepth 20000 in
theorem gX7_read_X7_refused : GoodIn wsX7_read (wsV RX7 109 RX7 yX7_refused wsX7_refused) := goodIn_app (goodIn_of _ (by decide +kernel)) ggX7_read_X7_refused
theorem dX7_read_0 : decode cX7_read 0 = .ok (.iload_n 2, 1) := by decide +kernel
theorem dX7_read_1 : decode cX7_read 1 = .ok (.iconst 0, 1) := by decide +kernel
theorem dX7_read_2 : decode cX7_read 2 = .ok (.iconst 3, 1) := by decide +kernel
theorem dX7_read_3 : decode cX7_read 3 = .ok (.invokestatic 80, 3) := by decide +kernel
theorem dX7_read_6 : decode cX7_read 6 = .ok (.istore_n 3, 1) := by decide +kernel
theorem dX7_read_7 : decode cX7_read 7 = .ok (.aload_n 0, 1) := by decide +kernel
theorem dX7_read_8 : decode cX7_read 8 = .ok (.aload_n 0, 1) := by decide +kernel
theorem dX7_read_9 : decode cX7_read 9 = .ok (.iload_n 1, 1) := by decide +kernel
theorem dX7_read_10 : decode cX7_read 10 = .ok (.invokevirtual 120, 3) := by decide +kernel
theorem dX7_read_13 : decode cX7_read 13 = .ok (.ifCond .ne 7, 3) := by decide +kernel
theorem dX7_read_16 : decode cX7_read 16 = .ok (.iconst 1, 1) := by decide +kernel
theorem dX7_read_17 : decode cX7_read 17 = .ok (.goto 25, 3) := by decide +kernel
theorem dX7_read_20 : decode cX7_read 20 = .ok (.iload_n 3, 1) := by decide +kernel
theorem dX7_read_21 : decode cX7_read 21 = .ok (.ifCond .ne 7, 3) := by decide +kernel
theorem dX7_read_24 : decode cX7_read 24 = .ok (.iconst 2, 1) := by decide +kernel
theorem dX7_read_25 : decode cX7_read 25 = .ok (.goto 17, 3) := by decide +kernel
theorem dX7_read_28 : decode cX7_read 28 = .ok (.aload_n 0, 1) := by decide +kernel
theorem dX7_read_29 : decode cX7_read 29 = .ok (.iload_n 1, 1) := by decide +kernel
theorem dX7_read_30 : decode cX7_read 30 = .ok (.iload_n 2, 1) := by decide +kernel
theorem dX7_read_31 : decode cX7_read 31 = .ok (.invokevirtual 208, 3) := by decide +kernel
theorem dX7_read_34 : decode cX7_read 34 = .ok (.ifCond .lt 7, 3) := by decide +kernel
theorem dX7_read_37 : decode cX7_read 37 = .ok (.iconst 3, 1) := by decide +kernel
theorem dX7_read_38 : decode cX7_read 38 = .ok (.goto 4, 3) := by decide +kernel
theorem dX7_read_41 : decode cX7_read 41 = .ok (.iconst 0, 1) := by decide +kernel
theorem dX7_read_42 : decode cX7_read 42 = .ok (.invokevirtual 109, 3) := by decide +kernel
theorem dX7_read_45 : decode cX7_read 45 = .ok (.ifCond .eq 5, 3) := by decide +kernel
theorem dX7_read_48 : decode cX7_read 48 = .ok (.iconst 0, 1) := by decide +kernel
theorem dX7_read_49 : decode cX7_read 49 = .ok (.ireturn, 1) := by decide +kernel
theorem dX7_read_50 : decode cX7_read 50 = .ok (.iconst 0, 1) := by decide +kernel
theorem dX7_read_51 : decode cX7_read 51 = .ok (.istore 4, 2) := by decide +kernel
theorem dX7_read_53 : decode cX7_read 53 = .ok (.iload 4, 2) := by decide +kernel
theorem dX7_read_55 : decode cX7_read 55 = .ok (.aload_n 0, 1) := by decide +kernel
theorem dX7_read_56 : decode cX7_read 56 = .ok (.getfield 186, 3) := by decide +kernel
theorem dX7_read_59 : decode cX7_read 59 = .ok (.if_icmp .ge 23, 3) := by decide +kernel
theorem dX7_read_62 : decode cX7_read 62 = .ok (.aload_n 0, 1) := by decide +kernel
theorem dX7_read_63 : decode cX7_read 63 = .ok (.getfield 43, 3) := by decide +kernel
theorem dX7_read_66 : decode cX7_read 66 = .ok (.iload 4, 2) := by decide +kernel
theorem dX7_read_68 : decode cX7_read 68 = .ok (.aload_n 0, 1) := by decide +kernel
theorem dX7_read_69 : decode cX7_read 69 = .ok (.getfield 49, 3) := by decide +kernel
theorem dX7_read_72 : decode cX7_read 72 = .ok (.iload 4, 2) := by decide +kernel
theorem dX7_read_74 : decode cX7_read 74 = .ok (.iaload, 1) := by decide +kernel
theorem dX7_read_75 : decode cX7_read 75 = .ok (.iastore, 1) := by decide +kernel
theorem dX7_read_76 : decode cX7_read 76 = .ok (.iinc 4 1, 3) := by decide +kernel
theorem dX7_read_79 : decode cX7_read 79 = .ok (.goto (-26), 3) := by decide +kernel
theorem dX7_read_82 : decode cX7_read 82 = .ok (.aload_n 0, 1) := by decide +kernel
theorem dX7_read_83 : decode cX7_read 83 = .ok (.aload_n 0, 1) := by decide +kernel
theorem dX7_read_84 : decode cX7_read 84 = .ok (.getfield 186, 3) := by decide +kernel
theorem dX7_read_87 : decode cX7_read 87 = .ok (.putfield 139, 3) := by decide +kernel
theorem dX7_read_90 : decode cX7_read 90 = .ok (.aload_n 0, 1) := by decide +kernel
theorem dX7_read_91 : decode cX7_read 91 = .ok (.getfield 139, 3) := by decide +kernel
theorem dX7_read_94 : decode cX7_read 94 = .ok (.ireturn, 1) := by decide +kernel
set_option maxRecDepth 20000 in
theorem ggX7_faultAt_X7_isType : GoodIn wsX7_faultAt wsX7_isType := goodIn_r _ [5, 6, 7, 8, 4, 9, 87, 88, 89, 90, 91, 92, 93, 94, 95, 96, 97, 98, 99, 100, 101, 102, 103, 104, 105, 106, 107, 108, 109, 110, 111, 112, 113, 114, 115, 116] (by decide +kernel) (by decide +kernel)
set_option maxRecDepth 20000 in
theorem gX7_faultAt_X7_isType : GoodIn wsX7_faultAt (wsV RX7 120 RX7 yX7_isType wsX7_isType) := goodIn_app (goodIn_of _ (by decide +kernel)) ggX7_faultAt_X7_isType
set_option maxRecDepth 20000 in
theorem ggX7_faultAt_X7_in : GoodIn wsX7_faultAt wsX7_in := goodIn_r _ [9] (by decide +kernel) (by decide +kernel)
set_option maxRecDepth 20000 in
theorem gX7_faultAt_X7_in : GoodIn wsX7_faultAt (va_wsS RX7 80 yX7_in wsX7_in) := goodIn_app (goodIn_of _ (by decide +kernel)) ggX7_faultAt_X7_in
set_option maxRecDepth 20000 in
theorem ggX7_faultAt_X7_refused : GoodIn wsX7_faultAt wsX7_refused := goodIn_r _ [13, 14, 87, 88, 89, 90, 91, 92, 93, 94, 95, 96, 97, 98, 99, 100, 101, 102, 103, 104, 105, 106, 107, 108, 109, 110, 111, 112, 113, 114, 115, 116] (by decide +kernel) (by decide +kernel)
set_option maxRecDepth 20000 in
theorem gX7_faultAt_X7_refused : GoodIn wsX7_faultAt (wsV RX7 109 RX7 yX7_refused wsX7_refused) := goodIn_app (goodIn_of _ (by decide +kernel)) ggX7_faultAt_X7_refused
set_option maxRecDepth 20000 in
theorem ggX7_faultAt_X7_walkBits : GoodIn wsX7_faultAt wsX7_walkBits := goodIn_r _ [18, 19, 20, 21, 22, 23, 24, 25, 26, 4, 27, 28, 29, 30, 31, 32, 33, 34, 35, 36, 37, 38, 39, 40, 41, 42, 43, 44, 45, 46, 47, 48, 49, 50, 51, 52, 53, 54, 55, 56, 57, 58, 59, 60, 61, 62, 63, 64, 65, 66, 67, 68, 69, 70, 71, 72, 73, 74, 75, 76, 77, 78, 79, 80, 81, 82, 83, 84, 85, 86, 87, 88, 89, 90, 91, 92, 93, 94, 95, 96, 97, 98, 99, 100, 101, 102, 103, 104, 105, 106, 107, 108, 109, 110, 111, 112, 113, 114, 115, 116] (by decide +kernel) (by decide +kernel)
set_option maxRecDepth 20000 in
theorem gX7_faultAt_X7_walkBits : GoodIn wsX7_faultAt (wsV RX7 208 RX7 yX7_walkBits wsX7_walkBits) := goodIn_app (goodIn_of _ (by decide +kernel)) ggX7_faultAt_X7_walkBits
theorem dX7_faultAt_0 : decode cX7_faultAt 0 = .ok (.aload_n 0, 1) := by decide +kernel
theorem dX7_faultAt_1 : decode cX7_faultAt 1 = .ok (.aload_n 0, 1) := by decide +kernel
theorem dX7_faultAt_2 : decode cX7_faultAt 2 = .ok (.iload_n 1, 1) := by decide +kernel
theorem dX7_faultAt_3 : decode cX7_faultAt 3 = .ok (.invokevirtual 120, 3) := by decide +kernel
theorem dX7_faultAt_6 : decode cX7_faultAt 6 = .ok (.ifCond .ne 7, 3) := by decide +kernel
theorem dX7_faultAt_9 : decode cX7_faultAt 9 = .ok (.iconst 1, 1) := by decide +kernel
theorem dX7_faultAt_10 : decode cX7_faultAt 10 = .ok (.goto 17, 3) := by decide +kernel
theorem dX7_faultAt_13 : decode cX7_faultAt 13 = .ok (.iload_n 2, 1) := by decide +kernel
theorem dX7_faultAt_14 : decode cX7_faultAt 14 = .ok (.iconst 0, 1) := by decide +kernel
theorem dX7_faultAt_15 : decode cX7_faultAt 15 = .ok (.iconst 3, 1) := by decide +kernel
theorem dX7_faultAt_16 : decode cX7_faultAt 16 = .ok (.invokestatic 80, 3) := by decide +kernel
theorem dX7_faultAt_19 : decode cX7_faultAt 19 = .ok (.ifCond .eq 7, 3) := by decide +kernel
theorem dX7_faultAt_22 : decode cX7_faultAt 22 = .ok (.iconst 0, 1) := by decide +kernel
theorem dX7_faultAt_23 : decode cX7_faultAt 23 = .ok (.goto 4, 3) := by decide +kernel
theorem dX7_faultAt_26 : decode cX7_faultAt 26 = .ok (.iconst 2, 1) := by decide +kernel
theorem dX7_faultAt_27 : decode cX7_faultAt 27 = .ok (.invokevirtual 109, 3) := by decide +kernel
theorem dX7_faultAt_30 : decode cX7_faultAt 30 = .ok (.ifCond .eq 7, 3) := by decide +kernel
theorem dX7_faultAt_33 : decode cX7_faultAt 33 = .ok (.iconst 0, 1) := by decide +kernel
theorem dX7_faultAt_34 : decode cX7_faultAt 34 = .ok (.goto 9, 3) := by decide +kernel
theorem dX7_faultAt_37 : decode cX7_faultAt 37 = .ok (.aload_n 0, 1) := by decide +kernel
theorem dX7_faultAt_38 : decode cX7_faultAt 38 = .ok (.iload_n 1, 1) := by decide +kernel
theorem dX7_faultAt_39 : decode cX7_faultAt 39 = .ok (.iload_n 2, 1) := by decide +kernel
theorem dX7_faultAt_40 : decode cX7_faultAt 40 = .ok (.invokevirtual 208, 3) := by decide +kernel
theorem dX7_faultAt_43 : decode cX7_faultAt 43 = .ok (.ireturn, 1) := by decide +kernel
theorem dJ9_max_7cf53_0 : decode cJ9_max_7cf53 0 = .ok (.iload_n 0, 1) := by decide +kernel
theorem dJ9_max_7cf53_1 : decode cJ9_max_7cf53 1 = .ok (.iload_n 1, 1) := by decide +kernel
theorem dJ9_max_7cf53_2 : decode cJ9_max_7cf53 2 = .ok (.if_icmp .lt 7, 3) := by decide +kernel
theorem dJ9_max_7cf53_5 : decode cJ9_max_7cf53 5 = .ok (.iload_n 0, 1) := by decide +kernel
theorem dJ9_max_7cf53_6 : decode cJ9_max_7cf53 6 = .ok (.goto 4, 3) := by decide +kernel
theorem dJ9_max_7cf53_9 : decode cJ9_max_7cf53 9 = .ok (.iload_n 1, 1) := by decide +kernel
theorem dJ9_max_7cf53_10 : decode cJ9_max_7cf53 10 = .ok (.ireturn, 1) := by decide +kernel
theorem dJ9_min_7cf53_0 : decode cJ9_min_7cf53 0 = .ok (.iload_n 0, 1) := by decide +kernel
theorem dJ9_min_7cf53_1 : decode cJ9_min_7cf53 1 = .ok (.iload_n 1, 1) := by decide +kernel
theorem dJ9_min_7cf53_2 : decode cJ9_min_7cf53 2 = .ok (.if_icmp .gt 7, 3) := by decide +kernel
theorem dJ9_min_7cf53_5 : decode cJ9_min_7cf53 5 = .ok (.iload_n 0, 1) := by decide +kernel
theorem dJ9_min_7cf53_6 : decode cJ9_min_7cf53 6 = .ok (.goto 4, 3) := by decide +kernel
theorem dJ9_min_7cf53_9 : decode cJ9_min_7cf53 9 = .ok (.iload_n 1, 1) := by decide +kernel
theorem dJ9_min_7cf53_10 : decode cJ9_min_7cf53 10 = .ok (.ireturn, 1) := by decide +kernel
set_option maxRecDepth 20000 in
theorem ggL_addNumber_X6_addNumber : GoodIn wsL_addNumber wsX6_addNumber := goodIn_ca (goodIn_ca (goodIn_r _ [7, 8, 9, 10, 11, 12, 13, 14, 15, 16, 17, 18, 6, 19, 20, 21, 22, 23, 24, 25, 26, 27, 28, 29, 30, 31, 32, 33, 34, 35, 36, 37, 38, 39, 40, 41, 42, 43, 44, 45, 46, 47, 48, 49, 50, 51, 52, 53, 54, 55, 56, 57, 58, 59, 60, 61, 62, 63, 64, 65, 66, 67, 68, 69, 70, 71, 72, 73, 74, 75, 76, 77, 78, 79, 80, 81, 82, 83, 84, 85, 86, 87, 88, 89, 90, 91, 92, 93, 94, 95, 96, 97, 98, 99, 100, 101, 102, 103, 104, 105, 106, 107, 108, 109, 110, 111, 112, 113, 114, 115, 116, 117, 118, 119, 120, 121, 122, 123, 124] (by decide +kernel) (by decide +kernel)) (goodIn_sub (fun _ h => List.mem_cons_of_mem _ (List.mem_append_left _ (List.mem_append_right _ h))) (by decide +kernel))) (goodIn_sub (fun _ h => List.mem_cons_of_mem _ (List.mem_append_right _ h)) (by decide +kernel))
set_option maxRecDepth 20000 in
theorem gL_addNumber_X6_addNumber : GoodIn wsL_addNumber (wsV RL 7 RX6 yX6_addNumber wsX6_addNumber) := goodIn_app (goodIn_of _ (by decide +kernel)) ggL_addNumber_X6_addNumber
theorem dL_addNumber_0 : decode cL_addNumber 0 = .ok (.aload_n 3, 1) := by decide +kernel
theorem dL_addNumber_1 : decode cL_addNumber 1 = .ok (.iconst 0, 1) := by decide +kernel
theorem dL_addNumber_2 : decode cL_addNumber 2 = .ok (.aload_n 0, 1) := by decide +kernel
theorem dL_addNumber_3 : decode cL_addNumber 3 = .ok (.iload_n 1, 1) := by decide +kernel
theorem dL_addNumber_4 : decode cL_addNumber 4 = .ok (.iload_n 2, 1) := by decide +kernel
theorem dL_addNumber_5 : decode cL_addNumber 5 = .ok (.invokevirtual 7, 3) := by decide +kernel
theorem dL_addNumber_8 : decode cL_addNumber 8 = .ok (.i2l, 1) := by decide +kernel
theorem dL_addNumber_9 : decode cL_addNumber 9 = .ok (.lastore, 1) := by decide +kernel
theorem dL_addNumber_10 : decode cL_addNumber 10 = .ok (.goto 11, 3) := by decide +kernel
theorem dL_addNumber_13 : decode cL_addNumber 13 = .ok (.astore 4, 2) := by decide +kernel
theorem dL_addNumber_15 : decode cL_addNumber 15 = .ok (.iconst 1, 1) := by decide +kernel
theorem dL_addNumber_16 : decode cL_addNumber 16 = .ok (.ireturn, 1) := by decide +kernel
theorem dL_addNumber_17 : decode cL_addNumber 17 = .ok (.astore 4, 2) := by decide +kernel
theorem dL_addNumber_19 : decode cL_addNumber 19 = .ok (.iconst 2, 1) := by decide +kernel
theorem dL_addNumber_20 : decode cL_addNumber 20 = .ok (.ireturn, 1) := by decide +kernel
theorem dL_addNumber_21 : decode cL_addNumber 21 = .ok (.iconst 0, 1) := by decide +kernel
theorem dL_addNumber_22 : decode cL_addNumber 22 = .ok (.ireturn, 1) := by decide +kernel
set_option maxRecDepth 20000 in
theorem ggL_addList_X6_addList : GoodIn wsL_addList wsX6_addList := goodIn_ca (goodIn_ca (goodIn_ca (goodIn_r _ [8, 9, 10, 11, 12, 13, 14, 15, 16, 17, 18, 19, 20, 7, 21, 22, 23, 24, 25, 26, 27, 28, 29, 30, 31, 32, 33, 34, 35, 36, 37, 38, 39, 40, 41, 42, 43, 44, 45, 46, 47, 48, 49, 50, 51, 52, 53, 54, 55, 56, 57, 58, 59, 60, 61, 62, 63, 64, 65, 66, 67, 68, 69, 70, 71, 72, 73, 74, 75, 76, 77, 78, 79, 80, 81, 82, 83, 84, 85, 86, 87, 88, 89, 90, 91, 92, 93, 94, 95, 96, 97, 98, 99, 100, 101, 102, 103, 104, 105, 106, 107, 108, 109, 110, 111, 112, 113, 114, 115, 116, 117, 118, 119, 120, 121, 122, 123, 124, 125, 126, 127, 128, 129, 130, 131, 132] (by decide +kernel) (by decide +kernel)) (goodIn_sub (fun _ h => List.mem_cons_of_mem _ (List.mem_append_left _ (List.mem_append_left _ (List.mem_append_right _ h)))) (by decide +kernel))) (goodIn_sub (fun _ h => List.mem_cons_of_mem _ (List.mem_append_left _ (List.mem_append_right _ h))) (by decide +kernel))) (goodIn_sub (fun _ h => List.mem_cons_of_mem _ (List.mem_append_right _ h)) (by decide +kernel))
set_option maxRecDepth 20000 in
theorem gL_addList_X6_addList : GoodIn wsL_addList (wsV RL 17 RX6 yX6_addList wsX6_addList) := goodIn_app (goodIn_of _ (by decide +kernel)) ggL_addList_X6_addList
theorem dL_addList_0 : decode cL_addList 0 = .ok (.aload 4, 2) := by decide +kernel
theorem dL_addList_2 : decode cL_addList 2 = .ok (.iconst 0, 1) := by decide +kernel
theorem dL_addList_3 : decode cL_addList 3 = .ok (.aload_n 0, 1) := by decide +kernel
theorem dL_addList_4 : decode cL_addList 4 = .ok (.iload_n 1, 1) := by decide +kernel
theorem dL_addList_5 : decode cL_addList 5 = .ok (.iload_n 2, 1) := by decide +kernel
theorem dL_addList_6 : decode cL_addList 6 = .ok (.iload_n 3, 1) := by decide +kernel
theorem dL_addList_7 : decode cL_addList 7 = .ok (.invokevirtual 17, 3) := by decide +kernel
theorem dL_addList_10 : decode cL_addList 10 = .ok (.i2l, 1) := by decide +kernel
theorem dL_addList_11 : decode cL_addList 11 = .ok (.lastore, 1) := by decide +kernel
theorem dL_addList_12 : decode cL_addList 12 = .ok (.goto 15, 3) := by decide +kernel
theorem dL_addList_15 : decode cL_addList 15 = .ok (.astore 5, 2) := by decide +kernel
theorem dL_addList_17 : decode cL_addList 17 = .ok (.iconst 1, 1) := by decide +kernel
theorem dL_addList_18 : decode cL_addList 18 = .ok (.ireturn, 1) := by decide +kernel
theorem dL_addList_19 : decode cL_addList 19 = .ok (.astore 5, 2) := by decide +kernel
theorem dL_addList_21 : decode cL_addList 21 = .ok (.iconst 2, 1) := by decide +kernel
theorem dL_addList_22 : decode cL_addList 22 = .ok (.ireturn, 1) := by decide +kernel
theorem dL_addList_23 : decode cL_addList 23 = .ok (.astore 5, 2) := by decide +kernel
theorem dL_addList_25 : decode cL_addList 25 = .ok (.iconst 3, 1) := by decide +kernel
theorem dL_addList_26 : decode cL_addList 26 = .ok (.ireturn, 1) := by decide +kernel
theorem dL_addList_27 : decode cL_addList 27 = .ok (.iconst 0, 1) := by decide +kernel
theorem dL_addList_28 : decode cL_addList 28 = .ok (.ireturn, 1) := by decide +kernel
set_option maxRecDepth 20000 in
theorem ggL_part_X6_part : GoodIn wsL_part wsX6_part := goodIn_ca (goodIn_ca (goodIn_r _ [7, 8, 9, 10, 11, 12, 13, 14, 6, 15, 16, 17, 18, 19, 20, 21, 22, 23, 24, 25, 26, 27, 28, 29, 30, 31, 32, 33, 34, 35, 36, 37, 38, 39, 40, 41, 42, 43, 44, 45, 46] (by decide +kernel) (by decide +kernel)) (goodIn_sub (fun _ h => List.mem_cons_of_mem _ (List.mem_append_left _ (List.mem_append_right _ h))) (by decide +kernel))) (goodIn_sub (fun _ h => List.mem_cons_of_mem _ (List.mem_append_right _ h)) (by decide +kernel))
set_option maxRecDepth 20000 in
theorem gL_part_X6_part : GoodIn wsL_part (wsV RL 23 RX6 yX6_part wsX6_part) := goodIn_app (goodIn_of _ (by decide +kernel)) ggL_part_X6_part
theorem dL_part_0 : decode cL_part 0 = .ok (.aload_n 3, 1) := by decide +kernel
theorem dL_part_1 : decode cL_part 1 = .ok (.iconst 0, 1) := by decide +kernel
theorem dL_part_2 : decode cL_part 2 = .ok (.aload_n 0, 1) := by decide +kernel
theorem dL_part_3 : decode cL_part 3 = .ok (.iload_n 1, 1) := by decide +kernel
theorem dL_part_4 : decode cL_part 4 = .ok (.iload_n 2, 1) := by decide +kernel
theorem dL_part_5 : decode cL_part 5 = .ok (.invokevirtual 23, 3) := by decide +kernel
theorem dL_part_8 : decode cL_part 8 = .ok (.i2l, 1) := by decide +kernel
theorem dL_part_9 : decode cL_part 9 = .ok (.lastore, 1) := by decide +kernel
theorem dL_part_10 : decode cL_part 10 = .ok (.goto 11, 3) := by decide +kernel
theorem dL_part_13 : decode cL_part 13 = .ok (.astore 4, 2) := by decide +kernel
theorem dL_part_15 : decode cL_part 15 = .ok (.iconst 1, 1) := by decide +kernel
theorem dL_part_16 : decode cL_part 16 = .ok (.ireturn, 1) := by decide +kernel
theorem dL_part_17 : decode cL_part 17 = .ok (.astore 4, 2) := by decide +kernel
theorem dL_part_19 : decode cL_part 19 = .ok (.iconst 2, 1) := by decide +kernel
theorem dL_part_20 : decode cL_part 20 = .ok (.ireturn, 1) := by decide +kernel
theorem dL_part_21 : decode cL_part 21 = .ok (.iconst 0, 1) := by decide +kernel
theorem dL_part_22 : decode cL_part 22 = .ok (.ireturn, 1) := by decide +kernel
set_option maxRecDepth 20000 in
theorem ggL_addSequence_X6_addSequence : GoodIn wsL_addSequence wsX6_addSequence := goodIn_ca (goodIn_r _ [6, 7, 8, 9, 10, 11, 12, 13, 14, 15, 16, 17, 18, 19, 20, 21, 22, 23, 24, 25, 26, 27, 28, 29, 30, 31, 32, 33, 5, 34, 35, 36, 37, 38, 39, 40, 41, 42, 43, 44, 45, 46, 47, 48, 49, 50, 51, 52, 53, 54, 55, 56, 57, 58, 59, 60, 61, 62, 63, 64, 65, 66, 67, 68, 69, 70, 71, 72, 73, 74, 75, 76, 77, 78, 79, 80, 81, 82, 83, 84, 85, 86, 87, 88, 89, 90, 91, 92, 93, 94, 95, 96, 97, 98, 99, 100, 101, 102, 103, 104, 105, 106, 107, 108, 109, 110, 111, 112, 113, 114, 115, 116, 117, 118, 119, 120, 121, 122, 123, 124] (by decide +kernel) (by decide +kernel)) (goodIn_sub (fun _ h => List.mem_cons_of_mem _ (List.mem_append_right _ h)) (by decide +kernel))
set_option maxRecDepth 20000 in
theorem gL_addSequence_X6_addSequence : GoodIn wsL_addSequence (wsV RL 27 RX6 yX6_addSequence wsX6_addSequence) := goodIn_app (goodIn_of _ (by decide +kernel)) ggL_addSequence_X6_addSequence
theorem dL_addSequence_0 : decode cL_addSequence 0 = .ok (.aload_n 1, 1) := by decide +kernel
theorem dL_addSequence_1 : decode cL_addSequence 1 = .ok (.iconst 0, 1) := by decide +kernel
theorem dL_addSequence_2 : decode cL_addSequence 2 = .ok (.aload_n 0, 1) := by decide +kernel
theorem dL_addSequence_3 : decode cL_addSequence 3 = .ok (.invokevirtual 27, 3) := by decide +kernel
theorem dL_addSequence_6 : decode cL_addSequence 6 = .ok (.i2l, 1) := by decide +kernel
theorem dL_addSequence_7 : decode cL_addSequence 7 = .ok (.lastore, 1) := by decide +kernel
theorem dL_addSequence_8 : decode cL_addSequence 8 = .ok (.goto 6, 3) := by decide +kernel
theorem dL_addSequence_11 : decode cL_addSequence 11 = .ok (.astore_n 2, 1) := by decide +kernel
theorem dL_addSequence_12 : decode cL_addSequence 12 = .ok (.iconst 1, 1) := by decide +kernel
theorem dL_addSequence_13 : decode cL_addSequence 13 = .ok (.ireturn, 1) := by decide +kernel
theorem dL_addSequence_14 : decode cL_addSequence 14 = .ok (.iconst 0, 1) := by decide +kernel
theorem dL_addSequence_15 : decode cL_addSequence 15 = .ok (.ireturn, 1) := by decide +kernel
set_option maxRecDepth 20000 in
theorem ggL_addChoice_X6_addChoice : GoodIn wsL_addChoice wsX6_addChoice := goodIn_ca (goodIn_r _ [6, 7, 8, 9, 10, 11, 12, 13, 14, 15, 16, 17, 18, 19, 20, 21, 22, 23, 24, 25, 26, 27, 28, 29, 30, 31, 32, 33, 34, 35, 36, 37, 5, 38, 39, 40, 41, 42, 43, 44, 45, 46, 47, 48, 49, 50, 51, 52, 53, 54, 55, 56, 57, 58, 59, 60, 61, 62, 63, 64, 65, 66, 67, 68, 69, 70, 71, 72, 73, 74, 75, 76, 77, 78, 79, 80, 81, 82, 83, 84, 85, 86, 87, 88, 89, 90, 91, 92, 93, 94, 95, 96, 97, 98, 99, 100, 101, 102, 103, 104, 105, 106, 107, 108, 109, 110, 111, 112, 113, 114, 115, 116, 117, 118, 119, 120, 121, 122, 123, 124] (by decide +kernel) (by decide +kernel)) (goodIn_sub (fun _ h => List.mem_cons_of_mem _ (List.mem_append_right _ h)) (by decide +kernel))
set_option maxRecDepth 20000 in
theorem gL_addChoice_X6_addChoice : GoodIn wsL_addChoice (wsV RL 31 RX6 yX6_addChoice wsX6_addChoice) := goodIn_app (goodIn_of _ (by decide +kernel)) ggL_addChoice_X6_addChoice
theorem dL_addChoice_0 : decode cL_addChoice 0 = .ok (.aload_n 1, 1) := by decide +kernel
theorem dL_addChoice_1 : decode cL_addChoice 1 = .ok (.iconst 0, 1) := by decide +kernel
theorem dL_addChoice_2 : decode cL_addChoice 2 = .ok (.aload_n 0, 1) := by decide +kernel
theorem dL_addChoice_3 : decode cL_addChoice 3 = .ok (.invokevirtual 31, 3) := by decide +kernel
theorem dL_addChoice_6 : decode cL_addChoice 6 = .ok (.i2l, 1) := by decide +kernel
theorem dL_addChoice_7 : decode cL_addChoice 7 = .ok (.lastore, 1) := by decide +kernel
theorem dL_addChoice_8 : decode cL_addChoice 8 = .ok (.goto 6, 3) := by decide +kernel
theorem dL_addChoice_11 : decode cL_addChoice 11 = .ok (.astore_n 2, 1) := by decide +kernel
theorem dL_addChoice_12 : decode cL_addChoice 12 = .ok (.iconst 1, 1) := by decide +kernel
theorem dL_addChoice_13 : decode cL_addChoice 13 = .ok (.ireturn, 1) := by decide +kernel
theorem dL_addChoice_14 : decode cL_addChoice 14 = .ok (.iconst 0, 1) := by decide +kernel
theorem dL_addChoice_15 : decode cL_addChoice 15 = .ok (.ireturn, 1) := by decide +kernel
set_option maxRecDepth 20000 in
theorem ggL_extend_X6_extend : GoodIn wsL_extend wsX6_extend := goodIn_ca (goodIn_ca (goodIn_ca (goodIn_r _ [8, 9, 10, 11, 12, 13, 14, 15, 16, 17, 7, 18, 19, 20, 21, 22, 23, 24, 25, 26, 27, 28, 29, 30, 31, 32, 33, 34, 35, 36, 37, 38, 39, 40, 41, 42, 43, 44, 45, 46, 47, 48, 49, 50, 51, 52, 53, 54, 55, 56, 57, 58, 59, 60, 61, 62, 63, 64, 65, 66, 67, 68, 69, 70, 71, 72, 73, 74, 75, 76, 77, 78, 79, 80, 81, 82, 83, 84, 85, 86, 87, 88, 89, 90, 91, 92, 93, 94, 95, 96, 97, 98, 99, 100, 101, 102, 103, 104, 105, 106, 107, 108, 109, 110, 111, 112, 113, 114] (by decide +kernel) (by decide +kernel)) (goodIn_sub (fun _ h => List.mem_cons_of_mem _ (List.mem_append_left _ (List.mem_append_left _ (List.mem_append_right _ h)))) (by decide +kernel))) (goodIn_sub (fun _ h => List.mem_cons_of_mem _ (List.mem_append_left _ (List.mem_append_right _ h))) (by decide +kernel))) (goodIn_sub (fun _ h => List.mem_cons_of_mem _ (List.mem_append_right _ h)) (by decide +kernel))
set_option maxRecDepth 20000 in
theorem gL_extend_X6_extend : GoodIn wsL_extend (wsV RL 34 RX6 yX6_extend wsX6_extend) := goodIn_app (goodIn_of _ (by decide +kernel)) ggL_extend_X6_extend
theorem dL_extend_0 : decode cL_extend 0 = .ok (.aload_n 3, 1) := by decide +kernel
theorem dL_extend_1 : decode cL_extend 1 = .ok (.iconst 0, 1) := by decide +kernel
theorem dL_extend_2 : decode cL_extend 2 = .ok (.aload_n 0, 1) := by decide +kernel
theorem dL_extend_3 : decode cL_extend 3 = .ok (.iload_n 1, 1) := by decide +kernel
theorem dL_extend_4 : decode cL_extend 4 = .ok (.iload_n 2, 1) := by decide +kernel
theorem dL_extend_5 : decode cL_extend 5 = .ok (.invokevirtual 34, 3) := by decide +kernel
theorem dL_extend_8 : decode cL_extend 8 = .ok (.i2l, 1) := by decide +kernel
theorem dL_extend_9 : decode cL_extend 9 = .ok (.lastore, 1) := by decide +kernel
theorem dL_extend_10 : decode cL_extend 10 = .ok (.goto 15, 3) := by decide +kernel
theorem dL_extend_13 : decode cL_extend 13 = .ok (.astore 4, 2) := by decide +kernel
theorem dL_extend_15 : decode cL_extend 15 = .ok (.iconst 1, 1) := by decide +kernel
theorem dL_extend_16 : decode cL_extend 16 = .ok (.ireturn, 1) := by decide +kernel
theorem dL_extend_17 : decode cL_extend 17 = .ok (.astore 4, 2) := by decide +kernel
theorem dL_extend_19 : decode cL_extend 19 = .ok (.iconst 2, 1) := by decide +kernel
theorem dL_extend_20 : decode cL_extend 20 = .ok (.ireturn, 1) := by decide +kernel
theorem dL_extend_21 : decode cL_extend 21 = .ok (.astore 4, 2) := by decide +kernel
theorem dL_extend_23 : decode cL_extend 23 = .ok (.iconst 3, 1) := by decide +kernel
theorem dL_extend_24 : decode cL_extend 24 = .ok (.ireturn, 1) := by decide +kernel
theorem dL_extend_25 : decode cL_extend 25 = .ok (.iconst 0, 1) := by decide +kernel
theorem dL_extend_26 : decode cL_extend 26 = .ok (.ireturn, 1) := by decide +kernel
set_option maxRecDepth 20000 in
theorem ggL_leastBits_X6_leastBits : GoodIn wsL_leastBits wsX6_leastBits := goodIn_ca (goodIn_r _ [6, 7, 8, 9, 5, 10, 11, 12, 13, 14, 15, 16, 17, 18, 19, 20, 21, 22, 23, 24, 25, 26, 27, 28, 29, 30, 31, 32, 33, 34, 35, 36, 37, 38, 39] (by decide +kernel) (by decide +kernel)) (goodIn_sub (fun _ h => List.mem_cons_of_mem _ (List.mem_append_right _ h)) (by decide +kernel))
set_option maxRecDepth 20000 in
theorem gL_leastBits_X6_leastBits : GoodIn wsL_leastBits (wsV RL 37 RX6 yX6_leastBits wsX6_leastBits) := goodIn_app (goodIn_of _ (by decide +kernel)) ggL_leastBits_X6_leastBits
theorem dL_leastBits_0 : decode cL_leastBits 0 = .ok (.aload_n 2, 1) := by decide +kernel
theorem dL_leastBits_1 : decode cL_leastBits 1 = .ok (.iconst 0, 1) := by decide +kernel
theorem dL_leastBits_2 : decode cL_leastBits 2 = .ok (.aload_n 0, 1) := by decide +kernel
theorem dL_leastBits_3 : decode cL_leastBits 3 = .ok (.iload_n 1, 1) := by decide +kernel
theorem dL_leastBits_4 : decode cL_leastBits 4 = .ok (.invokevirtual 37, 3) := by decide +kernel
theorem dL_leastBits_7 : decode cL_leastBits 7 = .ok (.i2l, 1) := by decide +kernel
theorem dL_leastBits_8 : decode cL_leastBits 8 = .ok (.lastore, 1) := by decide +kernel
theorem dL_leastBits_9 : decode cL_leastBits 9 = .ok (.goto 6, 3) := by decide +kernel
theorem dL_leastBits_12 : decode cL_leastBits 12 = .ok (.astore_n 3, 1) := by decide +kernel
theorem dL_leastBits_13 : decode cL_leastBits 13 = .ok (.iconst 1, 1) := by decide +kernel
theorem dL_leastBits_14 : decode cL_leastBits 14 = .ok (.ireturn, 1) := by decide +kernel
theorem dL_leastBits_15 : decode cL_leastBits 15 = .ok (.iconst 0, 1) := by decide +kernel
theorem dL_leastBits_16 : decode cL_leastBits 16 = .ok (.ireturn, 1) := by decide +kernel
set_option maxRecDepth 20000 in
theorem ggL_mostBits_X6_mostBits : GoodIn wsL_mostBits wsX6_mostBits := goodIn_ca (goodIn_r _ [6, 7, 8, 9, 5, 10, 11, 12, 13, 14, 15, 16, 17, 18, 19, 20, 21, 22, 23, 24, 25, 26, 27, 28, 29, 30, 31, 32, 33, 34, 35, 36, 37, 38, 39] (by decide +kernel) (by decide +kernel)) (goodIn_sub (fun _ h => List.mem_cons_of_mem _ (List.mem_append_right _ h)) (by decide +kernel))
set_option maxRecDepth 20000 in
theorem gL_mostBits_X6_mostBits : GoodIn wsL_mostBits (wsV RL 41 RX6 yX6_mostBits wsX6_mostBits) := goodIn_app (goodIn_of _ (by decide +kernel)) ggL_mostBits_X6_mostBits
theorem dL_mostBits_0 : decode cL_mostBits 0 = .ok (.aload_n 2, 1) := by decide +kernel
theorem dL_mostBits_1 : decode cL_mostBits 1 = .ok (.iconst 0, 1) := by decide +kernel
theorem dL_mostBits_2 : decode cL_mostBits 2 = .ok (.aload_n 0, 1) := by decide +kernel
theorem dL_mostBits_3 : decode cL_mostBits 3 = .ok (.iload_n 1, 1) := by decide +kernel
theorem dL_mostBits_4 : decode cL_mostBits 4 = .ok (.invokevirtual 41, 3) := by decide +kernel
theorem dL_mostBits_7 : decode cL_mostBits 7 = .ok (.i2l, 1) := by decide +kernel
theorem dL_mostBits_8 : decode cL_mostBits 8 = .ok (.lastore, 1) := by decide +kernel
theorem dL_mostBits_9 : decode cL_mostBits 9 = .ok (.goto 6, 3) := by decide +kernel
theorem dL_mostBits_12 : decode cL_mostBits 12 = .ok (.astore_n 3, 1) := by decide +kernel
theorem dL_mostBits_13 : decode cL_mostBits 13 = .ok (.iconst 1, 1) := by decide +kernel
theorem dL_mostBits_14 : decode cL_mostBits 14 = .ok (.ireturn, 1) := by decide +kernel
theorem dL_mostBits_15 : decode cL_mostBits 15 = .ok (.iconst 0, 1) := by decide +kernel
theorem dL_mostBits_16 : decode cL_mostBits 16 = .ok (.ireturn, 1) := by decide +kernel
set_option maxRecDepth 20000 in
theorem ggL_tell_X6_tell : GoodIn wsL_tell wsX6_tell := goodIn_ca (goodIn_ca (goodIn_r _ [7, 8, 9, 10, 11, 12, 13, 14, 6, 15, 16, 17, 18, 19, 20, 21, 22, 23, 24, 25, 26, 27, 28, 29, 30, 31, 32, 33, 34, 35, 36, 37, 38, 39] (by decide +kernel) (by decide +kernel)) (goodIn_sub (fun _ h => List.mem_cons_of_mem _ (List.mem_append_left _ (List.mem_append_right _ h))) (by decide +kernel))) (goodIn_sub (fun _ h => List.mem_cons_of_mem _ (List.mem_append_right _ h)) (by decide +kernel))
set_option maxRecDepth 20000 in
theorem gL_tell_X6_tell : GoodIn wsL_tell (wsV RL 44 RX6 yX6_tell wsX6_tell) := goodIn_app (goodIn_of _ (by decide +kernel)) ggL_tell_X6_tell
theorem dL_tell_0 : decode cL_tell 0 = .ok (.aload_n 2, 1) := by decide +kernel
theorem dL_tell_1 : decode cL_tell 1 = .ok (.iconst 0, 1) := by decide +kernel
theorem dL_tell_2 : decode cL_tell 2 = .ok (.aload_n 0, 1) := by decide +kernel
theorem dL_tell_3 : decode cL_tell 3 = .ok (.iload_n 1, 1) := by decide +kernel
theorem dL_tell_4 : decode cL_tell 4 = .ok (.invokevirtual 44, 3) := by decide +kernel
theorem dL_tell_7 : decode cL_tell 7 = .ok (.i2l, 1) := by decide +kernel
theorem dL_tell_8 : decode cL_tell 8 = .ok (.lastore, 1) := by decide +kernel
theorem dL_tell_9 : decode cL_tell 9 = .ok (.goto 9, 3) := by decide +kernel
theorem dL_tell_12 : decode cL_tell 12 = .ok (.astore_n 3, 1) := by decide +kernel
theorem dL_tell_13 : decode cL_tell 13 = .ok (.iconst 1, 1) := by decide +kernel
theorem dL_tell_14 : decode cL_tell 14 = .ok (.ireturn, 1) := by decide +kernel
theorem dL_tell_15 : decode cL_tell 15 = .ok (.astore_n 3, 1) := by decide +kernel
theorem dL_tell_16 : decode cL_tell 16 = .ok (.iconst 2, 1) := by decide +kernel
theorem dL_tell_17 : decode cL_tell 17 = .ok (.ireturn, 1) := by decide +kernel
theorem dL_tell_18 : decode cL_tell 18 = .ok (.iconst 0, 1) := by decide +kernel
theorem dL_tell_19 : decode cL_tell 19 = .ok (.ireturn, 1) := by decide +kernel
set_option maxRecDepth 20000 in
theorem ggL_told_X6_told : GoodIn wsL_told wsX6_told := goodIn_ca (goodIn_r _ [6, 7, 8, 9, 10, 11, 12, 13, 14, 15, 16, 17, 18, 19, 20, 21, 22, 23, 24, 25, 26, 27, 28, 29, 30] (by decide +kernel) (by decide +kernel)) (goodIn_sub (fun _ h => List.mem_cons_of_mem _ (List.mem_append_right _ h)) (by decide +kernel))
set_option maxRecDepth 20000 in
theorem gL_told_X6_told : GoodIn wsL_told (wsV RL 47 RX6 yX6_told wsX6_told) := goodIn_app (goodIn_of _ (by decide +kernel)) ggL_told_X6_told
theorem dL_told_0 : decode cL_told 0 = .ok (.aload_n 2, 1) := by decide +kernel
theorem dL_told_1 : decode cL_told 1 = .ok (.iconst 0, 1) := by decide +kernel
theorem dL_told_2 : decode cL_told 2 = .ok (.aload_n 0, 1) := by decide +kernel
theorem dL_told_3 : decode cL_told 3 = .ok (.iload_n 1, 1) := by decide +kernel
theorem dL_told_4 : decode cL_told 4 = .ok (.invokevirtual 47, 3) := by decide +kernel
theorem dL_told_7 : decode cL_told 7 = .ok (.i2l, 1) := by decide +kernel
theorem dL_told_8 : decode cL_told 8 = .ok (.lastore, 1) := by decide +kernel
theorem dL_told_9 : decode cL_told 9 = .ok (.goto 6, 3) := by decide +kernel
theorem dL_told_12 : decode cL_told 12 = .ok (.astore_n 3, 1) := by decide +kernel
theorem dL_told_13 : decode cL_told 13 = .ok (.iconst 1, 1) := by decide +kernel
theorem dL_told_14 : decode cL_told 14 = .ok (.ireturn, 1) := by decide +kernel
theorem dL_told_15 : decode cL_told 15 = .ok (.iconst 0, 1) := by decide +kernel
theorem dL_told_16 : decode cL_told 16 = .ok (.ireturn, 1) := by decide +kernel
set_option maxRecDepth 20000 in
theorem ggL_wrongAt_X6_wrongAt : GoodIn wsL_wrongAt wsX6_wrongAt := goodIn_ca (goodIn_r _ [6, 7, 8, 9, 10, 11, 5, 12, 13, 14, 15, 16, 17, 18, 19, 20, 21, 22, 23, 24, 25, 26, 27, 28, 29, 30, 31, 32, 33, 34, 35, 36, 37, 38, 39, 40, 41, 42, 43, 44, 45, 46, 47, 48, 49, 50, 51, 52, 53, 54, 55, 56, 57, 58, 59, 60, 61, 62, 63, 64, 65, 66, 67, 68, 69, 70, 71, 72, 73, 74, 75, 76, 77, 78, 79, 80, 81, 82, 83, 84, 85, 86, 87, 88, 89, 90, 91, 92, 93, 94, 95, 96, 97, 98, 99, 100, 101, 102, 103, 104, 105, 106, 107, 108, 109, 110, 111, 112, 113, 114, 115, 116, 117, 118, 119, 120, 121, 122] (by decide +kernel) (by decide +kernel)) (goodIn_sub (fun _ h => List.mem_cons_of_mem _ (List.mem_append_right _ h)) (by decide +kernel))
set_option maxRecDepth 20000 in
theorem gL_wrongAt_X6_wrongAt : GoodIn wsL_wrongAt (wsV RL 50 RX6 yX6_wrongAt wsX6_wrongAt) := goodIn_app (goodIn_of _ (by decide +kernel)) ggL_wrongAt_X6_wrongAt
theorem dL_wrongAt_0 : decode cL_wrongAt 0 = .ok (.aload_n 2, 1) := by decide +kernel
theorem dL_wrongAt_1 : decode cL_wrongAt 1 = .ok (.iconst 0, 1) := by decide +kernel
theorem dL_wrongAt_2 : decode cL_wrongAt 2 = .ok (.aload_n 0, 1) := by decide +kernel
theorem dL_wrongAt_3 : decode cL_wrongAt 3 = .ok (.iload_n 1, 1) := by decide +kernel
theorem dL_wrongAt_4 : decode cL_wrongAt 4 = .ok (.invokevirtual 50, 3) := by decide +kernel
theorem dL_wrongAt_7 : decode cL_wrongAt 7 = .ok (.i2l, 1) := by decide +kernel
theorem dL_wrongAt_8 : decode cL_wrongAt 8 = .ok (.lastore, 1) := by decide +kernel
theorem dL_wrongAt_9 : decode cL_wrongAt 9 = .ok (.goto 6, 3) := by decide +kernel
theorem dL_wrongAt_12 : decode cL_wrongAt 12 = .ok (.astore_n 3, 1) := by decide +kernel
theorem dL_wrongAt_13 : decode cL_wrongAt 13 = .ok (.iconst 1, 1) := by decide +kernel
theorem dL_wrongAt_14 : decode cL_wrongAt 14 = .ok (.ireturn, 1) := by decide +kernel
theorem dL_wrongAt_15 : decode cL_wrongAt 15 = .ok (.iconst 0, 1) := by decide +kernel
theorem dL_wrongAt_16 : decode cL_wrongAt 16 = .ok (.ireturn, 1) := by decide +kernel
set_option maxRecDepth 20000 in
theorem ggL_write_X6_write : GoodIn wsL_write wsX6_write := goodIn_ca (goodIn_ca (goodIn_r _ [7, 8, 9, 10, 11, 12, 13, 14, 15, 6, 16, 17, 18, 19, 20, 21, 22, 23, 24, 25, 26, 27, 28, 29, 30, 31, 32, 33, 34, 35, 36, 37, 38, 39, 40, 41, 42, 43, 44, 45, 46, 47, 48, 49, 50, 51, 52, 53, 54, 55, 56, 57, 58, 59, 60, 61, 62, 63, 64, 65, 66, 67, 68, 69, 70, 71, 72, 73, 74, 75, 76, 77, 78, 79, 80, 81, 82, 83, 84, 85, 86, 87, 88, 89, 90, 91, 92, 93, 94, 95, 96, 97, 98, 99, 100, 101, 102, 103, 104, 105, 106, 107, 108, 109, 110, 111, 112, 113, 114, 115, 116, 117, 118, 119, 120, 121, 122, 123, 124, 125, 126, 127, 128, 129, 130, 131, 132, 133, 134, 135] (by decide +kernel) (by decide +kernel)) (goodIn_sub (fun _ h => List.mem_cons_of_mem _ (List.mem_append_left _ (List.mem_append_right _ h))) (by decide +kernel))) (goodIn_sub (fun _ h => List.mem_cons_of_mem _ (List.mem_append_right _ h)) (by decide +kernel))
set_option maxRecDepth 20000 in
theorem gL_write_X6_write : GoodIn wsL_write (wsV RL 53 RX6 yX6_write wsX6_write) := goodIn_app (goodIn_of _ (by decide +kernel)) ggL_write_X6_write
theorem dL_write_0 : decode cL_write 0 = .ok (.aload_n 2, 1) := by decide +kernel
theorem dL_write_1 : decode cL_write 1 = .ok (.iconst 0, 1) := by decide +kernel
theorem dL_write_2 : decode cL_write 2 = .ok (.aload_n 0, 1) := by decide +kernel
theorem dL_write_3 : decode cL_write 3 = .ok (.iload_n 1, 1) := by decide +kernel
theorem dL_write_4 : decode cL_write 4 = .ok (.invokevirtual 53, 3) := by decide +kernel
theorem dL_write_7 : decode cL_write 7 = .ok (.i2l, 1) := by decide +kernel
theorem dL_write_8 : decode cL_write 8 = .ok (.lastore, 1) := by decide +kernel
theorem dL_write_9 : decode cL_write 9 = .ok (.goto 9, 3) := by decide +kernel
theorem dL_write_12 : decode cL_write 12 = .ok (.astore_n 3, 1) := by decide +kernel
theorem dL_write_13 : decode cL_write 13 = .ok (.iconst 1, 1) := by decide +kernel
theorem dL_write_14 : decode cL_write 14 = .ok (.ireturn, 1) := by decide +kernel
theorem dL_write_15 : decode cL_write 15 = .ok (.astore_n 3, 1) := by decide +kernel
theorem dL_write_16 : decode cL_write 16 = .ok (.iconst 2, 1) := by decide +kernel
theorem dL_write_17 : decode cL_write 17 = .ok (.ireturn, 1) := by decide +kernel
theorem dL_write_18 : decode cL_write 18 = .ok (.iconst 0, 1) := by decide +kernel
theorem dL_write_19 : decode cL_write 19 = .ok (.ireturn, 1) := by decide +kernel
set_option maxRecDepth 20000 in
theorem ggL_bit_X6_bit : GoodIn wsL_bit wsX6_bit := goodIn_ca (goodIn_r _ [6, 7, 8, 9, 10, 11, 12, 13, 14, 15, 16, 17, 18, 19, 20, 21, 22, 23, 24, 25, 26, 27, 28, 29, 30] (by decide +kernel) (by decide +kernel)) (goodIn_sub (fun _ h => List.mem_cons_of_mem _ (List.mem_append_right _ h)) (by decide +kernel))
set_option maxRecDepth 20000 in
theorem gL_bit_X6_bit : GoodIn wsL_bit (wsV RL 56 RX6 yX6_bit wsX6_bit) := goodIn_app (goodIn_of _ (by decide +kernel)) ggL_bit_X6_bit
theorem dL_bit_0 : decode cL_bit 0 = .ok (.aload_n 2, 1) := by decide +kernel
theorem dL_bit_1 : decode cL_bit 1 = .ok (.iconst 0, 1) := by decide +kernel
theorem dL_bit_2 : decode cL_bit 2 = .ok (.aload_n 0, 1) := by decide +kernel
theorem dL_bit_3 : decode cL_bit 3 = .ok (.iload_n 1, 1) := by decide +kernel
theorem dL_bit_4 : decode cL_bit 4 = .ok (.invokevirtual 56, 3) := by decide +kernel
theorem dL_bit_7 : decode cL_bit 7 = .ok (.i2l, 1) := by decide +kernel
theorem dL_bit_8 : decode cL_bit 8 = .ok (.lastore, 1) := by decide +kernel
theorem dL_bit_9 : decode cL_bit 9 = .ok (.goto 6, 3) := by decide +kernel
theorem dL_bit_12 : decode cL_bit 12 = .ok (.astore_n 3, 1) := by decide +kernel
theorem dL_bit_13 : decode cL_bit 13 = .ok (.iconst 1, 1) := by decide +kernel
theorem dL_bit_14 : decode cL_bit 14 = .ok (.ireturn, 1) := by decide +kernel
theorem dL_bit_15 : decode cL_bit 15 = .ok (.iconst 0, 1) := by decide +kernel
theorem dL_bit_16 : decode cL_bit 16 = .ok (.ireturn, 1) := by decide +kernel
set_option maxRecDepth 20000 in
theorem ggL_flip_X6_flip : GoodIn wsL_flip wsX6_flip := goodIn_ca (goodIn_r _ [6, 7, 8, 9, 10, 11, 12, 13, 14, 15, 16, 17, 18, 19, 20, 21, 22, 23, 24, 25, 26, 27, 28, 29, 30, 31, 32, 33, 34] (by decide +kernel) (by decide +kernel)) (goodIn_sub (fun _ h => List.mem_cons_of_mem _ (List.mem_append_right _ h)) (by decide +kernel))
set_option maxRecDepth 20000 in
theorem gL_flip_X6_flip : GoodIn wsL_flip (wsV RL 59 RX6 yX6_flip wsX6_flip) := goodIn_app (goodIn_of _ (by decide +kernel)) ggL_flip_X6_flip
theorem dL_flip_0 : decode cL_flip 0 = .ok (.aload_n 2, 1) := by decide +kernel
theorem dL_flip_1 : decode cL_flip 1 = .ok (.iconst 0, 1) := by decide +kernel
theorem dL_flip_2 : decode cL_flip 2 = .ok (.aload_n 0, 1) := by decide +kernel
theorem dL_flip_3 : decode cL_flip 3 = .ok (.iload_n 1, 1) := by decide +kernel
theorem dL_flip_4 : decode cL_flip 4 = .ok (.invokevirtual 59, 3) := by decide +kernel
theorem dL_flip_7 : decode cL_flip 7 = .ok (.i2l, 1) := by decide +kernel
theorem dL_flip_8 : decode cL_flip 8 = .ok (.lastore, 1) := by decide +kernel
theorem dL_flip_9 : decode cL_flip 9 = .ok (.goto 6, 3) := by decide +kernel
theorem dL_flip_12 : decode cL_flip 12 = .ok (.astore_n 3, 1) := by decide +kernel
theorem dL_flip_13 : decode cL_flip 13 = .ok (.iconst 1, 1) := by decide +kernel
theorem dL_flip_14 : decode cL_flip 14 = .ok (.ireturn, 1) := by decide +kernel
theorem dL_flip_15 : decode cL_flip 15 = .ok (.iconst 0, 1) := by decide +kernel
theorem dL_flip_16 : decode cL_flip 16 = .ok (.ireturn, 1) := by decide +kernel
set_option maxRecDepth 20000 in
theorem ggL_cut_X6_cut : GoodIn wsL_cut wsX6_cut := goodIn_ca (goodIn_r _ [6, 7, 8, 9, 10, 11, 12, 13, 14, 15, 16, 17, 5, 18, 19, 20, 21, 22, 23, 24, 25, 26, 27, 28, 29, 30, 31] (by decide +kernel) (by decide +kernel)) (goodIn_sub (fun _ h => List.mem_cons_of_mem _ (List.mem_append_right _ h)) (by decide +kernel))
set_option maxRecDepth 20000 in
theorem gL_cut_X6_cut : GoodIn wsL_cut (wsV RL 62 RX6 yX6_cut wsX6_cut) := goodIn_app (goodIn_of _ (by decide +kernel)) ggL_cut_X6_cut
theorem dL_cut_0 : decode cL_cut 0 = .ok (.aload_n 2, 1) := by decide +kernel
theorem dL_cut_1 : decode cL_cut 1 = .ok (.iconst 0, 1) := by decide +kernel
theorem dL_cut_2 : decode cL_cut 2 = .ok (.aload_n 0, 1) := by decide +kernel
theorem dL_cut_3 : decode cL_cut 3 = .ok (.iload_n 1, 1) := by decide +kernel
theorem dL_cut_4 : decode cL_cut 4 = .ok (.invokevirtual 62, 3) := by decide +kernel
theorem dL_cut_7 : decode cL_cut 7 = .ok (.i2l, 1) := by decide +kernel
theorem dL_cut_8 : decode cL_cut 8 = .ok (.lastore, 1) := by decide +kernel
theorem dL_cut_9 : decode cL_cut 9 = .ok (.goto 6, 3) := by decide +kernel
theorem dL_cut_12 : decode cL_cut 12 = .ok (.astore_n 3, 1) := by decide +kernel
theorem dL_cut_13 : decode cL_cut 13 = .ok (.iconst 1, 1) := by decide +kernel
theorem dL_cut_14 : decode cL_cut 14 = .ok (.ireturn, 1) := by decide +kernel
theorem dL_cut_15 : decode cL_cut 15 = .ok (.iconst 0, 1) := by decide +kernel
theorem dL_cut_16 : decode cL_cut 16 = .ok (.ireturn, 1) := by decide +kernel
set_option maxRecDepth 20000 in
theorem ggL_read_X6_read : GoodIn wsL_read wsX6_read := goodIn_ca (goodIn_ca (goodIn_ca (goodIn_r _ [8, 9, 10, 11, 12, 13, 14, 15, 7, 16, 17, 18, 19, 20, 21, 22, 23, 24, 25, 26, 27, 28, 29, 30, 31, 32, 33, 34, 35, 36, 37, 38, 39, 40, 41, 42, 43, 44, 45, 46, 47, 48, 49, 50, 51, 52, 53, 54, 55, 56, 57, 58, 59, 60, 61, 62, 63, 64, 65, 66, 67, 68, 69, 70, 71, 72, 73, 74, 75, 76, 77, 78, 79, 80, 81, 82, 83, 84, 85, 86, 87, 88, 89, 90, 91, 92, 93, 94, 95, 96, 97, 98, 99, 100, 101, 102, 103, 104, 105, 106, 107, 108, 109, 110, 111, 112, 113, 114, 115, 116, 117, 118, 119, 120, 121, 122, 123, 124, 125, 126, 127, 128, 129, 130, 131, 132, 133, 134, 135, 136, 137, 138, 139, 140, 141, 142, 143, 144, 145, 146, 147, 148, 149, 150, 151, 152] (by decide +kernel) (by decide +kernel)) (goodIn_sub (fun _ h => List.mem_cons_of_mem _ (List.mem_append_left _ (List.mem_append_left _ (List.mem_append_right _ h)))) (by decide +kernel))) (goodIn_sub (fun _ h => List.mem_cons_of_mem _ (List.mem_append_left _ (List.mem_append_right _ h))) (by decide +kernel))) (goodIn_sub (fun _ h => List.mem_cons_of_mem _ (List.mem_append_right _ h)) (by decide +kernel))
set_option maxRecDepth 20000 in
theorem gL_read_X6_read : GoodIn wsL_read (wsV RL 65 RX6 yX6_read wsX6_read) := goodIn_app (goodIn_of _ (by decide +kernel)) ggL_read_X6_read
theorem dL_read_0 : decode cL_read 0 = .ok (.aload_n 3, 1) := by decide +kernel
theorem dL_read_1 : decode cL_read 1 = .ok (.iconst 0, 1) := by decide +kernel
theorem dL_read_2 : decode cL_read 2 = .ok (.aload_n 0, 1) := by decide +kernel
theorem dL_read_3 : decode cL_read 3 = .ok (.iload_n 1, 1) := by decide +kernel
theorem dL_read_4 : decode cL_read 4 = .ok (.iload_n 2, 1) := by decide +kernel
theorem dL_read_5 : decode cL_read 5 = .ok (.invokevirtual 65, 3) := by decide +kernel
theorem dL_read_8 : decode cL_read 8 = .ok (.i2l, 1) := by decide +kernel
theorem dL_read_9 : decode cL_read 9 = .ok (.lastore, 1) := by decide +kernel
theorem dL_read_10 : decode cL_read 10 = .ok (.goto 15, 3) := by decide +kernel
theorem dL_read_13 : decode cL_read 13 = .ok (.astore 4, 2) := by decide +kernel
theorem dL_read_15 : decode cL_read 15 = .ok (.iconst 1, 1) := by decide +kernel
theorem dL_read_16 : decode cL_read 16 = .ok (.ireturn, 1) := by decide +kernel
theorem dL_read_17 : decode cL_read 17 = .ok (.astore 4, 2) := by decide +kernel
theorem dL_read_19 : decode cL_read 19 = .ok (.iconst 2, 1) := by decide +kernel
theorem dL_read_20 : decode cL_read 20 = .ok (.ireturn, 1) := by decide +kernel
theorem dL_read_21 : decode cL_read 21 = .ok (.astore 4, 2) := by decide +kernel
theorem dL_read_23 : decode cL_read 23 = .ok (.iconst 3, 1) := by decide +kernel
theorem dL_read_24 : decode cL_read 24 = .ok (.ireturn, 1) := by decide +kernel
theorem dL_read_25 : decode cL_read 25 = .ok (.iconst 0, 1) := by decide +kernel
theorem dL_read_26 : decode cL_read 26 = .ok (.ireturn, 1) := by decide +kernel
set_option maxRecDepth 20000 in
theorem ggL_faultAt_X6_faultAt : GoodIn wsL_faultAt wsX6_faultAt := goodIn_ca (goodIn_ca (goodIn_r _ [7, 8, 9, 10, 6, 11, 12, 13, 14, 15, 16, 17, 18, 19, 20, 21, 22, 23, 24, 25, 26, 27, 28, 29, 30, 31, 32, 33, 34, 35, 36, 37, 38, 39, 40, 41, 42, 43, 44, 45, 46, 47, 48, 49, 50, 51, 52, 53, 54, 55, 56, 57, 58, 59, 60, 61, 62, 63, 64, 65, 66, 67, 68, 69, 70, 71, 72, 73, 74, 75, 76, 77, 78, 79, 80, 81, 82, 83, 84, 85, 86, 87, 88, 89, 90, 91, 92, 93, 94, 95, 96, 97, 98, 99, 100, 101, 102, 103, 104, 105, 106, 107, 108, 109, 110, 111, 112, 113, 114, 115, 116, 117, 118, 119, 120, 121, 122, 123, 124, 125, 126, 127, 128, 129, 130, 131, 132, 133, 134, 135, 136, 137, 138, 139] (by decide +kernel) (by decide +kernel)) (goodIn_sub (fun _ h => List.mem_cons_of_mem _ (List.mem_append_left _ (List.mem_append_right _ h))) (by decide +kernel))) (goodIn_sub (fun _ h => List.mem_cons_of_mem _ (List.mem_append_right _ h)) (by decide +kernel))
set_option maxRecDepth 20000 in
theorem gL_faultAt_X6_faultAt : GoodIn wsL_faultAt (wsV RL 68 RX6 yX6_faultAt wsX6_faultAt) := goodIn_app (goodIn_of _ (by decide +kernel)) ggL_faultAt_X6_faultAt
theorem dL_faultAt_0 : decode cL_faultAt 0 = .ok (.aload_n 3, 1) := by decide +kernel
theorem dL_faultAt_1 : decode cL_faultAt 1 = .ok (.iconst 0, 1) := by decide +kernel
theorem dL_faultAt_2 : decode cL_faultAt 2 = .ok (.aload_n 0, 1) := by decide +kernel
theorem dL_faultAt_3 : decode cL_faultAt 3 = .ok (.iload_n 1, 1) := by decide +kernel
theorem dL_faultAt_4 : decode cL_faultAt 4 = .ok (.iload_n 2, 1) := by decide +kernel
theorem dL_faultAt_5 : decode cL_faultAt 5 = .ok (.invokevirtual 68, 3) := by decide +kernel
theorem dL_faultAt_8 : decode cL_faultAt 8 = .ok (.i2l, 1) := by decide +kernel
theorem dL_faultAt_9 : decode cL_faultAt 9 = .ok (.lastore, 1) := by decide +kernel
theorem dL_faultAt_10 : decode cL_faultAt 10 = .ok (.goto 11, 3) := by decide +kernel
theorem dL_faultAt_13 : decode cL_faultAt 13 = .ok (.astore 4, 2) := by decide +kernel
theorem dL_faultAt_15 : decode cL_faultAt 15 = .ok (.iconst 1, 1) := by decide +kernel
theorem dL_faultAt_16 : decode cL_faultAt 16 = .ok (.ireturn, 1) := by decide +kernel
theorem dL_faultAt_17 : decode cL_faultAt 17 = .ok (.astore 4, 2) := by decide +kernel
theorem dL_faultAt_19 : decode cL_faultAt 19 = .ok (.iconst 2, 1) := by decide +kernel
theorem dL_faultAt_20 : decode cL_faultAt 20 = .ok (.ireturn, 1) := by decide +kernel
theorem dL_faultAt_21 : decode cL_faultAt 21 = .ok (.iconst 0, 1) := by decide +kernel
theorem dL_faultAt_22 : decode cL_faultAt 22 = .ok (.ireturn, 1) := by decide +kernel
set_option maxRecDepth 20000 in
theorem ggL_law_X6_init : GoodIn wsL_law wsX6_init := goodIn_r _ [9, 10, 11, 12, 13, 14, 15, 16, 17, 18, 19, 20, 21, 22, 23, 24, 25, 26, 27, 28, 29, 30, 31, 32, 33, 34, 35, 36, 37, 38, 39, 40, 41, 42, 43, 44, 45, 46, 47, 48, 49, 50, 51, 52, 53, 54, 55, 56, 57, 58, 59, 60, 61, 62, 63, 64, 65, 66, 67, 722, 723, 685, 686, 687, 688, 689, 690, 691, 724, 725, 726, 727, 728, 729, 730, 731, 732] (by decide +kernel) (by decide +kernel)
set_option maxRecDepth 20000 in
theorem gL_law_X6_init : GoodIn wsL_law (wsX6_init) := ggL_law_X6_init
set_option maxRecDepth 20000 in
theorem ggL_law_X7_init : GoodIn wsL_law wsX7_init := goodIn_r _ [70, 71, 11, 12, 49, 72, 73, 74, 75, 76, 77, 78, 79, 80, 81, 82, 83, 84, 85, 86, 87, 88, 89, 90, 91, 92, 692, 693, 694, 695, 696, 697, 698, 699, 700, 701, 702, 703, 704, 705, 706, 707, 708, 709, 710, 711, 712, 713, 714, 715, 716, 717, 718, 719, 720, 721] (by decide +kernel) (by decide +kernel)
set_option maxRecDepth 20000 in
theorem gL_law_X7_init : GoodIn wsL_law (wsX7_init) := ggL_law_X7_init
set_option maxRecDepth 20000 in
theorem ggL_law_L_addNumber : GoodIn wsL_law wsL_addNumber := goodIn_ca (goodIn_ca (goodIn_r _ [96, 97, 98, 99, 100, 101, 2, 102, 103, 104, 105, 106, 107, 108, 13, 14, 15, 109, 110, 111, 32, 33, 34, 35, 11, 12, 36, 37, 38, 39, 40, 41, 42, 112, 113, 114, 115, 116, 117, 118, 119, 120, 121, 122, 123, 124, 125, 126, 127, 128, 129, 130, 131, 132, 133, 134, 135, 136, 16, 137, 138, 139, 140, 141, 142, 143, 144, 145, 146, 147, 148, 149, 150, 151, 152, 153, 154, 155, 156, 157, 158, 159, 160, 161, 162, 163, 164, 165, 166, 167, 168, 169, 170, 171, 172, 173, 174, 175, 176, 177, 178, 179, 180, 181, 182, 183, 733, 734, 735, 736, 737, 738, 739, 740, 741, 742, 722, 723, 685, 686, 687, 688, 689, 690, 691] (by decide +kernel) (by decide +kernel)) (goodIn_sub (fun _ h => List.mem_append_left _ (List.mem_append_left _ (List.mem_append_right _ h))) (by decide +kernel))) (goodIn_sub (fun _ h => List.mem_append_left _ (List.mem_append_right _ h)) (by decide +kernel))
set_option maxRecDepth 20000 in
theorem gL_law_L_addNumber : GoodIn wsL_law (va_wsS RL 75 yL_addNumber wsL_addNumber) := goodIn_app (goodIn_of _ (by decide +kernel)) ggL_law_L_addNumber
set_option maxRecDepth 20000 in
theorem ggL_law_X7_addNumber : GoodIn wsL_law wsX7_addNumber := goodIn_r _ [187, 188, 189, 190, 5, 191, 192, 193, 194, 195, 196, 197, 198, 199, 200, 72, 73, 74, 76, 78, 201, 202, 203, 204, 79, 80, 81, 205, 206, 207, 208, 77, 209, 210, 211, 212, 213, 214, 215, 216, 75, 217, 218, 219, 220, 221, 222, 223, 224, 225, 226, 227, 228, 229, 230, 231, 692, 693, 694, 695, 696, 697, 698, 699, 700, 701, 702, 703, 704, 705, 706, 707, 708, 709, 710, 711, 712, 713, 714, 715, 716, 717, 718, 719, 720, 721] (by decide +kernel) (by decide +kernel)
set_option maxRecDepth 20000 in
theorem gL_law_X7_addNumber : GoodIn wsL_law (wsV RL 80 RX7 yX7_addNumber wsX7_addNumber) := goodIn_app (goodIn_of _ (by decide +kernel)) ggL_law_X7_addNumber
set_option maxRecDepth 20000 in
theorem ggL_law_X7_thrown : GoodIn wsL_law wsX7_thrown := goodIn_r _ [235, 196, 692, 693, 694, 695, 696, 697, 698, 699, 700, 701, 702, 703, 704, 705, 706, 707, 708, 709, 710, 711, 712, 713, 714, 715, 716, 717, 718, 719, 720, 721] (by decide +kernel) (by decide +kernel)
set_option maxRecDepth 20000 in
theorem gL_law_X7_thrown : GoodIn wsL_law (wsV RL 81 RX7 yX7_thrown wsX7_thrown) := goodIn_app (goodIn_of _ (by decide +kernel)) ggL_law_X7_thrown
set_option maxRecDepth 20000 in
theorem ggL_law_L_addList : GoodIn wsL_law wsL_addList := goodIn_ca (goodIn_ca (goodIn_ca (goodIn_r _ [238, 239, 97, 98, 240, 241, 242, 2, 243, 103, 104, 13, 14, 15, 105, 106, 107, 244, 245, 246, 247, 248, 249, 250, 16, 251, 152, 153, 154, 36, 42, 109, 110, 111, 32, 33, 34, 35, 11, 12, 37, 38, 39, 40, 41, 179, 180, 181, 182, 112, 113, 114, 115, 116, 117, 118, 119, 120, 121, 122, 123, 124, 125, 126, 127, 128, 129, 130, 131, 132, 133, 134, 135, 136, 137, 138, 139, 140, 141, 142, 143, 144, 145, 146, 147, 148, 149, 150, 151, 155, 156, 157, 158, 159, 160, 161, 162, 163, 164, 165, 166, 167, 168, 169, 170, 171, 172, 173, 174, 175, 176, 177, 178, 183, 722, 723, 733, 734, 735, 736, 737, 738, 739, 740, 741, 742, 685, 686, 687, 688, 689, 690, 691] (by decide +kernel) (by decide +kernel)) (goodIn_sub (fun _ h => List.mem_append_left _ (List.mem_append_left _ (List.mem_append_right _ h))) (by decide +kernel))) (goodIn_sub (fun _ h => List.mem_append_right _ h) (by decide +kernel))) (goodIn_sub (fun _ h => List.mem_append_left _ (List.mem_append_right _ h)) (by decide +kernel))
set_option maxRecDepth 20000 in
theorem gL_law_L_addList : GoodIn wsL_law (va_wsS RL 84 yL_addList wsL_addList) := goodIn_app (goodIn_of _ (by decide +kernel)) ggL_law_L_addList
set_option maxRecDepth 20000 in
theorem ggL_law_X7_addList : GoodIn wsL_law wsX7_addList := goodIn_r _ [255, 188, 75, 189, 190, 5, 191, 256, 257, 258, 259, 197, 198, 199, 200, 72, 73, 74, 76, 78, 201, 202, 203, 204, 79, 80, 81, 205, 206, 207, 208, 77, 209, 210, 211, 212, 213, 214, 215, 216, 217, 218, 219, 220, 221, 222, 223, 224, 225, 226, 227, 228, 229, 230, 231, 192, 193, 194, 195, 196, 692, 693, 694, 695, 696, 697, 698, 699, 700, 701, 702, 703, 704, 705, 706, 707, 708, 709, 710, 711, 712, 713, 714, 715, 716, 717, 718, 719, 720, 721] (by decide +kernel) (by decide +kernel)
set_option maxRecDepth 20000 in
theorem gL_law_X7_addList : GoodIn wsL_law (wsV RL 87 RX7 yX7_addList wsX7_addList) := goodIn_app (goodIn_of _ (by decide +kernel)) ggL_law_X7_addList
set_option maxRecDepth 20000 in
theorem ggL_law_L_part : GoodIn wsL_law wsL_part := goodIn_ca (goodIn_ca (goodIn_r _ [262, 239, 98, 263, 264, 265, 2, 266, 135, 136, 30, 31, 245, 246, 247, 248, 249, 250, 16, 251, 152, 153, 15, 154, 36, 42, 137, 138, 139, 140, 183, 164, 165, 166, 179, 180, 181, 182, 685, 686, 687, 688, 689, 690, 691, 722, 723] (by decide +kernel) (by decide +kernel)) (goodIn_sub (fun _ h => List.mem_append_left _ (List.mem_append_right _ h)) (by decide +kernel))) (goodIn_sub (fun _ h => List.mem_append_right _ h) (by decide +kernel))
set_option maxRecDepth 20000 in
theorem gL_law_L_part : GoodIn wsL_law (va_wsS RL 88 yL_part wsL_part) := goodIn_app (goodIn_of _ (by decide +kernel)) ggL_law_L_part
set_option maxRecDepth 20000 in
theorem ggL_law_X7_part : GoodIn wsL_law wsX7_part := goodIn_r _ [270, 271, 82, 256, 257, 258, 5, 259, 188, 189, 190, 191, 192, 193, 194, 195, 196, 692, 693, 694, 695, 696, 697, 698, 699, 700, 701, 702, 703, 704, 705, 706, 707, 708, 709, 710, 711, 712, 713, 714, 715, 716, 717, 718, 719, 720, 721] (by decide +kernel) (by decide +kernel)
set_option maxRecDepth 20000 in
theorem gL_law_X7_part : GoodIn wsL_law (wsV RL 91 RX7 yX7_part wsX7_part) := goodIn_app (goodIn_of _ (by decide +kernel)) ggL_law_X7_part
set_option maxRecDepth 20000 in
theorem ggL_law_L_addSequence : GoodIn wsL_law wsL_addSequence := goodIn_ca (goodIn_r _ [274, 98, 275, 276, 277, 2, 278, 105, 106, 107, 279, 30, 31, 112, 113, 114, 115, 11, 12, 116, 117, 118, 119, 120, 121, 122, 123, 124, 125, 14, 15, 126, 127, 128, 129, 130, 33, 34, 35, 36, 37, 38, 39, 40, 41, 42, 280, 281, 282, 283, 135, 136, 13, 183, 164, 165, 166, 131, 132, 133, 134, 16, 137, 138, 139, 140, 141, 142, 143, 144, 145, 146, 147, 148, 149, 150, 151, 152, 153, 154, 155, 156, 157, 158, 159, 160, 161, 162, 163, 167, 168, 169, 170, 171, 172, 173, 174, 175, 176, 177, 178, 179, 180, 181, 182, 32, 733, 734, 735, 736, 737, 738, 739, 740, 741, 742, 685, 686, 687, 688, 689, 690, 691, 722, 723] (by decide +kernel) (by decide +kernel)) (goodIn_sub (fun _ h => List.mem_append_left _ (List.mem_append_right _ h)) (by decide +kernel))
set_option maxRecDepth 20000 in
theorem gL_law_L_addSequence : GoodIn wsL_law (va_wsS RL 92 yL_addSequence wsL_addSequence) := goodIn_app (goodIn_of _ (by decide +kernel)) ggL_law_L_addSequence
set_option maxRecDepth 20000 in
theorem ggL_law_X7_addSequence : GoodIn wsL_law wsX7_addSequence := goodIn_r _ [287, 288, 289, 290, 5, 291, 271, 188, 75, 82, 197, 198, 199, 200, 72, 73, 74, 76, 78, 201, 202, 203, 204, 79, 80, 81, 205, 206, 207, 208, 77, 209, 210, 211, 212, 213, 214, 215, 216, 217, 218, 219, 220, 221, 222, 223, 224, 225, 226, 227, 228, 229, 230, 231, 192, 193, 194, 195, 196, 692, 693, 694, 695, 696, 697, 698, 699, 700, 701, 702, 703, 704, 705, 706, 707, 708, 709, 710, 711, 712, 713, 714, 715, 716, 717, 718, 719, 720, 721] (by decide +kernel) (by decide +kernel)
set_option maxRecDepth 20000 in
theorem gL_law_X7_addSequence : GoodIn wsL_law (wsV RL 95 RX7 yX7_addSequence wsX7_addSequence) := goodIn_app (goodIn_of _ (by decide +kernel)) ggL_law_X7_addSequence
set_option maxRecDepth 20000 in
theorem ggL_law_L_addChoice : GoodIn wsL_law wsL_addChoice := goodIn_ca (goodIn_r _ [294, 98, 295, 296, 297, 2, 298, 105, 106, 107, 299, 30, 183, 164, 165, 15, 166, 36, 112, 113, 114, 115, 11, 12, 116, 117, 118, 119, 120, 121, 122, 123, 124, 125, 14, 126, 127, 128, 129, 130, 33, 34, 35, 37, 38, 39, 40, 41, 42, 280, 281, 282, 283, 135, 136, 13, 31, 131, 132, 133, 134, 16, 137, 138, 139, 140, 141, 142, 143, 144, 145, 146, 147, 148, 149, 150, 151, 152, 153, 154, 155, 156, 157, 158, 159, 160, 161, 162, 163, 167, 168, 169, 170, 171, 172, 173, 174, 175, 176, 177, 178, 179, 180, 181, 182, 32, 733, 734, 735, 736, 737, 738, 739, 740, 741, 742, 685, 686, 687, 688, 689, 690, 691, 722, 723] (by decide +kernel) (by decide +kernel)) (goodIn_sub (fun _ h => List.mem_append_left _ (List.mem_append_right _ h)) (by decide +kernel))
set_option maxRecDepth 20000 in
theorem gL_law_L_addChoice : GoodIn wsL_law (va_wsS RL 96 yL_addChoice wsL_addChoice) := goodIn_app (goodIn_of _ (by decide +kernel)) ggL_law_L_addChoice
set_option maxRecDepth 20000 in
theorem ggL_law_X7_addChoice : GoodIn wsL_law wsX7_addChoice := goodIn_r _ [303, 288, 289, 290, 5, 291, 271, 188, 75, 82, 197, 198, 199, 200, 72, 73, 74, 76, 78, 201, 202, 203, 204, 79, 80, 81, 205, 206, 207, 208, 77, 209, 210, 211, 212, 213, 214, 215, 216, 217, 218, 219, 220, 221, 222, 223, 224, 225, 226, 227, 228, 229, 230, 231, 192, 193, 194, 195, 196, 692, 693, 694, 695, 696, 697, 698, 699, 700, 701, 702, 703, 704, 705, 706, 707, 708, 709, 710, 711, 712, 713, 714, 715, 716, 717, 718, 719, 720, 721] (by decide +kernel) (by decide +kernel)
set_option maxRecDepth 20000 in
theorem gL_law_X7_addChoice : GoodIn wsL_law (wsV RL 98 RX7 yX7_addChoice wsX7_addChoice) := goodIn_app (goodIn_of _ (by decide +kernel)) ggL_law_X7_addChoice
set_option maxRecDepth 20000 in
theorem ggL_law_L_extend : GoodIn wsL_law wsL_extend := goodIn_ca (goodIn_ca (goodIn_ca (goodIn_r _ [306, 239, 97, 98, 307, 308, 309, 2, 310, 103, 104, 135, 136, 279, 16, 245, 246, 247, 248, 249, 250, 251, 152, 153, 15, 154, 36, 42, 137, 138, 139, 140, 179, 180, 181, 182, 311, 312, 313, 314, 315, 316, 142, 143, 107, 144, 122, 116, 117, 118, 119, 145, 146, 126, 147, 148, 149, 150, 123, 120, 121, 151, 155, 156, 157, 158, 159, 160, 39, 161, 162, 38, 40, 163, 164, 165, 166, 167, 168, 169, 170, 171, 172, 173, 174, 124, 175, 176, 177, 178, 127, 317, 318, 319, 320, 183, 733, 734, 735, 736, 737, 738, 739, 740, 741, 742, 685, 686, 687, 688, 689, 690, 691, 722, 723] (by decide +kernel) (by decide +kernel)) (goodIn_sub (fun _ h => List.mem_append_left _ (List.mem_append_left _ (List.mem_append_right _ h))) (by decide +kernel))) (goodIn_sub (fun _ h => List.mem_append_left _ (List.mem_append_right _ h)) (by decide +kernel))) (goodIn_sub (fun _ h => List.mem_append_right _ h) (by decide +kernel))
set_option maxRecDepth 20000 in
theorem gL_law_L_extend : GoodIn wsL_law (va_wsS RL 99 yL_extend wsL_extend) := goodIn_app (goodIn_of _ (by decide +kernel)) ggL_law_L_extend
set_option maxRecDepth 20000 in
theorem ggL_law_X7_extend : GoodIn wsL_law wsX7_extend := goodIn_r _ [324, 72, 78, 77, 256, 257, 258, 5, 259, 188, 189, 190, 191, 325, 326, 327, 328, 201, 202, 203, 204, 79, 73, 80, 74, 81, 205, 206, 207, 208, 76, 209, 210, 211, 212, 213, 214, 215, 216, 75, 217, 218, 219, 220, 221, 222, 223, 224, 225, 226, 227, 228, 229, 230, 231, 192, 193, 194, 195, 196, 692, 693, 694, 695, 696, 697, 698, 699, 700, 701, 702, 703, 704, 705, 706, 707, 708, 709, 710, 711, 712, 713, 714, 715, 716, 717, 718, 719, 720, 721] (by decide +kernel) (by decide +kernel)
set_option maxRecDepth 20000 in
theorem gL_law_X7_extend : GoodIn wsL_law (wsV RL 101 RX7 yX7_extend wsX7_extend) := goodIn_app (goodIn_of _ (by decide +kernel)) ggL_law_X7_extend
set_option maxRecDepth 20000 in
theorem ggL_law_X6_types : GoodIn wsL_law wsX6_types := goodIn_r _ [332, 16, 183, 164, 165, 15, 166, 36, 685, 686, 687, 688, 689, 690, 691, 722, 723] (by decide +kernel) (by decide +kernel)
set_option maxRecDepth 20000 in
theorem gL_law_X6_types : GoodIn wsL_law (wsV RL 102 RX6 yX6_types wsX6_types) := goodIn_app (goodIn_of _ (by decide +kernel)) ggL_law_X6_types
set_option maxRecDepth 20000 in
theorem ggL_law_X7_types : GoodIn wsL_law wsX7_types := goodIn_r _ [336, 188, 337, 338, 339, 5, 340, 196, 692, 693, 694, 695, 696, 697, 698, 699, 700, 701, 702, 703, 704, 705, 706, 707, 708, 709, 710, 711, 712, 713, 714, 715, 716, 717, 718, 719, 720, 721] (by decide +kernel) (by decide +kernel)
set_option maxRecDepth 20000 in
theorem gL_law_X7_types : GoodIn wsL_law (wsV RL 105 RX7 yX7_types wsX7_types) := goodIn_app (goodIn_of _ (by decide +kernel)) ggL_law_X7_types
set_option maxRecDepth 20000 in
theorem ggL_law_L_leastBits : GoodIn wsL_law wsL_leastBits := goodIn_ca (goodIn_r _ [343, 239, 344, 345, 346, 2, 347, 245, 246, 247, 248, 249, 250, 16, 251, 152, 153, 15, 154, 36, 42, 733, 734, 735, 736, 737, 738, 739, 740, 741, 742, 685, 686, 687, 688, 689, 690, 691, 722, 723] (by decide +kernel) (by decide +kernel)) (goodIn_sub (fun _ h => List.mem_append_right _ h) (by decide +kernel))
set_option maxRecDepth 20000 in
theorem gL_law_L_leastBits : GoodIn wsL_law (va_wsS RL 106 yL_leastBits wsL_leastBits) := goodIn_app (goodIn_of _ (by decide +kernel)) ggL_law_L_leastBits
set_option maxRecDepth 20000 in
theorem ggL_law_X7_leastBits : GoodIn wsL_law wsX7_leastBits := goodIn_r _ [351, 79, 352, 353, 354, 5, 355, 256, 257, 258, 259, 188, 189, 190, 191, 192, 193, 194, 195, 196, 692, 693, 694, 695, 696, 697, 698, 699, 700, 701, 702, 703, 704, 705, 706, 707, 708, 709, 710, 711, 712, 713, 714, 715, 716, 717, 718, 719, 720, 721] (by decide +kernel) (by decide +kernel)
set_option maxRecDepth 20000 in
theorem gL_law_X7_leastBits : GoodIn wsL_law (wsV RL 109 RX7 yX7_leastBits wsX7_leastBits) := goodIn_app (goodIn_of _ (by decide +kernel)) ggL_law_X7_leastBits
set_option maxRecDepth 20000 in
theorem ggL_law_L_mostBits : GoodIn wsL_law wsL_mostBits := goodIn_ca (goodIn_r _ [358, 239, 359, 360, 361, 2, 362, 245, 246, 247, 248, 249, 250, 16, 251, 152, 153, 15, 154, 36, 42, 733, 734, 735, 736, 737, 738, 739, 740, 741, 742, 685, 686, 687, 688, 689, 690, 691, 722, 723] (by decide +kernel) (by decide +kernel)) (goodIn_sub (fun _ h => List.mem_append_right _ h) (by decide +kernel))
set_option maxRecDepth 20000 in
theorem gL_law_L_mostBits : GoodIn wsL_law (va_wsS RL 110 yL_mostBits wsL_mostBits) := goodIn_app (goodIn_of _ (by decide +kernel)) ggL_law_L_mostBits
set_option maxRecDepth 20000 in
theorem ggL_law_X7_mostBits : GoodIn wsL_law wsX7_mostBits := goodIn_r _ [366, 80, 352, 353, 354, 5, 355, 256, 257, 258, 259, 188, 189, 190, 191, 192, 193, 194, 195, 196, 692, 693, 694, 695, 696, 697, 698, 699, 700, 701, 702, 703, 704, 705, 706, 707, 708, 709, 710, 711, 712, 713, 714, 715, 716, 717, 718, 719, 720, 721] (by decide +kernel) (by decide +kernel)
set_option maxRecDepth 20000 in
theorem gL_law_X7_mostBits : GoodIn wsL_law (wsV RL 112 RX7 yX7_mostBits wsX7_mostBits) := goodIn_app (goodIn_of _ (by decide +kernel)) ggL_law_X7_mostBits
set_option maxRecDepth 20000 in
theorem ggL_law_L_tell : GoodIn wsL_law wsL_tell := goodIn_ca (goodIn_ca (goodIn_r _ [369, 97, 98, 370, 371, 372, 2, 373, 103, 104, 135, 136, 20, 109, 110, 111, 374, 375, 376, 19, 377, 47, 50, 378, 379, 380, 381, 382, 383, 384, 385, 685, 686, 687, 688, 689, 690, 691, 724, 725] (by decide +kernel) (by decide +kernel)) (goodIn_sub (fun _ h => List.mem_append_left _ (List.mem_append_left _ (List.mem_append_right _ h))) (by decide +kernel))) (goodIn_sub (fun _ h => List.mem_append_left _ (List.mem_append_right _ h)) (by decide +kernel))
set_option maxRecDepth 20000 in
theorem gL_law_L_tell : GoodIn wsL_law (va_wsS RL 113 yL_tell wsL_tell) := goodIn_app (goodIn_of _ (by decide +kernel)) ggL_law_L_tell
set_option maxRecDepth 20000 in
theorem ggL_law_X7_tell : GoodIn wsL_law wsX7_tell := goodIn_r _ [389, 390, 83, 189, 190, 5, 191, 192, 193, 194, 195, 196, 692, 693, 694, 695, 696, 697, 698, 699, 700, 701, 702, 703, 704, 705, 706, 707, 708, 709, 710, 711, 712, 713, 714, 715, 716, 717, 718, 719, 720, 721] (by decide +kernel) (by decide +kernel)
set_option maxRecDepth 20000 in
theorem gL_law_X7_tell : GoodIn wsL_law (wsV RL 115 RX7 yX7_tell wsX7_tell) := goodIn_app (goodIn_of _ (by decide +kernel)) ggL_law_X7_tell
set_option maxRecDepth 20000 in
theorem ggL_law_X6_forget : GoodIn wsL_law wsX6_forget := goodIn_r _ [394, 20, 382, 383, 384, 19, 385, 47, 395, 396, 397, 398, 685, 686, 687, 688, 689, 690, 691, 724, 725] (by decide +kernel) (by decide +kernel)
set_option maxRecDepth 20000 in
theorem gL_law_X6_forget : GoodIn wsL_law (wsV RL 116 RX6 yX6_forget wsX6_forget) := goodIn_app (goodIn_of _ (by decide +kernel)) ggL_law_X6_forget
set_option maxRecDepth 20000 in
theorem ggL_law_X7_forget : GoodIn wsL_law wsX7_forget := goodIn_r _ [402, 390, 337, 338, 339, 5, 340, 196, 692, 693, 694, 695, 696, 697, 698, 699, 700, 701, 702, 703, 704, 705, 706, 707, 708, 709, 710, 711, 712, 713, 714, 715, 716, 717, 718, 719, 720, 721] (by decide +kernel) (by decide +kernel)
set_option maxRecDepth 20000 in
theorem gL_law_X7_forget : GoodIn wsL_law (wsV RL 119 RX7 yX7_forget wsX7_forget) := goodIn_app (goodIn_of _ (by decide +kernel)) ggL_law_X7_forget
set_option maxRecDepth 20000 in
theorem ggL_law_X6_length : GoodIn wsL_law wsX6_length := goodIn_r _ [406, 20, 382, 383, 384, 19, 385, 47, 685, 686, 687, 688, 689, 690, 691, 724, 725] (by decide +kernel) (by decide +kernel)
set_option maxRecDepth 20000 in
theorem gL_law_X6_length : GoodIn wsL_law (wsV RL 120 RX6 yX6_length wsX6_length) := goodIn_app (goodIn_of _ (by decide +kernel)) ggL_law_X6_length
set_option maxRecDepth 20000 in
theorem ggL_law_X7_length : GoodIn wsL_law wsX7_length := goodIn_r _ [410, 390, 337, 338, 339, 5, 340, 196, 692, 693, 694, 695, 696, 697, 698, 699, 700, 701, 702, 703, 704, 705, 706, 707, 708, 709, 710, 711, 712, 713, 714, 715, 716, 717, 718, 719, 720, 721] (by decide +kernel) (by decide +kernel)
set_option maxRecDepth 20000 in
theorem gL_law_X7_length : GoodIn wsL_law (wsV RL 123 RX7 yX7_length wsX7_length) := goodIn_app (goodIn_of _ (by decide +kernel)) ggL_law_X7_length
set_option maxRecDepth 20000 in
theorem ggL_law_L_told : GoodIn wsL_law wsL_told := goodIn_ca (goodIn_r _ [413, 239, 414, 415, 416, 2, 417, 249, 250, 20, 418, 419, 420, 19, 421, 47, 50, 422, 423, 424, 425, 426, 685, 686, 687, 688, 689, 690, 691, 724, 725] (by decide +kernel) (by decide +kernel)) (goodIn_sub (fun _ h => List.mem_append_right _ h) (by decide +kernel))
set_option maxRecDepth 20000 in
theorem gL_law_L_told : GoodIn wsL_law (va_wsS RL 124 yL_told wsL_told) := goodIn_app (goodIn_of _ (by decide +kernel)) ggL_law_L_told
set_option maxRecDepth 20000 in
theorem ggL_law_X7_told : GoodIn wsL_law wsX7_told := goodIn_r _ [430, 390, 83, 189, 190, 5, 191, 192, 193, 194, 195, 196, 692, 693, 694, 695, 696, 697, 698, 699, 700, 701, 702, 703, 704, 705, 706, 707, 708, 709, 710, 711, 712, 713, 714, 715, 716, 717, 718, 719, 720, 721] (by decide +kernel) (by decide +kernel)
set_option maxRecDepth 20000 in
theorem gL_law_X7_told : GoodIn wsL_law (wsV RL 126 RX7 yX7_told wsX7_told) := goodIn_app (goodIn_of _ (by decide +kernel)) ggL_law_X7_told
set_option maxRecDepth 20000 in
theorem ggL_law_L_wrongAt : GoodIn wsL_law wsL_wrongAt := goodIn_ca (goodIn_r _ [433, 239, 434, 435, 436, 2, 437, 25, 20, 245, 246, 247, 248, 249, 250, 16, 251, 152, 153, 15, 154, 36, 42, 438, 439, 440, 24, 441, 55, 56, 57, 442, 396, 397, 19, 398, 47, 443, 444, 445, 446, 447, 448, 449, 450, 451, 452, 453, 454, 455, 456, 457, 423, 424, 425, 50, 426, 419, 420, 421, 458, 110, 111, 459, 460, 461, 462, 463, 379, 380, 381, 464, 465, 466, 383, 384, 385, 467, 468, 469, 470, 471, 472, 473, 474, 475, 476, 164, 165, 166, 477, 172, 173, 107, 174, 124, 478, 479, 480, 685, 686, 687, 688, 689, 690, 691, 722, 723, 726, 727, 728, 724, 725, 733, 734, 735, 736, 737, 738, 739, 740, 741, 742] (by decide +kernel) (by decide +kernel)) (goodIn_sub (fun _ h => List.mem_append_right _ h) (by decide +kernel))
set_option maxRecDepth 20000 in
theorem gL_law_L_wrongAt : GoodIn wsL_law (va_wsS RL 127 yL_wrongAt wsL_wrongAt) := goodIn_app (goodIn_of _ (by decide +kernel)) ggL_law_L_wrongAt
set_option maxRecDepth 20000 in
theorem ggL_law_X7_wrongAt : GoodIn wsL_law wsX7_wrongAt := goodIn_r _ [484, 352, 353, 354, 5, 355, 256, 257, 258, 259, 188, 189, 190, 191, 192, 193, 194, 195, 196, 485, 486, 487, 488, 489, 490, 491, 390, 492, 493, 494, 495, 86, 87, 90, 496, 497, 498, 499, 72, 73, 76, 74, 88, 83, 500, 501, 502, 503, 78, 89, 213, 214, 215, 216, 75, 504, 505, 506, 507, 508, 509, 510, 511, 84, 512, 513, 514, 515, 516, 77, 217, 218, 219, 220, 225, 226, 227, 228, 229, 230, 231, 692, 693, 694, 695, 696, 697, 698, 699, 700, 701, 702, 703, 704, 705, 706, 707, 708, 709, 710, 711, 712, 713, 714, 715, 716, 717, 718, 719, 720, 721] (by decide +kernel) (by decide +kernel)
set_option maxRecDepth 20000 in
theorem gL_law_X7_wrongAt : GoodIn wsL_law (wsV RL 129 RX7 yX7_wrongAt wsX7_wrongAt) := goodIn_app (goodIn_of _ (by decide +kernel)) ggL_law_X7_wrongAt
set_option maxRecDepth 20000 in
theorem ggL_law_L_write : GoodIn wsL_law wsL_write := goodIn_ca (goodIn_ca (goodIn_r _ [519, 239, 98, 520, 521, 522, 2, 523, 135, 136, 25, 20, 21, 245, 246, 247, 248, 249, 250, 16, 251, 152, 153, 15, 154, 36, 42, 438, 439, 440, 24, 441, 55, 56, 57, 442, 396, 397, 19, 398, 47, 443, 444, 445, 446, 447, 448, 449, 450, 451, 452, 453, 454, 455, 456, 457, 423, 424, 425, 50, 426, 419, 420, 421, 458, 110, 111, 459, 460, 461, 462, 463, 379, 380, 381, 464, 465, 466, 383, 384, 385, 467, 468, 469, 470, 471, 472, 473, 474, 475, 476, 164, 165, 166, 477, 172, 173, 107, 174, 124, 478, 479, 480, 524, 525, 526, 527, 528, 529, 530, 531, 382, 685, 686, 687, 688, 689, 690, 691, 726, 727, 728, 722, 723, 724, 725, 733, 734, 735, 736, 737, 738, 739, 740, 741, 742] (by decide +kernel) (by decide +kernel)) (goodIn_sub (fun _ h => List.mem_append_left _ (List.mem_append_right _ h)) (by decide +kernel))) (goodIn_sub (fun _ h => List.mem_append_right _ h) (by decide +kernel))
set_option maxRecDepth 20000 in
theorem gL_law_L_write : GoodIn wsL_law (va_wsS RL 130 yL_write wsL_write) := goodIn_app (goodIn_of _ (by decide +kernel)) ggL_law_L_write
set_option maxRecDepth 20000 in
theorem ggL_law_X7_write : GoodIn wsL_law wsX7_write := goodIn_r _ [535, 512, 256, 257, 258, 5, 259, 188, 189, 190, 191, 485, 486, 487, 488, 489, 490, 491, 390, 492, 493, 494, 495, 86, 87, 90, 496, 497, 498, 499, 72, 73, 76, 74, 88, 83, 500, 501, 502, 503, 78, 89, 213, 214, 215, 216, 75, 504, 505, 506, 507, 508, 509, 510, 511, 84, 513, 514, 515, 516, 77, 217, 218, 219, 220, 225, 226, 227, 228, 229, 230, 231, 192, 193, 194, 195, 196, 692, 693, 694, 695, 696, 697, 698, 699, 700, 701, 702, 703, 704, 705, 706, 707, 708, 709, 710, 711, 712, 713, 714, 715, 716, 717, 718, 719, 720, 721] (by decide +kernel) (by decide +kernel)
set_option maxRecDepth 20000 in
theorem gL_law_X7_write : GoodIn wsL_law (wsV RL 132 RX7 yX7_write wsX7_write) := goodIn_app (goodIn_of _ (by decide +kernel)) ggL_law_X7_write
set_option maxRecDepth 20000 in
theorem ggL_law_X6_bits : GoodIn wsL_law wsX6_bits := goodIn_r _ [539, 21, 382, 383, 384, 19, 385, 47, 685, 686, 687, 688, 689, 690, 691, 724, 725] (by decide +kernel) (by decide +kernel)
set_option maxRecDepth 20000 in
theorem gL_law_X6_bits : GoodIn wsL_law (wsV RL 133 RX6 yX6_bits wsX6_bits) := goodIn_app (goodIn_of _ (by decide +kernel)) ggL_law_X6_bits
set_option maxRecDepth 20000 in
theorem ggL_law_X7_bits : GoodIn wsL_law wsX7_bits := goodIn_r _ [543, 512, 337, 338, 339, 5, 340, 196, 692, 693, 694, 695, 696, 697, 698, 699, 700, 701, 702, 703, 704, 705, 706, 707, 708, 709, 710, 711, 712, 713, 714, 715, 716, 717, 718, 719, 720, 721] (by decide +kernel) (by decide +kernel)
set_option maxRecDepth 20000 in
theorem gL_law_X7_bits : GoodIn wsL_law (wsV RL 136 RX7 yX7_bits wsX7_bits) := goodIn_app (goodIn_of _ (by decide +kernel)) ggL_law_X7_bits
set_option maxRecDepth 20000 in
theorem ggL_law_L_bit : GoodIn wsL_law wsL_bit := goodIn_ca (goodIn_r _ [546, 239, 547, 548, 549, 2, 550, 249, 250, 21, 418, 419, 420, 19, 421, 47, 50, 422, 423, 424, 425, 426, 685, 686, 687, 688, 689, 690, 691, 724, 725] (by decide +kernel) (by decide +kernel)) (goodIn_sub (fun _ h => List.mem_append_right _ h) (by decide +kernel))
set_option maxRecDepth 20000 in
theorem gL_law_L_bit : GoodIn wsL_law (va_wsS RL 137 yL_bit wsL_bit) := goodIn_app (goodIn_of _ (by decide +kernel)) ggL_law_L_bit
set_option maxRecDepth 20000 in
theorem ggL_law_X7_bit : GoodIn wsL_law wsX7_bit := goodIn_r _ [554, 84, 555, 556, 557, 5, 558, 512, 189, 190, 191, 192, 193, 194, 195, 196, 692, 693, 694, 695, 696, 697, 698, 699, 700, 701, 702, 703, 704, 705, 706, 707, 708, 709, 710, 711, 712, 713, 714, 715, 716, 717, 718, 719, 720, 721] (by decide +kernel) (by decide +kernel)
set_option maxRecDepth 20000 in
theorem gL_law_X7_bit : GoodIn wsL_law (wsV RL 139 RX7 yX7_bit wsX7_bit) := goodIn_app (goodIn_of _ (by decide +kernel)) ggL_law_X7_bit
set_option maxRecDepth 20000 in
theorem ggL_law_L_flip : GoodIn wsL_law wsL_flip := goodIn_ca (goodIn_r _ [561, 239, 562, 563, 564, 2, 565, 249, 250, 21, 418, 419, 420, 19, 421, 47, 50, 422, 423, 424, 425, 426, 566, 468, 469, 470, 685, 686, 687, 688, 689, 690, 691, 724, 725] (by decide +kernel) (by decide +kernel)) (goodIn_sub (fun _ h => List.mem_append_right _ h) (by decide +kernel))
set_option maxRecDepth 20000 in
theorem gL_law_L_flip : GoodIn wsL_law (va_wsS RL 140 yL_flip wsL_flip) := goodIn_app (goodIn_of _ (by decide +kernel)) ggL_law_L_flip
set_option maxRecDepth 20000 in
theorem ggL_law_X7_flip : GoodIn wsL_law wsX7_flip := goodIn_r _ [570, 84, 555, 556, 557, 5, 558, 512, 189, 190, 191, 192, 193, 194, 195, 196, 692, 693, 694, 695, 696, 697, 698, 699, 700, 701, 702, 703, 704, 705, 706, 707, 708, 709, 710, 711, 712, 713, 714, 715, 716, 717, 718, 719, 720, 721] (by decide +kernel) (by decide +kernel)
set_option maxRecDepth 20000 in
theorem gL_law_X7_flip : GoodIn wsL_law (wsV RL 142 RX7 yX7_flip wsX7_flip) := goodIn_app (goodIn_of _ (by decide +kernel)) ggL_law_X7_flip
set_option maxRecDepth 20000 in
theorem ggL_law_L_cut : GoodIn wsL_law wsL_cut := goodIn_ca (goodIn_r _ [573, 97, 574, 575, 576, 2, 577, 103, 104, 21, 382, 383, 384, 19, 385, 47, 109, 110, 111, 395, 396, 397, 398, 685, 686, 687, 688, 689, 690, 691, 724, 725] (by decide +kernel) (by decide +kernel)) (goodIn_sub (fun _ h => List.mem_append_left _ (List.mem_append_left _ (List.mem_append_right _ h))) (by decide +kernel))
set_option maxRecDepth 20000 in
theorem gL_law_L_cut : GoodIn wsL_law (va_wsS RL 143 yL_cut wsL_cut) := goodIn_app (goodIn_of _ (by decide +kernel)) ggL_law_L_cut
set_option maxRecDepth 20000 in
theorem ggL_law_X7_cut : GoodIn wsL_law wsX7_cut := goodIn_r _ [581, 512, 189, 190, 5, 191, 192, 193, 194, 195, 196, 692, 693, 694, 695, 696, 697, 698, 699, 700, 701, 702, 703, 704, 705, 706, 707, 708, 709, 710, 711, 712, 713, 714, 715, 716, 717, 718, 719, 720, 721] (by decide +kernel) (by decide +kernel)
set_option maxRecDepth 20000 in
theorem gL_law_X7_cut : GoodIn wsL_law (wsV RL 145 RX7 yX7_cut wsX7_cut) := goodIn_app (goodIn_of _ (by decide +kernel)) ggL_law_X7_cut
set_option maxRecDepth 20000 in
theorem ggL_law_L_read : GoodIn wsL_law wsL_read := goodIn_ca (goodIn_ca (goodIn_ca (goodIn_r _ [584, 239, 97, 98, 585, 586, 587, 2, 588, 135, 136, 20, 29, 589, 590, 591, 592, 103, 104, 21, 245, 246, 247, 248, 249, 250, 16, 251, 152, 153, 15, 154, 36, 42, 109, 110, 111, 593, 594, 595, 28, 596, 63, 64, 65, 66, 597, 396, 397, 19, 398, 47, 598, 599, 600, 601, 602, 603, 604, 605, 606, 607, 608, 609, 610, 611, 612, 423, 424, 425, 50, 426, 419, 420, 421, 613, 383, 384, 385, 614, 379, 380, 381, 615, 616, 617, 618, 619, 620, 621, 622, 623, 624, 625, 626, 160, 39, 161, 627, 628, 629, 630, 631, 164, 165, 166, 632, 172, 173, 107, 174, 124, 633, 468, 469, 470, 634, 635, 636, 524, 525, 526, 527, 528, 529, 530, 531, 382, 685, 686, 687, 688, 689, 690, 691, 729, 730, 731, 732, 722, 723, 724, 725, 733, 734, 735, 736, 737, 738, 739, 740, 741, 742] (by decide +kernel) (by decide +kernel)) (goodIn_sub (fun _ h => List.mem_append_left _ (List.mem_append_right _ h)) (by decide +kernel))) (goodIn_sub (fun _ h => List.mem_append_left _ (List.mem_append_left _ (List.mem_append_right _ h))) (by decide +kernel))) (goodIn_sub (fun _ h => List.mem_append_right _ h) (by decide +kernel))
set_option maxRecDepth 20000 in
theorem gL_law_L_read : GoodIn wsL_law (va_wsS RL 146 yL_read wsL_read) := goodIn_app (goodIn_of _ (by decide +kernel)) ggL_law_L_read
set_option maxRecDepth 20000 in
theorem ggL_law_X7_read : GoodIn wsL_law wsX7_read := goodIn_r _ [640, 641, 83, 85, 390, 189, 190, 5, 191, 256, 257, 258, 259, 188, 642, 643, 644, 645, 489, 490, 491, 512, 492, 493, 494, 495, 86, 87, 90, 646, 647, 648, 649, 72, 76, 74, 73, 88, 650, 651, 652, 653, 89, 92, 654, 655, 656, 657, 84, 213, 214, 215, 216, 75, 658, 659, 660, 661, 662, 663, 664, 665, 91, 78, 77, 217, 218, 219, 220, 666, 667, 668, 669, 670, 671, 672, 673, 225, 226, 227, 228, 229, 230, 231, 192, 193, 194, 195, 196, 692, 693, 694, 695, 696, 697, 698, 699, 700, 701, 702, 703, 704, 705, 706, 707, 708, 709, 710, 711, 712, 713, 714, 715, 716, 717, 718, 719, 720, 721] (by decide +kernel) (by decide +kernel)
set_option maxRecDepth 20000 in
theorem gL_law_X7_read : GoodIn wsL_law (wsV RL 148 RX7 yX7_read wsX7_read) := goodIn_app (goodIn_of _ (by decide +kernel)) ggL_law_X7_read
set_option maxRecDepth 20000 in
theorem ggL_law_L_faultAt : GoodIn wsL_law wsL_faultAt := goodIn_ca (goodIn_ca (goodIn_r _ [676, 239, 97, 677, 678, 679, 2, 680, 589, 590, 591, 592, 103, 104, 29, 21, 245, 246, 247, 248, 249, 250, 16, 251, 152, 153, 15, 154, 36, 42, 109, 110, 111, 593, 594, 595, 28, 596, 63, 64, 65, 66, 597, 396, 397, 19, 398, 47, 598, 599, 600, 601, 602, 603, 604, 605, 606, 607, 608, 609, 610, 611, 612, 423, 424, 425, 50, 426, 419, 420, 421, 613, 383, 384, 385, 614, 379, 380, 381, 615, 616, 617, 618, 619, 620, 621, 622, 623, 624, 625, 626, 160, 39, 161, 627, 628, 629, 630, 631, 164, 165, 166, 632, 172, 173, 107, 174, 124, 633, 468, 469, 470, 634, 635, 636, 685, 686, 687, 688, 689, 690, 691, 722, 723, 729, 730, 731, 732, 724, 725, 733, 734, 735, 736, 737, 738, 739, 740, 741, 742] (by decide +kernel) (by decide +kernel)) (goodIn_sub (fun _ h => List.mem_append_left _ (List.mem_append_left _ (List.mem_append_right _ h))) (by decide +kernel))) (goodIn_sub (fun _ h => List.mem_append_right _ h) (by decide +kernel))
set_option maxRecDepth 20000 in
theorem gL_law_L_faultAt : GoodIn wsL_law (va_wsS RL 149 yL_faultAt wsL_faultAt) := goodIn_app (goodIn_of _ (by decide +kernel)) ggL_law_L_faultAt
set_option maxRecDepth 20000 in
theorem ggL_law_X7_faultAt : GoodIn wsL_law wsX7_faultAt := goodIn_r _ [684, 256, 257, 258, 5, 259, 188, 189, 190, 191, 192, 193, 194, 195, 196, 642, 643, 644, 645, 489, 490, 491, 641, 512, 492, 493, 494, 495, 86, 87, 90, 646, 647, 648, 649, 72, 76, 74, 73, 88, 650, 651, 652, 653, 89, 92, 654, 655, 656, 657, 84, 213, 214, 215, 216, 75, 658, 659, 660, 661, 85, 662, 663, 664, 665, 91, 78, 77, 217, 218, 219, 220, 666, 667, 668, 669, 670, 671, 672, 673, 225, 226, 227, 228, 229, 230, 231, 692, 693, 694, 695, 696, 697, 698, 699, 700, 701, 702, 703, 704, 705, 706, 707, 708, 709, 710, 711, 712, 713, 714, 715, 716, 717, 718, 719, 720, 721] (by decide +kernel) (by decide +kernel)
set_option maxRecDepth 20000 in
theorem gL_law_X7_faultAt : GoodIn wsL_law (wsV RL 151 RX7 yX7_faultAt wsX7_faultAt) := goodIn_app (goodIn_of _ (by decide +kernel)) ggL_law_X7_faultAt
theorem dL_law_0 : decode cL_law 0 = .ok (.new 8, 3) := by decide +kernel
theorem dL_law_3 : decode cL_law 3 = .ok (.dup, 1) := by decide +kernel
theorem dL_law_4 : decode cL_law 4 = .ok (.invokespecial 71, 3) := by decide +kernel
theorem dL_law_7 : decode cL_law 7 = .ok (.astore_n 1, 1) := by decide +kernel
theorem dL_law_8 : decode cL_law 8 = .ok (.new 72, 3) := by decide +kernel
theorem dL_law_11 : decode cL_law 11 = .ok (.dup, 1) := by decide +kernel
theorem dL_law_12 : decode cL_law 12 = .ok (.invokespecial 74, 3) := by decide +kernel
theorem dL_law_15 : decode cL_law 15 = .ok (.astore_n 2, 1) := by decide +kernel
theorem dL_law_16 : decode cL_law 16 = .ok (.iconst 1, 1) := by decide +kernel
theorem dL_law_17 : decode cL_law 17 = .ok (.newarray .long, 2) := by decide +kernel
theorem dL_law_19 : decode cL_law 19 = .ok (.astore_n 3, 1) := by decide +kernel
theorem dL_law_20 : decode cL_law 20 = .ok (.iconst 0, 1) := by decide +kernel
theorem dL_law_21 : decode cL_law 21 = .ok (.istore 4, 2) := by decide +kernel
theorem dL_law_23 : decode cL_law 23 = .ok (.iload 4, 2) := by decide +kernel
theorem dL_law_25 : decode cL_law 25 = .ok (.aload_n 0, 1) := by decide +kernel
theorem dL_law_26 : decode cL_law 26 = .ok (.arraylength, 1) := by decide +kernel
theorem dL_law_27 : decode cL_law 27 = .ok (.iconst 4, 1) := by decide +kernel
theorem dL_law_28 : decode cL_law 28 = .ok (.isub, 1) := by decide +kernel
theorem dL_law_29 : decode cL_law 29 = .ok (.if_icmp .gt 1193, 3) := by decide +kernel
theorem dL_law_32 : decode cL_law 32 = .ok (.aload_n 0, 1) := by decide +kernel
theorem dL_law_33 : decode cL_law 33 = .ok (.iload 4, 2) := by decide +kernel
theorem dL_law_35 : decode cL_law 35 = .ok (.iaload, 1) := by decide +kernel
theorem dL_law_36 : decode cL_law 36 = .ok (.bipush 31, 2) := by decide +kernel
theorem dL_law_38 : decode cL_law 38 = .ok (.iand, 1) := by decide +kernel
theorem dL_law_39 : decode cL_law 39 = .ok (.tableswitch 1177 0 20 #[97, 165, 245, 329, 373, 417, 485, 498, 554, 610, 666, 679, 692, 748, 804, 860, 873, 929, 985, 1041, 1109], 97) := by decide +kernel
theorem dL_law_136 : decode cL_law 136 = .ok (.aload_n 1, 1) := by decide +kernel
theorem dL_law_137 : decode cL_law 137 = .ok (.aload_n 0, 1) := by decide +kernel
theorem dL_law_138 : decode cL_law 138 = .ok (.iload 4, 2) := by decide +kernel
theorem dL_law_140 : decode cL_law 140 = .ok (.iconst 1, 1) := by decide +kernel
theorem dL_law_141 : decode cL_law 141 = .ok (.iadd, 1) := by decide +kernel
theorem dL_law_142 : decode cL_law 142 = .ok (.iaload, 1) := by decide +kernel
theorem dL_law_143 : decode cL_law 143 = .ok (.aload_n 0, 1) := by decide +kernel
theorem dL_law_144 : decode cL_law 144 = .ok (.iload 4, 2) := by decide +kernel
theorem dL_law_146 : decode cL_law 146 = .ok (.iconst 2, 1) := by decide +kernel
theorem dL_law_147 : decode cL_law 147 = .ok (.iadd, 1) := by decide +kernel
theorem dL_law_148 : decode cL_law 148 = .ok (.iaload, 1) := by decide +kernel
theorem dL_law_149 : decode cL_law 149 = .ok (.aload_n 3, 1) := by decide +kernel
theorem dL_law_150 : decode cL_law 150 = .ok (.invokestatic 75, 3) := by decide +kernel
theorem dL_law_153 : decode cL_law 153 = .ok (.istore 5, 2) := by decide +kernel
theorem dL_law_155 : decode cL_law 155 = .ok (.aload_n 2, 1) := by decide +kernel
theorem dL_law_156 : decode cL_law 156 = .ok (.aload_n 0, 1) := by decide +kernel
theorem dL_law_157 : decode cL_law 157 = .ok (.iload 4, 2) := by decide +kernel
theorem dL_law_159 : decode cL_law 159 = .ok (.iconst 1, 1) := by decide +kernel
theorem dL_law_160 : decode cL_law 160 = .ok (.iadd, 1) := by decide +kernel
theorem dL_law_161 : decode cL_law 161 = .ok (.iaload, 1) := by decide +kernel
theorem dL_law_162 : decode cL_law 162 = .ok (.aload_n 0, 1) := by decide +kernel
theorem dL_law_163 : decode cL_law 163 = .ok (.iload 4, 2) := by decide +kernel
theorem dL_law_165 : decode cL_law 165 = .ok (.iconst 2, 1) := by decide +kernel
theorem dL_law_166 : decode cL_law 166 = .ok (.iadd, 1) := by decide +kernel
theorem dL_law_167 : decode cL_law 167 = .ok (.iaload, 1) := by decide +kernel
theorem dL_law_168 : decode cL_law 168 = .ok (.invokevirtual 80, 3) := by decide +kernel
theorem dL_law_171 : decode cL_law 171 = .ok (.istore 6, 2) := by decide +kernel
theorem dL_law_173 : decode cL_law 173 = .ok (.aload_n 2, 1) := by decide +kernel
theorem dL_law_174 : decode cL_law 174 = .ok (.invokevirtual 81, 3) := by decide +kernel
theorem dL_law_177 : decode cL_law 177 = .ok (.iload 5, 2) := by decide +kernel
theorem dL_law_179 : decode cL_law 179 = .ok (.if_icmp .eq 5, 3) := by decide +kernel
theorem dL_law_182 : decode cL_law 182 = .ok (.iconst 0, 1) := by decide +kernel
theorem dL_law_183 : decode cL_law 183 = .ok (.ireturn, 1) := by decide +kernel
theorem dL_law_184 : decode cL_law 184 = .ok (.iload 5, 2) := by decide +kernel
theorem dL_law_186 : decode cL_law 186 = .ok (.ifCond .ne 15, 3) := by decide +kernel
theorem dL_law_189 : decode cL_law 189 = .ok (.aload_n 3, 1) := by decide +kernel
theorem dL_law_190 : decode cL_law 190 = .ok (.iconst 0, 1) := by decide +kernel
theorem dL_law_191 : decode cL_law 191 = .ok (.laload, 1) := by decide +kernel
theorem dL_law_192 : decode cL_law 192 = .ok (.iload 6, 2) := by decide +kernel
theorem dL_law_194 : decode cL_law 194 = .ok (.i2l, 1) := by decide +kernel
theorem dL_law_195 : decode cL_law 195 = .ok (.lcmp, 1) := by decide +kernel
theorem dL_law_196 : decode cL_law 196 = .ok (.ifCond .eq 5, 3) := by decide +kernel
theorem dL_law_199 : decode cL_law 199 = .ok (.iconst 0, 1) := by decide +kernel
theorem dL_law_200 : decode cL_law 200 = .ok (.ireturn, 1) := by decide +kernel
theorem dL_law_201 : decode cL_law 201 = .ok (.goto 1015, 3) := by decide +kernel
theorem dL_law_204 : decode cL_law 204 = .ok (.aload_n 1, 1) := by decide +kernel
theorem dL_law_205 : decode cL_law 205 = .ok (.aload_n 0, 1) := by decide +kernel
theorem dL_law_206 : decode cL_law 206 = .ok (.iload 4, 2) := by decide +kernel
theorem dL_law_208 : decode cL_law 208 = .ok (.iconst 1, 1) := by decide +kernel
theorem dL_law_209 : decode cL_law 209 = .ok (.iadd, 1) := by decide +kernel
theorem dL_law_210 : decode cL_law 210 = .ok (.iaload, 1) := by decide +kernel
theorem dL_law_211 : decode cL_law 211 = .ok (.aload_n 0, 1) := by decide +kernel
theorem dL_law_212 : decode cL_law 212 = .ok (.iload 4, 2) := by decide +kernel
theorem dL_law_214 : decode cL_law 214 = .ok (.iconst 2, 1) := by decide +kernel
theorem dL_law_215 : decode cL_law 215 = .ok (.iadd, 1) := by decide +kernel
theorem dL_law_216 : decode cL_law 216 = .ok (.iaload, 1) := by decide +kernel
theorem dL_law_217 : decode cL_law 217 = .ok (.aload_n 0, 1) := by decide +kernel
theorem dL_law_218 : decode cL_law 218 = .ok (.iload 4, 2) := by decide +kernel
theorem dL_law_220 : decode cL_law 220 = .ok (.iconst 3, 1) := by decide +kernel
theorem dL_law_221 : decode cL_law 221 = .ok (.iadd, 1) := by decide +kernel
theorem dL_law_222 : decode cL_law 222 = .ok (.iaload, 1) := by decide +kernel
theorem dL_law_223 : decode cL_law 223 = .ok (.aload_n 3, 1) := by decide +kernel
theorem dL_law_224 : decode cL_law 224 = .ok (.invokestatic 84, 3) := by decide +kernel
theorem dL_law_227 : decode cL_law 227 = .ok (.istore 5, 2) := by decide +kernel
theorem dL_law_229 : decode cL_law 229 = .ok (.aload_n 2, 1) := by decide +kernel
theorem dL_law_230 : decode cL_law 230 = .ok (.aload_n 0, 1) := by decide +kernel
theorem dL_law_231 : decode cL_law 231 = .ok (.iload 4, 2) := by decide +kernel
theorem dL_law_233 : decode cL_law 233 = .ok (.iconst 1, 1) := by decide +kernel
theorem dL_law_234 : decode cL_law 234 = .ok (.iadd, 1) := by decide +kernel
theorem dL_law_235 : decode cL_law 235 = .ok (.iaload, 1) := by decide +kernel
theorem dL_law_236 : decode cL_law 236 = .ok (.aload_n 0, 1) := by decide +kernel
theorem dL_law_237 : decode cL_law 237 = .ok (.iload 4, 2) := by decide +kernel
theorem dL_law_239 : decode cL_law 239 = .ok (.iconst 2, 1) := by decide +kernel
theorem dL_law_240 : decode cL_law 240 = .ok (.iadd, 1) := by decide +kernel
theorem dL_law_241 : decode cL_law 241 = .ok (.iaload, 1) := by decide +kernel
theorem dL_law_242 : decode cL_law 242 = .ok (.aload_n 0, 1) := by decide +kernel
theorem dL_law_243 : decode cL_law 243 = .ok (.iload 4, 2) := by decide +kernel
theorem dL_law_245 : decode cL_law 245 = .ok (.iconst 3, 1) := by decide +kernel
theorem dL_law_246 : decode cL_law 246 = .ok (.iadd, 1) := by decide +kernel
theorem dL_law_247 : decode cL_law 247 = .ok (.iaload, 1) := by decide +kernel
theorem dL_law_248 : decode cL_law 248 = .ok (.invokevirtual 87, 3) := by decide +kernel
theorem dL_law_251 : decode cL_law 251 = .ok (.istore 6, 2) := by decide +kernel
theorem dL_law_253 : decode cL_law 253 = .ok (.aload_n 2, 1) := by decide +kernel
theorem dL_law_254 : decode cL_law 254 = .ok (.invokevirtual 81, 3) := by decide +kernel
theorem dL_law_257 : decode cL_law 257 = .ok (.iload 5, 2) := by decide +kernel
theorem dL_law_259 : decode cL_law 259 = .ok (.if_icmp .eq 5, 3) := by decide +kernel
theorem dL_law_262 : decode cL_law 262 = .ok (.iconst 0, 1) := by decide +kernel
theorem dL_law_263 : decode cL_law 263 = .ok (.ireturn, 1) := by decide +kernel
theorem dL_law_264 : decode cL_law 264 = .ok (.iload 5, 2) := by decide +kernel
theorem dL_law_266 : decode cL_law 266 = .ok (.ifCond .ne 15, 3) := by decide +kernel
theorem dL_law_269 : decode cL_law 269 = .ok (.aload_n 3, 1) := by decide +kernel
theorem dL_law_270 : decode cL_law 270 = .ok (.iconst 0, 1) := by decide +kernel
theorem dL_law_271 : decode cL_law 271 = .ok (.laload, 1) := by decide +kernel
theorem dL_law_272 : decode cL_law 272 = .ok (.iload 6, 2) := by decide +kernel
theorem dL_law_274 : decode cL_law 274 = .ok (.i2l, 1) := by decide +kernel
theorem dL_law_275 : decode cL_law 275 = .ok (.lcmp, 1) := by decide +kernel
theorem dL_law_276 : decode cL_law 276 = .ok (.ifCond .eq 5, 3) := by decide +kernel
theorem dL_law_279 : decode cL_law 279 = .ok (.iconst 0, 1) := by decide +kernel
theorem dL_law_280 : decode cL_law 280 = .ok (.ireturn, 1) := by decide +kernel
theorem dL_law_281 : decode cL_law 281 = .ok (.goto 935, 3) := by decide +kernel
theorem dL_law_284 : decode cL_law 284 = .ok (.aload_n 1, 1) := by decide +kernel
theorem dL_law_285 : decode cL_law 285 = .ok (.aload_n 0, 1) := by decide +kernel
theorem dL_law_286 : decode cL_law 286 = .ok (.iload 4, 2) := by decide +kernel
theorem dL_law_288 : decode cL_law 288 = .ok (.iconst 1, 1) := by decide +kernel
theorem dL_law_289 : decode cL_law 289 = .ok (.iadd, 1) := by decide +kernel
theorem dL_law_290 : decode cL_law 290 = .ok (.iaload, 1) := by decide +kernel
theorem dL_law_291 : decode cL_law 291 = .ok (.aload_n 0, 1) := by decide +kernel
theorem dL_law_292 : decode cL_law 292 = .ok (.iload 4, 2) := by decide +kernel
theorem dL_law_294 : decode cL_law 294 = .ok (.iconst 2, 1) := by decide +kernel
theorem dL_law_295 : decode cL_law 295 = .ok (.iadd, 1) := by decide +kernel
theorem dL_law_296 : decode cL_law 296 = .ok (.iaload, 1) := by decide +kernel
theorem dL_law_297 : decode cL_law 297 = .ok (.ifCond .eq 7, 3) := by decide +kernel
theorem dL_law_300 : decode cL_law 300 = .ok (.iconst 1, 1) := by decide +kernel
theorem dL_law_301 : decode cL_law 301 = .ok (.goto 4, 3) := by decide +kernel
theorem dL_law_304 : decode cL_law 304 = .ok (.iconst 0, 1) := by decide +kernel
theorem dL_law_305 : decode cL_law 305 = .ok (.aload_n 3, 1) := by decide +kernel
theorem dL_law_306 : decode cL_law 306 = .ok (.invokestatic 88, 3) := by decide +kernel
theorem dL_law_309 : decode cL_law 309 = .ok (.istore 5, 2) := by decide +kernel
theorem dL_law_311 : decode cL_law 311 = .ok (.aload_n 2, 1) := by decide +kernel
theorem dL_law_312 : decode cL_law 312 = .ok (.aload_n 0, 1) := by decide +kernel
theorem dL_law_313 : decode cL_law 313 = .ok (.iload 4, 2) := by decide +kernel
theorem dL_law_315 : decode cL_law 315 = .ok (.iconst 1, 1) := by decide +kernel
theorem dL_law_316 : decode cL_law 316 = .ok (.iadd, 1) := by decide +kernel
theorem dL_law_317 : decode cL_law 317 = .ok (.iaload, 1) := by decide +kernel
theorem dL_law_318 : decode cL_law 318 = .ok (.aload_n 0, 1) := by decide +kernel
theorem dL_law_319 : decode cL_law 319 = .ok (.iload 4, 2) := by decide +kernel
theorem dL_law_321 : decode cL_law 321 = .ok (.iconst 2, 1) := by decide +kernel
theorem dL_law_322 : decode cL_law 322 = .ok (.iadd, 1) := by decide +kernel
theorem dL_law_323 : decode cL_law 323 = .ok (.iaload, 1) := by decide +kernel
theorem dL_law_324 : decode cL_law 324 = .ok (.ifCond .eq 7, 3) := by decide +kernel
theorem dL_law_327 : decode cL_law 327 = .ok (.iconst 1, 1) := by decide +kernel
theorem dL_law_328 : decode cL_law 328 = .ok (.goto 4, 3) := by decide +kernel
theorem dL_law_331 : decode cL_law 331 = .ok (.iconst 0, 1) := by decide +kernel
theorem dL_law_332 : decode cL_law 332 = .ok (.invokevirtual 91, 3) := by decide +kernel
theorem dL_law_335 : decode cL_law 335 = .ok (.istore 6, 2) := by decide +kernel
theorem dL_law_337 : decode cL_law 337 = .ok (.aload_n 2, 1) := by decide +kernel
theorem dL_law_338 : decode cL_law 338 = .ok (.invokevirtual 81, 3) := by decide +kernel
theorem dL_law_341 : decode cL_law 341 = .ok (.iload 5, 2) := by decide +kernel
theorem dL_law_343 : decode cL_law 343 = .ok (.if_icmp .eq 5, 3) := by decide +kernel
theorem dL_law_346 : decode cL_law 346 = .ok (.iconst 0, 1) := by decide +kernel
theorem dL_law_347 : decode cL_law 347 = .ok (.ireturn, 1) := by decide +kernel
theorem dL_law_348 : decode cL_law 348 = .ok (.iload 5, 2) := by decide +kernel
theorem dL_law_350 : decode cL_law 350 = .ok (.ifCond .ne 15, 3) := by decide +kernel
theorem dL_law_353 : decode cL_law 353 = .ok (.aload_n 3, 1) := by decide +kernel
theorem dL_law_354 : decode cL_law 354 = .ok (.iconst 0, 1) := by decide +kernel
theorem dL_law_355 : decode cL_law 355 = .ok (.laload, 1) := by decide +kernel
theorem dL_law_356 : decode cL_law 356 = .ok (.iload 6, 2) := by decide +kernel
theorem dL_law_358 : decode cL_law 358 = .ok (.i2l, 1) := by decide +kernel
theorem dL_law_359 : decode cL_law 359 = .ok (.lcmp, 1) := by decide +kernel
theorem dL_law_360 : decode cL_law 360 = .ok (.ifCond .eq 5, 3) := by decide +kernel
theorem dL_law_363 : decode cL_law 363 = .ok (.iconst 0, 1) := by decide +kernel
theorem dL_law_364 : decode cL_law 364 = .ok (.ireturn, 1) := by decide +kernel
theorem dL_law_365 : decode cL_law 365 = .ok (.goto 851, 3) := by decide +kernel
theorem dL_law_368 : decode cL_law 368 = .ok (.aload_n 1, 1) := by decide +kernel
theorem dL_law_369 : decode cL_law 369 = .ok (.aload_n 3, 1) := by decide +kernel
theorem dL_law_370 : decode cL_law 370 = .ok (.invokestatic 92, 3) := by decide +kernel
theorem dL_law_373 : decode cL_law 373 = .ok (.istore 5, 2) := by decide +kernel
theorem dL_law_375 : decode cL_law 375 = .ok (.aload_n 2, 1) := by decide +kernel
theorem dL_law_376 : decode cL_law 376 = .ok (.invokevirtual 95, 3) := by decide +kernel
theorem dL_law_379 : decode cL_law 379 = .ok (.istore 6, 2) := by decide +kernel
theorem dL_law_381 : decode cL_law 381 = .ok (.aload_n 2, 1) := by decide +kernel
theorem dL_law_382 : decode cL_law 382 = .ok (.invokevirtual 81, 3) := by decide +kernel
theorem dL_law_385 : decode cL_law 385 = .ok (.iload 5, 2) := by decide +kernel
theorem dL_law_387 : decode cL_law 387 = .ok (.if_icmp .eq 5, 3) := by decide +kernel
theorem dL_law_390 : decode cL_law 390 = .ok (.iconst 0, 1) := by decide +kernel
theorem dL_law_391 : decode cL_law 391 = .ok (.ireturn, 1) := by decide +kernel
theorem dL_law_392 : decode cL_law 392 = .ok (.iload 5, 2) := by decide +kernel
theorem dL_law_394 : decode cL_law 394 = .ok (.ifCond .ne 15, 3) := by decide +kernel
theorem dL_law_397 : decode cL_law 397 = .ok (.aload_n 3, 1) := by decide +kernel
theorem dL_law_398 : decode cL_law 398 = .ok (.iconst 0, 1) := by decide +kernel
theorem dL_law_399 : decode cL_law 399 = .ok (.laload, 1) := by decide +kernel
theorem dL_law_400 : decode cL_law 400 = .ok (.iload 6, 2) := by decide +kernel
theorem dL_law_402 : decode cL_law 402 = .ok (.i2l, 1) := by decide +kernel
theorem dL_law_403 : decode cL_law 403 = .ok (.lcmp, 1) := by decide +kernel
theorem dL_law_404 : decode cL_law 404 = .ok (.ifCond .eq 5, 3) := by decide +kernel
theorem dL_law_407 : decode cL_law 407 = .ok (.iconst 0, 1) := by decide +kernel
theorem dL_law_408 : decode cL_law 408 = .ok (.ireturn, 1) := by decide +kernel
theorem dL_law_409 : decode cL_law 409 = .ok (.goto 807, 3) := by decide +kernel
theorem dL_law_412 : decode cL_law 412 = .ok (.aload_n 1, 1) := by decide +kernel
theorem dL_law_413 : decode cL_law 413 = .ok (.aload_n 3, 1) := by decide +kernel
theorem dL_law_414 : decode cL_law 414 = .ok (.invokestatic 96, 3) := by decide +kernel
theorem dL_law_417 : decode cL_law 417 = .ok (.istore 5, 2) := by decide +kernel
theorem dL_law_419 : decode cL_law 419 = .ok (.aload_n 2, 1) := by decide +kernel
theorem dL_law_420 : decode cL_law 420 = .ok (.invokevirtual 98, 3) := by decide +kernel
theorem dL_law_423 : decode cL_law 423 = .ok (.istore 6, 2) := by decide +kernel
theorem dL_law_425 : decode cL_law 425 = .ok (.aload_n 2, 1) := by decide +kernel
theorem dL_law_426 : decode cL_law 426 = .ok (.invokevirtual 81, 3) := by decide +kernel
theorem dL_law_429 : decode cL_law 429 = .ok (.iload 5, 2) := by decide +kernel
theorem dL_law_431 : decode cL_law 431 = .ok (.if_icmp .eq 5, 3) := by decide +kernel
theorem dL_law_434 : decode cL_law 434 = .ok (.iconst 0, 1) := by decide +kernel
theorem dL_law_435 : decode cL_law 435 = .ok (.ireturn, 1) := by decide +kernel
theorem dL_law_436 : decode cL_law 436 = .ok (.iload 5, 2) := by decide +kernel
theorem dL_law_438 : decode cL_law 438 = .ok (.ifCond .ne 15, 3) := by decide +kernel
theorem dL_law_441 : decode cL_law 441 = .ok (.aload_n 3, 1) := by decide +kernel
theorem dL_law_442 : decode cL_law 442 = .ok (.iconst 0, 1) := by decide +kernel
theorem dL_law_443 : decode cL_law 443 = .ok (.laload, 1) := by decide +kernel
theorem dL_law_444 : decode cL_law 444 = .ok (.iload 6, 2) := by decide +kernel
theorem dL_law_446 : decode cL_law 446 = .ok (.i2l, 1) := by decide +kernel
theorem dL_law_447 : decode cL_law 447 = .ok (.lcmp, 1) := by decide +kernel
theorem dL_law_448 : decode cL_law 448 = .ok (.ifCond .eq 5, 3) := by decide +kernel
theorem dL_law_451 : decode cL_law 451 = .ok (.iconst 0, 1) := by decide +kernel
theorem dL_law_452 : decode cL_law 452 = .ok (.ireturn, 1) := by decide +kernel
theorem dL_law_453 : decode cL_law 453 = .ok (.goto 763, 3) := by decide +kernel
theorem dL_law_456 : decode cL_law 456 = .ok (.aload_n 1, 1) := by decide +kernel
theorem dL_law_457 : decode cL_law 457 = .ok (.aload_n 0, 1) := by decide +kernel
theorem dL_law_458 : decode cL_law 458 = .ok (.iload 4, 2) := by decide +kernel
theorem dL_law_460 : decode cL_law 460 = .ok (.iconst 1, 1) := by decide +kernel
theorem dL_law_461 : decode cL_law 461 = .ok (.iadd, 1) := by decide +kernel
theorem dL_law_462 : decode cL_law 462 = .ok (.iaload, 1) := by decide +kernel
theorem dL_law_463 : decode cL_law 463 = .ok (.aload_n 0, 1) := by decide +kernel
theorem dL_law_464 : decode cL_law 464 = .ok (.iload 4, 2) := by decide +kernel
theorem dL_law_466 : decode cL_law 466 = .ok (.iconst 2, 1) := by decide +kernel
theorem dL_law_467 : decode cL_law 467 = .ok (.iadd, 1) := by decide +kernel
theorem dL_law_468 : decode cL_law 468 = .ok (.iaload, 1) := by decide +kernel
theorem dL_law_469 : decode cL_law 469 = .ok (.aload_n 3, 1) := by decide +kernel
theorem dL_law_470 : decode cL_law 470 = .ok (.invokestatic 99, 3) := by decide +kernel
theorem dL_law_473 : decode cL_law 473 = .ok (.istore 5, 2) := by decide +kernel
theorem dL_law_475 : decode cL_law 475 = .ok (.aload_n 2, 1) := by decide +kernel
theorem dL_law_476 : decode cL_law 476 = .ok (.aload_n 0, 1) := by decide +kernel
theorem dL_law_477 : decode cL_law 477 = .ok (.iload 4, 2) := by decide +kernel
theorem dL_law_479 : decode cL_law 479 = .ok (.iconst 1, 1) := by decide +kernel
theorem dL_law_480 : decode cL_law 480 = .ok (.iadd, 1) := by decide +kernel
theorem dL_law_481 : decode cL_law 481 = .ok (.iaload, 1) := by decide +kernel
theorem dL_law_482 : decode cL_law 482 = .ok (.aload_n 0, 1) := by decide +kernel
theorem dL_law_483 : decode cL_law 483 = .ok (.iload 4, 2) := by decide +kernel
theorem dL_law_485 : decode cL_law 485 = .ok (.iconst 2, 1) := by decide +kernel
theorem dL_law_486 : decode cL_law 486 = .ok (.iadd, 1) := by decide +kernel
theorem dL_law_487 : decode cL_law 487 = .ok (.iaload, 1) := by decide +kernel
theorem dL_law_488 : decode cL_law 488 = .ok (.invokevirtual 101, 3) := by decide +kernel
theorem dL_law_491 : decode cL_law 491 = .ok (.istore 6, 2) := by decide +kernel
theorem dL_law_493 : decode cL_law 493 = .ok (.aload_n 2, 1) := by decide +kernel
theorem dL_law_494 : decode cL_law 494 = .ok (.invokevirtual 81, 3) := by decide +kernel
theorem dL_law_497 : decode cL_law 497 = .ok (.iload 5, 2) := by decide +kernel
theorem dL_law_499 : decode cL_law 499 = .ok (.if_icmp .eq 5, 3) := by decide +kernel
theorem dL_law_502 : decode cL_law 502 = .ok (.iconst 0, 1) := by decide +kernel
theorem dL_law_503 : decode cL_law 503 = .ok (.ireturn, 1) := by decide +kernel
theorem dL_law_504 : decode cL_law 504 = .ok (.iload 5, 2) := by decide +kernel
theorem dL_law_506 : decode cL_law 506 = .ok (.ifCond .ne 15, 3) := by decide +kernel
theorem dL_law_509 : decode cL_law 509 = .ok (.aload_n 3, 1) := by decide +kernel
theorem dL_law_510 : decode cL_law 510 = .ok (.iconst 0, 1) := by decide +kernel
theorem dL_law_511 : decode cL_law 511 = .ok (.laload, 1) := by decide +kernel
theorem dL_law_512 : decode cL_law 512 = .ok (.iload 6, 2) := by decide +kernel
theorem dL_law_514 : decode cL_law 514 = .ok (.i2l, 1) := by decide +kernel
theorem dL_law_515 : decode cL_law 515 = .ok (.lcmp, 1) := by decide +kernel
theorem dL_law_516 : decode cL_law 516 = .ok (.ifCond .eq 5, 3) := by decide +kernel
theorem dL_law_519 : decode cL_law 519 = .ok (.iconst 0, 1) := by decide +kernel
theorem dL_law_520 : decode cL_law 520 = .ok (.ireturn, 1) := by decide +kernel
theorem dL_law_521 : decode cL_law 521 = .ok (.goto 695, 3) := by decide +kernel
theorem dL_law_524 : decode cL_law 524 = .ok (.aload_n 1, 1) := by decide +kernel
theorem dL_law_525 : decode cL_law 525 = .ok (.invokevirtual 102, 3) := by decide +kernel
theorem dL_law_528 : decode cL_law 528 = .ok (.aload_n 2, 1) := by decide +kernel
theorem dL_law_529 : decode cL_law 529 = .ok (.invokevirtual 105, 3) := by decide +kernel
theorem dL_law_532 : decode cL_law 532 = .ok (.if_icmp .eq 684, 3) := by decide +kernel
theorem dL_law_535 : decode cL_law 535 = .ok (.iconst 0, 1) := by decide +kernel
theorem dL_law_536 : decode cL_law 536 = .ok (.ireturn, 1) := by decide +kernel
theorem dL_law_537 : decode cL_law 537 = .ok (.aload_n 1, 1) := by decide +kernel
theorem dL_law_538 : decode cL_law 538 = .ok (.aload_n 0, 1) := by decide +kernel
theorem dL_law_539 : decode cL_law 539 = .ok (.iload 4, 2) := by decide +kernel
theorem dL_law_541 : decode cL_law 541 = .ok (.iconst 1, 1) := by decide +kernel
theorem dL_law_542 : decode cL_law 542 = .ok (.iadd, 1) := by decide +kernel
theorem dL_law_543 : decode cL_law 543 = .ok (.iaload, 1) := by decide +kernel
theorem dL_law_544 : decode cL_law 544 = .ok (.aload_n 3, 1) := by decide +kernel
theorem dL_law_545 : decode cL_law 545 = .ok (.invokestatic 106, 3) := by decide +kernel
theorem dL_law_548 : decode cL_law 548 = .ok (.istore 5, 2) := by decide +kernel
theorem dL_law_550 : decode cL_law 550 = .ok (.aload_n 2, 1) := by decide +kernel
theorem dL_law_551 : decode cL_law 551 = .ok (.aload_n 0, 1) := by decide +kernel
theorem dL_law_552 : decode cL_law 552 = .ok (.iload 4, 2) := by decide +kernel
theorem dL_law_554 : decode cL_law 554 = .ok (.iconst 1, 1) := by decide +kernel
theorem dL_law_555 : decode cL_law 555 = .ok (.iadd, 1) := by decide +kernel
theorem dL_law_556 : decode cL_law 556 = .ok (.iaload, 1) := by decide +kernel
theorem dL_law_557 : decode cL_law 557 = .ok (.invokevirtual 109, 3) := by decide +kernel
theorem dL_law_560 : decode cL_law 560 = .ok (.istore 6, 2) := by decide +kernel
theorem dL_law_562 : decode cL_law 562 = .ok (.aload_n 2, 1) := by decide +kernel
theorem dL_law_563 : decode cL_law 563 = .ok (.invokevirtual 81, 3) := by decide +kernel
theorem dL_law_566 : decode cL_law 566 = .ok (.iload 5, 2) := by decide +kernel
theorem dL_law_568 : decode cL_law 568 = .ok (.if_icmp .eq 5, 3) := by decide +kernel
theorem dL_law_571 : decode cL_law 571 = .ok (.iconst 0, 1) := by decide +kernel
theorem dL_law_572 : decode cL_law 572 = .ok (.ireturn, 1) := by decide +kernel
theorem dL_law_573 : decode cL_law 573 = .ok (.iload 5, 2) := by decide +kernel
theorem dL_law_575 : decode cL_law 575 = .ok (.ifCond .ne 15, 3) := by decide +kernel
theorem dL_law_578 : decode cL_law 578 = .ok (.aload_n 3, 1) := by decide +kernel
theorem dL_law_579 : decode cL_law 579 = .ok (.iconst 0, 1) := by decide +kernel
theorem dL_law_580 : decode cL_law 580 = .ok (.laload, 1) := by decide +kernel
theorem dL_law_581 : decode cL_law 581 = .ok (.iload 6, 2) := by decide +kernel
theorem dL_law_583 : decode cL_law 583 = .ok (.i2l, 1) := by decide +kernel
theorem dL_law_584 : decode cL_law 584 = .ok (.lcmp, 1) := by decide +kernel
theorem dL_law_585 : decode cL_law 585 = .ok (.ifCond .eq 5, 3) := by decide +kernel
theorem dL_law_588 : decode cL_law 588 = .ok (.iconst 0, 1) := by decide +kernel
theorem dL_law_589 : decode cL_law 589 = .ok (.ireturn, 1) := by decide +kernel
theorem dL_law_590 : decode cL_law 590 = .ok (.goto 626, 3) := by decide +kernel
theorem dL_law_593 : decode cL_law 593 = .ok (.aload_n 1, 1) := by decide +kernel
theorem dL_law_594 : decode cL_law 594 = .ok (.aload_n 0, 1) := by decide +kernel
theorem dL_law_595 : decode cL_law 595 = .ok (.iload 4, 2) := by decide +kernel
theorem dL_law_597 : decode cL_law 597 = .ok (.iconst 1, 1) := by decide +kernel
theorem dL_law_598 : decode cL_law 598 = .ok (.iadd, 1) := by decide +kernel
theorem dL_law_599 : decode cL_law 599 = .ok (.iaload, 1) := by decide +kernel
theorem dL_law_600 : decode cL_law 600 = .ok (.aload_n 3, 1) := by decide +kernel
theorem dL_law_601 : decode cL_law 601 = .ok (.invokestatic 110, 3) := by decide +kernel
theorem dL_law_604 : decode cL_law 604 = .ok (.istore 5, 2) := by decide +kernel
theorem dL_law_606 : decode cL_law 606 = .ok (.aload_n 2, 1) := by decide +kernel
theorem dL_law_607 : decode cL_law 607 = .ok (.aload_n 0, 1) := by decide +kernel
theorem dL_law_608 : decode cL_law 608 = .ok (.iload 4, 2) := by decide +kernel
theorem dL_law_610 : decode cL_law 610 = .ok (.iconst 1, 1) := by decide +kernel
theorem dL_law_611 : decode cL_law 611 = .ok (.iadd, 1) := by decide +kernel
theorem dL_law_612 : decode cL_law 612 = .ok (.iaload, 1) := by decide +kernel
theorem dL_law_613 : decode cL_law 613 = .ok (.invokevirtual 112, 3) := by decide +kernel
theorem dL_law_616 : decode cL_law 616 = .ok (.istore 6, 2) := by decide +kernel
theorem dL_law_618 : decode cL_law 618 = .ok (.aload_n 2, 1) := by decide +kernel
theorem dL_law_619 : decode cL_law 619 = .ok (.invokevirtual 81, 3) := by decide +kernel
theorem dL_law_622 : decode cL_law 622 = .ok (.iload 5, 2) := by decide +kernel
theorem dL_law_624 : decode cL_law 624 = .ok (.if_icmp .eq 5, 3) := by decide +kernel
theorem dL_law_627 : decode cL_law 627 = .ok (.iconst 0, 1) := by decide +kernel
theorem dL_law_628 : decode cL_law 628 = .ok (.ireturn, 1) := by decide +kernel
theorem dL_law_629 : decode cL_law 629 = .ok (.iload 5, 2) := by decide +kernel
theorem dL_law_631 : decode cL_law 631 = .ok (.ifCond .ne 15, 3) := by decide +kernel
theorem dL_law_634 : decode cL_law 634 = .ok (.aload_n 3, 1) := by decide +kernel
theorem dL_law_635 : decode cL_law 635 = .ok (.iconst 0, 1) := by decide +kernel
theorem dL_law_636 : decode cL_law 636 = .ok (.laload, 1) := by decide +kernel
theorem dL_law_637 : decode cL_law 637 = .ok (.iload 6, 2) := by decide +kernel
theorem dL_law_639 : decode cL_law 639 = .ok (.i2l, 1) := by decide +kernel
theorem dL_law_640 : decode cL_law 640 = .ok (.lcmp, 1) := by decide +kernel
theorem dL_law_641 : decode cL_law 641 = .ok (.ifCond .eq 5, 3) := by decide +kernel
theorem dL_law_644 : decode cL_law 644 = .ok (.iconst 0, 1) := by decide +kernel
theorem dL_law_645 : decode cL_law 645 = .ok (.ireturn, 1) := by decide +kernel
theorem dL_law_646 : decode cL_law 646 = .ok (.goto 570, 3) := by decide +kernel
theorem dL_law_649 : decode cL_law 649 = .ok (.aload_n 1, 1) := by decide +kernel
theorem dL_law_650 : decode cL_law 650 = .ok (.aload_n 0, 1) := by decide +kernel
theorem dL_law_651 : decode cL_law 651 = .ok (.iload 4, 2) := by decide +kernel
theorem dL_law_653 : decode cL_law 653 = .ok (.iconst 1, 1) := by decide +kernel
theorem dL_law_654 : decode cL_law 654 = .ok (.iadd, 1) := by decide +kernel
theorem dL_law_655 : decode cL_law 655 = .ok (.iaload, 1) := by decide +kernel
theorem dL_law_656 : decode cL_law 656 = .ok (.aload_n 3, 1) := by decide +kernel
theorem dL_law_657 : decode cL_law 657 = .ok (.invokestatic 113, 3) := by decide +kernel
theorem dL_law_660 : decode cL_law 660 = .ok (.istore 5, 2) := by decide +kernel
theorem dL_law_662 : decode cL_law 662 = .ok (.aload_n 2, 1) := by decide +kernel
theorem dL_law_663 : decode cL_law 663 = .ok (.aload_n 0, 1) := by decide +kernel
theorem dL_law_664 : decode cL_law 664 = .ok (.iload 4, 2) := by decide +kernel
theorem dL_law_666 : decode cL_law 666 = .ok (.iconst 1, 1) := by decide +kernel
theorem dL_law_667 : decode cL_law 667 = .ok (.iadd, 1) := by decide +kernel
theorem dL_law_668 : decode cL_law 668 = .ok (.iaload, 1) := by decide +kernel
theorem dL_law_669 : decode cL_law 669 = .ok (.invokevirtual 115, 3) := by decide +kernel
theorem dL_law_672 : decode cL_law 672 = .ok (.istore 6, 2) := by decide +kernel
theorem dL_law_674 : decode cL_law 674 = .ok (.aload_n 2, 1) := by decide +kernel
theorem dL_law_675 : decode cL_law 675 = .ok (.invokevirtual 81, 3) := by decide +kernel
theorem dL_law_678 : decode cL_law 678 = .ok (.iload 5, 2) := by decide +kernel
theorem dL_law_680 : decode cL_law 680 = .ok (.if_icmp .eq 5, 3) := by decide +kernel
theorem dL_law_683 : decode cL_law 683 = .ok (.iconst 0, 1) := by decide +kernel
theorem dL_law_684 : decode cL_law 684 = .ok (.ireturn, 1) := by decide +kernel
theorem dL_law_685 : decode cL_law 685 = .ok (.iload 5, 2) := by decide +kernel
theorem dL_law_687 : decode cL_law 687 = .ok (.ifCond .ne 15, 3) := by decide +kernel
theorem dL_law_690 : decode cL_law 690 = .ok (.aload_n 3, 1) := by decide +kernel
theorem dL_law_691 : decode cL_law 691 = .ok (.iconst 0, 1) := by decide +kernel
theorem dL_law_692 : decode cL_law 692 = .ok (.laload, 1) := by decide +kernel
theorem dL_law_693 : decode cL_law 693 = .ok (.iload 6, 2) := by decide +kernel
theorem dL_law_695 : decode cL_law 695 = .ok (.i2l, 1) := by decide +kernel
theorem dL_law_696 : decode cL_law 696 = .ok (.lcmp, 1) := by decide +kernel
theorem dL_law_697 : decode cL_law 697 = .ok (.ifCond .eq 5, 3) := by decide +kernel
theorem dL_law_700 : decode cL_law 700 = .ok (.iconst 0, 1) := by decide +kernel
theorem dL_law_701 : decode cL_law 701 = .ok (.ireturn, 1) := by decide +kernel
theorem dL_law_702 : decode cL_law 702 = .ok (.goto 514, 3) := by decide +kernel
theorem dL_law_705 : decode cL_law 705 = .ok (.aload_n 1, 1) := by decide +kernel
theorem dL_law_706 : decode cL_law 706 = .ok (.invokevirtual 116, 3) := by decide +kernel
theorem dL_law_709 : decode cL_law 709 = .ok (.aload_n 2, 1) := by decide +kernel
theorem dL_law_710 : decode cL_law 710 = .ok (.invokevirtual 119, 3) := by decide +kernel
theorem dL_law_713 : decode cL_law 713 = .ok (.if_icmp .eq 503, 3) := by decide +kernel
theorem dL_law_716 : decode cL_law 716 = .ok (.iconst 0, 1) := by decide +kernel
theorem dL_law_717 : decode cL_law 717 = .ok (.ireturn, 1) := by decide +kernel
theorem dL_law_718 : decode cL_law 718 = .ok (.aload_n 1, 1) := by decide +kernel
theorem dL_law_719 : decode cL_law 719 = .ok (.invokevirtual 120, 3) := by decide +kernel
theorem dL_law_722 : decode cL_law 722 = .ok (.aload_n 2, 1) := by decide +kernel
theorem dL_law_723 : decode cL_law 723 = .ok (.invokevirtual 123, 3) := by decide +kernel
theorem dL_law_726 : decode cL_law 726 = .ok (.if_icmp .eq 490, 3) := by decide +kernel
theorem dL_law_729 : decode cL_law 729 = .ok (.iconst 0, 1) := by decide +kernel
theorem dL_law_730 : decode cL_law 730 = .ok (.ireturn, 1) := by decide +kernel
theorem dL_law_731 : decode cL_law 731 = .ok (.aload_n 1, 1) := by decide +kernel
theorem dL_law_732 : decode cL_law 732 = .ok (.aload_n 0, 1) := by decide +kernel
theorem dL_law_733 : decode cL_law 733 = .ok (.iload 4, 2) := by decide +kernel
theorem dL_law_735 : decode cL_law 735 = .ok (.iconst 1, 1) := by decide +kernel
theorem dL_law_736 : decode cL_law 736 = .ok (.iadd, 1) := by decide +kernel
theorem dL_law_737 : decode cL_law 737 = .ok (.iaload, 1) := by decide +kernel
theorem dL_law_738 : decode cL_law 738 = .ok (.aload_n 3, 1) := by decide +kernel
theorem dL_law_739 : decode cL_law 739 = .ok (.invokestatic 124, 3) := by decide +kernel
theorem dL_law_742 : decode cL_law 742 = .ok (.istore 5, 2) := by decide +kernel
theorem dL_law_744 : decode cL_law 744 = .ok (.aload_n 2, 1) := by decide +kernel
theorem dL_law_745 : decode cL_law 745 = .ok (.aload_n 0, 1) := by decide +kernel
theorem dL_law_746 : decode cL_law 746 = .ok (.iload 4, 2) := by decide +kernel
theorem dL_law_748 : decode cL_law 748 = .ok (.iconst 1, 1) := by decide +kernel
theorem dL_law_749 : decode cL_law 749 = .ok (.iadd, 1) := by decide +kernel
theorem dL_law_750 : decode cL_law 750 = .ok (.iaload, 1) := by decide +kernel
theorem dL_law_751 : decode cL_law 751 = .ok (.invokevirtual 126, 3) := by decide +kernel
theorem dL_law_754 : decode cL_law 754 = .ok (.istore 6, 2) := by decide +kernel
theorem dL_law_756 : decode cL_law 756 = .ok (.aload_n 2, 1) := by decide +kernel
theorem dL_law_757 : decode cL_law 757 = .ok (.invokevirtual 81, 3) := by decide +kernel
theorem dL_law_760 : decode cL_law 760 = .ok (.iload 5, 2) := by decide +kernel
theorem dL_law_762 : decode cL_law 762 = .ok (.if_icmp .eq 5, 3) := by decide +kernel
theorem dL_law_765 : decode cL_law 765 = .ok (.iconst 0, 1) := by decide +kernel
theorem dL_law_766 : decode cL_law 766 = .ok (.ireturn, 1) := by decide +kernel
theorem dL_law_767 : decode cL_law 767 = .ok (.iload 5, 2) := by decide +kernel
theorem dL_law_769 : decode cL_law 769 = .ok (.ifCond .ne 15, 3) := by decide +kernel
theorem dL_law_772 : decode cL_law 772 = .ok (.aload_n 3, 1) := by decide +kernel
theorem dL_law_773 : decode cL_law 773 = .ok (.iconst 0, 1) := by decide +kernel
theorem dL_law_774 : decode cL_law 774 = .ok (.laload, 1) := by decide +kernel
theorem dL_law_775 : decode cL_law 775 = .ok (.iload 6, 2) := by decide +kernel
theorem dL_law_777 : decode cL_law 777 = .ok (.i2l, 1) := by decide +kernel
theorem dL_law_778 : decode cL_law 778 = .ok (.lcmp, 1) := by decide +kernel
theorem dL_law_779 : decode cL_law 779 = .ok (.ifCond .eq 5, 3) := by decide +kernel
theorem dL_law_782 : decode cL_law 782 = .ok (.iconst 0, 1) := by decide +kernel
theorem dL_law_783 : decode cL_law 783 = .ok (.ireturn, 1) := by decide +kernel
theorem dL_law_784 : decode cL_law 784 = .ok (.goto 432, 3) := by decide +kernel
theorem dL_law_787 : decode cL_law 787 = .ok (.aload_n 1, 1) := by decide +kernel
theorem dL_law_788 : decode cL_law 788 = .ok (.aload_n 0, 1) := by decide +kernel
theorem dL_law_789 : decode cL_law 789 = .ok (.iload 4, 2) := by decide +kernel
theorem dL_law_791 : decode cL_law 791 = .ok (.iconst 1, 1) := by decide +kernel
theorem dL_law_792 : decode cL_law 792 = .ok (.iadd, 1) := by decide +kernel
theorem dL_law_793 : decode cL_law 793 = .ok (.iaload, 1) := by decide +kernel
theorem dL_law_794 : decode cL_law 794 = .ok (.aload_n 3, 1) := by decide +kernel
theorem dL_law_795 : decode cL_law 795 = .ok (.invokestatic 127, 3) := by decide +kernel
theorem dL_law_798 : decode cL_law 798 = .ok (.istore 5, 2) := by decide +kernel
theorem dL_law_800 : decode cL_law 800 = .ok (.aload_n 2, 1) := by decide +kernel
theorem dL_law_801 : decode cL_law 801 = .ok (.aload_n 0, 1) := by decide +kernel
theorem dL_law_802 : decode cL_law 802 = .ok (.iload 4, 2) := by decide +kernel
theorem dL_law_804 : decode cL_law 804 = .ok (.iconst 1, 1) := by decide +kernel
theorem dL_law_805 : decode cL_law 805 = .ok (.iadd, 1) := by decide +kernel
theorem dL_law_806 : decode cL_law 806 = .ok (.iaload, 1) := by decide +kernel
theorem dL_law_807 : decode cL_law 807 = .ok (.invokevirtual 129, 3) := by decide +kernel
theorem dL_law_810 : decode cL_law 810 = .ok (.istore 6, 2) := by decide +kernel
theorem dL_law_812 : decode cL_law 812 = .ok (.aload_n 2, 1) := by decide +kernel
theorem dL_law_813 : decode cL_law 813 = .ok (.invokevirtual 81, 3) := by decide +kernel
theorem dL_law_816 : decode cL_law 816 = .ok (.iload 5, 2) := by decide +kernel
theorem dL_law_818 : decode cL_law 818 = .ok (.if_icmp .eq 5, 3) := by decide +kernel
theorem dL_law_821 : decode cL_law 821 = .ok (.iconst 0, 1) := by decide +kernel
theorem dL_law_822 : decode cL_law 822 = .ok (.ireturn, 1) := by decide +kernel
theorem dL_law_823 : decode cL_law 823 = .ok (.iload 5, 2) := by decide +kernel
theorem dL_law_825 : decode cL_law 825 = .ok (.ifCond .ne 15, 3) := by decide +kernel
theorem dL_law_828 : decode cL_law 828 = .ok (.aload_n 3, 1) := by decide +kernel
theorem dL_law_829 : decode cL_law 829 = .ok (.iconst 0, 1) := by decide +kernel
theorem dL_law_830 : decode cL_law 830 = .ok (.laload, 1) := by decide +kernel
theorem dL_law_831 : decode cL_law 831 = .ok (.iload 6, 2) := by decide +kernel
theorem dL_law_833 : decode cL_law 833 = .ok (.i2l, 1) := by decide +kernel
theorem dL_law_834 : decode cL_law 834 = .ok (.lcmp, 1) := by decide +kernel
theorem dL_law_835 : decode cL_law 835 = .ok (.ifCond .eq 5, 3) := by decide +kernel
theorem dL_law_838 : decode cL_law 838 = .ok (.iconst 0, 1) := by decide +kernel
theorem dL_law_839 : decode cL_law 839 = .ok (.ireturn, 1) := by decide +kernel
theorem dL_law_840 : decode cL_law 840 = .ok (.goto 376, 3) := by decide +kernel
theorem dL_law_843 : decode cL_law 843 = .ok (.aload_n 1, 1) := by decide +kernel
theorem dL_law_844 : decode cL_law 844 = .ok (.aload_n 0, 1) := by decide +kernel
theorem dL_law_845 : decode cL_law 845 = .ok (.iload 4, 2) := by decide +kernel
theorem dL_law_847 : decode cL_law 847 = .ok (.iconst 1, 1) := by decide +kernel
theorem dL_law_848 : decode cL_law 848 = .ok (.iadd, 1) := by decide +kernel
theorem dL_law_849 : decode cL_law 849 = .ok (.iaload, 1) := by decide +kernel
theorem dL_law_850 : decode cL_law 850 = .ok (.aload_n 3, 1) := by decide +kernel
theorem dL_law_851 : decode cL_law 851 = .ok (.invokestatic 130, 3) := by decide +kernel
theorem dL_law_854 : decode cL_law 854 = .ok (.istore 5, 2) := by decide +kernel
theorem dL_law_856 : decode cL_law 856 = .ok (.aload_n 2, 1) := by decide +kernel
theorem dL_law_857 : decode cL_law 857 = .ok (.aload_n 0, 1) := by decide +kernel
theorem dL_law_858 : decode cL_law 858 = .ok (.iload 4, 2) := by decide +kernel
theorem dL_law_860 : decode cL_law 860 = .ok (.iconst 1, 1) := by decide +kernel
theorem dL_law_861 : decode cL_law 861 = .ok (.iadd, 1) := by decide +kernel
theorem dL_law_862 : decode cL_law 862 = .ok (.iaload, 1) := by decide +kernel
theorem dL_law_863 : decode cL_law 863 = .ok (.invokevirtual 132, 3) := by decide +kernel
theorem dL_law_866 : decode cL_law 866 = .ok (.istore 6, 2) := by decide +kernel
theorem dL_law_868 : decode cL_law 868 = .ok (.aload_n 2, 1) := by decide +kernel
theorem dL_law_869 : decode cL_law 869 = .ok (.invokevirtual 81, 3) := by decide +kernel
theorem dL_law_872 : decode cL_law 872 = .ok (.iload 5, 2) := by decide +kernel
theorem dL_law_874 : decode cL_law 874 = .ok (.if_icmp .eq 5, 3) := by decide +kernel
theorem dL_law_877 : decode cL_law 877 = .ok (.iconst 0, 1) := by decide +kernel
theorem dL_law_878 : decode cL_law 878 = .ok (.ireturn, 1) := by decide +kernel
theorem dL_law_879 : decode cL_law 879 = .ok (.iload 5, 2) := by decide +kernel
theorem dL_law_881 : decode cL_law 881 = .ok (.ifCond .ne 15, 3) := by decide +kernel
theorem dL_law_884 : decode cL_law 884 = .ok (.aload_n 3, 1) := by decide +kernel
theorem dL_law_885 : decode cL_law 885 = .ok (.iconst 0, 1) := by decide +kernel
theorem dL_law_886 : decode cL_law 886 = .ok (.laload, 1) := by decide +kernel
theorem dL_law_887 : decode cL_law 887 = .ok (.iload 6, 2) := by decide +kernel
theorem dL_law_889 : decode cL_law 889 = .ok (.i2l, 1) := by decide +kernel
theorem dL_law_890 : decode cL_law 890 = .ok (.lcmp, 1) := by decide +kernel
theorem dL_law_891 : decode cL_law 891 = .ok (.ifCond .eq 5, 3) := by decide +kernel
theorem dL_law_894 : decode cL_law 894 = .ok (.iconst 0, 1) := by decide +kernel
theorem dL_law_895 : decode cL_law 895 = .ok (.ireturn, 1) := by decide +kernel
theorem dL_law_896 : decode cL_law 896 = .ok (.goto 320, 3) := by decide +kernel
theorem dL_law_899 : decode cL_law 899 = .ok (.aload_n 1, 1) := by decide +kernel
theorem dL_law_900 : decode cL_law 900 = .ok (.invokevirtual 133, 3) := by decide +kernel
theorem dL_law_903 : decode cL_law 903 = .ok (.aload_n 2, 1) := by decide +kernel
theorem dL_law_904 : decode cL_law 904 = .ok (.invokevirtual 136, 3) := by decide +kernel
theorem dL_law_907 : decode cL_law 907 = .ok (.if_icmp .eq 309, 3) := by decide +kernel
theorem dL_law_910 : decode cL_law 910 = .ok (.iconst 0, 1) := by decide +kernel
theorem dL_law_911 : decode cL_law 911 = .ok (.ireturn, 1) := by decide +kernel
theorem dL_law_912 : decode cL_law 912 = .ok (.aload_n 1, 1) := by decide +kernel
theorem dL_law_913 : decode cL_law 913 = .ok (.aload_n 0, 1) := by decide +kernel
theorem dL_law_914 : decode cL_law 914 = .ok (.iload 4, 2) := by decide +kernel
theorem dL_law_916 : decode cL_law 916 = .ok (.iconst 1, 1) := by decide +kernel
theorem dL_law_917 : decode cL_law 917 = .ok (.iadd, 1) := by decide +kernel
theorem dL_law_918 : decode cL_law 918 = .ok (.iaload, 1) := by decide +kernel
theorem dL_law_919 : decode cL_law 919 = .ok (.aload_n 3, 1) := by decide +kernel
theorem dL_law_920 : decode cL_law 920 = .ok (.invokestatic 137, 3) := by decide +kernel
theorem dL_law_923 : decode cL_law 923 = .ok (.istore 5, 2) := by decide +kernel
theorem dL_law_925 : decode cL_law 925 = .ok (.aload_n 2, 1) := by decide +kernel
theorem dL_law_926 : decode cL_law 926 = .ok (.aload_n 0, 1) := by decide +kernel
theorem dL_law_927 : decode cL_law 927 = .ok (.iload 4, 2) := by decide +kernel
theorem dL_law_929 : decode cL_law 929 = .ok (.iconst 1, 1) := by decide +kernel
theorem dL_law_930 : decode cL_law 930 = .ok (.iadd, 1) := by decide +kernel
theorem dL_law_931 : decode cL_law 931 = .ok (.iaload, 1) := by decide +kernel
theorem dL_law_932 : decode cL_law 932 = .ok (.invokevirtual 139, 3) := by decide +kernel
theorem dL_law_935 : decode cL_law 935 = .ok (.istore 6, 2) := by decide +kernel
theorem dL_law_937 : decode cL_law 937 = .ok (.aload_n 2, 1) := by decide +kernel
theorem dL_law_938 : decode cL_law 938 = .ok (.invokevirtual 81, 3) := by decide +kernel
theorem dL_law_941 : decode cL_law 941 = .ok (.iload 5, 2) := by decide +kernel
theorem dL_law_943 : decode cL_law 943 = .ok (.if_icmp .eq 5, 3) := by decide +kernel
theorem dL_law_946 : decode cL_law 946 = .ok (.iconst 0, 1) := by decide +kernel
theorem dL_law_947 : decode cL_law 947 = .ok (.ireturn, 1) := by decide +kernel
theorem dL_law_948 : decode cL_law 948 = .ok (.iload 5, 2) := by decide +kernel
theorem dL_law_950 : decode cL_law 950 = .ok (.ifCond .ne 15, 3) := by decide +kernel
theorem dL_law_953 : decode cL_law 953 = .ok (.aload_n 3, 1) := by decide +kernel
theorem dL_law_954 : decode cL_law 954 = .ok (.iconst 0, 1) := by decide +kernel
theorem dL_law_955 : decode cL_law 955 = .ok (.laload, 1) := by decide +kernel
theorem dL_law_956 : decode cL_law 956 = .ok (.iload 6, 2) := by decide +kernel
theorem dL_law_958 : decode cL_law 958 = .ok (.i2l, 1) := by decide +kernel
theorem dL_law_959 : decode cL_law 959 = .ok (.lcmp, 1) := by decide +kernel
theorem dL_law_960 : decode cL_law 960 = .ok (.ifCond .eq 5, 3) := by decide +kernel
theorem dL_law_963 : decode cL_law 963 = .ok (.iconst 0, 1) := by decide +kernel
theorem dL_law_964 : decode cL_law 964 = .ok (.ireturn, 1) := by decide +kernel
theorem dL_law_965 : decode cL_law 965 = .ok (.goto 251, 3) := by decide +kernel
theorem dL_law_968 : decode cL_law 968 = .ok (.aload_n 1, 1) := by decide +kernel
theorem dL_law_969 : decode cL_law 969 = .ok (.aload_n 0, 1) := by decide +kernel
theorem dL_law_970 : decode cL_law 970 = .ok (.iload 4, 2) := by decide +kernel
theorem dL_law_972 : decode cL_law 972 = .ok (.iconst 1, 1) := by decide +kernel
theorem dL_law_973 : decode cL_law 973 = .ok (.iadd, 1) := by decide +kernel
theorem dL_law_974 : decode cL_law 974 = .ok (.iaload, 1) := by decide +kernel
theorem dL_law_975 : decode cL_law 975 = .ok (.aload_n 3, 1) := by decide +kernel
theorem dL_law_976 : decode cL_law 976 = .ok (.invokestatic 140, 3) := by decide +kernel
theorem dL_law_979 : decode cL_law 979 = .ok (.istore 5, 2) := by decide +kernel
theorem dL_law_981 : decode cL_law 981 = .ok (.aload_n 2, 1) := by decide +kernel
theorem dL_law_982 : decode cL_law 982 = .ok (.aload_n 0, 1) := by decide +kernel
theorem dL_law_983 : decode cL_law 983 = .ok (.iload 4, 2) := by decide +kernel
theorem dL_law_985 : decode cL_law 985 = .ok (.iconst 1, 1) := by decide +kernel
theorem dL_law_986 : decode cL_law 986 = .ok (.iadd, 1) := by decide +kernel
theorem dL_law_987 : decode cL_law 987 = .ok (.iaload, 1) := by decide +kernel
theorem dL_law_988 : decode cL_law 988 = .ok (.invokevirtual 142, 3) := by decide +kernel
theorem dL_law_991 : decode cL_law 991 = .ok (.istore 6, 2) := by decide +kernel
theorem dL_law_993 : decode cL_law 993 = .ok (.aload_n 2, 1) := by decide +kernel
theorem dL_law_994 : decode cL_law 994 = .ok (.invokevirtual 81, 3) := by decide +kernel
theorem dL_law_997 : decode cL_law 997 = .ok (.iload 5, 2) := by decide +kernel
theorem dL_law_999 : decode cL_law 999 = .ok (.if_icmp .eq 5, 3) := by decide +kernel
theorem dL_law_1002 : decode cL_law 1002 = .ok (.iconst 0, 1) := by decide +kernel
theorem dL_law_1003 : decode cL_law 1003 = .ok (.ireturn, 1) := by decide +kernel
theorem dL_law_1004 : decode cL_law 1004 = .ok (.iload 5, 2) := by decide +kernel
theorem dL_law_1006 : decode cL_law 1006 = .ok (.ifCond .ne 15, 3) := by decide +kernel
theorem dL_law_1009 : decode cL_law 1009 = .ok (.aload_n 3, 1) := by decide +kernel
theorem dL_law_1010 : decode cL_law 1010 = .ok (.iconst 0, 1) := by decide +kernel
theorem dL_law_1011 : decode cL_law 1011 = .ok (.laload, 1) := by decide +kernel
theorem dL_law_1012 : decode cL_law 1012 = .ok (.iload 6, 2) := by decide +kernel
theorem dL_law_1014 : decode cL_law 1014 = .ok (.i2l, 1) := by decide +kernel
theorem dL_law_1015 : decode cL_law 1015 = .ok (.lcmp, 1) := by decide +kernel
theorem dL_law_1016 : decode cL_law 1016 = .ok (.ifCond .eq 5, 3) := by decide +kernel
theorem dL_law_1019 : decode cL_law 1019 = .ok (.iconst 0, 1) := by decide +kernel
theorem dL_law_1020 : decode cL_law 1020 = .ok (.ireturn, 1) := by decide +kernel
theorem dL_law_1021 : decode cL_law 1021 = .ok (.goto 195, 3) := by decide +kernel
theorem dL_law_1024 : decode cL_law 1024 = .ok (.aload_n 1, 1) := by decide +kernel
theorem dL_law_1025 : decode cL_law 1025 = .ok (.aload_n 0, 1) := by decide +kernel
theorem dL_law_1026 : decode cL_law 1026 = .ok (.iload 4, 2) := by decide +kernel
theorem dL_law_1028 : decode cL_law 1028 = .ok (.iconst 1, 1) := by decide +kernel
theorem dL_law_1029 : decode cL_law 1029 = .ok (.iadd, 1) := by decide +kernel
theorem dL_law_1030 : decode cL_law 1030 = .ok (.iaload, 1) := by decide +kernel
theorem dL_law_1031 : decode cL_law 1031 = .ok (.aload_n 3, 1) := by decide +kernel
theorem dL_law_1032 : decode cL_law 1032 = .ok (.invokestatic 143, 3) := by decide +kernel
theorem dL_law_1035 : decode cL_law 1035 = .ok (.istore 5, 2) := by decide +kernel
theorem dL_law_1037 : decode cL_law 1037 = .ok (.aload_n 2, 1) := by decide +kernel
theorem dL_law_1038 : decode cL_law 1038 = .ok (.aload_n 0, 1) := by decide +kernel
theorem dL_law_1039 : decode cL_law 1039 = .ok (.iload 4, 2) := by decide +kernel
theorem dL_law_1041 : decode cL_law 1041 = .ok (.iconst 1, 1) := by decide +kernel
theorem dL_law_1042 : decode cL_law 1042 = .ok (.iadd, 1) := by decide +kernel
theorem dL_law_1043 : decode cL_law 1043 = .ok (.iaload, 1) := by decide +kernel
theorem dL_law_1044 : decode cL_law 1044 = .ok (.invokevirtual 145, 3) := by decide +kernel
theorem dL_law_1047 : decode cL_law 1047 = .ok (.istore 6, 2) := by decide +kernel
theorem dL_law_1049 : decode cL_law 1049 = .ok (.aload_n 2, 1) := by decide +kernel
theorem dL_law_1050 : decode cL_law 1050 = .ok (.invokevirtual 81, 3) := by decide +kernel
theorem dL_law_1053 : decode cL_law 1053 = .ok (.iload 5, 2) := by decide +kernel
theorem dL_law_1055 : decode cL_law 1055 = .ok (.if_icmp .eq 5, 3) := by decide +kernel
theorem dL_law_1058 : decode cL_law 1058 = .ok (.iconst 0, 1) := by decide +kernel
theorem dL_law_1059 : decode cL_law 1059 = .ok (.ireturn, 1) := by decide +kernel
theorem dL_law_1060 : decode cL_law 1060 = .ok (.iload 5, 2) := by decide +kernel
theorem dL_law_1062 : decode cL_law 1062 = .ok (.ifCond .ne 15, 3) := by decide +kernel
theorem dL_law_1065 : decode cL_law 1065 = .ok (.aload_n 3, 1) := by decide +kernel
theorem dL_law_1066 : decode cL_law 1066 = .ok (.iconst 0, 1) := by decide +kernel
theorem dL_law_1067 : decode cL_law 1067 = .ok (.laload, 1) := by decide +kernel
theorem dL_law_1068 : decode cL_law 1068 = .ok (.iload 6, 2) := by decide +kernel
theorem dL_law_1070 : decode cL_law 1070 = .ok (.i2l, 1) := by decide +kernel
theorem dL_law_1071 : decode cL_law 1071 = .ok (.lcmp, 1) := by decide +kernel
theorem dL_law_1072 : decode cL_law 1072 = .ok (.ifCond .eq 5, 3) := by decide +kernel
theorem dL_law_1075 : decode cL_law 1075 = .ok (.iconst 0, 1) := by decide +kernel
theorem dL_law_1076 : decode cL_law 1076 = .ok (.ireturn, 1) := by decide +kernel
theorem dL_law_1077 : decode cL_law 1077 = .ok (.goto 139, 3) := by decide +kernel
theorem dL_law_1080 : decode cL_law 1080 = .ok (.aload_n 1, 1) := by decide +kernel
theorem dL_law_1081 : decode cL_law 1081 = .ok (.aload_n 0, 1) := by decide +kernel
theorem dL_law_1082 : decode cL_law 1082 = .ok (.iload 4, 2) := by decide +kernel
theorem dL_law_1084 : decode cL_law 1084 = .ok (.iconst 1, 1) := by decide +kernel
theorem dL_law_1085 : decode cL_law 1085 = .ok (.iadd, 1) := by decide +kernel
theorem dL_law_1086 : decode cL_law 1086 = .ok (.iaload, 1) := by decide +kernel
theorem dL_law_1087 : decode cL_law 1087 = .ok (.aload_n 0, 1) := by decide +kernel
theorem dL_law_1088 : decode cL_law 1088 = .ok (.iload 4, 2) := by decide +kernel
theorem dL_law_1090 : decode cL_law 1090 = .ok (.iconst 2, 1) := by decide +kernel
theorem dL_law_1091 : decode cL_law 1091 = .ok (.iadd, 1) := by decide +kernel
theorem dL_law_1092 : decode cL_law 1092 = .ok (.iaload, 1) := by decide +kernel
theorem dL_law_1093 : decode cL_law 1093 = .ok (.aload_n 3, 1) := by decide +kernel
theorem dL_law_1094 : decode cL_law 1094 = .ok (.invokestatic 146, 3) := by decide +kernel
theorem dL_law_1097 : decode cL_law 1097 = .ok (.istore 5, 2) := by decide +kernel
theorem dL_law_1099 : decode cL_law 1099 = .ok (.aload_n 2, 1) := by decide +kernel
theorem dL_law_1100 : decode cL_law 1100 = .ok (.aload_n 0, 1) := by decide +kernel
theorem dL_law_1101 : decode cL_law 1101 = .ok (.iload 4, 2) := by decide +kernel
theorem dL_law_1103 : decode cL_law 1103 = .ok (.iconst 1, 1) := by decide +kernel
theorem dL_law_1104 : decode cL_law 1104 = .ok (.iadd, 1) := by decide +kernel
theorem dL_law_1105 : decode cL_law 1105 = .ok (.iaload, 1) := by decide +kernel
theorem dL_law_1106 : decode cL_law 1106 = .ok (.aload_n 0, 1) := by decide +kernel
theorem dL_law_1107 : decode cL_law 1107 = .ok (.iload 4, 2) := by decide +kernel
theorem dL_law_1109 : decode cL_law 1109 = .ok (.iconst 2, 1) := by decide +kernel
theorem dL_law_1110 : decode cL_law 1110 = .ok (.iadd, 1) := by decide +kernel
theorem dL_law_1111 : decode cL_law 1111 = .ok (.iaload, 1) := by decide +kernel
theorem dL_law_1112 : decode cL_law 1112 = .ok (.invokevirtual 148, 3) := by decide +kernel
theorem dL_law_1115 : decode cL_law 1115 = .ok (.istore 6, 2) := by decide +kernel
theorem dL_law_1117 : decode cL_law 1117 = .ok (.aload_n 2, 1) := by decide +kernel
theorem dL_law_1118 : decode cL_law 1118 = .ok (.invokevirtual 81, 3) := by decide +kernel
theorem dL_law_1121 : decode cL_law 1121 = .ok (.iload 5, 2) := by decide +kernel
theorem dL_law_1123 : decode cL_law 1123 = .ok (.if_icmp .eq 5, 3) := by decide +kernel
theorem dL_law_1126 : decode cL_law 1126 = .ok (.iconst 0, 1) := by decide +kernel
theorem dL_law_1127 : decode cL_law 1127 = .ok (.ireturn, 1) := by decide +kernel
theorem dL_law_1128 : decode cL_law 1128 = .ok (.iload 5, 2) := by decide +kernel
theorem dL_law_1130 : decode cL_law 1130 = .ok (.ifCond .ne 15, 3) := by decide +kernel
theorem dL_law_1133 : decode cL_law 1133 = .ok (.aload_n 3, 1) := by decide +kernel
theorem dL_law_1134 : decode cL_law 1134 = .ok (.iconst 0, 1) := by decide +kernel
theorem dL_law_1135 : decode cL_law 1135 = .ok (.laload, 1) := by decide +kernel
theorem dL_law_1136 : decode cL_law 1136 = .ok (.iload 6, 2) := by decide +kernel
theorem dL_law_1138 : decode cL_law 1138 = .ok (.i2l, 1) := by decide +kernel
theorem dL_law_1139 : decode cL_law 1139 = .ok (.lcmp, 1) := by decide +kernel
theorem dL_law_1140 : decode cL_law 1140 = .ok (.ifCond .eq 5, 3) := by decide +kernel
theorem dL_law_1143 : decode cL_law 1143 = .ok (.iconst 0, 1) := by decide +kernel
theorem dL_law_1144 : decode cL_law 1144 = .ok (.ireturn, 1) := by decide +kernel
theorem dL_law_1145 : decode cL_law 1145 = .ok (.goto 71, 3) := by decide +kernel
theorem dL_law_1148 : decode cL_law 1148 = .ok (.aload_n 1, 1) := by decide +kernel
theorem dL_law_1149 : decode cL_law 1149 = .ok (.aload_n 0, 1) := by decide +kernel
theorem dL_law_1150 : decode cL_law 1150 = .ok (.iload 4, 2) := by decide +kernel
theorem dL_law_1152 : decode cL_law 1152 = .ok (.iconst 1, 1) := by decide +kernel
theorem dL_law_1153 : decode cL_law 1153 = .ok (.iadd, 1) := by decide +kernel
theorem dL_law_1154 : decode cL_law 1154 = .ok (.iaload, 1) := by decide +kernel
theorem dL_law_1155 : decode cL_law 1155 = .ok (.aload_n 0, 1) := by decide +kernel
theorem dL_law_1156 : decode cL_law 1156 = .ok (.iload 4, 2) := by decide +kernel
theorem dL_law_1158 : decode cL_law 1158 = .ok (.iconst 2, 1) := by decide +kernel
theorem dL_law_1159 : decode cL_law 1159 = .ok (.iadd, 1) := by decide +kernel
theorem dL_law_1160 : decode cL_law 1160 = .ok (.iaload, 1) := by decide +kernel
theorem dL_law_1161 : decode cL_law 1161 = .ok (.aload_n 3, 1) := by decide +kernel
theorem dL_law_1162 : decode cL_law 1162 = .ok (.invokestatic 149, 3) := by decide +kernel
theorem dL_law_1165 : decode cL_law 1165 = .ok (.istore 5, 2) := by decide +kernel
theorem dL_law_1167 : decode cL_law 1167 = .ok (.aload_n 2, 1) := by decide +kernel
theorem dL_law_1168 : decode cL_law 1168 = .ok (.aload_n 0, 1) := by decide +kernel
theorem dL_law_1169 : decode cL_law 1169 = .ok (.iload 4, 2) := by decide +kernel
theorem dL_law_1171 : decode cL_law 1171 = .ok (.iconst 1, 1) := by decide +kernel
theorem dL_law_1172 : decode cL_law 1172 = .ok (.iadd, 1) := by decide +kernel
theorem dL_law_1173 : decode cL_law 1173 = .ok (.iaload, 1) := by decide +kernel
theorem dL_law_1174 : decode cL_law 1174 = .ok (.aload_n 0, 1) := by decide +kernel
theorem dL_law_1175 : decode cL_law 1175 = .ok (.iload 4, 2) := by decide +kernel
theorem dL_law_1177 : decode cL_law 1177 = .ok (.iconst 2, 1) := by decide +kernel
theorem dL_law_1178 : decode cL_law 1178 = .ok (.iadd, 1) := by decide +kernel
theorem dL_law_1179 : decode cL_law 1179 = .ok (.iaload, 1) := by decide +kernel
theorem dL_law_1180 : decode cL_law 1180 = .ok (.invokevirtual 151, 3) := by decide +kernel
theorem dL_law_1183 : decode cL_law 1183 = .ok (.istore 6, 2) := by decide +kernel
theorem dL_law_1185 : decode cL_law 1185 = .ok (.aload_n 2, 1) := by decide +kernel
theorem dL_law_1186 : decode cL_law 1186 = .ok (.invokevirtual 81, 3) := by decide +kernel
theorem dL_law_1189 : decode cL_law 1189 = .ok (.iload 5, 2) := by decide +kernel
theorem dL_law_1191 : decode cL_law 1191 = .ok (.if_icmp .eq 5, 3) := by decide +kernel
theorem dL_law_1194 : decode cL_law 1194 = .ok (.iconst 0, 1) := by decide +kernel
theorem dL_law_1195 : decode cL_law 1195 = .ok (.ireturn, 1) := by decide +kernel
theorem dL_law_1196 : decode cL_law 1196 = .ok (.iload 5, 2) := by decide +kernel
theorem dL_law_1198 : decode cL_law 1198 = .ok (.ifCond .ne 15, 3) := by decide +kernel
theorem dL_law_1201 : decode cL_law 1201 = .ok (.aload_n 3, 1) := by decide +kernel
theorem dL_law_1202 : decode cL_law 1202 = .ok (.iconst 0, 1) := by decide +kernel
theorem dL_law_1203 : decode cL_law 1203 = .ok (.laload, 1) := by decide +kernel
theorem dL_law_1204 : decode cL_law 1204 = .ok (.iload 6, 2) := by decide +kernel
theorem dL_law_1206 : decode cL_law 1206 = .ok (.i2l, 1) := by decide +kernel
theorem dL_law_1207 : decode cL_law 1207 = .ok (.lcmp, 1) := by decide +kernel
theorem dL_law_1208 : decode cL_law 1208 = .ok (.ifCond .eq 5, 3) := by decide +kernel
theorem dL_law_1211 : decode cL_law 1211 = .ok (.iconst 0, 1) := by decide +kernel
theorem dL_law_1212 : decode cL_law 1212 = .ok (.ireturn, 1) := by decide +kernel
theorem dL_law_1213 : decode cL_law 1213 = .ok (.goto 3, 3) := by decide +kernel
theorem dL_law_1216 : decode cL_law 1216 = .ok (.iinc 4 4, 3) := by decide +kernel
theorem dL_law_1219 : decode cL_law 1219 = .ok (.goto (-1196), 3) := by decide +kernel
theorem dL_law_1222 : decode cL_law 1222 = .ok (.iconst 1, 1) := by decide +kernel
theorem dL_law_1223 : decode cL_law 1223 = .ok (.ireturn, 1) := by decide +kernel
abbrev vwCl : List vw_C := [(RX1, TX1, 4), (RX2, TX2, 2), (RX3, TX3, 10), (RX4, TX4, 2), (RX5, TX5, 3), (RX6, TX6, 7), (RX7, TX7, 30)]
