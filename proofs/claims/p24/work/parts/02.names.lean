/-! ===== BEGIN printed: names, fields, word lists, decode rows ===== -/
def RX0 : String := "BitNotation$Kind"
def TX0 : u_T := fun k => match k with
  | _ => ("", "", "", false)
def tyX0 : Nat → FieldType := fun k => match k with
  | _ => .int
abbrev wsX00 : List Cond := u_ws RX0 TX0 0
theorem nmX0 : ∀ a, a < 0 → ∀ b, b < 0 → a ≠ b → (TX0 a).2.1 ≠ (TX0 b).2.1 := by decide +kernel
theorem tyX0_ok : ∀ k, k < 0 → parseFieldDescriptor (TX0 k).2.2.1 = some (tyX0 k) := by decide +kernel
def RX1 : String := "BitNotation$Reader"
def TX1 : u_T := fun k => match k with
  | 0 => ("BitNotation$Reader", "heard", "LBitNotation$Row;", true)
  | 1 => ("BitNotation$Reader", "additionsKnown", "I", false)
  | 2 => ("BitNotation$Reader", "place", "I", false)
  | _ => ("BitNotation$Reader", "fault", "I", false)
def tyX1 : Nat → FieldType := fun k => match k with
  | 0 => .object "BitNotation$Row"
  | 1 => .int
  | 2 => .int
  | _ => .int
abbrev wsX10 : List Cond := u_ws RX1 TX1 4
theorem nmX1 : ∀ a, a < 4 → ∀ b, b < 4 → a ≠ b → (TX1 a).2.1 ≠ (TX1 b).2.1 := by decide +kernel
theorem tyX1_ok : ∀ k, k < 4 → parseFieldDescriptor (TX1 k).2.2.1 = some (tyX1 k) := by decide +kernel
abbrev cX1_init : ByteArray := prog_3_method_1_code
def yX1_init : MethodName := ⟨RX1, "<init>", "()V"⟩
abbrev cX1_walk : ByteArray := prog_3_method_2_code
def yX1_walk : MethodName := ⟨RX1, "walk", "(LBitNotation$Type;LBitNotation$Row;I)I"⟩
abbrev cX1_getValue : ByteArray := prog_3_method_3_code
def yX1_getValue : MethodName := ⟨RX1, "getValue", "(LBitNotation$Type;LBitNotation$Row;I)V"⟩
abbrev cX1_getSequence : ByteArray := prog_3_method_4_code
def yX1_getSequence : MethodName := ⟨RX1, "getSequence", "(LBitNotation$Type;LBitNotation$Row;I)V"⟩
abbrev cX1_nextParts : ByteArray := prog_3_method_5_code
def yX1_nextParts : MethodName := ⟨RX1, "nextParts", "(LBitNotation$Type;LBitNotation$Row;)I"⟩
abbrev cX1_getAdditions : ByteArray := prog_3_method_6_code
def yX1_getAdditions : MethodName := ⟨RX1, "getAdditions", "(LBitNotation$Type;ILBitNotation$Row;I)V"⟩
abbrev cX1_getAddition : ByteArray := prog_3_method_7_code
def yX1_getAddition : MethodName := ⟨RX1, "getAddition", "(LBitNotation$Type;ILBitNotation$Row;I)V"⟩
abbrev cX1_skip : ByteArray := prog_3_method_8_code
def yX1_skip : MethodName := ⟨RX1, "skip", "(ILBitNotation$Row;)V"⟩
abbrev cX1_next : ByteArray := prog_3_method_9_code
def yX1_next : MethodName := ⟨RX1, "next", "(LBitNotation$Row;II)I"⟩
def RX2 : String := "BitNotation$Row"
def TX2 : u_T := fun k => match k with
  | 0 => ("BitNotation$Row", "items", "[I", true)
  | _ => ("BitNotation$Row", "count", "I", false)
def tyX2 : Nat → FieldType := fun k => match k with
  | 0 => .array .int
  | _ => .int
abbrev wsX20 : List Cond := u_ws RX2 TX2 2
theorem nmX2 : ∀ a, a < 2 → ∀ b, b < 2 → a ≠ b → (TX2 a).2.1 ≠ (TX2 b).2.1 := by decide +kernel
theorem tyX2_ok : ∀ k, k < 2 → parseFieldDescriptor (TX2 k).2.2.1 = some (tyX2 k) := by decide +kernel
abbrev cX2_init : ByteArray := prog_4_method_1_code
def yX2_init : MethodName := ⟨RX2, "<init>", "(I)V"⟩
abbrev cX2_size : ByteArray := prog_4_method_2_code
def yX2_size : MethodName := ⟨RX2, "size", "()I"⟩
abbrev cX2_isFull : ByteArray := prog_4_method_3_code
def yX2_isFull : MethodName := ⟨RX2, "isFull", "()Z"⟩
abbrev cX2_has : ByteArray := prog_4_method_4_code
def yX2_has : MethodName := ⟨RX2, "has", "(I)Z"⟩
abbrev cX2_at : ByteArray := prog_4_method_5_code
def yX2_at : MethodName := ⟨RX2, "at", "(I)I"⟩
abbrev cX2_append : ByteArray := prog_4_method_6_code
def yX2_append : MethodName := ⟨RX2, "append", "(I)V"⟩
abbrev cX2_replace : ByteArray := prog_4_method_7_code
def yX2_replace : MethodName := ⟨RX2, "replace", "(II)V"⟩
abbrev cX2_keepFirst : ByteArray := prog_4_method_8_code
def yX2_keepFirst : MethodName := ⟨RX2, "keepFirst", "(I)V"⟩
abbrev cX2_becomeCopyOf : ByteArray := prog_4_method_9_code
def yX2_becomeCopyOf : MethodName := ⟨RX2, "becomeCopyOf", "(LBitNotation$Row;)V"⟩
def RX3 : String := "BitNotation$Type"
def TX3 : u_T := fun k => match k with
  | 0 => ("BitNotation$Type", "kind", "LBitNotation$Kind;", true)
  | 1 => ("BitNotation$Type", "least", "I", true)
  | 2 => ("BitNotation$Type", "greatest", "I", true)
  | 3 => ("BitNotation$Type", "width", "I", true)
  | 4 => ("BitNotation$Type", "parts", "LBitNotation$TypeRow;", true)
  | 5 => ("BitNotation$Type", "optional", "I", true)
  | 6 => ("BitNotation$Type", "additions", "LBitNotation$TypeRow;", true)
  | 7 => ("BitNotation$Type", "fewestBits", "I", false)
  | 8 => ("BitNotation$Type", "mostBits", "I", false)
  | _ => ("BitNotation$Type", "mostNumbers", "I", false)
def tyX3 : Nat → FieldType := fun k => match k with
  | 0 => .object "BitNotation$Kind"
  | 1 => .int
  | 2 => .int
  | 3 => .int
  | 4 => .object "BitNotation$TypeRow"
  | 5 => .int
  | 6 => .object "BitNotation$TypeRow"
  | 7 => .int
  | 8 => .int
  | _ => .int
abbrev wsX30 : List Cond := u_ws RX3 TX3 10
theorem nmX3 : ∀ a, a < 10 → ∀ b, b < 10 → a ≠ b → (TX3 a).2.1 ≠ (TX3 b).2.1 := by decide +kernel
theorem tyX3_ok : ∀ k, k < 10 → parseFieldDescriptor (TX3 k).2.2.1 = some (tyX3 k) := by decide +kernel
abbrev cX3_init : ByteArray := prog_5_method_1_code
def yX3_init : MethodName := ⟨RX3, "<init>", "(LBitNotation$Kind;IILBitNotation$TypeRow;I)V"⟩
abbrev cX3_isOptional : ByteArray := prog_5_method_2_code
def yX3_isOptional : MethodName := ⟨RX3, "isOptional", "(I)Z"⟩
abbrev cX3_measure : ByteArray := prog_5_method_3_code
def yX3_measure : MethodName := ⟨RX3, "measure", "()Z"⟩
abbrev cX3_measureThings : ByteArray := prog_5_method_4_code
def yX3_measureThings : MethodName := ⟨RX3, "measureThings", "()V"⟩
abbrev cX3_measureChoices : ByteArray := prog_5_method_5_code
def yX3_measureChoices : MethodName := ⟨RX3, "measureChoices", "()V"⟩
abbrev cX3_measureParts : ByteArray := prog_5_method_6_code
def yX3_measureParts : MethodName := ⟨RX3, "measureParts", "()V"⟩
abbrev cX3_measureAdditions : ByteArray := prog_5_method_7_code
def yX3_measureAdditions : MethodName := ⟨RX3, "measureAdditions", "()V"⟩
def RX4 : String := "BitNotation$TypeRow"
def TX4 : u_T := fun k => match k with
  | 0 => ("BitNotation$TypeRow", "items", "[LBitNotation$Type;", true)
  | _ => ("BitNotation$TypeRow", "count", "I", false)
def tyX4 : Nat → FieldType := fun k => match k with
  | 0 => .array (.object "BitNotation$Type")
  | _ => .int
abbrev wsX40 : List Cond := u_ws RX4 TX4 2
theorem nmX4 : ∀ a, a < 2 → ∀ b, b < 2 → a ≠ b → (TX4 a).2.1 ≠ (TX4 b).2.1 := by decide +kernel
theorem tyX4_ok : ∀ k, k < 2 → parseFieldDescriptor (TX4 k).2.2.1 = some (tyX4 k) := by decide +kernel
abbrev cX4_init : ByteArray := prog_6_method_1_code
def yX4_init : MethodName := ⟨RX4, "<init>", "(I)V"⟩
abbrev cX4_size : ByteArray := prog_6_method_2_code
def yX4_size : MethodName := ⟨RX4, "size", "()I"⟩
abbrev cX4_isFull : ByteArray := prog_6_method_3_code
def yX4_isFull : MethodName := ⟨RX4, "isFull", "()Z"⟩
abbrev cX4_at : ByteArray := prog_6_method_4_code
def yX4_at : MethodName := ⟨RX4, "at", "(I)LBitNotation$Type;"⟩
abbrev cX4_append : ByteArray := prog_6_method_5_code
def yX4_append : MethodName := ⟨RX4, "append", "(LBitNotation$Type;)V"⟩
abbrev cX4_dropLast : ByteArray := prog_6_method_6_code
def yX4_dropLast : MethodName := ⟨RX4, "dropLast", "()V"⟩
abbrev cX4_measureAll : ByteArray := prog_6_method_7_code
def yX4_measureAll : MethodName := ⟨RX4, "measureAll", "()Z"⟩
def RX5 : String := "BitNotation$Writer"
def TX5 : u_T := fun k => match k with
  | 0 => ("BitNotation$Writer", "written", "LBitNotation$Row;", true)
  | 1 => ("BitNotation$Writer", "place", "I", false)
  | _ => ("BitNotation$Writer", "wrong", "I", false)
def tyX5 : Nat → FieldType := fun k => match k with
  | 0 => .object "BitNotation$Row"
  | 1 => .int
  | _ => .int
abbrev wsX50 : List Cond := u_ws RX5 TX5 3
theorem nmX5 : ∀ a, a < 3 → ∀ b, b < 3 → a ≠ b → (TX5 a).2.1 ≠ (TX5 b).2.1 := by decide +kernel
theorem tyX5_ok : ∀ k, k < 3 → parseFieldDescriptor (TX5 k).2.2.1 = some (tyX5 k) := by decide +kernel
abbrev cX5_init : ByteArray := prog_7_method_1_code
def yX5_init : MethodName := ⟨RX5, "<init>", "()V"⟩
abbrev cX5_walk : ByteArray := prog_7_method_2_code
def yX5_walk : MethodName := ⟨RX5, "walk", "(LBitNotation$Type;LBitNotation$Row;)I"⟩
abbrev cX5_putValue : ByteArray := prog_7_method_3_code
def yX5_putValue : MethodName := ⟨RX5, "putValue", "(LBitNotation$Type;LBitNotation$Row;I)V"⟩
abbrev cX5_putSequence : ByteArray := prog_7_method_4_code
def yX5_putSequence : MethodName := ⟨RX5, "putSequence", "(LBitNotation$Type;LBitNotation$Row;I)V"⟩
abbrev cX5_nextParts : ByteArray := prog_7_method_5_code
def yX5_nextParts : MethodName := ⟨RX5, "nextParts", "(LBitNotation$Type;LBitNotation$Row;)I"⟩
abbrev cX5_putAddition : ByteArray := prog_7_method_6_code
def yX5_putAddition : MethodName := ⟨RX5, "putAddition", "(LBitNotation$Type;LBitNotation$Row;I)V"⟩
abbrev cX5_next : ByteArray := prog_7_method_7_code
def yX5_next : MethodName := ⟨RX5, "next", "(LBitNotation$Row;II)I"⟩
abbrev cX5_put : ByteArray := prog_7_method_8_code
def yX5_put : MethodName := ⟨RX5, "put", "(II)V"⟩
def RX6 : String := "BitNotation"
def TX6 : u_T := fun k => match k with
  | 0 => ("BitNotation", "notation", "LBitNotation$TypeRow;", true)
  | 1 => ("BitNotation", "tale", "LBitNotation$Row;", true)
  | 2 => ("BitNotation", "message", "LBitNotation$Row;", true)
  | 3 => ("BitNotation", "writer", "LBitNotation$Writer;", true)
  | 4 => ("BitNotation", "reader", "LBitNotation$Reader;", true)
  | 5 => ("BitNotation", "draft", "LBitNotation$TypeRow;", false)
  | _ => ("BitNotation", "draftOptional", "I", false)
def tyX6 : Nat → FieldType := fun k => match k with
  | 0 => .object "BitNotation$TypeRow"
  | 1 => .object "BitNotation$Row"
  | 2 => .object "BitNotation$Row"
  | 3 => .object "BitNotation$Writer"
  | 4 => .object "BitNotation$Reader"
  | 5 => .object "BitNotation$TypeRow"
  | _ => .int
abbrev wsX60 : List Cond := u_ws RX6 TX6 7
theorem nmX6 : ∀ a, a < 7 → ∀ b, b < 7 → a ≠ b → (TX6 a).2.1 ≠ (TX6 b).2.1 := by decide +kernel
theorem tyX6_ok : ∀ k, k < 7 → parseFieldDescriptor (TX6 k).2.2.1 = some (tyX6 k) := by decide +kernel
abbrev cX6_init : ByteArray := prog_1_method_1_code
def yX6_init : MethodName := ⟨RX6, "<init>", "()V"⟩
abbrev cX6_addNumber : ByteArray := prog_1_method_2_code
def yX6_addNumber : MethodName := ⟨RX6, "addNumber", "(II)I"⟩
abbrev cX6_addList : ByteArray := prog_1_method_3_code
def yX6_addList : MethodName := ⟨RX6, "addList", "(III)I"⟩
abbrev cX6_part : ByteArray := prog_1_method_4_code
def yX6_part : MethodName := ⟨RX6, "part", "(IZ)I"⟩
abbrev cX6_addSequence : ByteArray := prog_1_method_5_code
def yX6_addSequence : MethodName := ⟨RX6, "addSequence", "()I"⟩
abbrev cX6_addChoice : ByteArray := prog_1_method_6_code
def yX6_addChoice : MethodName := ⟨RX6, "addChoice", "()I"⟩
abbrev cX6_extend : ByteArray := prog_1_method_7_code
def yX6_extend : MethodName := ⟨RX6, "extend", "(II)I"⟩
abbrev cX6_types : ByteArray := prog_1_method_8_code
def yX6_types : MethodName := ⟨RX6, "types", "()I"⟩
abbrev cX6_leastBits : ByteArray := prog_1_method_9_code
def yX6_leastBits : MethodName := ⟨RX6, "leastBits", "(I)I"⟩
abbrev cX6_mostBits : ByteArray := prog_1_method_10_code
def yX6_mostBits : MethodName := ⟨RX6, "mostBits", "(I)I"⟩
abbrev cX6_tell : ByteArray := prog_1_method_11_code
def yX6_tell : MethodName := ⟨RX6, "tell", "(I)I"⟩
abbrev cX6_forget : ByteArray := prog_1_method_12_code
def yX6_forget : MethodName := ⟨RX6, "forget", "()I"⟩
abbrev cX6_length : ByteArray := prog_1_method_13_code
def yX6_length : MethodName := ⟨RX6, "length", "()I"⟩
abbrev cX6_told : ByteArray := prog_1_method_14_code
def yX6_told : MethodName := ⟨RX6, "told", "(I)I"⟩
abbrev cX6_wrongAt : ByteArray := prog_1_method_15_code
def yX6_wrongAt : MethodName := ⟨RX6, "wrongAt", "(I)I"⟩
abbrev cX6_write : ByteArray := prog_1_method_16_code
def yX6_write : MethodName := ⟨RX6, "write", "(I)I"⟩
abbrev cX6_bits : ByteArray := prog_1_method_17_code
def yX6_bits : MethodName := ⟨RX6, "bits", "()I"⟩
abbrev cX6_bit : ByteArray := prog_1_method_18_code
def yX6_bit : MethodName := ⟨RX6, "bit", "(I)I"⟩
abbrev cX6_flip : ByteArray := prog_1_method_19_code
def yX6_flip : MethodName := ⟨RX6, "flip", "(I)I"⟩
abbrev cX6_cut : ByteArray := prog_1_method_20_code
def yX6_cut : MethodName := ⟨RX6, "cut", "(I)I"⟩
abbrev cX6_read : ByteArray := prog_1_method_21_code
def yX6_read : MethodName := ⟨RX6, "read", "(II)I"⟩
abbrev cX6_faultAt : ByteArray := prog_1_method_22_code
def yX6_faultAt : MethodName := ⟨RX6, "faultAt", "(II)I"⟩
abbrev cX6_isOutside : ByteArray := prog_1_method_23_code
def yX6_isOutside : MethodName := ⟨RX6, "isOutside", "(III)Z"⟩
abbrev cX6_typeNumbered : ByteArray := prog_1_method_24_code
def yX6_typeNumbered : MethodName := ⟨RX6, "typeNumbered", "(I)LBitNotation$Type;"⟩
abbrev cX6_keep : ByteArray := prog_1_method_25_code
def yX6_keep : MethodName := ⟨RX6, "keep", "(LBitNotation$Type;)I"⟩
abbrev cX6_keepDraft : ByteArray := prog_1_method_26_code
def yX6_keepDraft : MethodName := ⟨RX6, "keepDraft", "(LBitNotation$Type;)I"⟩
abbrev cX6_placeOfFault : ByteArray := prog_1_method_27_code
def yX6_placeOfFault : MethodName := ⟨RX6, "placeOfFault", "(II)I"⟩
abbrev cX6_widthFor : ByteArray := prog_1_method_28_code
def yX6_widthFor : MethodName := ⟨RX6, "widthFor", "(I)I"⟩
def RX7 : String := "BitNotationModel"
def TX7 : u_T := fun k => match k with
  | _ => ("", "", "", false)
def tyX7 : Nat → FieldType := fun k => match k with
  | _ => .int
abbrev wsX70 : List Cond := u_ws RX7 TX7 0
theorem nmX7 : ∀ a, a < 0 → ∀ b, b < 0 → a ≠ b → (TX7 a).2.1 ≠ (TX7 b).2.1 := by decide +kernel
theorem tyX7_ok : ∀ k, k < 0 → parseFieldDescriptor (TX7 k).2.2.1 = some (tyX7 k) := by decide +kernel
def RJx29ce0 : String := "java/lang/Enum"
def TJx29ce0 : u_T := fun k => match k with
  | _ => ("", "", "", false)
def tyJx29ce0 : Nat → FieldType := fun k => match k with
  | _ => .int
abbrev wsJx29ce00 : List Cond := u_ws RJx29ce0 TJx29ce0 0
theorem nmJx29ce0 : ∀ a, a < 0 → ∀ b, b < 0 → a ≠ b → (TJx29ce0 a).2.1 ≠ (TJx29ce0 b).2.1 := by decide +kernel
theorem tyJx29ce0_ok : ∀ k, k < 0 → parseFieldDescriptor (TJx29ce0 k).2.2.1 = some (tyJx29ce0 k) := by decide +kernel
def RJ9 : String := "java/lang/Math"
def TJ9 : u_T := fun k => match k with
  | _ => ("", "", "", false)
def tyJ9 : Nat → FieldType := fun k => match k with
  | _ => .int
abbrev wsJ90 : List Cond := u_ws RJ9 TJ9 0
theorem nmJ9 : ∀ a, a < 0 → ∀ b, b < 0 → a ≠ b → (TJ9 a).2.1 ≠ (TJ9 b).2.1 := by decide +kernel
theorem tyJ9_ok : ∀ k, k < 0 → parseFieldDescriptor (TJ9 k).2.2.1 = some (tyJ9 k) := by decide +kernel
abbrev cJ9_max_7cf53 : ByteArray := prog_15_method_65_code
def yJ9_max_7cf53 : MethodName := ⟨RJ9, "max", "(II)I"⟩
abbrev cJ9_min_7cf53 : ByteArray := prog_15_method_69_code
def yJ9_min_7cf53 : MethodName := ⟨RJ9, "min", "(II)I"⟩
def RJ0 : String := "java/lang/String"
def TJ0 : u_T := fun k => match k with
  | _ => ("", "", "", false)
def tyJ0 : Nat → FieldType := fun k => match k with
  | _ => .int
abbrev wsJ00 : List Cond := u_ws RJ0 TJ0 0
theorem nmJ0 : ∀ a, a < 0 → ∀ b, b < 0 → a ≠ b → (TJ0 a).2.1 ≠ (TJ0 b).2.1 := by decide +kernel
theorem tyJ0_ok : ∀ k, k < 0 → parseFieldDescriptor (TJ0 k).2.2.1 = some (tyJ0 k) := by decide +kernel
def RL : String := "BitNotationLaw"
abbrev cL_numbers : ByteArray := method_2_code
def yL_numbers : MethodName := ⟨RL, "numbers", "(LBitNotation;II)I"⟩
abbrev cL_lists : ByteArray := method_3_code
def yL_lists : MethodName := ⟨RL, "lists", "(LBitNotation;III)I"⟩
abbrev cL_parts : ByteArray := method_4_code
def yL_parts : MethodName := ⟨RL, "parts", "(LBitNotation;IZ)I"⟩
abbrev cL_sequences : ByteArray := method_5_code
def yL_sequences : MethodName := ⟨RL, "sequences", "(LBitNotation;)I"⟩
abbrev cL_choices : ByteArray := method_6_code
def yL_choices : MethodName := ⟨RL, "choices", "(LBitNotation;)I"⟩
abbrev cL_extend : ByteArray := method_7_code
def yL_extend : MethodName := ⟨RL, "extend", "(LBitNotation;II)I"⟩
abbrev cL_least : ByteArray := method_8_code
def yL_least : MethodName := ⟨RL, "least", "(LBitNotation;I)I"⟩
abbrev cL_most : ByteArray := method_9_code
def yL_most : MethodName := ⟨RL, "most", "(LBitNotation;I)I"⟩
abbrev cL_tells : ByteArray := method_10_code
def yL_tells : MethodName := ⟨RL, "tells", "(LBitNotation;I)I"⟩
abbrev cL_told : ByteArray := method_11_code
def yL_told : MethodName := ⟨RL, "told", "(LBitNotation;I)I"⟩
abbrev cL_wrong : ByteArray := method_12_code
def yL_wrong : MethodName := ⟨RL, "wrong", "(LBitNotation;I)I"⟩
abbrev cL_writes : ByteArray := method_13_code
def yL_writes : MethodName := ⟨RL, "writes", "(LBitNotation;I)I"⟩
abbrev cL_bit : ByteArray := method_14_code
def yL_bit : MethodName := ⟨RL, "bit", "(LBitNotation;I)I"⟩
abbrev cL_flips : ByteArray := method_15_code
def yL_flips : MethodName := ⟨RL, "flips", "(LBitNotation;I)I"⟩
abbrev cL_cuts : ByteArray := method_16_code
def yL_cuts : MethodName := ⟨RL, "cuts", "(LBitNotation;I)I"⟩
abbrev cL_reads : ByteArray := method_17_code
def yL_reads : MethodName := ⟨RL, "reads", "(LBitNotation;II)I"⟩
abbrev cL_fault : ByteArray := method_18_code
def yL_fault : MethodName := ⟨RL, "fault", "(LBitNotation;II)I"⟩
abbrev cL_drawn : ByteArray := method_19_code
def yL_drawn : MethodName := ⟨RL, "drawn", "([II)I"⟩
abbrev cL_refuses : ByteArray := method_20_code
def yL_refuses : MethodName := ⟨RL, "refuses", "(LBitNotation;I)Z"⟩
abbrev cL_act : ByteArray := method_21_code
def yL_act : MethodName := ⟨RL, "act", "(LBitNotation;I)I"⟩
abbrev cL_again : ByteArray := method_22_code
def yL_again : MethodName := ⟨RL, "again", "(LBitNotation;II)I"⟩
abbrev cL_alike : ByteArray := method_23_code
def yL_alike : MethodName := ⟨RL, "alike", "(LBitNotation;LBitNotation;)Z"⟩
abbrev cL_holds : ByteArray := method_24_code
def yL_holds : MethodName := ⟨RL, "holds", "(LBitNotation;I)Z"⟩
abbrev cL_law : ByteArray := code
def yL_law : MethodName := ⟨RL, "law", "([I)Z"⟩
abbrev vwCl : List vw_C := [(RX1, TX1, 4), (RX2, TX2, 2), (RX3, TX3, 10), (RX4, TX4, 2), (RX5, TX5, 3), (RX6, TX6, 7)]
/-! the good words of the tables: every method of ours asks for them all -/
def wsA : List Cond := lw_tbl.filter goodWord
theorem wsA_sel {w : Cond} (h : w ∈ k2_sels lw_privs) (hg : goodWord w = true) : w ∈ wsA := List.mem_filter.mpr ⟨List.mem_append_left _ h, hg⟩
theorem wsA_1 {w : Cond} (h : w ∈ tables_1_1) (hg : goodWord w = true) : w ∈ wsA := List.mem_filter.mpr ⟨List.mem_append_right _ (List.mem_append_left _ h), hg⟩
theorem wsA_2 {w : Cond} (h : w ∈ tables_1_2) (hg : goodWord w = true) : w ∈ wsA := List.mem_filter.mpr ⟨List.mem_append_right _ (List.mem_append_right _ (List.mem_append_left _ h)), hg⟩
theorem wsA_3 {w : Cond} (h : w ∈ tables_1_3) (hg : goodWord w = true) : w ∈ wsA := List.mem_filter.mpr ⟨List.mem_append_right _ (List.mem_append_right _ (List.mem_append_right _ h)), hg⟩
theorem wsA_tbl : ∀ w ∈ wsA, w ∈ lw_tbl := fun w h => (List.mem_filter.mp h).1
theorem wsA_good {w : Cond} (h : w ∈ wsA) : (w.onTables && w.keeps) = true ∨ ∃ ty, w = .arrayClass ty := good_of_word (List.mem_filter.mp h).2
theorem wt_0_0 : Cond.selects "java/lang/Throwable" ⟨"java/lang/Throwable", "fillInStackTrace", "(I)Ljava/lang/Throwable;"⟩ ⟨"java/lang/Throwable", "fillInStackTrace", "(I)Ljava/lang/Throwable;"⟩ ∈ wsA := wsA_sel (List.mem_of_getElem? (i := 0) rfl) rfl
theorem wt_0_1 : Cond.selects "BitNotation" ⟨"BitNotation", "keep", "(LBitNotation$Type;)I"⟩ ⟨"BitNotation", "keep", "(LBitNotation$Type;)I"⟩ ∈ wsA := wsA_sel (List.mem_of_getElem? (i := 1) rfl) rfl
theorem wt_0_2 : Cond.selects "BitNotation$Type" ⟨"BitNotation$Type", "measureThings", "()V"⟩ ⟨"BitNotation$Type", "measureThings", "()V"⟩ ∈ wsA := wsA_sel (List.mem_of_getElem? (i := 2) rfl) rfl
theorem wt_0_3 : Cond.selects "BitNotation$Type" ⟨"BitNotation$Type", "measureChoices", "()V"⟩ ⟨"BitNotation$Type", "measureChoices", "()V"⟩ ∈ wsA := wsA_sel (List.mem_of_getElem? (i := 3) rfl) rfl
theorem wt_0_4 : Cond.selects "BitNotation$Type" ⟨"BitNotation$Type", "measureParts", "()V"⟩ ⟨"BitNotation$Type", "measureParts", "()V"⟩ ∈ wsA := wsA_sel (List.mem_of_getElem? (i := 4) rfl) rfl
theorem wt_0_5 : Cond.selects "BitNotation$Type" ⟨"BitNotation$Type", "measureAdditions", "()V"⟩ ⟨"BitNotation$Type", "measureAdditions", "()V"⟩ ∈ wsA := wsA_sel (List.mem_of_getElem? (i := 5) rfl) rfl
theorem wt_0_6 : Cond.selects "BitNotation" ⟨"BitNotation", "typeNumbered", "(I)LBitNotation$Type;"⟩ ⟨"BitNotation", "typeNumbered", "(I)LBitNotation$Type;"⟩ ∈ wsA := wsA_sel (List.mem_of_getElem? (i := 6) rfl) rfl
theorem wt_0_7 : Cond.selects "BitNotation$Writer" ⟨"BitNotation$Writer", "putValue", "(LBitNotation$Type;LBitNotation$Row;I)V"⟩ ⟨"BitNotation$Writer", "putValue", "(LBitNotation$Type;LBitNotation$Row;I)V"⟩ ∈ wsA := wsA_sel (List.mem_of_getElem? (i := 7) rfl) rfl
theorem wt_0_8 : Cond.selects "BitNotation$Writer" ⟨"BitNotation$Writer", "putSequence", "(LBitNotation$Type;LBitNotation$Row;I)V"⟩ ⟨"BitNotation$Writer", "putSequence", "(LBitNotation$Type;LBitNotation$Row;I)V"⟩ ∈ wsA := wsA_sel (List.mem_of_getElem? (i := 8) rfl) rfl
theorem wt_0_9 : Cond.selects "BitNotation$Writer" ⟨"BitNotation$Writer", "nextParts", "(LBitNotation$Type;LBitNotation$Row;)I"⟩ ⟨"BitNotation$Writer", "nextParts", "(LBitNotation$Type;LBitNotation$Row;)I"⟩ ∈ wsA := wsA_sel (List.mem_of_getElem? (i := 9) rfl) rfl
theorem wt_0_10 : Cond.selects "BitNotation$Writer" ⟨"BitNotation$Writer", "next", "(LBitNotation$Row;II)I"⟩ ⟨"BitNotation$Writer", "next", "(LBitNotation$Row;II)I"⟩ ∈ wsA := wsA_sel (List.mem_of_getElem? (i := 10) rfl) rfl
theorem wt_0_11 : Cond.selects "BitNotation$Writer" ⟨"BitNotation$Writer", "put", "(II)V"⟩ ⟨"BitNotation$Writer", "put", "(II)V"⟩ ∈ wsA := wsA_sel (List.mem_of_getElem? (i := 11) rfl) rfl
theorem wt_0_12 : Cond.selects "BitNotation$Writer" ⟨"BitNotation$Writer", "putAddition", "(LBitNotation$Type;LBitNotation$Row;I)V"⟩ ⟨"BitNotation$Writer", "putAddition", "(LBitNotation$Type;LBitNotation$Row;I)V"⟩ ∈ wsA := wsA_sel (List.mem_of_getElem? (i := 12) rfl) rfl
theorem wt_0_13 : Cond.selects "BitNotation" ⟨"BitNotation", "placeOfFault", "(II)I"⟩ ⟨"BitNotation", "placeOfFault", "(II)I"⟩ ∈ wsA := wsA_sel (List.mem_of_getElem? (i := 13) rfl) rfl
theorem wt_0_14 : Cond.selects "BitNotation$Reader" ⟨"BitNotation$Reader", "getValue", "(LBitNotation$Type;LBitNotation$Row;I)V"⟩ ⟨"BitNotation$Reader", "getValue", "(LBitNotation$Type;LBitNotation$Row;I)V"⟩ ∈ wsA := wsA_sel (List.mem_of_getElem? (i := 14) rfl) rfl
theorem wt_0_15 : Cond.selects "BitNotation$Reader" ⟨"BitNotation$Reader", "getSequence", "(LBitNotation$Type;LBitNotation$Row;I)V"⟩ ⟨"BitNotation$Reader", "getSequence", "(LBitNotation$Type;LBitNotation$Row;I)V"⟩ ∈ wsA := wsA_sel (List.mem_of_getElem? (i := 15) rfl) rfl
theorem wt_0_16 : Cond.selects "BitNotation$Reader" ⟨"BitNotation$Reader", "next", "(LBitNotation$Row;II)I"⟩ ⟨"BitNotation$Reader", "next", "(LBitNotation$Row;II)I"⟩ ∈ wsA := wsA_sel (List.mem_of_getElem? (i := 16) rfl) rfl
theorem wt_0_17 : Cond.selects "BitNotation$Reader" ⟨"BitNotation$Reader", "nextParts", "(LBitNotation$Type;LBitNotation$Row;)I"⟩ ⟨"BitNotation$Reader", "nextParts", "(LBitNotation$Type;LBitNotation$Row;)I"⟩ ∈ wsA := wsA_sel (List.mem_of_getElem? (i := 17) rfl) rfl
theorem wt_0_18 : Cond.selects "BitNotation$Reader" ⟨"BitNotation$Reader", "getAdditions", "(LBitNotation$Type;ILBitNotation$Row;I)V"⟩ ⟨"BitNotation$Reader", "getAdditions", "(LBitNotation$Type;ILBitNotation$Row;I)V"⟩ ∈ wsA := wsA_sel (List.mem_of_getElem? (i := 18) rfl) rfl
theorem wt_0_19 : Cond.selects "BitNotation$Reader" ⟨"BitNotation$Reader", "getAddition", "(LBitNotation$Type;ILBitNotation$Row;I)V"⟩ ⟨"BitNotation$Reader", "getAddition", "(LBitNotation$Type;ILBitNotation$Row;I)V"⟩ ∈ wsA := wsA_sel (List.mem_of_getElem? (i := 19) rfl) rfl
theorem wt_0_20 : Cond.selects "BitNotation$Reader" ⟨"BitNotation$Reader", "skip", "(ILBitNotation$Row;)V"⟩ ⟨"BitNotation$Reader", "skip", "(ILBitNotation$Row;)V"⟩ ∈ wsA := wsA_sel (List.mem_of_getElem? (i := 20) rfl) rfl
theorem wt_0_21 : Cond.selects "BitNotation" ⟨"BitNotation", "keepDraft", "(LBitNotation$Type;)I"⟩ ⟨"BitNotation", "keepDraft", "(LBitNotation$Type;)I"⟩ ∈ wsA := wsA_sel (List.mem_of_getElem? (i := 21) rfl) rfl
theorem wt_1_0 : (Jvm.Cond.initialized "BitNotationLaw") ∈ wsA := wsA_1 (List.mem_of_getElem? (i := 0) rfl) rfl
theorem wt_1_1 : (Jvm.Cond.initialized "BitNotation") ∈ wsA := wsA_1 (List.mem_of_getElem? (i := 1) rfl) rfl
theorem wt_1_2 : (Jvm.Cond.initialized "BitNotation$TypeRow") ∈ wsA := wsA_1 (List.mem_of_getElem? (i := 2) rfl) rfl
theorem wt_1_3 : (Jvm.Cond.initialized "java/lang/Math") ∈ wsA := wsA_1 (List.mem_of_getElem? (i := 3) rfl) rfl
theorem wt_1_4 : (Jvm.Cond.initialized "BitNotation$Row") ∈ wsA := wsA_1 (List.mem_of_getElem? (i := 4) rfl) rfl
theorem wt_1_5 : (Jvm.Cond.initialized "BitNotation$Writer") ∈ wsA := wsA_1 (List.mem_of_getElem? (i := 5) rfl) rfl
theorem wt_1_6 : (Jvm.Cond.initialized "BitNotation$Reader") ∈ wsA := wsA_1 (List.mem_of_getElem? (i := 6) rfl) rfl
theorem wt_1_7 : (Jvm.Cond.initialized "java/lang/Throwable") ∈ wsA := wsA_1 (List.mem_of_getElem? (i := 7) rfl) rfl
theorem wt_1_8 : (Jvm.Cond.initialized "java/lang/Exception") ∈ wsA := wsA_1 (List.mem_of_getElem? (i := 8) rfl) rfl
theorem wt_1_9 : (Jvm.Cond.initialized "java/lang/RuntimeException") ∈ wsA := wsA_1 (List.mem_of_getElem? (i := 9) rfl) rfl
theorem wt_1_10 : (Jvm.Cond.initialized "java/lang/IllegalArgumentException") ∈ wsA := wsA_1 (List.mem_of_getElem? (i := 10) rfl) rfl
theorem wt_1_11 : (Jvm.Cond.initialized "BitNotation$Type") ∈ wsA := wsA_1 (List.mem_of_getElem? (i := 11) rfl) rfl
theorem wt_1_12 : (Jvm.Cond.initialized "java/lang/Enum") ∈ wsA := wsA_1 (List.mem_of_getElem? (i := 12) rfl) rfl
theorem wt_1_13 : (Jvm.Cond.initialized "BitNotation$Kind") ∈ wsA := wsA_1 (List.mem_of_getElem? (i := 13) rfl) rfl
theorem wt_1_14 : (Jvm.Cond.initialized "java/lang/IllegalStateException") ∈ wsA := wsA_1 (List.mem_of_getElem? (i := 14) rfl) rfl
theorem wt_1_15 : (Jvm.Cond.initialized "java/lang/IndexOutOfBoundsException") ∈ wsA := wsA_1 (List.mem_of_getElem? (i := 15) rfl) rfl
theorem wt_1_16 : (Jvm.Cond.classLink "BitNotationLaw" (8 : Nat) "BitNotation") ∈ wsA := wsA_1 (List.mem_of_getElem? (i := 16) rfl) rfl
theorem wt_1_17 : (Jvm.Cond.instantiable "BitNotation" (7 : Nat)) ∈ wsA := wsA_1 (List.mem_of_getElem? (i := 17) rfl) rfl
theorem wt_1_18 : (Jvm.Cond.methodLink "BitNotationLaw" (146 : Nat) ({ cls := "BitNotation", name := "<init>", desc := "()V" } : Jvm.MethodName)) ∈ wsA := wsA_1 (List.mem_of_getElem? (i := 18) rfl) rfl
theorem wt_1_19 : (Jvm.Cond.instanceMethod ({ cls := "BitNotation", name := "<init>", desc := "()V" } : Jvm.MethodName)) ∈ wsA := wsA_1 (List.mem_of_getElem? (i := 19) rfl) rfl
theorem wt_1_20 : (Jvm.Cond.code ({ cls := "BitNotation", name := "<init>", desc := "()V" } : Jvm.MethodName) prog_1_method_1_code (1 : Nat) (Option.none : Option Jvm.ClassFile.FieldType)) ∈ wsA := wsA_1 (List.mem_of_getElem? (i := 20) rfl) rfl
theorem wt_1_21 : (Jvm.Cond.methodLink "BitNotation" (1 : Nat) ({ cls := "java/lang/Object", name := "<init>", desc := "()V" } : Jvm.MethodName)) ∈ wsA := wsA_1 (List.mem_of_getElem? (i := 21) rfl) rfl
theorem wt_1_22 : (Jvm.Cond.instanceMethod ({ cls := "java/lang/Object", name := "<init>", desc := "()V" } : Jvm.MethodName)) ∈ wsA := wsA_1 (List.mem_of_getElem? (i := 22) rfl) rfl
theorem wt_1_23 : (Jvm.Cond.code ({ cls := "java/lang/Object", name := "<init>", desc := "()V" } : Jvm.MethodName) object_method_1_code (1 : Nat) (Option.none : Option Jvm.ClassFile.FieldType)) ∈ wsA := wsA_1 (List.mem_of_getElem? (i := 23) rfl) rfl
theorem wt_1_24 : (Jvm.Cond.classLink "BitNotation" (7 : Nat) "BitNotation$TypeRow") ∈ wsA := wsA_1 (List.mem_of_getElem? (i := 24) rfl) rfl
theorem wt_1_25 : (Jvm.Cond.instantiable "BitNotation$TypeRow" (2 : Nat)) ∈ wsA := wsA_1 (List.mem_of_getElem? (i := 25) rfl) rfl
theorem wt_1_26 : (Jvm.Cond.methodLink "BitNotation" (11 : Nat) ({ cls := "BitNotation$TypeRow", name := "<init>", desc := "(I)V" } : Jvm.MethodName)) ∈ wsA := wsA_1 (List.mem_of_getElem? (i := 26) rfl) rfl
theorem wt_1_27 : (Jvm.Cond.instanceMethod ({ cls := "BitNotation$TypeRow", name := "<init>", desc := "(I)V" } : Jvm.MethodName)) ∈ wsA := wsA_1 (List.mem_of_getElem? (i := 27) rfl) rfl
theorem wt_1_28 : (Jvm.Cond.code ({ cls := "BitNotation$TypeRow", name := "<init>", desc := "(I)V" } : Jvm.MethodName) prog_6_method_1_code (2 : Nat) (Option.none : Option Jvm.ClassFile.FieldType)) ∈ wsA := wsA_1 (List.mem_of_getElem? (i := 28) rfl) rfl
theorem wt_1_29 : (Jvm.Cond.methodLink "BitNotation$TypeRow" (1 : Nat) ({ cls := "java/lang/Object", name := "<init>", desc := "()V" } : Jvm.MethodName)) ∈ wsA := wsA_1 (List.mem_of_getElem? (i := 29) rfl) rfl
theorem wt_1_30 : (Jvm.Cond.methodLink "BitNotation$TypeRow" (13 : Nat) ({ cls := "java/lang/Math", name := "max", desc := "(II)I" } : Jvm.MethodName)) ∈ wsA := wsA_1 (List.mem_of_getElem? (i := 30) rfl) rfl
theorem wt_1_31 : (Jvm.Cond.static ({ cls := "java/lang/Math", name := "max", desc := "(II)I" } : Jvm.MethodName)) ∈ wsA := wsA_1 (List.mem_of_getElem? (i := 31) rfl) rfl
theorem wt_1_32 : (Jvm.Cond.code ({ cls := "java/lang/Math", name := "max", desc := "(II)I" } : Jvm.MethodName) prog_15_method_65_code (2 : Nat) (Option.some Jvm.ClassFile.FieldType.int)) ∈ wsA := wsA_1 (List.mem_of_getElem? (i := 32) rfl) rfl
theorem wt_1_33 : (Jvm.Cond.classLink "BitNotation$TypeRow" (19 : Nat) "BitNotation$Type") ∈ wsA := wsA_1 (List.mem_of_getElem? (i := 33) rfl) rfl
theorem wt_1_35 : (Jvm.Cond.fieldLink "BitNotation$TypeRow" (21 : Nat) "BitNotation$TypeRow" "items" "[LBitNotation$Type;") ∈ wsA := wsA_1 (List.mem_of_getElem? (i := 35) rfl) rfl
theorem wt_1_36 : (Jvm.Cond.fieldLink "BitNotation$TypeRow" (7 : Nat) "BitNotation$TypeRow" "count" "I") ∈ wsA := wsA_1 (List.mem_of_getElem? (i := 36) rfl) rfl
theorem wt_1_37 : (Jvm.Cond.laysFinal "BitNotation$TypeRow" "BitNotation$TypeRow" "items" "[LBitNotation$Type;") ∈ wsA := wsA_1 (List.mem_of_getElem? (i := 37) rfl) rfl
theorem wt_1_39 : (Jvm.Cond.lays "BitNotation$TypeRow" "BitNotation$TypeRow" "count" "I") ∈ wsA := wsA_1 (List.mem_of_getElem? (i := 39) rfl) rfl
theorem wt_1_42 : (Jvm.Cond.classLink "BitNotation" (18 : Nat) "BitNotation$Row") ∈ wsA := wsA_1 (List.mem_of_getElem? (i := 42) rfl) rfl
theorem wt_1_43 : (Jvm.Cond.instantiable "BitNotation$Row" (2 : Nat)) ∈ wsA := wsA_1 (List.mem_of_getElem? (i := 43) rfl) rfl
theorem wt_1_44 : (Jvm.Cond.methodLink "BitNotation" (20 : Nat) ({ cls := "BitNotation$Row", name := "<init>", desc := "(I)V" } : Jvm.MethodName)) ∈ wsA := wsA_1 (List.mem_of_getElem? (i := 44) rfl) rfl
theorem wt_1_45 : (Jvm.Cond.instanceMethod ({ cls := "BitNotation$Row", name := "<init>", desc := "(I)V" } : Jvm.MethodName)) ∈ wsA := wsA_1 (List.mem_of_getElem? (i := 45) rfl) rfl
theorem wt_1_46 : (Jvm.Cond.code ({ cls := "BitNotation$Row", name := "<init>", desc := "(I)V" } : Jvm.MethodName) prog_4_method_1_code (2 : Nat) (Option.none : Option Jvm.ClassFile.FieldType)) ∈ wsA := wsA_1 (List.mem_of_getElem? (i := 46) rfl) rfl
theorem wt_1_47 : (Jvm.Cond.methodLink "BitNotation$Row" (1 : Nat) ({ cls := "java/lang/Object", name := "<init>", desc := "()V" } : Jvm.MethodName)) ∈ wsA := wsA_1 (List.mem_of_getElem? (i := 47) rfl) rfl
theorem wt_1_48 : (Jvm.Cond.methodLink "BitNotation$Row" (13 : Nat) ({ cls := "java/lang/Math", name := "max", desc := "(II)I" } : Jvm.MethodName)) ∈ wsA := wsA_1 (List.mem_of_getElem? (i := 48) rfl) rfl
theorem wt_1_49 : (Jvm.Cond.fieldLink "BitNotation$Row" (19 : Nat) "BitNotation$Row" "items" "[I") ∈ wsA := wsA_1 (List.mem_of_getElem? (i := 49) rfl) rfl
theorem wt_1_50 : (Jvm.Cond.fieldLink "BitNotation$Row" (7 : Nat) "BitNotation$Row" "count" "I") ∈ wsA := wsA_1 (List.mem_of_getElem? (i := 50) rfl) rfl
theorem wt_1_51 : (Jvm.Cond.laysFinal "BitNotation$Row" "BitNotation$Row" "items" "[I") ∈ wsA := wsA_1 (List.mem_of_getElem? (i := 51) rfl) rfl
theorem wt_1_53 : (Jvm.Cond.lays "BitNotation$Row" "BitNotation$Row" "count" "I") ∈ wsA := wsA_1 (List.mem_of_getElem? (i := 53) rfl) rfl
theorem wt_1_56 : (Jvm.Cond.arrayClass Jvm.ClassFile.FieldType.int) ∈ wsA := wsA_1 (List.mem_of_getElem? (i := 56) rfl) rfl
theorem wt_1_57 : (Jvm.Cond.classLink "BitNotation" (28 : Nat) "BitNotation$Writer") ∈ wsA := wsA_1 (List.mem_of_getElem? (i := 57) rfl) rfl
theorem wt_1_58 : (Jvm.Cond.instantiable "BitNotation$Writer" (3 : Nat)) ∈ wsA := wsA_1 (List.mem_of_getElem? (i := 58) rfl) rfl
theorem wt_1_60 : (Jvm.Cond.instanceMethod ({ cls := "BitNotation$Writer", name := "<init>", desc := "()V" } : Jvm.MethodName)) ∈ wsA := wsA_1 (List.mem_of_getElem? (i := 60) rfl) rfl
theorem wt_1_61 : (Jvm.Cond.code ({ cls := "BitNotation$Writer", name := "<init>", desc := "()V" } : Jvm.MethodName) prog_7_method_1_code (1 : Nat) (Option.none : Option Jvm.ClassFile.FieldType)) ∈ wsA := wsA_1 (List.mem_of_getElem? (i := 61) rfl) rfl
theorem wt_1_62 : (Jvm.Cond.methodLink "BitNotation$Writer" (3 : Nat) ({ cls := "java/lang/Object", name := "<init>", desc := "()V" } : Jvm.MethodName)) ∈ wsA := wsA_1 (List.mem_of_getElem? (i := 62) rfl) rfl
theorem wt_1_63 : (Jvm.Cond.classLink "BitNotation$Writer" (9 : Nat) "BitNotation$Row") ∈ wsA := wsA_1 (List.mem_of_getElem? (i := 63) rfl) rfl
theorem wt_1_64 : (Jvm.Cond.methodLink "BitNotation$Writer" (11 : Nat) ({ cls := "BitNotation$Row", name := "<init>", desc := "(I)V" } : Jvm.MethodName)) ∈ wsA := wsA_1 (List.mem_of_getElem? (i := 64) rfl) rfl
theorem wt_1_65 : (Jvm.Cond.fieldLink "BitNotation$Writer" (14 : Nat) "BitNotation$Writer" "written" "LBitNotation$Row;") ∈ wsA := wsA_1 (List.mem_of_getElem? (i := 65) rfl) rfl
theorem wt_1_67 : (Jvm.Cond.fieldLink "BitNotation$Writer" (20 : Nat) "BitNotation$Writer" "place" "I") ∈ wsA := wsA_1 (List.mem_of_getElem? (i := 67) rfl) rfl
theorem wt_1_68 : (Jvm.Cond.fieldLink "BitNotation$Writer" (24 : Nat) "BitNotation$Writer" "wrong" "I") ∈ wsA := wsA_1 (List.mem_of_getElem? (i := 68) rfl) rfl
theorem wt_1_69 : (Jvm.Cond.laysFinal "BitNotation$Writer" "BitNotation$Writer" "written" "LBitNotation$Row;") ∈ wsA := wsA_1 (List.mem_of_getElem? (i := 69) rfl) rfl
theorem wt_1_71 : (Jvm.Cond.lays "BitNotation$Writer" "BitNotation$Writer" "place" "I") ∈ wsA := wsA_1 (List.mem_of_getElem? (i := 71) rfl) rfl
theorem wt_1_73 : (Jvm.Cond.lays "BitNotation$Writer" "BitNotation$Writer" "wrong" "I") ∈ wsA := wsA_1 (List.mem_of_getElem? (i := 73) rfl) rfl
theorem wt_1_76 : (Jvm.Cond.classLink "BitNotation" (35 : Nat) "BitNotation$Reader") ∈ wsA := wsA_1 (List.mem_of_getElem? (i := 76) rfl) rfl
theorem wt_1_77 : (Jvm.Cond.instantiable "BitNotation$Reader" (4 : Nat)) ∈ wsA := wsA_1 (List.mem_of_getElem? (i := 77) rfl) rfl
theorem wt_1_79 : (Jvm.Cond.instanceMethod ({ cls := "BitNotation$Reader", name := "<init>", desc := "()V" } : Jvm.MethodName)) ∈ wsA := wsA_1 (List.mem_of_getElem? (i := 79) rfl) rfl
theorem wt_1_80 : (Jvm.Cond.code ({ cls := "BitNotation$Reader", name := "<init>", desc := "()V" } : Jvm.MethodName) prog_3_method_1_code (1 : Nat) (Option.none : Option Jvm.ClassFile.FieldType)) ∈ wsA := wsA_1 (List.mem_of_getElem? (i := 80) rfl) rfl
theorem wt_1_81 : (Jvm.Cond.methodLink "BitNotation$Reader" (3 : Nat) ({ cls := "java/lang/Object", name := "<init>", desc := "()V" } : Jvm.MethodName)) ∈ wsA := wsA_1 (List.mem_of_getElem? (i := 81) rfl) rfl
theorem wt_1_82 : (Jvm.Cond.classLink "BitNotation$Reader" (9 : Nat) "BitNotation$Row") ∈ wsA := wsA_1 (List.mem_of_getElem? (i := 82) rfl) rfl
theorem wt_1_83 : (Jvm.Cond.methodLink "BitNotation$Reader" (11 : Nat) ({ cls := "BitNotation$Row", name := "<init>", desc := "(I)V" } : Jvm.MethodName)) ∈ wsA := wsA_1 (List.mem_of_getElem? (i := 83) rfl) rfl
theorem wt_1_84 : (Jvm.Cond.fieldLink "BitNotation$Reader" (14 : Nat) "BitNotation$Reader" "heard" "LBitNotation$Row;") ∈ wsA := wsA_1 (List.mem_of_getElem? (i := 84) rfl) rfl
theorem wt_1_86 : (Jvm.Cond.fieldLink "BitNotation$Reader" (20 : Nat) "BitNotation$Reader" "additionsKnown" "I") ∈ wsA := wsA_1 (List.mem_of_getElem? (i := 86) rfl) rfl
theorem wt_1_87 : (Jvm.Cond.fieldLink "BitNotation$Reader" (24 : Nat) "BitNotation$Reader" "place" "I") ∈ wsA := wsA_1 (List.mem_of_getElem? (i := 87) rfl) rfl
theorem wt_1_88 : (Jvm.Cond.fieldLink "BitNotation$Reader" (27 : Nat) "BitNotation$Reader" "fault" "I") ∈ wsA := wsA_1 (List.mem_of_getElem? (i := 88) rfl) rfl
theorem wt_1_89 : (Jvm.Cond.laysFinal "BitNotation$Reader" "BitNotation$Reader" "heard" "LBitNotation$Row;") ∈ wsA := wsA_1 (List.mem_of_getElem? (i := 89) rfl) rfl
theorem wt_1_91 : (Jvm.Cond.lays "BitNotation$Reader" "BitNotation$Reader" "additionsKnown" "I") ∈ wsA := wsA_1 (List.mem_of_getElem? (i := 91) rfl) rfl
theorem wt_1_93 : (Jvm.Cond.lays "BitNotation$Reader" "BitNotation$Reader" "place" "I") ∈ wsA := wsA_1 (List.mem_of_getElem? (i := 93) rfl) rfl
theorem wt_1_95 : (Jvm.Cond.lays "BitNotation$Reader" "BitNotation$Reader" "fault" "I") ∈ wsA := wsA_1 (List.mem_of_getElem? (i := 95) rfl) rfl
theorem wt_1_98 : (Jvm.Cond.fieldLink "BitNotation" (14 : Nat) "BitNotation" "notation" "LBitNotation$TypeRow;") ∈ wsA := wsA_1 (List.mem_of_getElem? (i := 98) rfl) rfl
theorem wt_1_99 : (Jvm.Cond.fieldLink "BitNotation" (21 : Nat) "BitNotation" "tale" "LBitNotation$Row;") ∈ wsA := wsA_1 (List.mem_of_getElem? (i := 99) rfl) rfl
theorem wt_1_100 : (Jvm.Cond.fieldLink "BitNotation" (25 : Nat) "BitNotation" "message" "LBitNotation$Row;") ∈ wsA := wsA_1 (List.mem_of_getElem? (i := 100) rfl) rfl
theorem wt_1_101 : (Jvm.Cond.fieldLink "BitNotation" (31 : Nat) "BitNotation" "writer" "LBitNotation$Writer;") ∈ wsA := wsA_1 (List.mem_of_getElem? (i := 101) rfl) rfl
theorem wt_1_102 : (Jvm.Cond.fieldLink "BitNotation" (38 : Nat) "BitNotation" "reader" "LBitNotation$Reader;") ∈ wsA := wsA_1 (List.mem_of_getElem? (i := 102) rfl) rfl
theorem wt_1_103 : (Jvm.Cond.fieldLink "BitNotation" (42 : Nat) "BitNotation" "draft" "LBitNotation$TypeRow;") ∈ wsA := wsA_1 (List.mem_of_getElem? (i := 103) rfl) rfl
theorem wt_1_104 : (Jvm.Cond.fieldLink "BitNotation" (45 : Nat) "BitNotation" "draftOptional" "I") ∈ wsA := wsA_1 (List.mem_of_getElem? (i := 104) rfl) rfl
theorem wt_1_105 : (Jvm.Cond.laysFinal "BitNotation" "BitNotation" "notation" "LBitNotation$TypeRow;") ∈ wsA := wsA_1 (List.mem_of_getElem? (i := 105) rfl) rfl
theorem wt_1_107 : (Jvm.Cond.laysFinal "BitNotation" "BitNotation" "tale" "LBitNotation$Row;") ∈ wsA := wsA_1 (List.mem_of_getElem? (i := 107) rfl) rfl
theorem wt_1_109 : (Jvm.Cond.laysFinal "BitNotation" "BitNotation" "message" "LBitNotation$Row;") ∈ wsA := wsA_1 (List.mem_of_getElem? (i := 109) rfl) rfl
theorem wt_1_111 : (Jvm.Cond.laysFinal "BitNotation" "BitNotation" "writer" "LBitNotation$Writer;") ∈ wsA := wsA_1 (List.mem_of_getElem? (i := 111) rfl) rfl
theorem wt_1_113 : (Jvm.Cond.laysFinal "BitNotation" "BitNotation" "reader" "LBitNotation$Reader;") ∈ wsA := wsA_1 (List.mem_of_getElem? (i := 113) rfl) rfl
theorem wt_1_115 : (Jvm.Cond.lays "BitNotation" "BitNotation" "draft" "LBitNotation$TypeRow;") ∈ wsA := wsA_1 (List.mem_of_getElem? (i := 115) rfl) rfl
theorem wt_1_117 : (Jvm.Cond.lays "BitNotation" "BitNotation" "draftOptional" "I") ∈ wsA := wsA_1 (List.mem_of_getElem? (i := 117) rfl) rfl
theorem wt_1_120 : (Jvm.Cond.methodLink "BitNotationLaw" (147 : Nat) ({ cls := "BitNotationLaw", name := "drawn", desc := "([II)I" } : Jvm.MethodName)) ∈ wsA := wsA_1 (List.mem_of_getElem? (i := 120) rfl) rfl
theorem wt_1_121 : (Jvm.Cond.static ({ cls := "BitNotationLaw", name := "drawn", desc := "([II)I" } : Jvm.MethodName)) ∈ wsA := wsA_1 (List.mem_of_getElem? (i := 121) rfl) rfl
theorem wt_1_122 : (Jvm.Cond.code ({ cls := "BitNotationLaw", name := "drawn", desc := "([II)I" } : Jvm.MethodName) method_19_code (2 : Nat) (Option.some Jvm.ClassFile.FieldType.int)) ∈ wsA := wsA_1 (List.mem_of_getElem? (i := 122) rfl) rfl
theorem wt_1_123 : (Jvm.Cond.constant "BitNotationLaw" (74 : Nat) (15525031 : Int32)) ∈ wsA := wsA_1 (List.mem_of_getElem? (i := 123) rfl) rfl
theorem wt_1_124 : (Jvm.Cond.constant "BitNotationLaw" (75 : Nat) (2147483647 : Int32)) ∈ wsA := wsA_1 (List.mem_of_getElem? (i := 124) rfl) rfl
theorem wt_1_125 : (Jvm.Cond.methodLink "BitNotationLaw" (151 : Nat) ({ cls := "BitNotationLaw", name := "refuses", desc := "(LBitNotation;I)Z" } : Jvm.MethodName)) ∈ wsA := wsA_1 (List.mem_of_getElem? (i := 125) rfl) rfl
theorem wt_1_126 : (Jvm.Cond.static ({ cls := "BitNotationLaw", name := "refuses", desc := "(LBitNotation;I)Z" } : Jvm.MethodName)) ∈ wsA := wsA_1 (List.mem_of_getElem? (i := 126) rfl) rfl
theorem wt_1_127 : (Jvm.Cond.code ({ cls := "BitNotationLaw", name := "refuses", desc := "(LBitNotation;I)Z" } : Jvm.MethodName) method_20_code (6 : Nat) (Option.some Jvm.ClassFile.FieldType.boolean)) ∈ wsA := wsA_1 (List.mem_of_getElem? (i := 127) rfl) rfl
theorem wt_1_128 : (Jvm.Cond.methodLink "BitNotationLaw" (76 : Nat) ({ cls := "BitNotation", name := "types", desc := "()I" } : Jvm.MethodName)) ∈ wsA := wsA_1 (List.mem_of_getElem? (i := 128) rfl) rfl
theorem wt_1_129 : (Jvm.Cond.instanceMethod ({ cls := "BitNotation", name := "types", desc := "()I" } : Jvm.MethodName)) ∈ wsA := wsA_1 (List.mem_of_getElem? (i := 129) rfl) rfl
theorem wt_1_130 : (Jvm.Cond.selects "BitNotation" ({ cls := "BitNotation", name := "types", desc := "()I" } : Jvm.MethodName) ({ cls := "BitNotation", name := "types", desc := "()I" } : Jvm.MethodName)) ∈ wsA := wsA_1 (List.mem_of_getElem? (i := 130) rfl) rfl
theorem wt_1_131 : (Jvm.Cond.code ({ cls := "BitNotation", name := "types", desc := "()I" } : Jvm.MethodName) prog_1_method_8_code (1 : Nat) (Option.some Jvm.ClassFile.FieldType.int)) ∈ wsA := wsA_1 (List.mem_of_getElem? (i := 131) rfl) rfl
theorem wt_1_132 : (Jvm.Cond.methodLink "BitNotation" (97 : Nat) ({ cls := "BitNotation$TypeRow", name := "size", desc := "()I" } : Jvm.MethodName)) ∈ wsA := wsA_1 (List.mem_of_getElem? (i := 132) rfl) rfl
theorem wt_1_133 : (Jvm.Cond.instanceMethod ({ cls := "BitNotation$TypeRow", name := "size", desc := "()I" } : Jvm.MethodName)) ∈ wsA := wsA_1 (List.mem_of_getElem? (i := 133) rfl) rfl
theorem wt_1_134 : (Jvm.Cond.selects "BitNotation$TypeRow" ({ cls := "BitNotation$TypeRow", name := "size", desc := "()I" } : Jvm.MethodName) ({ cls := "BitNotation$TypeRow", name := "size", desc := "()I" } : Jvm.MethodName)) ∈ wsA := wsA_1 (List.mem_of_getElem? (i := 134) rfl) rfl
theorem wt_1_135 : (Jvm.Cond.code ({ cls := "BitNotation$TypeRow", name := "size", desc := "()I" } : Jvm.MethodName) prog_6_method_2_code (1 : Nat) (Option.some Jvm.ClassFile.FieldType.int)) ∈ wsA := wsA_1 (List.mem_of_getElem? (i := 135) rfl) rfl
theorem wt_1_136 : (Jvm.Cond.methodLink "BitNotationLaw" (79 : Nat) ({ cls := "BitNotation", name := "bits", desc := "()I" } : Jvm.MethodName)) ∈ wsA := wsA_1 (List.mem_of_getElem? (i := 136) rfl) rfl
theorem wt_1_137 : (Jvm.Cond.instanceMethod ({ cls := "BitNotation", name := "bits", desc := "()I" } : Jvm.MethodName)) ∈ wsA := wsA_1 (List.mem_of_getElem? (i := 137) rfl) rfl
theorem wt_1_138 : (Jvm.Cond.selects "BitNotation" ({ cls := "BitNotation", name := "bits", desc := "()I" } : Jvm.MethodName) ({ cls := "BitNotation", name := "bits", desc := "()I" } : Jvm.MethodName)) ∈ wsA := wsA_1 (List.mem_of_getElem? (i := 138) rfl) rfl
theorem wt_1_139 : (Jvm.Cond.code ({ cls := "BitNotation", name := "bits", desc := "()I" } : Jvm.MethodName) prog_1_method_17_code (1 : Nat) (Option.some Jvm.ClassFile.FieldType.int)) ∈ wsA := wsA_1 (List.mem_of_getElem? (i := 139) rfl) rfl
theorem wt_1_140 : (Jvm.Cond.methodLink "BitNotation" (141 : Nat) ({ cls := "BitNotation$Row", name := "size", desc := "()I" } : Jvm.MethodName)) ∈ wsA := wsA_1 (List.mem_of_getElem? (i := 140) rfl) rfl
theorem wt_1_141 : (Jvm.Cond.instanceMethod ({ cls := "BitNotation$Row", name := "size", desc := "()I" } : Jvm.MethodName)) ∈ wsA := wsA_1 (List.mem_of_getElem? (i := 141) rfl) rfl
theorem wt_1_142 : (Jvm.Cond.selects "BitNotation$Row" ({ cls := "BitNotation$Row", name := "size", desc := "()I" } : Jvm.MethodName) ({ cls := "BitNotation$Row", name := "size", desc := "()I" } : Jvm.MethodName)) ∈ wsA := wsA_1 (List.mem_of_getElem? (i := 142) rfl) rfl
theorem wt_1_143 : (Jvm.Cond.code ({ cls := "BitNotation$Row", name := "size", desc := "()I" } : Jvm.MethodName) prog_4_method_2_code (1 : Nat) (Option.some Jvm.ClassFile.FieldType.int)) ∈ wsA := wsA_1 (List.mem_of_getElem? (i := 143) rfl) rfl
theorem wt_1_144 : (Jvm.Cond.methodLink "BitNotationLaw" (82 : Nat) ({ cls := "BitNotationLaw", name := "numbers", desc := "(LBitNotation;II)I" } : Jvm.MethodName)) ∈ wsA := wsA_1 (List.mem_of_getElem? (i := 144) rfl) rfl
theorem wt_1_145 : (Jvm.Cond.static ({ cls := "BitNotationLaw", name := "numbers", desc := "(LBitNotation;II)I" } : Jvm.MethodName)) ∈ wsA := wsA_1 (List.mem_of_getElem? (i := 145) rfl) rfl
theorem wt_1_146 : (Jvm.Cond.codeWith ({ cls := "BitNotationLaw", name := "numbers", desc := "(LBitNotation;II)I" } : Jvm.MethodName) method_2_code (4 : Nat) (Option.some Jvm.ClassFile.FieldType.int) [((0 : Nat), (6 : Nat), (7 : Nat), (13 : Nat)), ((0 : Nat), (6 : Nat), (11 : Nat), (16 : Nat))]) ∈ wsA := wsA_1 (List.mem_of_getElem? (i := 146) rfl) rfl
theorem wt_1_147 : (Jvm.Cond.classLink "BitNotationLaw" (13 : Nat) "java/lang/IllegalArgumentException") ∈ wsA := wsA_1 (List.mem_of_getElem? (i := 147) rfl) rfl
theorem wt_1_148 : (Jvm.Cond.classLink "BitNotationLaw" (16 : Nat) "java/lang/IllegalStateException") ∈ wsA := wsA_1 (List.mem_of_getElem? (i := 148) rfl) rfl
theorem wt_1_149 : (Jvm.Cond.methodLink "BitNotationLaw" (7 : Nat) ({ cls := "BitNotation", name := "addNumber", desc := "(II)I" } : Jvm.MethodName)) ∈ wsA := wsA_1 (List.mem_of_getElem? (i := 149) rfl) rfl
theorem wt_1_150 : (Jvm.Cond.instanceMethod ({ cls := "BitNotation", name := "addNumber", desc := "(II)I" } : Jvm.MethodName)) ∈ wsA := wsA_1 (List.mem_of_getElem? (i := 150) rfl) rfl
theorem wt_1_151 : (Jvm.Cond.selects "BitNotation" ({ cls := "BitNotation", name := "addNumber", desc := "(II)I" } : Jvm.MethodName) ({ cls := "BitNotation", name := "addNumber", desc := "(II)I" } : Jvm.MethodName)) ∈ wsA := wsA_1 (List.mem_of_getElem? (i := 151) rfl) rfl
theorem wt_1_152 : (Jvm.Cond.code ({ cls := "BitNotation", name := "addNumber", desc := "(II)I" } : Jvm.MethodName) prog_1_method_2_code (3 : Nat) (Option.some Jvm.ClassFile.FieldType.int)) ∈ wsA := wsA_1 (List.mem_of_getElem? (i := 152) rfl) rfl
theorem wt_1_153 : (Jvm.Cond.methodLink "BitNotation" (49 : Nat) ({ cls := "BitNotation", name := "isOutside", desc := "(III)Z" } : Jvm.MethodName)) ∈ wsA := wsA_1 (List.mem_of_getElem? (i := 153) rfl) rfl
theorem wt_1_154 : (Jvm.Cond.static ({ cls := "BitNotation", name := "isOutside", desc := "(III)Z" } : Jvm.MethodName)) ∈ wsA := wsA_1 (List.mem_of_getElem? (i := 154) rfl) rfl
theorem wt_1_155 : (Jvm.Cond.code ({ cls := "BitNotation", name := "isOutside", desc := "(III)Z" } : Jvm.MethodName) prog_1_method_23_code (3 : Nat) (Option.some Jvm.ClassFile.FieldType.boolean)) ∈ wsA := wsA_1 (List.mem_of_getElem? (i := 155) rfl) rfl
theorem wt_1_156 : (Jvm.Cond.classLink "BitNotation" (53 : Nat) "java/lang/IllegalArgumentException") ∈ wsA := wsA_1 (List.mem_of_getElem? (i := 156) rfl) rfl
theorem wt_1_157 : (Jvm.Cond.instantiable "java/lang/IllegalArgumentException" (6 : Nat)) ∈ wsA := wsA_1 (List.mem_of_getElem? (i := 157) rfl) rfl
theorem wt_1_165 : (Jvm.Cond.selects "java/lang/IllegalArgumentException" ({ cls := "java/lang/Throwable", name := "fillInStackTrace", desc := "(I)Ljava/lang/Throwable;" } : Jvm.MethodName) ({ cls := "java/lang/Throwable", name := "fillInStackTrace", desc := "(I)Ljava/lang/Throwable;" } : Jvm.MethodName)) ∈ wsA := wsA_1 (List.mem_of_getElem? (i := 165) rfl) rfl
theorem wt_1_166 : (Jvm.Cond.selects "java/lang/IllegalArgumentException" ({ cls := "java/lang/Throwable", name := "fillInStackTrace", desc := "()Ljava/lang/Throwable;" } : Jvm.MethodName) ({ cls := "java/lang/Throwable", name := "fillInStackTrace", desc := "()Ljava/lang/Throwable;" } : Jvm.MethodName)) ∈ wsA := wsA_1 (List.mem_of_getElem? (i := 166) rfl) rfl
theorem wt_1_167 : (Jvm.Cond.lays "java/lang/IllegalArgumentException" "java/lang/Throwable" "cause" "Ljava/lang/Throwable;") ∈ wsA := wsA_1 (List.mem_of_getElem? (i := 167) rfl) rfl
theorem wt_1_168 : (Jvm.Cond.lays "java/lang/Throwable" "java/lang/Throwable" "cause" "Ljava/lang/Throwable;") ∈ wsA := wsA_1 (List.mem_of_getElem? (i := 168) rfl) rfl
theorem wt_1_169 : (Jvm.Cond.lays "java/lang/IllegalArgumentException" "java/lang/Throwable" "stackTrace" "[Ljava/lang/StackTraceElement;") ∈ wsA := wsA_1 (List.mem_of_getElem? (i := 169) rfl) rfl
theorem wt_1_170 : (Jvm.Cond.lays "java/lang/Throwable" "java/lang/Throwable" "stackTrace" "[Ljava/lang/StackTraceElement;") ∈ wsA := wsA_1 (List.mem_of_getElem? (i := 170) rfl) rfl
theorem wt_1_171 : (Jvm.Cond.lays "java/lang/IllegalArgumentException" "java/lang/Throwable" "suppressedExceptions" "Ljava/util/List;") ∈ wsA := wsA_1 (List.mem_of_getElem? (i := 171) rfl) rfl
theorem wt_1_172 : (Jvm.Cond.lays "java/lang/Throwable" "java/lang/Throwable" "suppressedExceptions" "Ljava/util/List;") ∈ wsA := wsA_1 (List.mem_of_getElem? (i := 172) rfl) rfl
theorem wt_1_173 : (Jvm.Cond.lays "java/lang/IllegalArgumentException" "java/lang/Throwable" "detailMessage" "Ljava/lang/String;") ∈ wsA := wsA_1 (List.mem_of_getElem? (i := 173) rfl) rfl
theorem wt_1_174 : (Jvm.Cond.lays "java/lang/Throwable" "java/lang/Throwable" "detailMessage" "Ljava/lang/String;") ∈ wsA := wsA_1 (List.mem_of_getElem? (i := 174) rfl) rfl
theorem wt_1_175 : (Jvm.Cond.lays "java/lang/IllegalArgumentException" "java/lang/Throwable" "backtrace" "Ljava/lang/Object;") ∈ wsA := wsA_1 (List.mem_of_getElem? (i := 175) rfl) rfl
theorem wt_1_176 : (Jvm.Cond.lays "java/lang/Throwable" "java/lang/Throwable" "backtrace" "Ljava/lang/Object;") ∈ wsA := wsA_1 (List.mem_of_getElem? (i := 176) rfl) rfl
theorem wt_1_177 : (Jvm.Cond.fieldLink "java/lang/Throwable" (198 : Nat) "java/lang/Throwable" "backtrace" "Ljava/lang/Object;") ∈ wsA := wsA_1 (List.mem_of_getElem? (i := 177) rfl) rfl
theorem wt_1_179 : (Jvm.Cond.instanceMethod ({ cls := "java/lang/Throwable", name := "<init>", desc := "()V" } : Jvm.MethodName)) ∈ wsA := wsA_1 (List.mem_of_getElem? (i := 179) rfl) rfl
theorem wt_1_180 : (Jvm.Cond.code ({ cls := "java/lang/Throwable", name := "<init>", desc := "()V" } : Jvm.MethodName) prog_18_method_1_code (1 : Nat) (Option.none : Option Jvm.ClassFile.FieldType)) ∈ wsA := wsA_1 (List.mem_of_getElem? (i := 180) rfl) rfl
theorem wt_1_181 : (Jvm.Cond.methodLink "java/lang/Throwable" (1 : Nat) ({ cls := "java/lang/Object", name := "<init>", desc := "()V" } : Jvm.MethodName)) ∈ wsA := wsA_1 (List.mem_of_getElem? (i := 181) rfl) rfl
theorem wt_1_182 : (Jvm.Cond.fieldLink "java/lang/Throwable" (13 : Nat) "java/lang/Throwable" "UNASSIGNED_STACK" "[Ljava/lang/StackTraceElement;") ∈ wsA := wsA_1 (List.mem_of_getElem? (i := 182) rfl) rfl
theorem wt_1_184 : (Jvm.Cond.fieldLink "java/lang/Throwable" (20 : Nat) "java/lang/Throwable" "SUPPRESSED_SENTINEL" "Ljava/util/List;") ∈ wsA := wsA_1 (List.mem_of_getElem? (i := 184) rfl) rfl
theorem wt_1_186 : (Jvm.Cond.methodLink "java/lang/Throwable" (27 : Nat) ({ cls := "java/lang/Throwable", name := "fillInStackTrace", desc := "()Ljava/lang/Throwable;" } : Jvm.MethodName)) ∈ wsA := wsA_1 (List.mem_of_getElem? (i := 186) rfl) rfl
theorem wt_1_187 : (Jvm.Cond.instanceMethod ({ cls := "java/lang/Throwable", name := "fillInStackTrace", desc := "()Ljava/lang/Throwable;" } : Jvm.MethodName)) ∈ wsA := wsA_1 (List.mem_of_getElem? (i := 187) rfl) rfl
theorem wt_1_189 : (Jvm.Cond.selects "java/lang/IllegalStateException" ({ cls := "java/lang/Throwable", name := "fillInStackTrace", desc := "()Ljava/lang/Throwable;" } : Jvm.MethodName) ({ cls := "java/lang/Throwable", name := "fillInStackTrace", desc := "()Ljava/lang/Throwable;" } : Jvm.MethodName)) ∈ wsA := wsA_1 (List.mem_of_getElem? (i := 189) rfl) rfl
theorem wt_1_190 : (Jvm.Cond.selects "java/lang/IndexOutOfBoundsException" ({ cls := "java/lang/Throwable", name := "fillInStackTrace", desc := "()Ljava/lang/Throwable;" } : Jvm.MethodName) ({ cls := "java/lang/Throwable", name := "fillInStackTrace", desc := "()Ljava/lang/Throwable;" } : Jvm.MethodName)) ∈ wsA := wsA_1 (List.mem_of_getElem? (i := 190) rfl) rfl
theorem wt_1_192 : (Jvm.Cond.methodLink "java/lang/Throwable" (202 : Nat) ({ cls := "java/lang/Throwable", name := "fillInStackTrace", desc := "(I)Ljava/lang/Throwable;" } : Jvm.MethodName)) ∈ wsA := wsA_1 (List.mem_of_getElem? (i := 192) rfl) rfl
theorem wt_1_194 : (Jvm.Cond.instanceMethod ({ cls := "java/lang/Throwable", name := "fillInStackTrace", desc := "(I)Ljava/lang/Throwable;" } : Jvm.MethodName)) ∈ wsA := wsA_1 (List.mem_of_getElem? (i := 194) rfl) rfl
theorem wt_1_195 : (Jvm.Cond.instantiable "java/lang/Throwable" (6 : Nat)) ∈ wsA := wsA_1 (List.mem_of_getElem? (i := 195) rfl) rfl
theorem wt_1_198 : (Jvm.Cond.methodLink "BitNotation" (57 : Nat) ({ cls := "java/lang/IllegalArgumentException", name := "<init>", desc := "(Ljava/lang/String;)V" } : Jvm.MethodName)) ∈ wsA := wsA_1 (List.mem_of_getElem? (i := 198) rfl) rfl
theorem wt_1_199 : (Jvm.Cond.instanceMethod ({ cls := "java/lang/IllegalArgumentException", name := "<init>", desc := "(Ljava/lang/String;)V" } : Jvm.MethodName)) ∈ wsA := wsA_1 (List.mem_of_getElem? (i := 199) rfl) rfl
theorem wt_1_200 : (Jvm.Cond.code ({ cls := "java/lang/IllegalArgumentException", name := "<init>", desc := "(Ljava/lang/String;)V" } : Jvm.MethodName) prog_12_method_2_code (2 : Nat) (Option.none : Option Jvm.ClassFile.FieldType)) ∈ wsA := wsA_1 (List.mem_of_getElem? (i := 200) rfl) rfl
theorem wt_1_201 : (Jvm.Cond.methodLink "java/lang/IllegalArgumentException" (7 : Nat) ({ cls := "java/lang/RuntimeException", name := "<init>", desc := "(Ljava/lang/String;)V" } : Jvm.MethodName)) ∈ wsA := wsA_1 (List.mem_of_getElem? (i := 201) rfl) rfl
theorem wt_1_202 : (Jvm.Cond.instanceMethod ({ cls := "java/lang/RuntimeException", name := "<init>", desc := "(Ljava/lang/String;)V" } : Jvm.MethodName)) ∈ wsA := wsA_1 (List.mem_of_getElem? (i := 202) rfl) rfl
theorem wt_1_203 : (Jvm.Cond.code ({ cls := "java/lang/RuntimeException", name := "<init>", desc := "(Ljava/lang/String;)V" } : Jvm.MethodName) prog_16_method_2_code (2 : Nat) (Option.none : Option Jvm.ClassFile.FieldType)) ∈ wsA := wsA_1 (List.mem_of_getElem? (i := 203) rfl) rfl
theorem wt_1_204 : (Jvm.Cond.methodLink "java/lang/RuntimeException" (7 : Nat) ({ cls := "java/lang/Exception", name := "<init>", desc := "(Ljava/lang/String;)V" } : Jvm.MethodName)) ∈ wsA := wsA_1 (List.mem_of_getElem? (i := 204) rfl) rfl
theorem wt_1_205 : (Jvm.Cond.instanceMethod ({ cls := "java/lang/Exception", name := "<init>", desc := "(Ljava/lang/String;)V" } : Jvm.MethodName)) ∈ wsA := wsA_1 (List.mem_of_getElem? (i := 205) rfl) rfl
theorem wt_1_206 : (Jvm.Cond.code ({ cls := "java/lang/Exception", name := "<init>", desc := "(Ljava/lang/String;)V" } : Jvm.MethodName) prog_11_method_2_code (2 : Nat) (Option.none : Option Jvm.ClassFile.FieldType)) ∈ wsA := wsA_1 (List.mem_of_getElem? (i := 206) rfl) rfl
theorem wt_1_207 : (Jvm.Cond.methodLink "java/lang/Exception" (7 : Nat) ({ cls := "java/lang/Throwable", name := "<init>", desc := "(Ljava/lang/String;)V" } : Jvm.MethodName)) ∈ wsA := wsA_1 (List.mem_of_getElem? (i := 207) rfl) rfl
theorem wt_1_208 : (Jvm.Cond.instanceMethod ({ cls := "java/lang/Throwable", name := "<init>", desc := "(Ljava/lang/String;)V" } : Jvm.MethodName)) ∈ wsA := wsA_1 (List.mem_of_getElem? (i := 208) rfl) rfl
theorem wt_1_209 : (Jvm.Cond.code ({ cls := "java/lang/Throwable", name := "<init>", desc := "(Ljava/lang/String;)V" } : Jvm.MethodName) prog_18_method_2_code (2 : Nat) (Option.none : Option Jvm.ClassFile.FieldType)) ∈ wsA := wsA_1 (List.mem_of_getElem? (i := 209) rfl) rfl
theorem wt_1_211 : (Jvm.Cond.fieldLink "java/lang/Throwable" (31 : Nat) "java/lang/Throwable" "detailMessage" "Ljava/lang/String;") ∈ wsA := wsA_1 (List.mem_of_getElem? (i := 211) rfl) rfl
theorem wt_1_212 : (Jvm.Cond.fieldLink "java/lang/Throwable" (7 : Nat) "java/lang/Throwable" "cause" "Ljava/lang/Throwable;") ∈ wsA := wsA_1 (List.mem_of_getElem? (i := 212) rfl) rfl
theorem wt_1_213 : (Jvm.Cond.fieldLink "java/lang/Throwable" (17 : Nat) "java/lang/Throwable" "stackTrace" "[Ljava/lang/StackTraceElement;") ∈ wsA := wsA_1 (List.mem_of_getElem? (i := 213) rfl) rfl
theorem wt_1_214 : (Jvm.Cond.fieldLink "java/lang/Throwable" (24 : Nat) "java/lang/Throwable" "suppressedExceptions" "Ljava/util/List;") ∈ wsA := wsA_1 (List.mem_of_getElem? (i := 214) rfl) rfl
theorem wt_1_219 : (Jvm.Cond.lays "java/lang/IllegalArgumentException" "java/lang/Throwable" "depth" "I") ∈ wsA := wsA_1 (List.mem_of_getElem? (i := 219) rfl) rfl
theorem wt_1_223 : (Jvm.Cond.arrayClass Jvm.ClassFile.FieldType.byte) ∈ wsA := wsA_1 (List.mem_of_getElem? (i := 223) rfl) rfl
theorem wt_1_224 : (Jvm.Cond.classLink "BitNotation" (60 : Nat) "BitNotation$Type") ∈ wsA := wsA_1 (List.mem_of_getElem? (i := 224) rfl) rfl
theorem wt_1_225 : (Jvm.Cond.instantiable "BitNotation$Type" (10 : Nat)) ∈ wsA := wsA_1 (List.mem_of_getElem? (i := 225) rfl) rfl
theorem wt_1_226 : (Jvm.Cond.fieldLink "BitNotation" (62 : Nat) "BitNotation$Kind" "NUMBER" "LBitNotation$Kind;") ∈ wsA := wsA_1 (List.mem_of_getElem? (i := 226) rfl) rfl
theorem wt_1_228 : (Jvm.Cond.methodLink "BitNotation" (68 : Nat) ({ cls := "BitNotation$Type", name := "<init>", desc := "(LBitNotation$Kind;IILBitNotation$TypeRow;I)V" } : Jvm.MethodName)) ∈ wsA := wsA_1 (List.mem_of_getElem? (i := 228) rfl) rfl
theorem wt_1_229 : (Jvm.Cond.instanceMethod ({ cls := "BitNotation$Type", name := "<init>", desc := "(LBitNotation$Kind;IILBitNotation$TypeRow;I)V" } : Jvm.MethodName)) ∈ wsA := wsA_1 (List.mem_of_getElem? (i := 229) rfl) rfl
theorem wt_1_230 : (Jvm.Cond.code ({ cls := "BitNotation$Type", name := "<init>", desc := "(LBitNotation$Kind;IILBitNotation$TypeRow;I)V" } : Jvm.MethodName) prog_5_method_1_code (6 : Nat) (Option.none : Option Jvm.ClassFile.FieldType)) ∈ wsA := wsA_1 (List.mem_of_getElem? (i := 230) rfl) rfl
theorem wt_1_231 : (Jvm.Cond.methodLink "BitNotation$Type" (3 : Nat) ({ cls := "java/lang/Object", name := "<init>", desc := "()V" } : Jvm.MethodName)) ∈ wsA := wsA_1 (List.mem_of_getElem? (i := 231) rfl) rfl
theorem wt_1_233 : (Jvm.Cond.static ({ cls := "BitNotation", name := "widthFor", desc := "(I)I" } : Jvm.MethodName)) ∈ wsA := wsA_1 (List.mem_of_getElem? (i := 233) rfl) rfl
theorem wt_1_234 : (Jvm.Cond.code ({ cls := "BitNotation", name := "widthFor", desc := "(I)I" } : Jvm.MethodName) prog_1_method_28_code (2 : Nat) (Option.some Jvm.ClassFile.FieldType.int)) ∈ wsA := wsA_1 (List.mem_of_getElem? (i := 234) rfl) rfl
theorem wt_1_235 : (Jvm.Cond.classLink "BitNotation$Type" (45 : Nat) "BitNotation$TypeRow") ∈ wsA := wsA_1 (List.mem_of_getElem? (i := 235) rfl) rfl
theorem wt_1_236 : (Jvm.Cond.fieldLink "BitNotation$Type" (47 : Nat) "BitNotation$Kind" "SEQUENCE" "LBitNotation$Kind;") ∈ wsA := wsA_1 (List.mem_of_getElem? (i := 236) rfl) rfl
theorem wt_1_238 : (Jvm.Cond.methodLink "BitNotation$Type" (52 : Nat) ({ cls := "BitNotation$TypeRow", name := "<init>", desc := "(I)V" } : Jvm.MethodName)) ∈ wsA := wsA_1 (List.mem_of_getElem? (i := 238) rfl) rfl
theorem wt_1_239 : (Jvm.Cond.fieldLink "BitNotation$Type" (21 : Nat) "BitNotation$Type" "kind" "LBitNotation$Kind;") ∈ wsA := wsA_1 (List.mem_of_getElem? (i := 239) rfl) rfl
theorem wt_2_3 : (Jvm.Cond.fieldLink "BitNotation$Type" (25 : Nat) "BitNotation$Type" "least" "I") ∈ wsA := wsA_2 (List.mem_of_getElem? (i := 3) rfl) rfl
theorem wt_2_6 : (Jvm.Cond.fieldLink "BitNotation$Type" (28 : Nat) "BitNotation$Type" "greatest" "I") ∈ wsA := wsA_2 (List.mem_of_getElem? (i := 6) rfl) rfl
theorem wt_2_9 : (Jvm.Cond.fieldLink "BitNotation$Type" (35 : Nat) "BitNotation$Type" "width" "I") ∈ wsA := wsA_2 (List.mem_of_getElem? (i := 9) rfl) rfl
theorem wt_2_12 : (Jvm.Cond.fieldLink "BitNotation$Type" (38 : Nat) "BitNotation$Type" "parts" "LBitNotation$TypeRow;") ∈ wsA := wsA_2 (List.mem_of_getElem? (i := 12) rfl) rfl
theorem wt_2_15 : (Jvm.Cond.fieldLink "BitNotation$Type" (42 : Nat) "BitNotation$Type" "optional" "I") ∈ wsA := wsA_2 (List.mem_of_getElem? (i := 15) rfl) rfl
theorem wt_2_16 : (Jvm.Cond.fieldLink "BitNotation$Type" (55 : Nat) "BitNotation$Type" "additions" "LBitNotation$TypeRow;") ∈ wsA := wsA_2 (List.mem_of_getElem? (i := 16) rfl) rfl
theorem wt_2_20 : (Jvm.Cond.fieldLink "BitNotation$Type" (9 : Nat) "BitNotation$Type" "fewestBits" "I") ∈ wsA := wsA_2 (List.mem_of_getElem? (i := 20) rfl) rfl
theorem wt_2_22 : (Jvm.Cond.fieldLink "BitNotation$Type" (15 : Nat) "BitNotation$Type" "mostBits" "I") ∈ wsA := wsA_2 (List.mem_of_getElem? (i := 22) rfl) rfl
theorem wt_2_24 : (Jvm.Cond.fieldLink "BitNotation$Type" (18 : Nat) "BitNotation$Type" "mostNumbers" "I") ∈ wsA := wsA_2 (List.mem_of_getElem? (i := 24) rfl) rfl
theorem wt_2_25 : (Jvm.Cond.laysFinal "BitNotation$Type" "BitNotation$Type" "kind" "LBitNotation$Kind;") ∈ wsA := wsA_2 (List.mem_of_getElem? (i := 25) rfl) rfl
theorem wt_2_27 : (Jvm.Cond.laysFinal "BitNotation$Type" "BitNotation$Type" "least" "I") ∈ wsA := wsA_2 (List.mem_of_getElem? (i := 27) rfl) rfl
theorem wt_2_29 : (Jvm.Cond.laysFinal "BitNotation$Type" "BitNotation$Type" "greatest" "I") ∈ wsA := wsA_2 (List.mem_of_getElem? (i := 29) rfl) rfl
theorem wt_2_31 : (Jvm.Cond.laysFinal "BitNotation$Type" "BitNotation$Type" "width" "I") ∈ wsA := wsA_2 (List.mem_of_getElem? (i := 31) rfl) rfl
theorem wt_2_33 : (Jvm.Cond.laysFinal "BitNotation$Type" "BitNotation$Type" "parts" "LBitNotation$TypeRow;") ∈ wsA := wsA_2 (List.mem_of_getElem? (i := 33) rfl) rfl
theorem wt_2_35 : (Jvm.Cond.laysFinal "BitNotation$Type" "BitNotation$Type" "optional" "I") ∈ wsA := wsA_2 (List.mem_of_getElem? (i := 35) rfl) rfl
theorem wt_2_37 : (Jvm.Cond.laysFinal "BitNotation$Type" "BitNotation$Type" "additions" "LBitNotation$TypeRow;") ∈ wsA := wsA_2 (List.mem_of_getElem? (i := 37) rfl) rfl
theorem wt_2_39 : (Jvm.Cond.lays "BitNotation$Type" "BitNotation$Type" "fewestBits" "I") ∈ wsA := wsA_2 (List.mem_of_getElem? (i := 39) rfl) rfl
theorem wt_2_41 : (Jvm.Cond.lays "BitNotation$Type" "BitNotation$Type" "mostBits" "I") ∈ wsA := wsA_2 (List.mem_of_getElem? (i := 41) rfl) rfl
theorem wt_2_43 : (Jvm.Cond.lays "BitNotation$Type" "BitNotation$Type" "mostNumbers" "I") ∈ wsA := wsA_2 (List.mem_of_getElem? (i := 43) rfl) rfl
theorem wt_2_46 : (Jvm.Cond.methodLink "BitNotation" (71 : Nat) ({ cls := "BitNotation", name := "keep", desc := "(LBitNotation$Type;)I" } : Jvm.MethodName)) ∈ wsA := wsA_2 (List.mem_of_getElem? (i := 46) rfl) rfl
theorem wt_2_48 : (Jvm.Cond.instanceMethod ({ cls := "BitNotation", name := "keep", desc := "(LBitNotation$Type;)I" } : Jvm.MethodName)) ∈ wsA := wsA_2 (List.mem_of_getElem? (i := 48) rfl) rfl
theorem wt_2_49 : (Jvm.Cond.code ({ cls := "BitNotation", name := "keep", desc := "(LBitNotation$Type;)I" } : Jvm.MethodName) prog_1_method_25_code (2 : Nat) (Option.some Jvm.ClassFile.FieldType.int)) ∈ wsA := wsA_2 (List.mem_of_getElem? (i := 49) rfl) rfl
theorem wt_2_50 : (Jvm.Cond.methodLink "BitNotation" (88 : Nat) ({ cls := "BitNotation$TypeRow", name := "isFull", desc := "()Z" } : Jvm.MethodName)) ∈ wsA := wsA_2 (List.mem_of_getElem? (i := 50) rfl) rfl
theorem wt_2_51 : (Jvm.Cond.instanceMethod ({ cls := "BitNotation$TypeRow", name := "isFull", desc := "()Z" } : Jvm.MethodName)) ∈ wsA := wsA_2 (List.mem_of_getElem? (i := 51) rfl) rfl
theorem wt_2_52 : (Jvm.Cond.selects "BitNotation$TypeRow" ({ cls := "BitNotation$TypeRow", name := "isFull", desc := "()Z" } : Jvm.MethodName) ({ cls := "BitNotation$TypeRow", name := "isFull", desc := "()Z" } : Jvm.MethodName)) ∈ wsA := wsA_2 (List.mem_of_getElem? (i := 52) rfl) rfl
theorem wt_2_53 : (Jvm.Cond.code ({ cls := "BitNotation$TypeRow", name := "isFull", desc := "()Z" } : Jvm.MethodName) prog_6_method_3_code (1 : Nat) (Option.some Jvm.ClassFile.FieldType.boolean)) ∈ wsA := wsA_2 (List.mem_of_getElem? (i := 53) rfl) rfl
theorem wt_2_54 : (Jvm.Cond.methodLink "BitNotation" (192 : Nat) ({ cls := "BitNotation$Type", name := "measure", desc := "()Z" } : Jvm.MethodName)) ∈ wsA := wsA_2 (List.mem_of_getElem? (i := 54) rfl) rfl
theorem wt_2_55 : (Jvm.Cond.instanceMethod ({ cls := "BitNotation$Type", name := "measure", desc := "()Z" } : Jvm.MethodName)) ∈ wsA := wsA_2 (List.mem_of_getElem? (i := 55) rfl) rfl
theorem wt_2_56 : (Jvm.Cond.selects "BitNotation$Type" ({ cls := "BitNotation$Type", name := "measure", desc := "()Z" } : Jvm.MethodName) ({ cls := "BitNotation$Type", name := "measure", desc := "()Z" } : Jvm.MethodName)) ∈ wsA := wsA_2 (List.mem_of_getElem? (i := 56) rfl) rfl
theorem wt_2_57 : (Jvm.Cond.code ({ cls := "BitNotation$Type", name := "measure", desc := "()Z" } : Jvm.MethodName) prog_5_method_3_code (1 : Nat) (Option.some Jvm.ClassFile.FieldType.boolean)) ∈ wsA := wsA_2 (List.mem_of_getElem? (i := 57) rfl) rfl
theorem wt_2_58 : (Jvm.Cond.fieldLink "BitNotation$Type" (58 : Nat) "BitNotation$Kind" "LIST" "LBitNotation$Kind;") ∈ wsA := wsA_2 (List.mem_of_getElem? (i := 58) rfl) rfl
theorem wt_2_60 : (Jvm.Cond.methodLink "BitNotation$Type" (61 : Nat) ({ cls := "BitNotation$Type", name := "measureThings", desc := "()V" } : Jvm.MethodName)) ∈ wsA := wsA_2 (List.mem_of_getElem? (i := 60) rfl) rfl
theorem wt_2_62 : (Jvm.Cond.instanceMethod ({ cls := "BitNotation$Type", name := "measureThings", desc := "()V" } : Jvm.MethodName)) ∈ wsA := wsA_2 (List.mem_of_getElem? (i := 62) rfl) rfl
theorem wt_2_63 : (Jvm.Cond.code ({ cls := "BitNotation$Type", name := "measureThings", desc := "()V" } : Jvm.MethodName) prog_5_method_4_code (2 : Nat) (Option.none : Option Jvm.ClassFile.FieldType)) ∈ wsA := wsA_2 (List.mem_of_getElem? (i := 63) rfl) rfl
theorem wt_2_64 : (Jvm.Cond.methodLink "BitNotation$Type" (76 : Nat) ({ cls := "BitNotation$TypeRow", name := "at", desc := "(I)LBitNotation$Type;" } : Jvm.MethodName)) ∈ wsA := wsA_2 (List.mem_of_getElem? (i := 64) rfl) rfl
theorem wt_2_65 : (Jvm.Cond.instanceMethod ({ cls := "BitNotation$TypeRow", name := "at", desc := "(I)LBitNotation$Type;" } : Jvm.MethodName)) ∈ wsA := wsA_2 (List.mem_of_getElem? (i := 65) rfl) rfl
theorem wt_2_66 : (Jvm.Cond.selects "BitNotation$TypeRow" ({ cls := "BitNotation$TypeRow", name := "at", desc := "(I)LBitNotation$Type;" } : Jvm.MethodName) ({ cls := "BitNotation$TypeRow", name := "at", desc := "(I)LBitNotation$Type;" } : Jvm.MethodName)) ∈ wsA := wsA_2 (List.mem_of_getElem? (i := 66) rfl) rfl
theorem wt_2_67 : (Jvm.Cond.code ({ cls := "BitNotation$TypeRow", name := "at", desc := "(I)LBitNotation$Type;" } : Jvm.MethodName) prog_6_method_4_code (2 : Nat) (Option.some (Jvm.ClassFile.FieldType.object "BitNotation$Type"))) ∈ wsA := wsA_2 (List.mem_of_getElem? (i := 67) rfl) rfl
theorem wt_2_68 : (Jvm.Cond.fieldLink "BitNotation$Type" (64 : Nat) "BitNotation$Kind" "CHOICE" "LBitNotation$Kind;") ∈ wsA := wsA_2 (List.mem_of_getElem? (i := 68) rfl) rfl
theorem wt_2_70 : (Jvm.Cond.methodLink "BitNotation$Type" (67 : Nat) ({ cls := "BitNotation$Type", name := "measureChoices", desc := "()V" } : Jvm.MethodName)) ∈ wsA := wsA_2 (List.mem_of_getElem? (i := 70) rfl) rfl
theorem wt_2_72 : (Jvm.Cond.instanceMethod ({ cls := "BitNotation$Type", name := "measureChoices", desc := "()V" } : Jvm.MethodName)) ∈ wsA := wsA_2 (List.mem_of_getElem? (i := 72) rfl) rfl
theorem wt_2_73 : (Jvm.Cond.code ({ cls := "BitNotation$Type", name := "measureChoices", desc := "()V" } : Jvm.MethodName) prog_5_method_5_code (6 : Nat) (Option.none : Option Jvm.ClassFile.FieldType)) ∈ wsA := wsA_2 (List.mem_of_getElem? (i := 73) rfl) rfl
theorem wt_2_74 : (Jvm.Cond.methodLink "BitNotation$Type" (80 : Nat) ({ cls := "BitNotation$TypeRow", name := "size", desc := "()I" } : Jvm.MethodName)) ∈ wsA := wsA_2 (List.mem_of_getElem? (i := 74) rfl) rfl
theorem wt_2_75 : (Jvm.Cond.methodLink "BitNotation$Type" (84 : Nat) ({ cls := "java/lang/Math", name := "min", desc := "(II)I" } : Jvm.MethodName)) ∈ wsA := wsA_2 (List.mem_of_getElem? (i := 75) rfl) rfl
theorem wt_2_76 : (Jvm.Cond.static ({ cls := "java/lang/Math", name := "min", desc := "(II)I" } : Jvm.MethodName)) ∈ wsA := wsA_2 (List.mem_of_getElem? (i := 76) rfl) rfl
theorem wt_2_77 : (Jvm.Cond.code ({ cls := "java/lang/Math", name := "min", desc := "(II)I" } : Jvm.MethodName) prog_15_method_69_code (2 : Nat) (Option.some Jvm.ClassFile.FieldType.int)) ∈ wsA := wsA_2 (List.mem_of_getElem? (i := 77) rfl) rfl
theorem wt_2_78 : (Jvm.Cond.methodLink "BitNotation$Type" (90 : Nat) ({ cls := "java/lang/Math", name := "max", desc := "(II)I" } : Jvm.MethodName)) ∈ wsA := wsA_2 (List.mem_of_getElem? (i := 78) rfl) rfl
theorem wt_2_79 : (Jvm.Cond.methodLink "BitNotation$Type" (70 : Nat) ({ cls := "BitNotation$Type", name := "measureParts", desc := "()V" } : Jvm.MethodName)) ∈ wsA := wsA_2 (List.mem_of_getElem? (i := 79) rfl) rfl
theorem wt_2_81 : (Jvm.Cond.instanceMethod ({ cls := "BitNotation$Type", name := "measureParts", desc := "()V" } : Jvm.MethodName)) ∈ wsA := wsA_2 (List.mem_of_getElem? (i := 81) rfl) rfl
theorem wt_2_82 : (Jvm.Cond.code ({ cls := "BitNotation$Type", name := "measureParts", desc := "()V" } : Jvm.MethodName) prog_5_method_6_code (4 : Nat) (Option.none : Option Jvm.ClassFile.FieldType)) ∈ wsA := wsA_2 (List.mem_of_getElem? (i := 82) rfl) rfl
theorem wt_2_83 : (Jvm.Cond.methodLink "BitNotation$Type" (93 : Nat) ({ cls := "BitNotation$Type", name := "isOptional", desc := "(I)Z" } : Jvm.MethodName)) ∈ wsA := wsA_2 (List.mem_of_getElem? (i := 83) rfl) rfl
theorem wt_2_84 : (Jvm.Cond.instanceMethod ({ cls := "BitNotation$Type", name := "isOptional", desc := "(I)Z" } : Jvm.MethodName)) ∈ wsA := wsA_2 (List.mem_of_getElem? (i := 84) rfl) rfl
theorem wt_2_85 : (Jvm.Cond.selects "BitNotation$Type" ({ cls := "BitNotation$Type", name := "isOptional", desc := "(I)Z" } : Jvm.MethodName) ({ cls := "BitNotation$Type", name := "isOptional", desc := "(I)Z" } : Jvm.MethodName)) ∈ wsA := wsA_2 (List.mem_of_getElem? (i := 85) rfl) rfl
theorem wt_2_86 : (Jvm.Cond.code ({ cls := "BitNotation$Type", name := "isOptional", desc := "(I)Z" } : Jvm.MethodName) prog_5_method_2_code (2 : Nat) (Option.some Jvm.ClassFile.FieldType.boolean)) ∈ wsA := wsA_2 (List.mem_of_getElem? (i := 86) rfl) rfl
theorem wt_2_87 : (Jvm.Cond.methodLink "BitNotation$Type" (73 : Nat) ({ cls := "BitNotation$Type", name := "measureAdditions", desc := "()V" } : Jvm.MethodName)) ∈ wsA := wsA_2 (List.mem_of_getElem? (i := 87) rfl) rfl
theorem wt_2_89 : (Jvm.Cond.instanceMethod ({ cls := "BitNotation$Type", name := "measureAdditions", desc := "()V" } : Jvm.MethodName)) ∈ wsA := wsA_2 (List.mem_of_getElem? (i := 89) rfl) rfl
theorem wt_2_90 : (Jvm.Cond.code ({ cls := "BitNotation$Type", name := "measureAdditions", desc := "()V" } : Jvm.MethodName) prog_5_method_7_code (3 : Nat) (Option.none : Option Jvm.ClassFile.FieldType)) ∈ wsA := wsA_2 (List.mem_of_getElem? (i := 90) rfl) rfl
theorem wt_2_91 : (Jvm.Cond.classLink "BitNotation" (92 : Nat) "java/lang/IllegalStateException") ∈ wsA := wsA_2 (List.mem_of_getElem? (i := 91) rfl) rfl
theorem wt_2_92 : (Jvm.Cond.instantiable "java/lang/IllegalStateException" (6 : Nat)) ∈ wsA := wsA_2 (List.mem_of_getElem? (i := 92) rfl) rfl
theorem wt_2_94 : (Jvm.Cond.selects "java/lang/IllegalStateException" ({ cls := "java/lang/Throwable", name := "fillInStackTrace", desc := "(I)Ljava/lang/Throwable;" } : Jvm.MethodName) ({ cls := "java/lang/Throwable", name := "fillInStackTrace", desc := "(I)Ljava/lang/Throwable;" } : Jvm.MethodName)) ∈ wsA := wsA_2 (List.mem_of_getElem? (i := 94) rfl) rfl
theorem wt_2_95 : (Jvm.Cond.lays "java/lang/IllegalStateException" "java/lang/Throwable" "cause" "Ljava/lang/Throwable;") ∈ wsA := wsA_2 (List.mem_of_getElem? (i := 95) rfl) rfl
theorem wt_2_96 : (Jvm.Cond.lays "java/lang/IllegalStateException" "java/lang/Throwable" "stackTrace" "[Ljava/lang/StackTraceElement;") ∈ wsA := wsA_2 (List.mem_of_getElem? (i := 96) rfl) rfl
theorem wt_2_97 : (Jvm.Cond.lays "java/lang/IllegalStateException" "java/lang/Throwable" "suppressedExceptions" "Ljava/util/List;") ∈ wsA := wsA_2 (List.mem_of_getElem? (i := 97) rfl) rfl
theorem wt_2_98 : (Jvm.Cond.lays "java/lang/IllegalStateException" "java/lang/Throwable" "detailMessage" "Ljava/lang/String;") ∈ wsA := wsA_2 (List.mem_of_getElem? (i := 98) rfl) rfl
theorem wt_2_99 : (Jvm.Cond.lays "java/lang/IllegalStateException" "java/lang/Throwable" "backtrace" "Ljava/lang/Object;") ∈ wsA := wsA_2 (List.mem_of_getElem? (i := 99) rfl) rfl
theorem wt_2_101 : (Jvm.Cond.methodLink "BitNotation" (96 : Nat) ({ cls := "java/lang/IllegalStateException", name := "<init>", desc := "(Ljava/lang/String;)V" } : Jvm.MethodName)) ∈ wsA := wsA_2 (List.mem_of_getElem? (i := 101) rfl) rfl
theorem wt_2_102 : (Jvm.Cond.instanceMethod ({ cls := "java/lang/IllegalStateException", name := "<init>", desc := "(Ljava/lang/String;)V" } : Jvm.MethodName)) ∈ wsA := wsA_2 (List.mem_of_getElem? (i := 102) rfl) rfl
theorem wt_2_103 : (Jvm.Cond.code ({ cls := "java/lang/IllegalStateException", name := "<init>", desc := "(Ljava/lang/String;)V" } : Jvm.MethodName) prog_13_method_2_code (2 : Nat) (Option.none : Option Jvm.ClassFile.FieldType)) ∈ wsA := wsA_2 (List.mem_of_getElem? (i := 103) rfl) rfl
theorem wt_2_104 : (Jvm.Cond.methodLink "java/lang/IllegalStateException" (7 : Nat) ({ cls := "java/lang/RuntimeException", name := "<init>", desc := "(Ljava/lang/String;)V" } : Jvm.MethodName)) ∈ wsA := wsA_2 (List.mem_of_getElem? (i := 104) rfl) rfl
theorem wt_2_105 : (Jvm.Cond.lays "java/lang/IllegalStateException" "java/lang/Throwable" "depth" "I") ∈ wsA := wsA_2 (List.mem_of_getElem? (i := 105) rfl) rfl
theorem wt_2_107 : (Jvm.Cond.methodLink "BitNotation" (81 : Nat) ({ cls := "BitNotation$TypeRow", name := "append", desc := "(LBitNotation$Type;)V" } : Jvm.MethodName)) ∈ wsA := wsA_2 (List.mem_of_getElem? (i := 107) rfl) rfl
theorem wt_2_108 : (Jvm.Cond.instanceMethod ({ cls := "BitNotation$TypeRow", name := "append", desc := "(LBitNotation$Type;)V" } : Jvm.MethodName)) ∈ wsA := wsA_2 (List.mem_of_getElem? (i := 108) rfl) rfl
theorem wt_2_109 : (Jvm.Cond.selects "BitNotation$TypeRow" ({ cls := "BitNotation$TypeRow", name := "append", desc := "(LBitNotation$Type;)V" } : Jvm.MethodName) ({ cls := "BitNotation$TypeRow", name := "append", desc := "(LBitNotation$Type;)V" } : Jvm.MethodName)) ∈ wsA := wsA_2 (List.mem_of_getElem? (i := 109) rfl) rfl
theorem wt_2_110 : (Jvm.Cond.code ({ cls := "BitNotation$TypeRow", name := "append", desc := "(LBitNotation$Type;)V" } : Jvm.MethodName) prog_6_method_5_code (2 : Nat) (Option.none : Option Jvm.ClassFile.FieldType)) ∈ wsA := wsA_2 (List.mem_of_getElem? (i := 110) rfl) rfl
theorem wt_2_111 : (Jvm.Cond.constant "BitNotationLaw" (15 : Nat) (-2000000002 : Int32)) ∈ wsA := wsA_2 (List.mem_of_getElem? (i := 111) rfl) rfl
theorem wt_2_112 : (Jvm.Cond.constant "BitNotationLaw" (18 : Nat) (-2000000003 : Int32)) ∈ wsA := wsA_2 (List.mem_of_getElem? (i := 112) rfl) rfl
theorem wt_2_113 : (Jvm.Cond.methodLink "BitNotationLaw" (88 : Nat) ({ cls := "BitNotationLaw", name := "lists", desc := "(LBitNotation;III)I" } : Jvm.MethodName)) ∈ wsA := wsA_2 (List.mem_of_getElem? (i := 113) rfl) rfl
theorem wt_2_114 : (Jvm.Cond.static ({ cls := "BitNotationLaw", name := "lists", desc := "(LBitNotation;III)I" } : Jvm.MethodName)) ∈ wsA := wsA_2 (List.mem_of_getElem? (i := 114) rfl) rfl
theorem wt_2_115 : (Jvm.Cond.codeWith ({ cls := "BitNotationLaw", name := "lists", desc := "(LBitNotation;III)I" } : Jvm.MethodName) method_3_code (5 : Nat) (Option.some Jvm.ClassFile.FieldType.int) [((0 : Nat), (7 : Nat), (8 : Nat), (23 : Nat)), ((0 : Nat), (7 : Nat), (13 : Nat), (13 : Nat)), ((0 : Nat), (7 : Nat), (18 : Nat), (16 : Nat))]) ∈ wsA := wsA_2 (List.mem_of_getElem? (i := 115) rfl) rfl
theorem wt_2_116 : (Jvm.Cond.classLink "BitNotationLaw" (23 : Nat) "java/lang/IndexOutOfBoundsException") ∈ wsA := wsA_2 (List.mem_of_getElem? (i := 116) rfl) rfl
theorem wt_2_117 : (Jvm.Cond.methodLink "BitNotationLaw" (19 : Nat) ({ cls := "BitNotation", name := "addList", desc := "(III)I" } : Jvm.MethodName)) ∈ wsA := wsA_2 (List.mem_of_getElem? (i := 117) rfl) rfl
theorem wt_2_118 : (Jvm.Cond.instanceMethod ({ cls := "BitNotation", name := "addList", desc := "(III)I" } : Jvm.MethodName)) ∈ wsA := wsA_2 (List.mem_of_getElem? (i := 118) rfl) rfl
theorem wt_2_119 : (Jvm.Cond.selects "BitNotation" ({ cls := "BitNotation", name := "addList", desc := "(III)I" } : Jvm.MethodName) ({ cls := "BitNotation", name := "addList", desc := "(III)I" } : Jvm.MethodName)) ∈ wsA := wsA_2 (List.mem_of_getElem? (i := 119) rfl) rfl
theorem wt_2_120 : (Jvm.Cond.code ({ cls := "BitNotation", name := "addList", desc := "(III)I" } : Jvm.MethodName) prog_1_method_3_code (6 : Nat) (Option.some Jvm.ClassFile.FieldType.int)) ∈ wsA := wsA_2 (List.mem_of_getElem? (i := 120) rfl) rfl
theorem wt_2_121 : (Jvm.Cond.methodLink "BitNotation" (75 : Nat) ({ cls := "BitNotation", name := "typeNumbered", desc := "(I)LBitNotation$Type;" } : Jvm.MethodName)) ∈ wsA := wsA_2 (List.mem_of_getElem? (i := 121) rfl) rfl
theorem wt_2_123 : (Jvm.Cond.instanceMethod ({ cls := "BitNotation", name := "typeNumbered", desc := "(I)LBitNotation$Type;" } : Jvm.MethodName)) ∈ wsA := wsA_2 (List.mem_of_getElem? (i := 123) rfl) rfl
theorem wt_2_124 : (Jvm.Cond.code ({ cls := "BitNotation", name := "typeNumbered", desc := "(I)LBitNotation$Type;" } : Jvm.MethodName) prog_1_method_24_code (3 : Nat) (Option.some (Jvm.ClassFile.FieldType.object "BitNotation$Type"))) ∈ wsA := wsA_2 (List.mem_of_getElem? (i := 124) rfl) rfl
theorem wt_2_125 : (Jvm.Cond.methodLink "BitNotation" (188 : Nat) ({ cls := "BitNotation$TypeRow", name := "at", desc := "(I)LBitNotation$Type;" } : Jvm.MethodName)) ∈ wsA := wsA_2 (List.mem_of_getElem? (i := 125) rfl) rfl
theorem wt_2_126 : (Jvm.Cond.classLink "BitNotation" (149 : Nat) "java/lang/IndexOutOfBoundsException") ∈ wsA := wsA_2 (List.mem_of_getElem? (i := 126) rfl) rfl
theorem wt_2_127 : (Jvm.Cond.instantiable "java/lang/IndexOutOfBoundsException" (6 : Nat)) ∈ wsA := wsA_2 (List.mem_of_getElem? (i := 127) rfl) rfl
theorem wt_2_129 : (Jvm.Cond.selects "java/lang/IndexOutOfBoundsException" ({ cls := "java/lang/Throwable", name := "fillInStackTrace", desc := "(I)Ljava/lang/Throwable;" } : Jvm.MethodName) ({ cls := "java/lang/Throwable", name := "fillInStackTrace", desc := "(I)Ljava/lang/Throwable;" } : Jvm.MethodName)) ∈ wsA := wsA_2 (List.mem_of_getElem? (i := 129) rfl) rfl
theorem wt_2_130 : (Jvm.Cond.lays "java/lang/IndexOutOfBoundsException" "java/lang/Throwable" "cause" "Ljava/lang/Throwable;") ∈ wsA := wsA_2 (List.mem_of_getElem? (i := 130) rfl) rfl
theorem wt_2_131 : (Jvm.Cond.lays "java/lang/IndexOutOfBoundsException" "java/lang/Throwable" "stackTrace" "[Ljava/lang/StackTraceElement;") ∈ wsA := wsA_2 (List.mem_of_getElem? (i := 131) rfl) rfl
theorem wt_2_132 : (Jvm.Cond.lays "java/lang/IndexOutOfBoundsException" "java/lang/Throwable" "suppressedExceptions" "Ljava/util/List;") ∈ wsA := wsA_2 (List.mem_of_getElem? (i := 132) rfl) rfl
theorem wt_2_133 : (Jvm.Cond.lays "java/lang/IndexOutOfBoundsException" "java/lang/Throwable" "detailMessage" "Ljava/lang/String;") ∈ wsA := wsA_2 (List.mem_of_getElem? (i := 133) rfl) rfl
theorem wt_2_134 : (Jvm.Cond.lays "java/lang/IndexOutOfBoundsException" "java/lang/Throwable" "backtrace" "Ljava/lang/Object;") ∈ wsA := wsA_2 (List.mem_of_getElem? (i := 134) rfl) rfl
theorem wt_2_136 : (Jvm.Cond.methodLink "BitNotation" (153 : Nat) ({ cls := "java/lang/IndexOutOfBoundsException", name := "<init>", desc := "(Ljava/lang/String;)V" } : Jvm.MethodName)) ∈ wsA := wsA_2 (List.mem_of_getElem? (i := 136) rfl) rfl
theorem wt_2_137 : (Jvm.Cond.instanceMethod ({ cls := "java/lang/IndexOutOfBoundsException", name := "<init>", desc := "(Ljava/lang/String;)V" } : Jvm.MethodName)) ∈ wsA := wsA_2 (List.mem_of_getElem? (i := 137) rfl) rfl
theorem wt_2_138 : (Jvm.Cond.code ({ cls := "java/lang/IndexOutOfBoundsException", name := "<init>", desc := "(Ljava/lang/String;)V" } : Jvm.MethodName) prog_14_method_2_code (2 : Nat) (Option.none : Option Jvm.ClassFile.FieldType)) ∈ wsA := wsA_2 (List.mem_of_getElem? (i := 138) rfl) rfl
theorem wt_2_139 : (Jvm.Cond.methodLink "java/lang/IndexOutOfBoundsException" (7 : Nat) ({ cls := "java/lang/RuntimeException", name := "<init>", desc := "(Ljava/lang/String;)V" } : Jvm.MethodName)) ∈ wsA := wsA_2 (List.mem_of_getElem? (i := 139) rfl) rfl
theorem wt_2_140 : (Jvm.Cond.lays "java/lang/IndexOutOfBoundsException" "java/lang/Throwable" "depth" "I") ∈ wsA := wsA_2 (List.mem_of_getElem? (i := 140) rfl) rfl
theorem wt_2_143 : (Jvm.Cond.fieldLink "BitNotation" (85 : Nat) "BitNotation$Kind" "LIST" "LBitNotation$Kind;") ∈ wsA := wsA_2 (List.mem_of_getElem? (i := 143) rfl) rfl
theorem wt_2_144 : (Jvm.Cond.constant "BitNotationLaw" (25 : Nat) (-2000000001 : Int32)) ∈ wsA := wsA_2 (List.mem_of_getElem? (i := 144) rfl) rfl
theorem wt_2_145 : (Jvm.Cond.methodLink "BitNotationLaw" (92 : Nat) ({ cls := "BitNotationLaw", name := "parts", desc := "(LBitNotation;IZ)I" } : Jvm.MethodName)) ∈ wsA := wsA_2 (List.mem_of_getElem? (i := 145) rfl) rfl
theorem wt_2_146 : (Jvm.Cond.static ({ cls := "BitNotationLaw", name := "parts", desc := "(LBitNotation;IZ)I" } : Jvm.MethodName)) ∈ wsA := wsA_2 (List.mem_of_getElem? (i := 146) rfl) rfl
theorem wt_2_147 : (Jvm.Cond.codeWith ({ cls := "BitNotationLaw", name := "parts", desc := "(LBitNotation;IZ)I" } : Jvm.MethodName) method_4_code (4 : Nat) (Option.some Jvm.ClassFile.FieldType.int) [((0 : Nat), (6 : Nat), (7 : Nat), (23 : Nat)), ((0 : Nat), (6 : Nat), (11 : Nat), (16 : Nat))]) ∈ wsA := wsA_2 (List.mem_of_getElem? (i := 147) rfl) rfl
theorem wt_2_148 : (Jvm.Cond.methodLink "BitNotationLaw" (26 : Nat) ({ cls := "BitNotation", name := "part", desc := "(IZ)I" } : Jvm.MethodName)) ∈ wsA := wsA_2 (List.mem_of_getElem? (i := 148) rfl) rfl
theorem wt_2_149 : (Jvm.Cond.instanceMethod ({ cls := "BitNotation", name := "part", desc := "(IZ)I" } : Jvm.MethodName)) ∈ wsA := wsA_2 (List.mem_of_getElem? (i := 149) rfl) rfl
theorem wt_2_150 : (Jvm.Cond.selects "BitNotation" ({ cls := "BitNotation", name := "part", desc := "(IZ)I" } : Jvm.MethodName) ({ cls := "BitNotation", name := "part", desc := "(IZ)I" } : Jvm.MethodName)) ∈ wsA := wsA_2 (List.mem_of_getElem? (i := 150) rfl) rfl
theorem wt_2_151 : (Jvm.Cond.code ({ cls := "BitNotation", name := "part", desc := "(IZ)I" } : Jvm.MethodName) prog_1_method_4_code (4 : Nat) (Option.some Jvm.ClassFile.FieldType.int)) ∈ wsA := wsA_2 (List.mem_of_getElem? (i := 151) rfl) rfl
theorem wt_2_153 : (Jvm.Cond.methodLink "BitNotationLaw" (96 : Nat) ({ cls := "BitNotationLaw", name := "extend", desc := "(LBitNotation;II)I" } : Jvm.MethodName)) ∈ wsA := wsA_2 (List.mem_of_getElem? (i := 153) rfl) rfl
theorem wt_2_154 : (Jvm.Cond.static ({ cls := "BitNotationLaw", name := "extend", desc := "(LBitNotation;II)I" } : Jvm.MethodName)) ∈ wsA := wsA_2 (List.mem_of_getElem? (i := 154) rfl) rfl
theorem wt_2_155 : (Jvm.Cond.codeWith ({ cls := "BitNotationLaw", name := "extend", desc := "(LBitNotation;II)I" } : Jvm.MethodName) method_7_code (4 : Nat) (Option.some Jvm.ClassFile.FieldType.int) [((0 : Nat), (6 : Nat), (7 : Nat), (23 : Nat)), ((0 : Nat), (6 : Nat), (11 : Nat), (13 : Nat)), ((0 : Nat), (6 : Nat), (15 : Nat), (16 : Nat))]) ∈ wsA := wsA_2 (List.mem_of_getElem? (i := 155) rfl) rfl
theorem wt_2_156 : (Jvm.Cond.methodLink "BitNotationLaw" (37 : Nat) ({ cls := "BitNotation", name := "extend", desc := "(II)I" } : Jvm.MethodName)) ∈ wsA := wsA_2 (List.mem_of_getElem? (i := 156) rfl) rfl
theorem wt_2_157 : (Jvm.Cond.instanceMethod ({ cls := "BitNotation", name := "extend", desc := "(II)I" } : Jvm.MethodName)) ∈ wsA := wsA_2 (List.mem_of_getElem? (i := 157) rfl) rfl
theorem wt_2_158 : (Jvm.Cond.selects "BitNotation" ({ cls := "BitNotation", name := "extend", desc := "(II)I" } : Jvm.MethodName) ({ cls := "BitNotation", name := "extend", desc := "(II)I" } : Jvm.MethodName)) ∈ wsA := wsA_2 (List.mem_of_getElem? (i := 158) rfl) rfl
theorem wt_2_159 : (Jvm.Cond.code ({ cls := "BitNotation", name := "extend", desc := "(II)I" } : Jvm.MethodName) prog_1_method_7_code (5 : Nat) (Option.some Jvm.ClassFile.FieldType.int)) ∈ wsA := wsA_2 (List.mem_of_getElem? (i := 159) rfl) rfl
theorem wt_2_160 : (Jvm.Cond.fieldLink "BitNotation" (101 : Nat) "BitNotation$Kind" "SEQUENCE" "LBitNotation$Kind;") ∈ wsA := wsA_2 (List.mem_of_getElem? (i := 160) rfl) rfl
theorem wt_2_163 : (Jvm.Cond.methodLink "BitNotation" (120 : Nat) ({ cls := "BitNotation$TypeRow", name := "measureAll", desc := "()Z" } : Jvm.MethodName)) ∈ wsA := wsA_2 (List.mem_of_getElem? (i := 163) rfl) rfl
theorem wt_2_164 : (Jvm.Cond.instanceMethod ({ cls := "BitNotation$TypeRow", name := "measureAll", desc := "()Z" } : Jvm.MethodName)) ∈ wsA := wsA_2 (List.mem_of_getElem? (i := 164) rfl) rfl
theorem wt_2_165 : (Jvm.Cond.selects "BitNotation$TypeRow" ({ cls := "BitNotation$TypeRow", name := "measureAll", desc := "()Z" } : Jvm.MethodName) ({ cls := "BitNotation$TypeRow", name := "measureAll", desc := "()Z" } : Jvm.MethodName)) ∈ wsA := wsA_2 (List.mem_of_getElem? (i := 165) rfl) rfl
theorem wt_2_166 : (Jvm.Cond.code ({ cls := "BitNotation$TypeRow", name := "measureAll", desc := "()Z" } : Jvm.MethodName) prog_6_method_7_code (3 : Nat) (Option.some Jvm.ClassFile.FieldType.boolean)) ∈ wsA := wsA_2 (List.mem_of_getElem? (i := 166) rfl) rfl
theorem wt_2_167 : (Jvm.Cond.methodLink "BitNotation$TypeRow" (25 : Nat) ({ cls := "BitNotation$TypeRow", name := "at", desc := "(I)LBitNotation$Type;" } : Jvm.MethodName)) ∈ wsA := wsA_2 (List.mem_of_getElem? (i := 167) rfl) rfl
theorem wt_2_168 : (Jvm.Cond.methodLink "BitNotation$TypeRow" (29 : Nat) ({ cls := "BitNotation$Type", name := "measure", desc := "()Z" } : Jvm.MethodName)) ∈ wsA := wsA_2 (List.mem_of_getElem? (i := 168) rfl) rfl
theorem wt_2_169 : (Jvm.Cond.methodLink "BitNotation" (123 : Nat) ({ cls := "BitNotation$TypeRow", name := "dropLast", desc := "()V" } : Jvm.MethodName)) ∈ wsA := wsA_2 (List.mem_of_getElem? (i := 169) rfl) rfl
theorem wt_2_170 : (Jvm.Cond.instanceMethod ({ cls := "BitNotation$TypeRow", name := "dropLast", desc := "()V" } : Jvm.MethodName)) ∈ wsA := wsA_2 (List.mem_of_getElem? (i := 170) rfl) rfl
theorem wt_2_171 : (Jvm.Cond.selects "BitNotation$TypeRow" ({ cls := "BitNotation$TypeRow", name := "dropLast", desc := "()V" } : Jvm.MethodName) ({ cls := "BitNotation$TypeRow", name := "dropLast", desc := "()V" } : Jvm.MethodName)) ∈ wsA := wsA_2 (List.mem_of_getElem? (i := 171) rfl) rfl
theorem wt_2_172 : (Jvm.Cond.code ({ cls := "BitNotation$TypeRow", name := "dropLast", desc := "()V" } : Jvm.MethodName) prog_6_method_6_code (1 : Nat) (Option.none : Option Jvm.ClassFile.FieldType)) ∈ wsA := wsA_2 (List.mem_of_getElem? (i := 172) rfl) rfl
theorem wt_2_174 : (Jvm.Cond.methodLink "BitNotationLaw" (98 : Nat) ({ cls := "BitNotationLaw", name := "least", desc := "(LBitNotation;I)I" } : Jvm.MethodName)) ∈ wsA := wsA_2 (List.mem_of_getElem? (i := 174) rfl) rfl
theorem wt_2_175 : (Jvm.Cond.static ({ cls := "BitNotationLaw", name := "least", desc := "(LBitNotation;I)I" } : Jvm.MethodName)) ∈ wsA := wsA_2 (List.mem_of_getElem? (i := 175) rfl) rfl
theorem wt_2_176 : (Jvm.Cond.codeWith ({ cls := "BitNotationLaw", name := "least", desc := "(LBitNotation;I)I" } : Jvm.MethodName) method_8_code (3 : Nat) (Option.some Jvm.ClassFile.FieldType.int) [((0 : Nat), (5 : Nat), (6 : Nat), (23 : Nat))]) ∈ wsA := wsA_2 (List.mem_of_getElem? (i := 176) rfl) rfl
theorem wt_2_177 : (Jvm.Cond.methodLink "BitNotationLaw" (40 : Nat) ({ cls := "BitNotation", name := "leastBits", desc := "(I)I" } : Jvm.MethodName)) ∈ wsA := wsA_2 (List.mem_of_getElem? (i := 177) rfl) rfl
theorem wt_2_178 : (Jvm.Cond.instanceMethod ({ cls := "BitNotation", name := "leastBits", desc := "(I)I" } : Jvm.MethodName)) ∈ wsA := wsA_2 (List.mem_of_getElem? (i := 178) rfl) rfl
theorem wt_2_179 : (Jvm.Cond.selects "BitNotation" ({ cls := "BitNotation", name := "leastBits", desc := "(I)I" } : Jvm.MethodName) ({ cls := "BitNotation", name := "leastBits", desc := "(I)I" } : Jvm.MethodName)) ∈ wsA := wsA_2 (List.mem_of_getElem? (i := 179) rfl) rfl
theorem wt_2_180 : (Jvm.Cond.code ({ cls := "BitNotation", name := "leastBits", desc := "(I)I" } : Jvm.MethodName) prog_1_method_9_code (2 : Nat) (Option.some Jvm.ClassFile.FieldType.int)) ∈ wsA := wsA_2 (List.mem_of_getElem? (i := 180) rfl) rfl
theorem wt_2_181 : (Jvm.Cond.methodLink "BitNotationLaw" (102 : Nat) ({ cls := "BitNotationLaw", name := "most", desc := "(LBitNotation;I)I" } : Jvm.MethodName)) ∈ wsA := wsA_2 (List.mem_of_getElem? (i := 181) rfl) rfl
theorem wt_2_182 : (Jvm.Cond.static ({ cls := "BitNotationLaw", name := "most", desc := "(LBitNotation;I)I" } : Jvm.MethodName)) ∈ wsA := wsA_2 (List.mem_of_getElem? (i := 182) rfl) rfl
theorem wt_2_183 : (Jvm.Cond.codeWith ({ cls := "BitNotationLaw", name := "most", desc := "(LBitNotation;I)I" } : Jvm.MethodName) method_9_code (3 : Nat) (Option.some Jvm.ClassFile.FieldType.int) [((0 : Nat), (5 : Nat), (6 : Nat), (23 : Nat))]) ∈ wsA := wsA_2 (List.mem_of_getElem? (i := 183) rfl) rfl
theorem wt_2_184 : (Jvm.Cond.methodLink "BitNotationLaw" (44 : Nat) ({ cls := "BitNotation", name := "mostBits", desc := "(I)I" } : Jvm.MethodName)) ∈ wsA := wsA_2 (List.mem_of_getElem? (i := 184) rfl) rfl
theorem wt_2_185 : (Jvm.Cond.instanceMethod ({ cls := "BitNotation", name := "mostBits", desc := "(I)I" } : Jvm.MethodName)) ∈ wsA := wsA_2 (List.mem_of_getElem? (i := 185) rfl) rfl
theorem wt_2_186 : (Jvm.Cond.selects "BitNotation" ({ cls := "BitNotation", name := "mostBits", desc := "(I)I" } : Jvm.MethodName) ({ cls := "BitNotation", name := "mostBits", desc := "(I)I" } : Jvm.MethodName)) ∈ wsA := wsA_2 (List.mem_of_getElem? (i := 186) rfl) rfl
theorem wt_2_187 : (Jvm.Cond.code ({ cls := "BitNotation", name := "mostBits", desc := "(I)I" } : Jvm.MethodName) prog_1_method_10_code (2 : Nat) (Option.some Jvm.ClassFile.FieldType.int)) ∈ wsA := wsA_2 (List.mem_of_getElem? (i := 187) rfl) rfl
theorem wt_2_188 : (Jvm.Cond.methodLink "BitNotationLaw" (105 : Nat) ({ cls := "BitNotationLaw", name := "tells", desc := "(LBitNotation;I)I" } : Jvm.MethodName)) ∈ wsA := wsA_2 (List.mem_of_getElem? (i := 188) rfl) rfl
theorem wt_2_189 : (Jvm.Cond.static ({ cls := "BitNotationLaw", name := "tells", desc := "(LBitNotation;I)I" } : Jvm.MethodName)) ∈ wsA := wsA_2 (List.mem_of_getElem? (i := 189) rfl) rfl
theorem wt_2_190 : (Jvm.Cond.codeWith ({ cls := "BitNotationLaw", name := "tells", desc := "(LBitNotation;I)I" } : Jvm.MethodName) method_10_code (3 : Nat) (Option.some Jvm.ClassFile.FieldType.int) [((0 : Nat), (5 : Nat), (6 : Nat), (13 : Nat)), ((0 : Nat), (5 : Nat), (10 : Nat), (16 : Nat))]) ∈ wsA := wsA_2 (List.mem_of_getElem? (i := 190) rfl) rfl
theorem wt_2_191 : (Jvm.Cond.methodLink "BitNotationLaw" (47 : Nat) ({ cls := "BitNotation", name := "tell", desc := "(I)I" } : Jvm.MethodName)) ∈ wsA := wsA_2 (List.mem_of_getElem? (i := 191) rfl) rfl
theorem wt_2_192 : (Jvm.Cond.instanceMethod ({ cls := "BitNotation", name := "tell", desc := "(I)I" } : Jvm.MethodName)) ∈ wsA := wsA_2 (List.mem_of_getElem? (i := 192) rfl) rfl
theorem wt_2_193 : (Jvm.Cond.selects "BitNotation" ({ cls := "BitNotation", name := "tell", desc := "(I)I" } : Jvm.MethodName) ({ cls := "BitNotation", name := "tell", desc := "(I)I" } : Jvm.MethodName)) ∈ wsA := wsA_2 (List.mem_of_getElem? (i := 193) rfl) rfl
theorem wt_2_194 : (Jvm.Cond.code ({ cls := "BitNotation", name := "tell", desc := "(I)I" } : Jvm.MethodName) prog_1_method_11_code (2 : Nat) (Option.some Jvm.ClassFile.FieldType.int)) ∈ wsA := wsA_2 (List.mem_of_getElem? (i := 194) rfl) rfl
theorem wt_2_196 : (Jvm.Cond.methodLink "BitNotation" (136 : Nat) ({ cls := "BitNotation$Row", name := "isFull", desc := "()Z" } : Jvm.MethodName)) ∈ wsA := wsA_2 (List.mem_of_getElem? (i := 196) rfl) rfl
theorem wt_2_197 : (Jvm.Cond.instanceMethod ({ cls := "BitNotation$Row", name := "isFull", desc := "()Z" } : Jvm.MethodName)) ∈ wsA := wsA_2 (List.mem_of_getElem? (i := 197) rfl) rfl
theorem wt_2_198 : (Jvm.Cond.selects "BitNotation$Row" ({ cls := "BitNotation$Row", name := "isFull", desc := "()Z" } : Jvm.MethodName) ({ cls := "BitNotation$Row", name := "isFull", desc := "()Z" } : Jvm.MethodName)) ∈ wsA := wsA_2 (List.mem_of_getElem? (i := 198) rfl) rfl
theorem wt_2_199 : (Jvm.Cond.code ({ cls := "BitNotation$Row", name := "isFull", desc := "()Z" } : Jvm.MethodName) prog_4_method_3_code (1 : Nat) (Option.some Jvm.ClassFile.FieldType.boolean)) ∈ wsA := wsA_2 (List.mem_of_getElem? (i := 199) rfl) rfl
theorem wt_2_201 : (Jvm.Cond.methodLink "BitNotation" (139 : Nat) ({ cls := "BitNotation$Row", name := "append", desc := "(I)V" } : Jvm.MethodName)) ∈ wsA := wsA_2 (List.mem_of_getElem? (i := 201) rfl) rfl
theorem wt_2_202 : (Jvm.Cond.instanceMethod ({ cls := "BitNotation$Row", name := "append", desc := "(I)V" } : Jvm.MethodName)) ∈ wsA := wsA_2 (List.mem_of_getElem? (i := 202) rfl) rfl
theorem wt_2_203 : (Jvm.Cond.selects "BitNotation$Row" ({ cls := "BitNotation$Row", name := "append", desc := "(I)V" } : Jvm.MethodName) ({ cls := "BitNotation$Row", name := "append", desc := "(I)V" } : Jvm.MethodName)) ∈ wsA := wsA_2 (List.mem_of_getElem? (i := 203) rfl) rfl
theorem wt_2_204 : (Jvm.Cond.code ({ cls := "BitNotation$Row", name := "append", desc := "(I)V" } : Jvm.MethodName) prog_4_method_6_code (2 : Nat) (Option.none : Option Jvm.ClassFile.FieldType)) ∈ wsA := wsA_2 (List.mem_of_getElem? (i := 204) rfl) rfl
theorem wt_2_205 : (Jvm.Cond.methodLink "BitNotationLaw" (108 : Nat) ({ cls := "BitNotationLaw", name := "told", desc := "(LBitNotation;I)I" } : Jvm.MethodName)) ∈ wsA := wsA_2 (List.mem_of_getElem? (i := 205) rfl) rfl
theorem wt_2_206 : (Jvm.Cond.static ({ cls := "BitNotationLaw", name := "told", desc := "(LBitNotation;I)I" } : Jvm.MethodName)) ∈ wsA := wsA_2 (List.mem_of_getElem? (i := 206) rfl) rfl
theorem wt_2_207 : (Jvm.Cond.codeWith ({ cls := "BitNotationLaw", name := "told", desc := "(LBitNotation;I)I" } : Jvm.MethodName) method_11_code (3 : Nat) (Option.some Jvm.ClassFile.FieldType.int) [((0 : Nat), (5 : Nat), (6 : Nat), (23 : Nat))]) ∈ wsA := wsA_2 (List.mem_of_getElem? (i := 207) rfl) rfl
theorem wt_2_208 : (Jvm.Cond.methodLink "BitNotationLaw" (50 : Nat) ({ cls := "BitNotation", name := "told", desc := "(I)I" } : Jvm.MethodName)) ∈ wsA := wsA_2 (List.mem_of_getElem? (i := 208) rfl) rfl
theorem wt_2_209 : (Jvm.Cond.instanceMethod ({ cls := "BitNotation", name := "told", desc := "(I)I" } : Jvm.MethodName)) ∈ wsA := wsA_2 (List.mem_of_getElem? (i := 209) rfl) rfl
theorem wt_2_210 : (Jvm.Cond.selects "BitNotation" ({ cls := "BitNotation", name := "told", desc := "(I)I" } : Jvm.MethodName) ({ cls := "BitNotation", name := "told", desc := "(I)I" } : Jvm.MethodName)) ∈ wsA := wsA_2 (List.mem_of_getElem? (i := 210) rfl) rfl
theorem wt_2_211 : (Jvm.Cond.code ({ cls := "BitNotation", name := "told", desc := "(I)I" } : Jvm.MethodName) prog_1_method_14_code (2 : Nat) (Option.some Jvm.ClassFile.FieldType.int)) ∈ wsA := wsA_2 (List.mem_of_getElem? (i := 211) rfl) rfl
theorem wt_2_212 : (Jvm.Cond.methodLink "BitNotation" (145 : Nat) ({ cls := "BitNotation$Row", name := "has", desc := "(I)Z" } : Jvm.MethodName)) ∈ wsA := wsA_2 (List.mem_of_getElem? (i := 212) rfl) rfl
theorem wt_2_213 : (Jvm.Cond.instanceMethod ({ cls := "BitNotation$Row", name := "has", desc := "(I)Z" } : Jvm.MethodName)) ∈ wsA := wsA_2 (List.mem_of_getElem? (i := 213) rfl) rfl
theorem wt_2_214 : (Jvm.Cond.selects "BitNotation$Row" ({ cls := "BitNotation$Row", name := "has", desc := "(I)Z" } : Jvm.MethodName) ({ cls := "BitNotation$Row", name := "has", desc := "(I)Z" } : Jvm.MethodName)) ∈ wsA := wsA_2 (List.mem_of_getElem? (i := 214) rfl) rfl
theorem wt_2_215 : (Jvm.Cond.code ({ cls := "BitNotation$Row", name := "has", desc := "(I)Z" } : Jvm.MethodName) prog_4_method_4_code (2 : Nat) (Option.some Jvm.ClassFile.FieldType.boolean)) ∈ wsA := wsA_2 (List.mem_of_getElem? (i := 215) rfl) rfl
theorem wt_2_217 : (Jvm.Cond.methodLink "BitNotation" (154 : Nat) ({ cls := "BitNotation$Row", name := "at", desc := "(I)I" } : Jvm.MethodName)) ∈ wsA := wsA_2 (List.mem_of_getElem? (i := 217) rfl) rfl
theorem wt_2_218 : (Jvm.Cond.instanceMethod ({ cls := "BitNotation$Row", name := "at", desc := "(I)I" } : Jvm.MethodName)) ∈ wsA := wsA_2 (List.mem_of_getElem? (i := 218) rfl) rfl
theorem wt_2_219 : (Jvm.Cond.selects "BitNotation$Row" ({ cls := "BitNotation$Row", name := "at", desc := "(I)I" } : Jvm.MethodName) ({ cls := "BitNotation$Row", name := "at", desc := "(I)I" } : Jvm.MethodName)) ∈ wsA := wsA_2 (List.mem_of_getElem? (i := 219) rfl) rfl
theorem wt_2_220 : (Jvm.Cond.code ({ cls := "BitNotation$Row", name := "at", desc := "(I)I" } : Jvm.MethodName) prog_4_method_5_code (2 : Nat) (Option.some Jvm.ClassFile.FieldType.int)) ∈ wsA := wsA_2 (List.mem_of_getElem? (i := 220) rfl) rfl
theorem wt_2_221 : (Jvm.Cond.methodLink "BitNotationLaw" (110 : Nat) ({ cls := "BitNotation", name := "length", desc := "()I" } : Jvm.MethodName)) ∈ wsA := wsA_2 (List.mem_of_getElem? (i := 221) rfl) rfl
theorem wt_2_222 : (Jvm.Cond.instanceMethod ({ cls := "BitNotation", name := "length", desc := "()I" } : Jvm.MethodName)) ∈ wsA := wsA_2 (List.mem_of_getElem? (i := 222) rfl) rfl
theorem wt_2_223 : (Jvm.Cond.selects "BitNotation" ({ cls := "BitNotation", name := "length", desc := "()I" } : Jvm.MethodName) ({ cls := "BitNotation", name := "length", desc := "()I" } : Jvm.MethodName)) ∈ wsA := wsA_2 (List.mem_of_getElem? (i := 223) rfl) rfl
theorem wt_2_224 : (Jvm.Cond.code ({ cls := "BitNotation", name := "length", desc := "()I" } : Jvm.MethodName) prog_1_method_13_code (1 : Nat) (Option.some Jvm.ClassFile.FieldType.int)) ∈ wsA := wsA_2 (List.mem_of_getElem? (i := 224) rfl) rfl
theorem wt_2_225 : (Jvm.Cond.methodLink "BitNotationLaw" (113 : Nat) ({ cls := "BitNotationLaw", name := "wrong", desc := "(LBitNotation;I)I" } : Jvm.MethodName)) ∈ wsA := wsA_2 (List.mem_of_getElem? (i := 225) rfl) rfl
theorem wt_2_226 : (Jvm.Cond.static ({ cls := "BitNotationLaw", name := "wrong", desc := "(LBitNotation;I)I" } : Jvm.MethodName)) ∈ wsA := wsA_2 (List.mem_of_getElem? (i := 226) rfl) rfl
theorem wt_2_227 : (Jvm.Cond.codeWith ({ cls := "BitNotationLaw", name := "wrong", desc := "(LBitNotation;I)I" } : Jvm.MethodName) method_12_code (3 : Nat) (Option.some Jvm.ClassFile.FieldType.int) [((0 : Nat), (5 : Nat), (6 : Nat), (23 : Nat))]) ∈ wsA := wsA_2 (List.mem_of_getElem? (i := 227) rfl) rfl
theorem wt_2_228 : (Jvm.Cond.methodLink "BitNotationLaw" (53 : Nat) ({ cls := "BitNotation", name := "wrongAt", desc := "(I)I" } : Jvm.MethodName)) ∈ wsA := wsA_2 (List.mem_of_getElem? (i := 228) rfl) rfl
theorem wt_2_229 : (Jvm.Cond.instanceMethod ({ cls := "BitNotation", name := "wrongAt", desc := "(I)I" } : Jvm.MethodName)) ∈ wsA := wsA_2 (List.mem_of_getElem? (i := 229) rfl) rfl
theorem wt_2_230 : (Jvm.Cond.selects "BitNotation" ({ cls := "BitNotation", name := "wrongAt", desc := "(I)I" } : Jvm.MethodName) ({ cls := "BitNotation", name := "wrongAt", desc := "(I)I" } : Jvm.MethodName)) ∈ wsA := wsA_2 (List.mem_of_getElem? (i := 230) rfl) rfl
theorem wt_2_231 : (Jvm.Cond.code ({ cls := "BitNotation", name := "wrongAt", desc := "(I)I" } : Jvm.MethodName) prog_1_method_15_code (2 : Nat) (Option.some Jvm.ClassFile.FieldType.int)) ∈ wsA := wsA_2 (List.mem_of_getElem? (i := 231) rfl) rfl
theorem wt_2_232 : (Jvm.Cond.methodLink "BitNotation" (158 : Nat) ({ cls := "BitNotation$Writer", name := "walk", desc := "(LBitNotation$Type;LBitNotation$Row;)I" } : Jvm.MethodName)) ∈ wsA := wsA_2 (List.mem_of_getElem? (i := 232) rfl) rfl
theorem wt_2_233 : (Jvm.Cond.instanceMethod ({ cls := "BitNotation$Writer", name := "walk", desc := "(LBitNotation$Type;LBitNotation$Row;)I" } : Jvm.MethodName)) ∈ wsA := wsA_2 (List.mem_of_getElem? (i := 233) rfl) rfl
theorem wt_2_234 : (Jvm.Cond.selects "BitNotation$Writer" ({ cls := "BitNotation$Writer", name := "walk", desc := "(LBitNotation$Type;LBitNotation$Row;)I" } : Jvm.MethodName) ({ cls := "BitNotation$Writer", name := "walk", desc := "(LBitNotation$Type;LBitNotation$Row;)I" } : Jvm.MethodName)) ∈ wsA := wsA_2 (List.mem_of_getElem? (i := 234) rfl) rfl
theorem wt_2_235 : (Jvm.Cond.code ({ cls := "BitNotation$Writer", name := "walk", desc := "(LBitNotation$Type;LBitNotation$Row;)I" } : Jvm.MethodName) prog_7_method_2_code (3 : Nat) (Option.some Jvm.ClassFile.FieldType.int)) ∈ wsA := wsA_2 (List.mem_of_getElem? (i := 235) rfl) rfl
theorem wt_2_236 : (Jvm.Cond.methodLink "BitNotation$Writer" (27 : Nat) ({ cls := "BitNotation$Row", name := "keepFirst", desc := "(I)V" } : Jvm.MethodName)) ∈ wsA := wsA_2 (List.mem_of_getElem? (i := 236) rfl) rfl
theorem wt_2_237 : (Jvm.Cond.instanceMethod ({ cls := "BitNotation$Row", name := "keepFirst", desc := "(I)V" } : Jvm.MethodName)) ∈ wsA := wsA_2 (List.mem_of_getElem? (i := 237) rfl) rfl
theorem wt_2_238 : (Jvm.Cond.selects "BitNotation$Row" ({ cls := "BitNotation$Row", name := "keepFirst", desc := "(I)V" } : Jvm.MethodName) ({ cls := "BitNotation$Row", name := "keepFirst", desc := "(I)V" } : Jvm.MethodName)) ∈ wsA := wsA_2 (List.mem_of_getElem? (i := 238) rfl) rfl
theorem wt_2_239 : (Jvm.Cond.code ({ cls := "BitNotation$Row", name := "keepFirst", desc := "(I)V" } : Jvm.MethodName) prog_4_method_8_code (2 : Nat) (Option.none : Option Jvm.ClassFile.FieldType)) ∈ wsA := wsA_2 (List.mem_of_getElem? (i := 239) rfl) rfl
theorem wt_3_0 : (Jvm.Cond.methodLink "BitNotation$Writer" (30 : Nat) ({ cls := "BitNotation$Writer", name := "putValue", desc := "(LBitNotation$Type;LBitNotation$Row;I)V" } : Jvm.MethodName)) ∈ wsA := wsA_3 (List.mem_of_getElem? (i := 0) rfl) rfl
theorem wt_3_2 : (Jvm.Cond.instanceMethod ({ cls := "BitNotation$Writer", name := "putValue", desc := "(LBitNotation$Type;LBitNotation$Row;I)V" } : Jvm.MethodName)) ∈ wsA := wsA_3 (List.mem_of_getElem? (i := 2) rfl) rfl
theorem wt_3_3 : (Jvm.Cond.code ({ cls := "BitNotation$Writer", name := "putValue", desc := "(LBitNotation$Type;LBitNotation$Row;I)V" } : Jvm.MethodName) prog_7_method_3_code (6 : Nat) (Option.none : Option Jvm.ClassFile.FieldType)) ∈ wsA := wsA_3 (List.mem_of_getElem? (i := 3) rfl) rfl
theorem wt_3_4 : (Jvm.Cond.fieldLink "BitNotation$Writer" (44 : Nat) "BitNotation$Kind" "SEQUENCE" "LBitNotation$Kind;") ∈ wsA := wsA_3 (List.mem_of_getElem? (i := 4) rfl) rfl
theorem wt_3_5 : (Jvm.Cond.methodLink "BitNotation$Writer" (49 : Nat) ({ cls := "BitNotation$Writer", name := "putSequence", desc := "(LBitNotation$Type;LBitNotation$Row;I)V" } : Jvm.MethodName)) ∈ wsA := wsA_3 (List.mem_of_getElem? (i := 5) rfl) rfl
theorem wt_3_7 : (Jvm.Cond.instanceMethod ({ cls := "BitNotation$Writer", name := "putSequence", desc := "(LBitNotation$Type;LBitNotation$Row;I)V" } : Jvm.MethodName)) ∈ wsA := wsA_3 (List.mem_of_getElem? (i := 7) rfl) rfl
theorem wt_3_8 : (Jvm.Cond.code ({ cls := "BitNotation$Writer", name := "putSequence", desc := "(LBitNotation$Type;LBitNotation$Row;I)V" } : Jvm.MethodName) prog_7_method_4_code (7 : Nat) (Option.none : Option Jvm.ClassFile.FieldType)) ∈ wsA := wsA_3 (List.mem_of_getElem? (i := 8) rfl) rfl
theorem wt_3_9 : (Jvm.Cond.methodLink "BitNotation$Writer" (85 : Nat) ({ cls := "BitNotation$Writer", name := "nextParts", desc := "(LBitNotation$Type;LBitNotation$Row;)I" } : Jvm.MethodName)) ∈ wsA := wsA_3 (List.mem_of_getElem? (i := 9) rfl) rfl
theorem wt_3_11 : (Jvm.Cond.instanceMethod ({ cls := "BitNotation$Writer", name := "nextParts", desc := "(LBitNotation$Type;LBitNotation$Row;)I" } : Jvm.MethodName)) ∈ wsA := wsA_3 (List.mem_of_getElem? (i := 11) rfl) rfl
theorem wt_3_12 : (Jvm.Cond.code ({ cls := "BitNotation$Writer", name := "nextParts", desc := "(LBitNotation$Type;LBitNotation$Row;)I" } : Jvm.MethodName) prog_7_method_5_code (5 : Nat) (Option.some Jvm.ClassFile.FieldType.int)) ∈ wsA := wsA_3 (List.mem_of_getElem? (i := 12) rfl) rfl
theorem wt_3_13 : (Jvm.Cond.methodLink "BitNotation$Writer" (92 : Nat) ({ cls := "BitNotation$TypeRow", name := "size", desc := "()I" } : Jvm.MethodName)) ∈ wsA := wsA_3 (List.mem_of_getElem? (i := 13) rfl) rfl
theorem wt_3_14 : (Jvm.Cond.methodLink "BitNotation$Writer" (93 : Nat) ({ cls := "BitNotation$Type", name := "isOptional", desc := "(I)Z" } : Jvm.MethodName)) ∈ wsA := wsA_3 (List.mem_of_getElem? (i := 14) rfl) rfl
theorem wt_3_15 : (Jvm.Cond.methodLink "BitNotation$Writer" (58 : Nat) ({ cls := "BitNotation$Writer", name := "next", desc := "(LBitNotation$Row;II)I" } : Jvm.MethodName)) ∈ wsA := wsA_3 (List.mem_of_getElem? (i := 15) rfl) rfl
theorem wt_3_17 : (Jvm.Cond.instanceMethod ({ cls := "BitNotation$Writer", name := "next", desc := "(LBitNotation$Row;II)I" } : Jvm.MethodName)) ∈ wsA := wsA_3 (List.mem_of_getElem? (i := 17) rfl) rfl
theorem wt_3_18 : (Jvm.Cond.code ({ cls := "BitNotation$Writer", name := "next", desc := "(LBitNotation$Row;II)I" } : Jvm.MethodName) prog_7_method_7_code (5 : Nat) (Option.some Jvm.ClassFile.FieldType.int)) ∈ wsA := wsA_3 (List.mem_of_getElem? (i := 18) rfl) rfl
theorem wt_3_19 : (Jvm.Cond.methodLink "BitNotation$Writer" (103 : Nat) ({ cls := "BitNotation$Row", name := "at", desc := "(I)I" } : Jvm.MethodName)) ∈ wsA := wsA_3 (List.mem_of_getElem? (i := 19) rfl) rfl
theorem wt_3_20 : (Jvm.Cond.methodLink "BitNotation$Writer" (106 : Nat) ({ cls := "BitNotation$Row", name := "has", desc := "(I)Z" } : Jvm.MethodName)) ∈ wsA := wsA_3 (List.mem_of_getElem? (i := 20) rfl) rfl
theorem wt_3_22 : (Jvm.Cond.methodLink "BitNotation$Writer" (65 : Nat) ({ cls := "BitNotation$Writer", name := "put", desc := "(II)V" } : Jvm.MethodName)) ∈ wsA := wsA_3 (List.mem_of_getElem? (i := 22) rfl) rfl
theorem wt_3_24 : (Jvm.Cond.instanceMethod ({ cls := "BitNotation$Writer", name := "put", desc := "(II)V" } : Jvm.MethodName)) ∈ wsA := wsA_3 (List.mem_of_getElem? (i := 24) rfl) rfl
theorem wt_3_25 : (Jvm.Cond.code ({ cls := "BitNotation$Writer", name := "put", desc := "(II)V" } : Jvm.MethodName) prog_7_method_8_code (4 : Nat) (Option.none : Option Jvm.ClassFile.FieldType)) ∈ wsA := wsA_3 (List.mem_of_getElem? (i := 25) rfl) rfl
theorem wt_3_26 : (Jvm.Cond.methodLink "BitNotation$Writer" (113 : Nat) ({ cls := "BitNotation$Row", name := "append", desc := "(I)V" } : Jvm.MethodName)) ∈ wsA := wsA_3 (List.mem_of_getElem? (i := 26) rfl) rfl
theorem wt_3_27 : (Jvm.Cond.methodLink "BitNotation$Writer" (76 : Nat) ({ cls := "BitNotation$TypeRow", name := "at", desc := "(I)LBitNotation$Type;" } : Jvm.MethodName)) ∈ wsA := wsA_3 (List.mem_of_getElem? (i := 27) rfl) rfl
theorem wt_3_28 : (Jvm.Cond.methodLink "BitNotation$Writer" (97 : Nat) ({ cls := "BitNotation$Writer", name := "putAddition", desc := "(LBitNotation$Type;LBitNotation$Row;I)V" } : Jvm.MethodName)) ∈ wsA := wsA_3 (List.mem_of_getElem? (i := 28) rfl) rfl
theorem wt_3_30 : (Jvm.Cond.instanceMethod ({ cls := "BitNotation$Writer", name := "putAddition", desc := "(LBitNotation$Type;LBitNotation$Row;I)V" } : Jvm.MethodName)) ∈ wsA := wsA_3 (List.mem_of_getElem? (i := 30) rfl) rfl
theorem wt_3_31 : (Jvm.Cond.code ({ cls := "BitNotation$Writer", name := "putAddition", desc := "(LBitNotation$Type;LBitNotation$Row;I)V" } : Jvm.MethodName) prog_7_method_6_code (8 : Nat) (Option.none : Option Jvm.ClassFile.FieldType)) ∈ wsA := wsA_3 (List.mem_of_getElem? (i := 31) rfl) rfl
theorem wt_3_32 : (Jvm.Cond.methodLink "BitNotation$Writer" (34 : Nat) ({ cls := "BitNotation$Row", name := "size", desc := "()I" } : Jvm.MethodName)) ∈ wsA := wsA_3 (List.mem_of_getElem? (i := 32) rfl) rfl
theorem wt_3_33 : (Jvm.Cond.methodLink "BitNotation$Writer" (100 : Nat) ({ cls := "BitNotation$Row", name := "replace", desc := "(II)V" } : Jvm.MethodName)) ∈ wsA := wsA_3 (List.mem_of_getElem? (i := 33) rfl) rfl
theorem wt_3_34 : (Jvm.Cond.instanceMethod ({ cls := "BitNotation$Row", name := "replace", desc := "(II)V" } : Jvm.MethodName)) ∈ wsA := wsA_3 (List.mem_of_getElem? (i := 34) rfl) rfl
theorem wt_3_35 : (Jvm.Cond.selects "BitNotation$Row" ({ cls := "BitNotation$Row", name := "replace", desc := "(II)V" } : Jvm.MethodName) ({ cls := "BitNotation$Row", name := "replace", desc := "(II)V" } : Jvm.MethodName)) ∈ wsA := wsA_3 (List.mem_of_getElem? (i := 35) rfl) rfl
theorem wt_3_36 : (Jvm.Cond.code ({ cls := "BitNotation$Row", name := "replace", desc := "(II)V" } : Jvm.MethodName) prog_4_method_7_code (3 : Nat) (Option.none : Option Jvm.ClassFile.FieldType)) ∈ wsA := wsA_3 (List.mem_of_getElem? (i := 36) rfl) rfl
theorem wt_3_37 : (Jvm.Cond.methodLink "BitNotation$Row" (23 : Nat) ({ cls := "BitNotation$Row", name := "has", desc := "(I)Z" } : Jvm.MethodName)) ∈ wsA := wsA_3 (List.mem_of_getElem? (i := 37) rfl) rfl
theorem wt_3_38 : (Jvm.Cond.fieldLink "BitNotation$Writer" (69 : Nat) "BitNotation$Kind" "LIST" "LBitNotation$Kind;") ∈ wsA := wsA_3 (List.mem_of_getElem? (i := 38) rfl) rfl
theorem wt_3_39 : (Jvm.Cond.fieldLink "BitNotation$Writer" (82 : Nat) "BitNotation$Kind" "CHOICE" "LBitNotation$Kind;") ∈ wsA := wsA_3 (List.mem_of_getElem? (i := 39) rfl) rfl
theorem wt_3_40 : (Jvm.Cond.methodLink "BitNotationLaw" (116 : Nat) ({ cls := "BitNotationLaw", name := "writes", desc := "(LBitNotation;I)I" } : Jvm.MethodName)) ∈ wsA := wsA_3 (List.mem_of_getElem? (i := 40) rfl) rfl
theorem wt_3_41 : (Jvm.Cond.static ({ cls := "BitNotationLaw", name := "writes", desc := "(LBitNotation;I)I" } : Jvm.MethodName)) ∈ wsA := wsA_3 (List.mem_of_getElem? (i := 41) rfl) rfl
theorem wt_3_42 : (Jvm.Cond.codeWith ({ cls := "BitNotationLaw", name := "writes", desc := "(LBitNotation;I)I" } : Jvm.MethodName) method_13_code (3 : Nat) (Option.some Jvm.ClassFile.FieldType.int) [((0 : Nat), (5 : Nat), (6 : Nat), (23 : Nat)), ((0 : Nat), (5 : Nat), (10 : Nat), (16 : Nat))]) ∈ wsA := wsA_3 (List.mem_of_getElem? (i := 42) rfl) rfl
theorem wt_3_43 : (Jvm.Cond.methodLink "BitNotationLaw" (56 : Nat) ({ cls := "BitNotation", name := "write", desc := "(I)I" } : Jvm.MethodName)) ∈ wsA := wsA_3 (List.mem_of_getElem? (i := 43) rfl) rfl
theorem wt_3_44 : (Jvm.Cond.instanceMethod ({ cls := "BitNotation", name := "write", desc := "(I)I" } : Jvm.MethodName)) ∈ wsA := wsA_3 (List.mem_of_getElem? (i := 44) rfl) rfl
theorem wt_3_45 : (Jvm.Cond.selects "BitNotation" ({ cls := "BitNotation", name := "write", desc := "(I)I" } : Jvm.MethodName) ({ cls := "BitNotation", name := "write", desc := "(I)I" } : Jvm.MethodName)) ∈ wsA := wsA_3 (List.mem_of_getElem? (i := 45) rfl) rfl
theorem wt_3_46 : (Jvm.Cond.code ({ cls := "BitNotation", name := "write", desc := "(I)I" } : Jvm.MethodName) prog_1_method_16_code (2 : Nat) (Option.some Jvm.ClassFile.FieldType.int)) ∈ wsA := wsA_3 (List.mem_of_getElem? (i := 46) rfl) rfl
theorem wt_3_48 : (Jvm.Cond.methodLink "BitNotation" (167 : Nat) ({ cls := "BitNotation$Row", name := "becomeCopyOf", desc := "(LBitNotation$Row;)V" } : Jvm.MethodName)) ∈ wsA := wsA_3 (List.mem_of_getElem? (i := 48) rfl) rfl
theorem wt_3_49 : (Jvm.Cond.instanceMethod ({ cls := "BitNotation$Row", name := "becomeCopyOf", desc := "(LBitNotation$Row;)V" } : Jvm.MethodName)) ∈ wsA := wsA_3 (List.mem_of_getElem? (i := 49) rfl) rfl
theorem wt_3_50 : (Jvm.Cond.selects "BitNotation$Row" ({ cls := "BitNotation$Row", name := "becomeCopyOf", desc := "(LBitNotation$Row;)V" } : Jvm.MethodName) ({ cls := "BitNotation$Row", name := "becomeCopyOf", desc := "(LBitNotation$Row;)V" } : Jvm.MethodName)) ∈ wsA := wsA_3 (List.mem_of_getElem? (i := 50) rfl) rfl
theorem wt_3_51 : (Jvm.Cond.code ({ cls := "BitNotation$Row", name := "becomeCopyOf", desc := "(LBitNotation$Row;)V" } : Jvm.MethodName) prog_4_method_9_code (3 : Nat) (Option.none : Option Jvm.ClassFile.FieldType)) ∈ wsA := wsA_3 (List.mem_of_getElem? (i := 51) rfl) rfl
theorem wt_3_52 : (Jvm.Cond.methodLink "BitNotation$Row" (27 : Nat) ({ cls := "BitNotation$Row", name := "keepFirst", desc := "(I)V" } : Jvm.MethodName)) ∈ wsA := wsA_3 (List.mem_of_getElem? (i := 52) rfl) rfl
theorem wt_3_53 : (Jvm.Cond.methodLink "BitNotation$Row" (31 : Nat) ({ cls := "BitNotation$Row", name := "size", desc := "()I" } : Jvm.MethodName)) ∈ wsA := wsA_3 (List.mem_of_getElem? (i := 53) rfl) rfl
theorem wt_3_54 : (Jvm.Cond.methodLink "BitNotation$Row" (35 : Nat) ({ cls := "BitNotation$Row", name := "at", desc := "(I)I" } : Jvm.MethodName)) ∈ wsA := wsA_3 (List.mem_of_getElem? (i := 54) rfl) rfl
theorem wt_3_55 : (Jvm.Cond.methodLink "BitNotation$Row" (39 : Nat) ({ cls := "BitNotation$Row", name := "append", desc := "(I)V" } : Jvm.MethodName)) ∈ wsA := wsA_3 (List.mem_of_getElem? (i := 55) rfl) rfl
theorem wt_3_56 : (Jvm.Cond.methodLink "BitNotationLaw" (119 : Nat) ({ cls := "BitNotationLaw", name := "bit", desc := "(LBitNotation;I)I" } : Jvm.MethodName)) ∈ wsA := wsA_3 (List.mem_of_getElem? (i := 56) rfl) rfl
theorem wt_3_57 : (Jvm.Cond.static ({ cls := "BitNotationLaw", name := "bit", desc := "(LBitNotation;I)I" } : Jvm.MethodName)) ∈ wsA := wsA_3 (List.mem_of_getElem? (i := 57) rfl) rfl
theorem wt_3_58 : (Jvm.Cond.codeWith ({ cls := "BitNotationLaw", name := "bit", desc := "(LBitNotation;I)I" } : Jvm.MethodName) method_14_code (3 : Nat) (Option.some Jvm.ClassFile.FieldType.int) [((0 : Nat), (5 : Nat), (6 : Nat), (23 : Nat))]) ∈ wsA := wsA_3 (List.mem_of_getElem? (i := 58) rfl) rfl
theorem wt_3_59 : (Jvm.Cond.methodLink "BitNotationLaw" (59 : Nat) ({ cls := "BitNotation", name := "bit", desc := "(I)I" } : Jvm.MethodName)) ∈ wsA := wsA_3 (List.mem_of_getElem? (i := 59) rfl) rfl
theorem wt_3_60 : (Jvm.Cond.instanceMethod ({ cls := "BitNotation", name := "bit", desc := "(I)I" } : Jvm.MethodName)) ∈ wsA := wsA_3 (List.mem_of_getElem? (i := 60) rfl) rfl
theorem wt_3_61 : (Jvm.Cond.selects "BitNotation" ({ cls := "BitNotation", name := "bit", desc := "(I)I" } : Jvm.MethodName) ({ cls := "BitNotation", name := "bit", desc := "(I)I" } : Jvm.MethodName)) ∈ wsA := wsA_3 (List.mem_of_getElem? (i := 61) rfl) rfl
theorem wt_3_62 : (Jvm.Cond.code ({ cls := "BitNotation", name := "bit", desc := "(I)I" } : Jvm.MethodName) prog_1_method_18_code (2 : Nat) (Option.some Jvm.ClassFile.FieldType.int)) ∈ wsA := wsA_3 (List.mem_of_getElem? (i := 62) rfl) rfl
theorem wt_3_64 : (Jvm.Cond.methodLink "BitNotationLaw" (121 : Nat) ({ cls := "BitNotationLaw", name := "flips", desc := "(LBitNotation;I)I" } : Jvm.MethodName)) ∈ wsA := wsA_3 (List.mem_of_getElem? (i := 64) rfl) rfl
theorem wt_3_65 : (Jvm.Cond.static ({ cls := "BitNotationLaw", name := "flips", desc := "(LBitNotation;I)I" } : Jvm.MethodName)) ∈ wsA := wsA_3 (List.mem_of_getElem? (i := 65) rfl) rfl
theorem wt_3_66 : (Jvm.Cond.codeWith ({ cls := "BitNotationLaw", name := "flips", desc := "(LBitNotation;I)I" } : Jvm.MethodName) method_15_code (3 : Nat) (Option.some Jvm.ClassFile.FieldType.int) [((0 : Nat), (5 : Nat), (6 : Nat), (23 : Nat))]) ∈ wsA := wsA_3 (List.mem_of_getElem? (i := 66) rfl) rfl
theorem wt_3_67 : (Jvm.Cond.methodLink "BitNotationLaw" (62 : Nat) ({ cls := "BitNotation", name := "flip", desc := "(I)I" } : Jvm.MethodName)) ∈ wsA := wsA_3 (List.mem_of_getElem? (i := 67) rfl) rfl
theorem wt_3_68 : (Jvm.Cond.instanceMethod ({ cls := "BitNotation", name := "flip", desc := "(I)I" } : Jvm.MethodName)) ∈ wsA := wsA_3 (List.mem_of_getElem? (i := 68) rfl) rfl
theorem wt_3_69 : (Jvm.Cond.selects "BitNotation" ({ cls := "BitNotation", name := "flip", desc := "(I)I" } : Jvm.MethodName) ({ cls := "BitNotation", name := "flip", desc := "(I)I" } : Jvm.MethodName)) ∈ wsA := wsA_3 (List.mem_of_getElem? (i := 69) rfl) rfl
theorem wt_3_70 : (Jvm.Cond.code ({ cls := "BitNotation", name := "flip", desc := "(I)I" } : Jvm.MethodName) prog_1_method_19_code (2 : Nat) (Option.some Jvm.ClassFile.FieldType.int)) ∈ wsA := wsA_3 (List.mem_of_getElem? (i := 70) rfl) rfl
theorem wt_3_71 : (Jvm.Cond.methodLink "BitNotation" (173 : Nat) ({ cls := "BitNotation$Row", name := "replace", desc := "(II)V" } : Jvm.MethodName)) ∈ wsA := wsA_3 (List.mem_of_getElem? (i := 71) rfl) rfl
theorem wt_3_72 : (Jvm.Cond.methodLink "BitNotationLaw" (124 : Nat) ({ cls := "BitNotationLaw", name := "cuts", desc := "(LBitNotation;I)I" } : Jvm.MethodName)) ∈ wsA := wsA_3 (List.mem_of_getElem? (i := 72) rfl) rfl
theorem wt_3_73 : (Jvm.Cond.static ({ cls := "BitNotationLaw", name := "cuts", desc := "(LBitNotation;I)I" } : Jvm.MethodName)) ∈ wsA := wsA_3 (List.mem_of_getElem? (i := 73) rfl) rfl
theorem wt_3_74 : (Jvm.Cond.codeWith ({ cls := "BitNotationLaw", name := "cuts", desc := "(LBitNotation;I)I" } : Jvm.MethodName) method_16_code (3 : Nat) (Option.some Jvm.ClassFile.FieldType.int) [((0 : Nat), (5 : Nat), (6 : Nat), (13 : Nat))]) ∈ wsA := wsA_3 (List.mem_of_getElem? (i := 74) rfl) rfl
theorem wt_3_75 : (Jvm.Cond.methodLink "BitNotationLaw" (65 : Nat) ({ cls := "BitNotation", name := "cut", desc := "(I)I" } : Jvm.MethodName)) ∈ wsA := wsA_3 (List.mem_of_getElem? (i := 75) rfl) rfl
theorem wt_3_76 : (Jvm.Cond.instanceMethod ({ cls := "BitNotation", name := "cut", desc := "(I)I" } : Jvm.MethodName)) ∈ wsA := wsA_3 (List.mem_of_getElem? (i := 76) rfl) rfl
theorem wt_3_77 : (Jvm.Cond.selects "BitNotation" ({ cls := "BitNotation", name := "cut", desc := "(I)I" } : Jvm.MethodName) ({ cls := "BitNotation", name := "cut", desc := "(I)I" } : Jvm.MethodName)) ∈ wsA := wsA_3 (List.mem_of_getElem? (i := 77) rfl) rfl
theorem wt_3_78 : (Jvm.Cond.code ({ cls := "BitNotation", name := "cut", desc := "(I)I" } : Jvm.MethodName) prog_1_method_20_code (3 : Nat) (Option.some Jvm.ClassFile.FieldType.int)) ∈ wsA := wsA_3 (List.mem_of_getElem? (i := 78) rfl) rfl
theorem wt_3_80 : (Jvm.Cond.methodLink "BitNotation" (142 : Nat) ({ cls := "BitNotation$Row", name := "keepFirst", desc := "(I)V" } : Jvm.MethodName)) ∈ wsA := wsA_3 (List.mem_of_getElem? (i := 80) rfl) rfl
theorem wt_3_81 : (Jvm.Cond.methodLink "BitNotationLaw" (127 : Nat) ({ cls := "BitNotationLaw", name := "reads", desc := "(LBitNotation;II)I" } : Jvm.MethodName)) ∈ wsA := wsA_3 (List.mem_of_getElem? (i := 81) rfl) rfl
theorem wt_3_82 : (Jvm.Cond.static ({ cls := "BitNotationLaw", name := "reads", desc := "(LBitNotation;II)I" } : Jvm.MethodName)) ∈ wsA := wsA_3 (List.mem_of_getElem? (i := 82) rfl) rfl
theorem wt_3_83 : (Jvm.Cond.codeWith ({ cls := "BitNotationLaw", name := "reads", desc := "(LBitNotation;II)I" } : Jvm.MethodName) method_17_code (4 : Nat) (Option.some Jvm.ClassFile.FieldType.int) [((0 : Nat), (6 : Nat), (7 : Nat), (23 : Nat)), ((0 : Nat), (6 : Nat), (11 : Nat), (13 : Nat)), ((0 : Nat), (6 : Nat), (15 : Nat), (16 : Nat))]) ∈ wsA := wsA_3 (List.mem_of_getElem? (i := 83) rfl) rfl
theorem wt_3_84 : (Jvm.Cond.methodLink "BitNotationLaw" (68 : Nat) ({ cls := "BitNotation", name := "read", desc := "(II)I" } : Jvm.MethodName)) ∈ wsA := wsA_3 (List.mem_of_getElem? (i := 84) rfl) rfl
theorem wt_3_85 : (Jvm.Cond.instanceMethod ({ cls := "BitNotation", name := "read", desc := "(II)I" } : Jvm.MethodName)) ∈ wsA := wsA_3 (List.mem_of_getElem? (i := 85) rfl) rfl
theorem wt_3_86 : (Jvm.Cond.selects "BitNotation" ({ cls := "BitNotation", name := "read", desc := "(II)I" } : Jvm.MethodName) ({ cls := "BitNotation", name := "read", desc := "(II)I" } : Jvm.MethodName)) ∈ wsA := wsA_3 (List.mem_of_getElem? (i := 86) rfl) rfl
theorem wt_3_87 : (Jvm.Cond.code ({ cls := "BitNotation", name := "read", desc := "(II)I" } : Jvm.MethodName) prog_1_method_21_code (3 : Nat) (Option.some Jvm.ClassFile.FieldType.int)) ∈ wsA := wsA_3 (List.mem_of_getElem? (i := 87) rfl) rfl
theorem wt_3_88 : (Jvm.Cond.methodLink "BitNotation" (179 : Nat) ({ cls := "BitNotation", name := "placeOfFault", desc := "(II)I" } : Jvm.MethodName)) ∈ wsA := wsA_3 (List.mem_of_getElem? (i := 88) rfl) rfl
theorem wt_3_90 : (Jvm.Cond.instanceMethod ({ cls := "BitNotation", name := "placeOfFault", desc := "(II)I" } : Jvm.MethodName)) ∈ wsA := wsA_3 (List.mem_of_getElem? (i := 90) rfl) rfl
theorem wt_3_91 : (Jvm.Cond.code ({ cls := "BitNotation", name := "placeOfFault", desc := "(II)I" } : Jvm.MethodName) prog_1_method_27_code (4 : Nat) (Option.some Jvm.ClassFile.FieldType.int)) ∈ wsA := wsA_3 (List.mem_of_getElem? (i := 91) rfl) rfl
theorem wt_3_93 : (Jvm.Cond.methodLink "BitNotation" (201 : Nat) ({ cls := "BitNotation$Reader", name := "walk", desc := "(LBitNotation$Type;LBitNotation$Row;I)I" } : Jvm.MethodName)) ∈ wsA := wsA_3 (List.mem_of_getElem? (i := 93) rfl) rfl
theorem wt_3_94 : (Jvm.Cond.instanceMethod ({ cls := "BitNotation$Reader", name := "walk", desc := "(LBitNotation$Type;LBitNotation$Row;I)I" } : Jvm.MethodName)) ∈ wsA := wsA_3 (List.mem_of_getElem? (i := 94) rfl) rfl
theorem wt_3_95 : (Jvm.Cond.selects "BitNotation$Reader" ({ cls := "BitNotation$Reader", name := "walk", desc := "(LBitNotation$Type;LBitNotation$Row;I)I" } : Jvm.MethodName) ({ cls := "BitNotation$Reader", name := "walk", desc := "(LBitNotation$Type;LBitNotation$Row;I)I" } : Jvm.MethodName)) ∈ wsA := wsA_3 (List.mem_of_getElem? (i := 95) rfl) rfl
theorem wt_3_96 : (Jvm.Cond.code ({ cls := "BitNotation$Reader", name := "walk", desc := "(LBitNotation$Type;LBitNotation$Row;I)I" } : Jvm.MethodName) prog_3_method_2_code (4 : Nat) (Option.some Jvm.ClassFile.FieldType.int)) ∈ wsA := wsA_3 (List.mem_of_getElem? (i := 96) rfl) rfl
theorem wt_3_97 : (Jvm.Cond.methodLink "BitNotation$Reader" (30 : Nat) ({ cls := "BitNotation$Row", name := "keepFirst", desc := "(I)V" } : Jvm.MethodName)) ∈ wsA := wsA_3 (List.mem_of_getElem? (i := 97) rfl) rfl
theorem wt_3_98 : (Jvm.Cond.methodLink "BitNotation$Reader" (33 : Nat) ({ cls := "BitNotation$Reader", name := "getValue", desc := "(LBitNotation$Type;LBitNotation$Row;I)V" } : Jvm.MethodName)) ∈ wsA := wsA_3 (List.mem_of_getElem? (i := 98) rfl) rfl
theorem wt_3_100 : (Jvm.Cond.instanceMethod ({ cls := "BitNotation$Reader", name := "getValue", desc := "(LBitNotation$Type;LBitNotation$Row;I)V" } : Jvm.MethodName)) ∈ wsA := wsA_3 (List.mem_of_getElem? (i := 100) rfl) rfl
theorem wt_3_101 : (Jvm.Cond.code ({ cls := "BitNotation$Reader", name := "getValue", desc := "(LBitNotation$Type;LBitNotation$Row;I)V" } : Jvm.MethodName) prog_3_method_3_code (6 : Nat) (Option.none : Option Jvm.ClassFile.FieldType)) ∈ wsA := wsA_3 (List.mem_of_getElem? (i := 101) rfl) rfl
theorem wt_3_102 : (Jvm.Cond.fieldLink "BitNotation$Reader" (47 : Nat) "BitNotation$Kind" "SEQUENCE" "LBitNotation$Kind;") ∈ wsA := wsA_3 (List.mem_of_getElem? (i := 102) rfl) rfl
theorem wt_3_103 : (Jvm.Cond.methodLink "BitNotation$Reader" (52 : Nat) ({ cls := "BitNotation$Reader", name := "getSequence", desc := "(LBitNotation$Type;LBitNotation$Row;I)V" } : Jvm.MethodName)) ∈ wsA := wsA_3 (List.mem_of_getElem? (i := 103) rfl) rfl
theorem wt_3_105 : (Jvm.Cond.instanceMethod ({ cls := "BitNotation$Reader", name := "getSequence", desc := "(LBitNotation$Type;LBitNotation$Row;I)V" } : Jvm.MethodName)) ∈ wsA := wsA_3 (List.mem_of_getElem? (i := 105) rfl) rfl
theorem wt_3_106 : (Jvm.Cond.code ({ cls := "BitNotation$Reader", name := "getSequence", desc := "(LBitNotation$Type;LBitNotation$Row;I)V" } : Jvm.MethodName) prog_3_method_4_code (8 : Nat) (Option.none : Option Jvm.ClassFile.FieldType)) ∈ wsA := wsA_3 (List.mem_of_getElem? (i := 106) rfl) rfl
theorem wt_3_107 : (Jvm.Cond.methodLink "BitNotation$Reader" (64 : Nat) ({ cls := "BitNotation$Reader", name := "next", desc := "(LBitNotation$Row;II)I" } : Jvm.MethodName)) ∈ wsA := wsA_3 (List.mem_of_getElem? (i := 107) rfl) rfl
theorem wt_3_109 : (Jvm.Cond.instanceMethod ({ cls := "BitNotation$Reader", name := "next", desc := "(LBitNotation$Row;II)I" } : Jvm.MethodName)) ∈ wsA := wsA_3 (List.mem_of_getElem? (i := 109) rfl) rfl
theorem wt_3_110 : (Jvm.Cond.code ({ cls := "BitNotation$Reader", name := "next", desc := "(LBitNotation$Row;II)I" } : Jvm.MethodName) prog_3_method_9_code (6 : Nat) (Option.some Jvm.ClassFile.FieldType.int)) ∈ wsA := wsA_3 (List.mem_of_getElem? (i := 110) rfl) rfl
theorem wt_3_111 : (Jvm.Cond.methodLink "BitNotation$Reader" (120 : Nat) ({ cls := "BitNotation$Row", name := "at", desc := "(I)I" } : Jvm.MethodName)) ∈ wsA := wsA_3 (List.mem_of_getElem? (i := 111) rfl) rfl
theorem wt_3_112 : (Jvm.Cond.methodLink "BitNotation$Reader" (37 : Nat) ({ cls := "BitNotation$Row", name := "size", desc := "()I" } : Jvm.MethodName)) ∈ wsA := wsA_3 (List.mem_of_getElem? (i := 112) rfl) rfl
theorem wt_3_113 : (Jvm.Cond.methodLink "BitNotation$Reader" (87 : Nat) ({ cls := "BitNotation$Reader", name := "nextParts", desc := "(LBitNotation$Type;LBitNotation$Row;)I" } : Jvm.MethodName)) ∈ wsA := wsA_3 (List.mem_of_getElem? (i := 113) rfl) rfl
theorem wt_3_115 : (Jvm.Cond.instanceMethod ({ cls := "BitNotation$Reader", name := "nextParts", desc := "(LBitNotation$Type;LBitNotation$Row;)I" } : Jvm.MethodName)) ∈ wsA := wsA_3 (List.mem_of_getElem? (i := 115) rfl) rfl
theorem wt_3_116 : (Jvm.Cond.code ({ cls := "BitNotation$Reader", name := "nextParts", desc := "(LBitNotation$Type;LBitNotation$Row;)I" } : Jvm.MethodName) prog_3_method_5_code (6 : Nat) (Option.some Jvm.ClassFile.FieldType.int)) ∈ wsA := wsA_3 (List.mem_of_getElem? (i := 116) rfl) rfl
theorem wt_3_117 : (Jvm.Cond.methodLink "BitNotation$Reader" (91 : Nat) ({ cls := "BitNotation$TypeRow", name := "size", desc := "()I" } : Jvm.MethodName)) ∈ wsA := wsA_3 (List.mem_of_getElem? (i := 117) rfl) rfl
theorem wt_3_118 : (Jvm.Cond.methodLink "BitNotation$Reader" (109 : Nat) ({ cls := "BitNotation$Type", name := "isOptional", desc := "(I)Z" } : Jvm.MethodName)) ∈ wsA := wsA_3 (List.mem_of_getElem? (i := 118) rfl) rfl
theorem wt_3_119 : (Jvm.Cond.methodLink "BitNotation$Reader" (68 : Nat) ({ cls := "BitNotation$Row", name := "append", desc := "(I)V" } : Jvm.MethodName)) ∈ wsA := wsA_3 (List.mem_of_getElem? (i := 119) rfl) rfl
theorem wt_3_120 : (Jvm.Cond.methodLink "BitNotation$Reader" (78 : Nat) ({ cls := "BitNotation$TypeRow", name := "at", desc := "(I)LBitNotation$Type;" } : Jvm.MethodName)) ∈ wsA := wsA_3 (List.mem_of_getElem? (i := 120) rfl) rfl
theorem wt_3_121 : (Jvm.Cond.methodLink "BitNotation$Reader" (95 : Nat) ({ cls := "java/lang/Math", name := "min", desc := "(II)I" } : Jvm.MethodName)) ∈ wsA := wsA_3 (List.mem_of_getElem? (i := 121) rfl) rfl
theorem wt_3_122 : (Jvm.Cond.methodLink "BitNotation$Reader" (101 : Nat) ({ cls := "BitNotation$Row", name := "replace", desc := "(II)V" } : Jvm.MethodName)) ∈ wsA := wsA_3 (List.mem_of_getElem? (i := 122) rfl) rfl
theorem wt_3_123 : (Jvm.Cond.methodLink "BitNotation$Reader" (105 : Nat) ({ cls := "BitNotation$Reader", name := "getAdditions", desc := "(LBitNotation$Type;ILBitNotation$Row;I)V" } : Jvm.MethodName)) ∈ wsA := wsA_3 (List.mem_of_getElem? (i := 123) rfl) rfl
theorem wt_3_125 : (Jvm.Cond.instanceMethod ({ cls := "BitNotation$Reader", name := "getAdditions", desc := "(LBitNotation$Type;ILBitNotation$Row;I)V" } : Jvm.MethodName)) ∈ wsA := wsA_3 (List.mem_of_getElem? (i := 125) rfl) rfl
theorem wt_3_126 : (Jvm.Cond.code ({ cls := "BitNotation$Reader", name := "getAdditions", desc := "(LBitNotation$Type;ILBitNotation$Row;I)V" } : Jvm.MethodName) prog_3_method_6_code (7 : Nat) (Option.none : Option Jvm.ClassFile.FieldType)) ∈ wsA := wsA_3 (List.mem_of_getElem? (i := 126) rfl) rfl
theorem wt_3_127 : (Jvm.Cond.methodLink "BitNotation$Reader" (113 : Nat) ({ cls := "BitNotation$Reader", name := "getAddition", desc := "(LBitNotation$Type;ILBitNotation$Row;I)V" } : Jvm.MethodName)) ∈ wsA := wsA_3 (List.mem_of_getElem? (i := 127) rfl) rfl
theorem wt_3_129 : (Jvm.Cond.instanceMethod ({ cls := "BitNotation$Reader", name := "getAddition", desc := "(LBitNotation$Type;ILBitNotation$Row;I)V" } : Jvm.MethodName)) ∈ wsA := wsA_3 (List.mem_of_getElem? (i := 129) rfl) rfl
theorem wt_3_130 : (Jvm.Cond.code ({ cls := "BitNotation$Reader", name := "getAddition", desc := "(LBitNotation$Type;ILBitNotation$Row;I)V" } : Jvm.MethodName) prog_3_method_7_code (6 : Nat) (Option.none : Option Jvm.ClassFile.FieldType)) ∈ wsA := wsA_3 (List.mem_of_getElem? (i := 130) rfl) rfl
theorem wt_3_131 : (Jvm.Cond.methodLink "BitNotation$Reader" (116 : Nat) ({ cls := "BitNotation$Reader", name := "skip", desc := "(ILBitNotation$Row;)V" } : Jvm.MethodName)) ∈ wsA := wsA_3 (List.mem_of_getElem? (i := 131) rfl) rfl
theorem wt_3_133 : (Jvm.Cond.instanceMethod ({ cls := "BitNotation$Reader", name := "skip", desc := "(ILBitNotation$Row;)V" } : Jvm.MethodName)) ∈ wsA := wsA_3 (List.mem_of_getElem? (i := 133) rfl) rfl
theorem wt_3_134 : (Jvm.Cond.code ({ cls := "BitNotation$Reader", name := "skip", desc := "(ILBitNotation$Row;)V" } : Jvm.MethodName) prog_3_method_8_code (3 : Nat) (Option.none : Option Jvm.ClassFile.FieldType)) ∈ wsA := wsA_3 (List.mem_of_getElem? (i := 134) rfl) rfl
theorem wt_3_135 : (Jvm.Cond.fieldLink "BitNotation$Reader" (71 : Nat) "BitNotation$Kind" "LIST" "LBitNotation$Kind;") ∈ wsA := wsA_3 (List.mem_of_getElem? (i := 135) rfl) rfl
theorem wt_3_136 : (Jvm.Cond.fieldLink "BitNotation$Reader" (84 : Nat) "BitNotation$Kind" "CHOICE" "LBitNotation$Kind;") ∈ wsA := wsA_3 (List.mem_of_getElem? (i := 136) rfl) rfl
theorem wt_3_138 : (Jvm.Cond.methodLink "BitNotationLaw" (130 : Nat) ({ cls := "BitNotationLaw", name := "fault", desc := "(LBitNotation;II)I" } : Jvm.MethodName)) ∈ wsA := wsA_3 (List.mem_of_getElem? (i := 138) rfl) rfl
theorem wt_3_139 : (Jvm.Cond.static ({ cls := "BitNotationLaw", name := "fault", desc := "(LBitNotation;II)I" } : Jvm.MethodName)) ∈ wsA := wsA_3 (List.mem_of_getElem? (i := 139) rfl) rfl
theorem wt_3_140 : (Jvm.Cond.codeWith ({ cls := "BitNotationLaw", name := "fault", desc := "(LBitNotation;II)I" } : Jvm.MethodName) method_18_code (4 : Nat) (Option.some Jvm.ClassFile.FieldType.int) [((0 : Nat), (6 : Nat), (7 : Nat), (23 : Nat)), ((0 : Nat), (6 : Nat), (11 : Nat), (13 : Nat))]) ∈ wsA := wsA_3 (List.mem_of_getElem? (i := 140) rfl) rfl
theorem wt_3_141 : (Jvm.Cond.methodLink "BitNotationLaw" (71 : Nat) ({ cls := "BitNotation", name := "faultAt", desc := "(II)I" } : Jvm.MethodName)) ∈ wsA := wsA_3 (List.mem_of_getElem? (i := 141) rfl) rfl
theorem wt_3_142 : (Jvm.Cond.instanceMethod ({ cls := "BitNotation", name := "faultAt", desc := "(II)I" } : Jvm.MethodName)) ∈ wsA := wsA_3 (List.mem_of_getElem? (i := 142) rfl) rfl
theorem wt_3_143 : (Jvm.Cond.selects "BitNotation" ({ cls := "BitNotation", name := "faultAt", desc := "(II)I" } : Jvm.MethodName) ({ cls := "BitNotation", name := "faultAt", desc := "(II)I" } : Jvm.MethodName)) ∈ wsA := wsA_3 (List.mem_of_getElem? (i := 143) rfl) rfl
theorem wt_3_144 : (Jvm.Cond.code ({ cls := "BitNotation", name := "faultAt", desc := "(II)I" } : Jvm.MethodName) prog_1_method_22_code (3 : Nat) (Option.some Jvm.ClassFile.FieldType.int)) ∈ wsA := wsA_3 (List.mem_of_getElem? (i := 144) rfl) rfl
theorem wt_3_145 : (Jvm.Cond.methodLink "BitNotationLaw" (155 : Nat) ({ cls := "BitNotationLaw", name := "act", desc := "(LBitNotation;I)I" } : Jvm.MethodName)) ∈ wsA := wsA_3 (List.mem_of_getElem? (i := 145) rfl) rfl
theorem wt_3_146 : (Jvm.Cond.static ({ cls := "BitNotationLaw", name := "act", desc := "(LBitNotation;I)I" } : Jvm.MethodName)) ∈ wsA := wsA_3 (List.mem_of_getElem? (i := 146) rfl) rfl
theorem wt_3_147 : (Jvm.Cond.code ({ cls := "BitNotationLaw", name := "act", desc := "(LBitNotation;I)I" } : Jvm.MethodName) method_21_code (11 : Nat) (Option.some Jvm.ClassFile.FieldType.int)) ∈ wsA := wsA_3 (List.mem_of_getElem? (i := 147) rfl) rfl
theorem wt_3_148 : (Jvm.Cond.methodLink "BitNotationLaw" (133 : Nat) ({ cls := "BitNotationLaw", name := "sequences", desc := "(LBitNotation;)I" } : Jvm.MethodName)) ∈ wsA := wsA_3 (List.mem_of_getElem? (i := 148) rfl) rfl
theorem wt_3_149 : (Jvm.Cond.static ({ cls := "BitNotationLaw", name := "sequences", desc := "(LBitNotation;)I" } : Jvm.MethodName)) ∈ wsA := wsA_3 (List.mem_of_getElem? (i := 149) rfl) rfl
theorem wt_3_150 : (Jvm.Cond.codeWith ({ cls := "BitNotationLaw", name := "sequences", desc := "(LBitNotation;)I" } : Jvm.MethodName) method_5_code (2 : Nat) (Option.some Jvm.ClassFile.FieldType.int) [((0 : Nat), (4 : Nat), (5 : Nat), (16 : Nat))]) ∈ wsA := wsA_3 (List.mem_of_getElem? (i := 150) rfl) rfl
theorem wt_3_151 : (Jvm.Cond.methodLink "BitNotationLaw" (30 : Nat) ({ cls := "BitNotation", name := "addSequence", desc := "()I" } : Jvm.MethodName)) ∈ wsA := wsA_3 (List.mem_of_getElem? (i := 151) rfl) rfl
theorem wt_3_152 : (Jvm.Cond.instanceMethod ({ cls := "BitNotation", name := "addSequence", desc := "()I" } : Jvm.MethodName)) ∈ wsA := wsA_3 (List.mem_of_getElem? (i := 152) rfl) rfl
theorem wt_3_153 : (Jvm.Cond.selects "BitNotation" ({ cls := "BitNotation", name := "addSequence", desc := "()I" } : Jvm.MethodName) ({ cls := "BitNotation", name := "addSequence", desc := "()I" } : Jvm.MethodName)) ∈ wsA := wsA_3 (List.mem_of_getElem? (i := 153) rfl) rfl
theorem wt_3_154 : (Jvm.Cond.code ({ cls := "BitNotation", name := "addSequence", desc := "()I" } : Jvm.MethodName) prog_1_method_5_code (1 : Nat) (Option.some Jvm.ClassFile.FieldType.int)) ∈ wsA := wsA_3 (List.mem_of_getElem? (i := 154) rfl) rfl
theorem wt_3_155 : (Jvm.Cond.methodLink "BitNotation" (104 : Nat) ({ cls := "BitNotation", name := "keepDraft", desc := "(LBitNotation$Type;)I" } : Jvm.MethodName)) ∈ wsA := wsA_3 (List.mem_of_getElem? (i := 155) rfl) rfl
theorem wt_3_157 : (Jvm.Cond.instanceMethod ({ cls := "BitNotation", name := "keepDraft", desc := "(LBitNotation$Type;)I" } : Jvm.MethodName)) ∈ wsA := wsA_3 (List.mem_of_getElem? (i := 157) rfl) rfl
theorem wt_3_158 : (Jvm.Cond.code ({ cls := "BitNotation", name := "keepDraft", desc := "(LBitNotation$Type;)I" } : Jvm.MethodName) prog_1_method_26_code (3 : Nat) (Option.some Jvm.ClassFile.FieldType.int)) ∈ wsA := wsA_3 (List.mem_of_getElem? (i := 158) rfl) rfl
theorem wt_3_160 : (Jvm.Cond.methodLink "BitNotationLaw" (137 : Nat) ({ cls := "BitNotationLaw", name := "choices", desc := "(LBitNotation;)I" } : Jvm.MethodName)) ∈ wsA := wsA_3 (List.mem_of_getElem? (i := 160) rfl) rfl
theorem wt_3_161 : (Jvm.Cond.static ({ cls := "BitNotationLaw", name := "choices", desc := "(LBitNotation;)I" } : Jvm.MethodName)) ∈ wsA := wsA_3 (List.mem_of_getElem? (i := 161) rfl) rfl
theorem wt_3_162 : (Jvm.Cond.codeWith ({ cls := "BitNotationLaw", name := "choices", desc := "(LBitNotation;)I" } : Jvm.MethodName) method_6_code (2 : Nat) (Option.some Jvm.ClassFile.FieldType.int) [((0 : Nat), (4 : Nat), (5 : Nat), (16 : Nat))]) ∈ wsA := wsA_3 (List.mem_of_getElem? (i := 162) rfl) rfl
theorem wt_3_163 : (Jvm.Cond.methodLink "BitNotationLaw" (34 : Nat) ({ cls := "BitNotation", name := "addChoice", desc := "()I" } : Jvm.MethodName)) ∈ wsA := wsA_3 (List.mem_of_getElem? (i := 163) rfl) rfl
theorem wt_3_164 : (Jvm.Cond.instanceMethod ({ cls := "BitNotation", name := "addChoice", desc := "()I" } : Jvm.MethodName)) ∈ wsA := wsA_3 (List.mem_of_getElem? (i := 164) rfl) rfl
theorem wt_3_165 : (Jvm.Cond.selects "BitNotation" ({ cls := "BitNotation", name := "addChoice", desc := "()I" } : Jvm.MethodName) ({ cls := "BitNotation", name := "addChoice", desc := "()I" } : Jvm.MethodName)) ∈ wsA := wsA_3 (List.mem_of_getElem? (i := 165) rfl) rfl
theorem wt_3_166 : (Jvm.Cond.code ({ cls := "BitNotation", name := "addChoice", desc := "()I" } : Jvm.MethodName) prog_1_method_6_code (1 : Nat) (Option.some Jvm.ClassFile.FieldType.int)) ∈ wsA := wsA_3 (List.mem_of_getElem? (i := 166) rfl) rfl
theorem wt_3_167 : (Jvm.Cond.fieldLink "BitNotation" (107 : Nat) "BitNotation$Kind" "CHOICE" "LBitNotation$Kind;") ∈ wsA := wsA_3 (List.mem_of_getElem? (i := 167) rfl) rfl
theorem wt_3_168 : (Jvm.Cond.methodLink "BitNotationLaw" (140 : Nat) ({ cls := "BitNotation", name := "forget", desc := "()I" } : Jvm.MethodName)) ∈ wsA := wsA_3 (List.mem_of_getElem? (i := 168) rfl) rfl
theorem wt_3_169 : (Jvm.Cond.instanceMethod ({ cls := "BitNotation", name := "forget", desc := "()I" } : Jvm.MethodName)) ∈ wsA := wsA_3 (List.mem_of_getElem? (i := 169) rfl) rfl
theorem wt_3_170 : (Jvm.Cond.selects "BitNotation" ({ cls := "BitNotation", name := "forget", desc := "()I" } : Jvm.MethodName) ({ cls := "BitNotation", name := "forget", desc := "()I" } : Jvm.MethodName)) ∈ wsA := wsA_3 (List.mem_of_getElem? (i := 170) rfl) rfl
theorem wt_3_171 : (Jvm.Cond.code ({ cls := "BitNotation", name := "forget", desc := "()I" } : Jvm.MethodName) prog_1_method_12_code (2 : Nat) (Option.some Jvm.ClassFile.FieldType.int)) ∈ wsA := wsA_3 (List.mem_of_getElem? (i := 171) rfl) rfl
theorem wt_3_172 : (Jvm.Cond.methodLink "BitNotationLaw" (143 : Nat) ({ cls := "BitNotationLaw", name := "again", desc := "(LBitNotation;II)I" } : Jvm.MethodName)) ∈ wsA := wsA_3 (List.mem_of_getElem? (i := 172) rfl) rfl
theorem wt_3_173 : (Jvm.Cond.static ({ cls := "BitNotationLaw", name := "again", desc := "(LBitNotation;II)I" } : Jvm.MethodName)) ∈ wsA := wsA_3 (List.mem_of_getElem? (i := 173) rfl) rfl
theorem wt_3_174 : (Jvm.Cond.code ({ cls := "BitNotationLaw", name := "again", desc := "(LBitNotation;II)I" } : Jvm.MethodName) method_22_code (7 : Nat) (Option.some Jvm.ClassFile.FieldType.int)) ∈ wsA := wsA_3 (List.mem_of_getElem? (i := 174) rfl) rfl
theorem wt_3_175 : (Jvm.Cond.methodLink "BitNotationLaw" (158 : Nat) ({ cls := "BitNotationLaw", name := "alike", desc := "(LBitNotation;LBitNotation;)Z" } : Jvm.MethodName)) ∈ wsA := wsA_3 (List.mem_of_getElem? (i := 175) rfl) rfl
theorem wt_3_176 : (Jvm.Cond.static ({ cls := "BitNotationLaw", name := "alike", desc := "(LBitNotation;LBitNotation;)Z" } : Jvm.MethodName)) ∈ wsA := wsA_3 (List.mem_of_getElem? (i := 176) rfl) rfl
theorem wt_3_177 : (Jvm.Cond.code ({ cls := "BitNotationLaw", name := "alike", desc := "(LBitNotation;LBitNotation;)Z" } : Jvm.MethodName) method_23_code (4 : Nat) (Option.some Jvm.ClassFile.FieldType.boolean)) ∈ wsA := wsA_3 (List.mem_of_getElem? (i := 177) rfl) rfl
theorem wt_3_178 : (Jvm.Cond.methodLink "BitNotationLaw" (162 : Nat) ({ cls := "BitNotationLaw", name := "holds", desc := "(LBitNotation;I)Z" } : Jvm.MethodName)) ∈ wsA := wsA_3 (List.mem_of_getElem? (i := 178) rfl) rfl
theorem wt_3_179 : (Jvm.Cond.static ({ cls := "BitNotationLaw", name := "holds", desc := "(LBitNotation;I)Z" } : Jvm.MethodName)) ∈ wsA := wsA_3 (List.mem_of_getElem? (i := 179) rfl) rfl
theorem wt_3_180 : (Jvm.Cond.code ({ cls := "BitNotationLaw", name := "holds", desc := "(LBitNotation;I)Z" } : Jvm.MethodName) method_24_code (12 : Nat) (Option.some Jvm.ClassFile.FieldType.boolean)) ∈ wsA := wsA_3 (List.mem_of_getElem? (i := 180) rfl) rfl
theorem fw_TX1 : ∀ w ∈ u_ws RX1 TX1 4, w ∈ wsA := by
  show ∀ w ∈ ([u_lay RX1 TX1 0, u_lay RX1 TX1 1, u_lay RX1 TX1 2, u_lay RX1 TX1 3] : List Cond), w ∈ wsA
  exact List.forall_mem_cons.mpr ⟨wt_1_89, List.forall_mem_cons.mpr ⟨wt_1_91, List.forall_mem_cons.mpr ⟨wt_1_93, List.forall_mem_cons.mpr ⟨wt_1_95, fun _ h => absurd h List.not_mem_nil⟩⟩⟩⟩
theorem fw_TX2 : ∀ w ∈ u_ws RX2 TX2 2, w ∈ wsA := by
  show ∀ w ∈ ([u_lay RX2 TX2 0, u_lay RX2 TX2 1] : List Cond), w ∈ wsA
  exact List.forall_mem_cons.mpr ⟨wt_1_51, List.forall_mem_cons.mpr ⟨wt_1_53, fun _ h => absurd h List.not_mem_nil⟩⟩
theorem fw_TX3 : ∀ w ∈ u_ws RX3 TX3 10, w ∈ wsA := by
  show ∀ w ∈ ([u_lay RX3 TX3 0, u_lay RX3 TX3 1, u_lay RX3 TX3 2, u_lay RX3 TX3 3, u_lay RX3 TX3 4, u_lay RX3 TX3 5, u_lay RX3 TX3 6, u_lay RX3 TX3 7, u_lay RX3 TX3 8, u_lay RX3 TX3 9] : List Cond), w ∈ wsA
  exact List.forall_mem_cons.mpr ⟨wt_2_25, List.forall_mem_cons.mpr ⟨wt_2_27, List.forall_mem_cons.mpr ⟨wt_2_29, List.forall_mem_cons.mpr ⟨wt_2_31, List.forall_mem_cons.mpr ⟨wt_2_33, List.forall_mem_cons.mpr ⟨wt_2_35, List.forall_mem_cons.mpr ⟨wt_2_37, List.forall_mem_cons.mpr ⟨wt_2_39, List.forall_mem_cons.mpr ⟨wt_2_41, List.forall_mem_cons.mpr ⟨wt_2_43, fun _ h => absurd h List.not_mem_nil⟩⟩⟩⟩⟩⟩⟩⟩⟩⟩
theorem fw_TX4 : ∀ w ∈ u_ws RX4 TX4 2, w ∈ wsA := by
  show ∀ w ∈ ([u_lay RX4 TX4 0, u_lay RX4 TX4 1] : List Cond), w ∈ wsA
  exact List.forall_mem_cons.mpr ⟨wt_1_37, List.forall_mem_cons.mpr ⟨wt_1_39, fun _ h => absurd h List.not_mem_nil⟩⟩
theorem fw_TX5 : ∀ w ∈ u_ws RX5 TX5 3, w ∈ wsA := by
  show ∀ w ∈ ([u_lay RX5 TX5 0, u_lay RX5 TX5 1, u_lay RX5 TX5 2] : List Cond), w ∈ wsA
  exact List.forall_mem_cons.mpr ⟨wt_1_69, List.forall_mem_cons.mpr ⟨wt_1_71, List.forall_mem_cons.mpr ⟨wt_1_73, fun _ h => absurd h List.not_mem_nil⟩⟩⟩
theorem fw_TX6 : ∀ w ∈ u_ws RX6 TX6 7, w ∈ wsA := by
  show ∀ w ∈ ([u_lay RX6 TX6 0, u_lay RX6 TX6 1, u_lay RX6 TX6 2, u_lay RX6 TX6 3, u_lay RX6 TX6 4, u_lay RX6 TX6 5, u_lay RX6 TX6 6] : List Cond), w ∈ wsA
  exact List.forall_mem_cons.mpr ⟨wt_1_105, List.forall_mem_cons.mpr ⟨wt_1_107, List.forall_mem_cons.mpr ⟨wt_1_109, List.forall_mem_cons.mpr ⟨wt_1_111, List.forall_mem_cons.mpr ⟨wt_1_113, List.forall_mem_cons.mpr ⟨wt_1_115, List.forall_mem_cons.mpr ⟨wt_1_117, fun _ h => absurd h List.not_mem_nil⟩⟩⟩⟩⟩⟩⟩
