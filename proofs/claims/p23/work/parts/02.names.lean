/-! ===== BEGIN printed: names, fields, word lists, decode rows ===== -/
def RX0 : String := "LearningSpans$BitRow"
def TX0 : u_T := fun k => match k with
  | 0 => ("LearningSpans$BitRow", "row", "[I", true)
  | _ => ("LearningSpans$BitRow", "size", "I", false)
def tyX0 : Nat → FieldType := fun k => match k with
  | 0 => .array .int
  | _ => .int
abbrev wsX00 : List Cond := u_ws RX0 TX0 2
theorem nmX0 : ∀ a, a < 2 → ∀ b, b < 2 → a ≠ b → (TX0 a).2.1 ≠ (TX0 b).2.1 := by decide +kernel
theorem tyX0_ok : ∀ k, k < 2 → parseFieldDescriptor (TX0 k).2.2.1 = some (tyX0 k) := by decide +kernel
abbrev cX0_init : ByteArray := prog_2_method_1_code
def yX0_init : MethodName := ⟨RX0, "<init>", "()V"⟩
abbrev cX0_empty : ByteArray := prog_2_method_2_code
def yX0_empty : MethodName := ⟨RX0, "empty", "()V"⟩
abbrev cX0_append : ByteArray := prog_2_method_3_code
def yX0_append : MethodName := ⟨RX0, "append", "(I)V"⟩
abbrev cX0_bitAt : ByteArray := prog_2_method_4_code
def yX0_bitAt : MethodName := ⟨RX0, "bitAt", "(I)I"⟩
abbrev cX0_firstOne : ByteArray := prog_2_method_5_code
def yX0_firstOne : MethodName := ⟨RX0, "firstOne", "(I)I"⟩
def RX1 : String := "LearningSpans$Coder"
def TX1 : u_T := fun k => match k with
  | 0 => ("LearningSpans$Coder", "counts", "LLearningSpans$Counts;", true)
  | 1 => ("LearningSpans$Coder", "span", "LLearningSpans$Span;", true)
  | 2 => ("LearningSpans$Coder", "bits", "LLearningSpans$BitRow;", true)
  | 3 => ("LearningSpans$Coder", "costs", "[I", true)
  | 4 => ("LearningSpans$Coder", "size", "I", false)
  | _ => ("LearningSpans$Coder", "waiting", "I", false)
def tyX1 : Nat → FieldType := fun k => match k with
  | 0 => .object "LearningSpans$Counts"
  | 1 => .object "LearningSpans$Span"
  | 2 => .object "LearningSpans$BitRow"
  | 3 => .array .int
  | 4 => .int
  | _ => .int
abbrev wsX10 : List Cond := u_ws RX1 TX1 6
theorem nmX1 : ∀ a, a < 6 → ∀ b, b < 6 → a ≠ b → (TX1 a).2.1 ≠ (TX1 b).2.1 := by decide +kernel
theorem tyX1_ok : ∀ k, k < 6 → parseFieldDescriptor (TX1 k).2.2.1 = some (tyX1 k) := by decide +kernel
abbrev cX1_init : ByteArray := prog_3_method_1_code
def yX1_init : MethodName := ⟨RX1, "<init>", "()V"⟩
abbrev cX1_start : ByteArray := prog_3_method_2_code
def yX1_start : MethodName := ⟨RX1, "start", "(II)V"⟩
abbrev cX1_add : ByteArray := prog_3_method_3_code
def yX1_add : MethodName := ⟨RX1, "add", "(I)I"⟩
abbrev cX1_addAll : ByteArray := prog_3_method_4_code
def yX1_addAll : MethodName := ⟨RX1, "addAll", "(LLearningSpans$Message;)V"⟩
abbrev cX1_close : ByteArray := prog_3_method_5_code
def yX1_close : MethodName := ⟨RX1, "close", "()V"⟩
abbrev cX1_costAt : ByteArray := prog_3_method_6_code
def yX1_costAt : MethodName := ⟨RX1, "costAt", "(I)I"⟩
abbrev cX1_dearest : ByteArray := prog_3_method_7_code
def yX1_dearest : MethodName := ⟨RX1, "dearest", "()I"⟩
abbrev cX1_narrow : ByteArray := prog_3_method_8_code
def yX1_narrow : MethodName := ⟨RX1, "narrow", "(I)V"⟩
abbrev cX1_writeBit : ByteArray := prog_3_method_9_code
def yX1_writeBit : MethodName := ⟨RX1, "writeBit", "(I)V"⟩
def RX2 : String := "LearningSpans$Counts"
def TX2 : u_T := fun k => match k with
  | 0 => ("LearningSpans$Counts", "row", "[I", true)
  | 1 => ("LearningSpans$Counts", "total", "I", false)
  | 2 => ("LearningSpans$Counts", "halvings", "I", false)
  | 3 => ("LearningSpans$Counts", "pace", "I", false)
  | _ => ("LearningSpans$Counts", "bound", "I", false)
def tyX2 : Nat → FieldType := fun k => match k with
  | 0 => .array .int
  | 1 => .int
  | 2 => .int
  | 3 => .int
  | _ => .int
abbrev wsX20 : List Cond := u_ws RX2 TX2 5
theorem nmX2 : ∀ a, a < 5 → ∀ b, b < 5 → a ≠ b → (TX2 a).2.1 ≠ (TX2 b).2.1 := by decide +kernel
theorem tyX2_ok : ∀ k, k < 5 → parseFieldDescriptor (TX2 k).2.2.1 = some (tyX2 k) := by decide +kernel
abbrev cX2_init : ByteArray := prog_4_method_1_code
def yX2_init : MethodName := ⟨RX2, "<init>", "()V"⟩
abbrev cX2_start : ByteArray := prog_4_method_2_code
def yX2_start : MethodName := ⟨RX2, "start", "(II)V"⟩
abbrev cX2_countAt : ByteArray := prog_4_method_3_code
def yX2_countAt : MethodName := ⟨RX2, "countAt", "(I)I"⟩
abbrev cX2_below : ByteArray := prog_4_method_4_code
def yX2_below : MethodName := ⟨RX2, "below", "(I)I"⟩
abbrev cX2_letterWith : ByteArray := prog_4_method_5_code
def yX2_letterWith : MethodName := ⟨RX2, "letterWith", "(I)I"⟩
abbrev cX2_learn : ByteArray := prog_4_method_6_code
def yX2_learn : MethodName := ⟨RX2, "learn", "(I)V"⟩
abbrev cX2_halve : ByteArray := prog_4_method_7_code
def yX2_halve : MethodName := ⟨RX2, "halve", "()V"⟩
def RX3 : String := "LearningSpans$History"
def TX3 : u_T := fun k => match k with
  | 0 => ("LearningSpans$History", "states", "[LLearningSpans$Message;", true)
  | _ => ("LearningSpans$History", "size", "I", false)
def tyX3 : Nat → FieldType := fun k => match k with
  | 0 => .array (.object "LearningSpans$Message")
  | _ => .int
abbrev wsX30 : List Cond := u_ws RX3 TX3 2
theorem nmX3 : ∀ a, a < 2 → ∀ b, b < 2 → a ≠ b → (TX3 a).2.1 ≠ (TX3 b).2.1 := by decide +kernel
theorem tyX3_ok : ∀ k, k < 2 → parseFieldDescriptor (TX3 k).2.2.1 = some (tyX3 k) := by decide +kernel
abbrev cX3_init : ByteArray := prog_5_method_1_code
def yX3_init : MethodName := ⟨RX3, "<init>", "()V"⟩
abbrev cX3_keep : ByteArray := prog_5_method_2_code
def yX3_keep : MethodName := ⟨RX3, "keep", "(LLearningSpans$Message;)V"⟩
abbrev cX3_restore : ByteArray := prog_5_method_3_code
def yX3_restore : MethodName := ⟨RX3, "restore", "(LLearningSpans$Message;)V"⟩
abbrev cX3_dropOldest : ByteArray := prog_5_method_4_code
def yX3_dropOldest : MethodName := ⟨RX3, "dropOldest", "()V"⟩
abbrev cX3_copy : ByteArray := prog_5_method_5_code
def yX3_copy : MethodName := ⟨RX3, "copy", "(LLearningSpans$Message;LLearningSpans$Message;)V"⟩
def RX4 : String := "LearningSpans$Message"
def TX4 : u_T := fun k => match k with
  | 0 => ("LearningSpans$Message", "letters", "[I", true)
  | 1 => ("LearningSpans$Message", "size", "I", false)
  | 2 => ("LearningSpans$Message", "ended", "Z", false)
  | 3 => ("LearningSpans$Message", "pace", "I", false)
  | _ => ("LearningSpans$Message", "bound", "I", false)
def tyX4 : Nat → FieldType := fun k => match k with
  | 0 => .array .int
  | 1 => .int
  | 2 => .boolean
  | 3 => .int
  | _ => .int
abbrev wsX40 : List Cond := u_ws RX4 TX4 5
theorem nmX4 : ∀ a, a < 5 → ∀ b, b < 5 → a ≠ b → (TX4 a).2.1 ≠ (TX4 b).2.1 := by decide +kernel
theorem tyX4_ok : ∀ k, k < 5 → parseFieldDescriptor (TX4 k).2.2.1 = some (tyX4 k) := by decide +kernel
abbrev cX4_init : ByteArray := prog_6_method_1_code
def yX4_init : MethodName := ⟨RX4, "<init>", "()V"⟩
abbrev cX4_letterAt : ByteArray := prog_6_method_2_code
def yX4_letterAt : MethodName := ⟨RX4, "letterAt", "(I)I"⟩
abbrev cX4_append : ByteArray := prog_6_method_3_code
def yX4_append : MethodName := ⟨RX4, "append", "(I)V"⟩
abbrev cX4_replace : ByteArray := prog_6_method_4_code
def yX4_replace : MethodName := ⟨RX4, "replace", "(II)V"⟩
abbrev cX4_shorten : ByteArray := prog_6_method_5_code
def yX4_shorten : MethodName := ⟨RX4, "shorten", "(I)V"⟩
abbrev cX4_empty : ByteArray := prog_6_method_6_code
def yX4_empty : MethodName := ⟨RX4, "empty", "()V"⟩
abbrev cX4_howOften : ByteArray := prog_6_method_7_code
def yX4_howOften : MethodName := ⟨RX4, "howOften", "(I)I"⟩
abbrev cX4_copyFrom : ByteArray := prog_6_method_8_code
def yX4_copyFrom : MethodName := ⟨RX4, "copyFrom", "(LLearningSpans$Message;)V"⟩
def RX5 : String := "LearningSpans$Reader"
def TX5 : u_T := fun k => match k with
  | 0 => ("LearningSpans$Reader", "counts", "LLearningSpans$Counts;", true)
  | 1 => ("LearningSpans$Reader", "span", "LLearningSpans$Span;", true)
  | 2 => ("LearningSpans$Reader", "letters", "[I", true)
  | 3 => ("LearningSpans$Reader", "size", "I", false)
  | 4 => ("LearningSpans$Reader", "number", "I", false)
  | 5 => ("LearningSpans$Reader", "taken", "I", false)
  | _ => ("LearningSpans$Reader", "over", "Z", false)
def tyX5 : Nat → FieldType := fun k => match k with
  | 0 => .object "LearningSpans$Counts"
  | 1 => .object "LearningSpans$Span"
  | 2 => .array .int
  | 3 => .int
  | 4 => .int
  | 5 => .int
  | _ => .boolean
abbrev wsX50 : List Cond := u_ws RX5 TX5 7
theorem nmX5 : ∀ a, a < 7 → ∀ b, b < 7 → a ≠ b → (TX5 a).2.1 ≠ (TX5 b).2.1 := by decide +kernel
theorem tyX5_ok : ∀ k, k < 7 → parseFieldDescriptor (TX5 k).2.2.1 = some (tyX5 k) := by decide +kernel
abbrev cX5_init : ByteArray := prog_7_method_1_code
def yX5_init : MethodName := ⟨RX5, "<init>", "()V"⟩
abbrev cX5_letterAt : ByteArray := prog_7_method_2_code
def yX5_letterAt : MethodName := ⟨RX5, "letterAt", "(I)I"⟩
abbrev cX5_read : ByteArray := prog_7_method_3_code
def yX5_read : MethodName := ⟨RX5, "read", "(LLearningSpans$BitRow;II)V"⟩
abbrev cX5_readLetter : ByteArray := prog_7_method_4_code
def yX5_readLetter : MethodName := ⟨RX5, "readLetter", "(LLearningSpans$BitRow;)V"⟩
abbrev cX5_narrow : ByteArray := prog_7_method_5_code
def yX5_narrow : MethodName := ⟨RX5, "narrow", "(ILLearningSpans$BitRow;)V"⟩
abbrev cX5_takeBit : ByteArray := prog_7_method_6_code
def yX5_takeBit : MethodName := ⟨RX5, "takeBit", "(LLearningSpans$BitRow;)V"⟩
def RX6 : String := "LearningSpans$Span"
def TX6 : u_T := fun k => match k with
  | 0 => ("LearningSpans$Span", "low", "I", false)
  | _ => ("LearningSpans$Span", "high", "I", false)
def tyX6 : Nat → FieldType := fun k => match k with
  | 0 => .int
  | _ => .int
abbrev wsX60 : List Cond := u_ws RX6 TX6 2
theorem nmX6 : ∀ a, a < 2 → ∀ b, b < 2 → a ≠ b → (TX6 a).2.1 ≠ (TX6 b).2.1 := by decide +kernel
theorem tyX6_ok : ∀ k, k < 2 → parseFieldDescriptor (TX6 k).2.2.1 = some (tyX6 k) := by decide +kernel
abbrev cX6_init : ByteArray := prog_8_method_1_code
def yX6_init : MethodName := ⟨RX6, "<init>", "()V"⟩
abbrev cX6_start : ByteArray := prog_8_method_2_code
def yX6_start : MethodName := ⟨RX6, "start", "()V"⟩
abbrev cX6_shrink : ByteArray := prog_8_method_3_code
def yX6_shrink : MethodName := ⟨RX6, "shrink", "(LLearningSpans$Counts;I)V"⟩
abbrev cX6_widen : ByteArray := prog_8_method_4_code
def yX6_widen : MethodName := ⟨RX6, "widen", "()I"⟩
abbrev cX6_letterAround : ByteArray := prog_8_method_5_code
def yX6_letterAround : MethodName := ⟨RX6, "letterAround", "(ILLearningSpans$Counts;)I"⟩
def RX7 : String := "LearningSpans$Text"
def TX7 : u_T := fun k => match k with
  | 0 => ("LearningSpans$Text", "characters", "[I", true)
  | _ => ("LearningSpans$Text", "size", "I", false)
def tyX7 : Nat → FieldType := fun k => match k with
  | 0 => .array .int
  | _ => .int
abbrev wsX70 : List Cond := u_ws RX7 TX7 2
theorem nmX7 : ∀ a, a < 2 → ∀ b, b < 2 → a ≠ b → (TX7 a).2.1 ≠ (TX7 b).2.1 := by decide +kernel
theorem tyX7_ok : ∀ k, k < 2 → parseFieldDescriptor (TX7 k).2.2.1 = some (tyX7 k) := by decide +kernel
abbrev cX7_init : ByteArray := prog_9_method_1_code
def yX7_init : MethodName := ⟨RX7, "<init>", "()V"⟩
abbrev cX7_empty : ByteArray := prog_9_method_2_code
def yX7_empty : MethodName := ⟨RX7, "empty", "()V"⟩
abbrev cX7_append : ByteArray := prog_9_method_3_code
def yX7_append : MethodName := ⟨RX7, "append", "(I)V"⟩
abbrev cX7_copyFrom : ByteArray := prog_9_method_4_code
def yX7_copyFrom : MethodName := ⟨RX7, "copyFrom", "(LLearningSpans$BitRow;)V"⟩
abbrev cX7_copyTo : ByteArray := prog_9_method_5_code
def yX7_copyTo : MethodName := ⟨RX7, "copyTo", "(LLearningSpans$BitRow;)V"⟩
abbrev cX7_firstStrange : ByteArray := prog_9_method_6_code
def yX7_firstStrange : MethodName := ⟨RX7, "firstStrange", "()I"⟩
def RX8 : String := "LearningSpans"
def TX8 : u_T := fun k => match k with
  | 0 => ("LearningSpans", "message", "LLearningSpans$Message;", true)
  | 1 => ("LearningSpans", "coder", "LLearningSpans$Coder;", true)
  | 2 => ("LearningSpans", "trial", "LLearningSpans$Coder;", true)
  | 3 => ("LearningSpans", "reader", "LLearningSpans$Reader;", true)
  | 4 => ("LearningSpans", "text", "LLearningSpans$Text;", true)
  | 5 => ("LearningSpans", "textBits", "LLearningSpans$BitRow;", true)
  | _ => ("LearningSpans", "history", "LLearningSpans$History;", true)
def tyX8 : Nat → FieldType := fun k => match k with
  | 0 => .object "LearningSpans$Message"
  | 1 => .object "LearningSpans$Coder"
  | 2 => .object "LearningSpans$Coder"
  | 3 => .object "LearningSpans$Reader"
  | 4 => .object "LearningSpans$Text"
  | 5 => .object "LearningSpans$BitRow"
  | _ => .object "LearningSpans$History"
abbrev wsX80 : List Cond := u_ws RX8 TX8 7
theorem nmX8 : ∀ a, a < 7 → ∀ b, b < 7 → a ≠ b → (TX8 a).2.1 ≠ (TX8 b).2.1 := by decide +kernel
theorem tyX8_ok : ∀ k, k < 7 → parseFieldDescriptor (TX8 k).2.2.1 = some (tyX8 k) := by decide +kernel
abbrev cX8_init : ByteArray := prog_1_method_1_code
def yX8_init : MethodName := ⟨RX8, "<init>", "()V"⟩
abbrev cX8_put : ByteArray := prog_1_method_2_code
def yX8_put : MethodName := ⟨RX8, "put", "(I)I"⟩
abbrev cX8_end : ByteArray := prog_1_method_3_code
def yX8_end : MethodName := ⟨RX8, "end", "()I"⟩
abbrev cX8_drop : ByteArray := prog_1_method_5_code
def yX8_drop : MethodName := ⟨RX8, "drop", "(I)I"⟩
abbrev cX8_mend : ByteArray := prog_1_method_6_code
def yX8_mend : MethodName := ⟨RX8, "mend", "(II)I"⟩
abbrev cX8_set : ByteArray := prog_1_method_7_code
def yX8_set : MethodName := ⟨RX8, "set", "(II)I"⟩
abbrev cX8_letter : ByteArray := prog_1_method_8_code
def yX8_letter : MethodName := ⟨RX8, "letter", "(I)I"⟩
abbrev cX8_bit : ByteArray := prog_1_method_9_code
def yX8_bit : MethodName := ⟨RX8, "bit", "(I)I"⟩
abbrev cX8_letterOf : ByteArray := prog_1_method_10_code
def yX8_letterOf : MethodName := ⟨RX8, "letterOf", "(II)I"⟩
abbrev cX8_count : ByteArray := prog_1_method_11_code
def yX8_count : MethodName := ⟨RX8, "count", "(I)I"⟩
abbrev cX8_cost : ByteArray := prog_1_method_12_code
def yX8_cost : MethodName := ⟨RX8, "cost", "(I)I"⟩
abbrev cX8_bitsBy : ByteArray := prog_1_method_13_code
def yX8_bitsBy : MethodName := ⟨RX8, "bitsBy", "(I)I"⟩
abbrev cX8_bestPace : ByteArray := prog_1_method_14_code
def yX8_bestPace : MethodName := ⟨RX8, "bestPace", "()I"⟩
abbrev cX8_readBack : ByteArray := prog_1_method_15_code
def yX8_readBack : MethodName := ⟨RX8, "readBack", "(I)I"⟩
abbrev cX8_undo : ByteArray := prog_1_method_16_code
def yX8_undo : MethodName := ⟨RX8, "undo", "()I"⟩
abbrev cX8_type : ByteArray := prog_1_method_17_code
def yX8_type : MethodName := ⟨RX8, "type", "(I)I"⟩
abbrev cX8_clearText : ByteArray := prog_1_method_18_code
def yX8_clearText : MethodName := ⟨RX8, "clearText", "()I"⟩
abbrev cX8_write : ByteArray := prog_1_method_19_code
def yX8_write : MethodName := ⟨RX8, "write", "()I"⟩
abbrev cX8_fault : ByteArray := prog_1_method_20_code
def yX8_fault : MethodName := ⟨RX8, "fault", "(I)I"⟩
abbrev cX8_told : ByteArray := prog_1_method_21_code
def yX8_told : MethodName := ⟨RX8, "told", "(I)I"⟩
abbrev cX8_isLetter : ByteArray := prog_1_method_22_code
def yX8_isLetter : MethodName := ⟨RX8, "isLetter", "(I)Z"⟩
abbrev cX8_isPace : ByteArray := prog_1_method_23_code
def yX8_isPace : MethodName := ⟨RX8, "isPace", "(I)Z"⟩
abbrev cX8_isSetting : ByteArray := prog_1_method_24_code
def yX8_isSetting : MethodName := ⟨RX8, "isSetting", "(II)Z"⟩
abbrev cX8_writeAnew : ByteArray := prog_1_method_25_code
def yX8_writeAnew : MethodName := ⟨RX8, "writeAnew", "()V"⟩
abbrev cX8_bitsMoreWith : ByteArray := prog_1_method_26_code
def yX8_bitsMoreWith : MethodName := ⟨RX8, "bitsMoreWith", "(I)I"⟩
abbrev cX8_bitsEnded : ByteArray := prog_1_method_27_code
def yX8_bitsEnded : MethodName := ⟨RX8, "bitsEnded", "(I)I"⟩
abbrev cX8_alikeFromFirst : ByteArray := prog_1_method_28_code
def yX8_alikeFromFirst : MethodName := ⟨RX8, "alikeFromFirst", "()I"⟩
abbrev cX8_faultReason : ByteArray := prog_1_method_29_code
def yX8_faultReason : MethodName := ⟨RX8, "faultReason", "()I"⟩
abbrev cX8_faultPlace : ByteArray := prog_1_method_30_code
def yX8_faultPlace : MethodName := ⟨RX8, "faultPlace", "(I)I"⟩
def RX9 : String := "LearningSpansModel"
def TX9 : u_T := fun k => match k with
  | _ => ("", "", "", false)
def tyX9 : Nat → FieldType := fun k => match k with
  | _ => .int
abbrev wsX90 : List Cond := u_ws RX9 TX9 0
theorem nmX9 : ∀ a, a < 0 → ∀ b, b < 0 → a ≠ b → (TX9 a).2.1 ≠ (TX9 b).2.1 := by decide +kernel
theorem tyX9_ok : ∀ k, k < 0 → parseFieldDescriptor (TX9 k).2.2.1 = some (tyX9 k) := by decide +kernel
def RJ9 : String := "java/lang/Math"
def TJ9 : u_T := fun k => match k with
  | _ => ("", "", "", false)
def tyJ9 : Nat → FieldType := fun k => match k with
  | _ => .int
abbrev wsJ90 : List Cond := u_ws RJ9 TJ9 0
theorem nmJ9 : ∀ a, a < 0 → ∀ b, b < 0 → a ≠ b → (TJ9 a).2.1 ≠ (TJ9 b).2.1 := by decide +kernel
theorem tyJ9_ok : ∀ k, k < 0 → parseFieldDescriptor (TJ9 k).2.2.1 = some (tyJ9 k) := by decide +kernel
abbrev cJ9_max_7cf53 : ByteArray := prog_12_method_65_code
def yJ9_max_7cf53 : MethodName := ⟨RJ9, "max", "(II)I"⟩
abbrev cJ9_min_7cf53 : ByteArray := prog_12_method_69_code
def yJ9_min_7cf53 : MethodName := ⟨RJ9, "min", "(II)I"⟩
def RL : String := "LearningSpansLaw"
abbrev cL_cell : ByteArray := method_2_code
def yL_cell : MethodName := ⟨RL, "cell", "([II)I"⟩
abbrev cL_up : ByteArray := method_3_code
def yL_up : MethodName := ⟨RL, "up", "(II)I"⟩
abbrev cL_isPut : ByteArray := method_4_code
def yL_isPut : MethodName := ⟨RL, "isPut", "(LLearningSpans;I)Z"⟩
abbrev cL_isStep : ByteArray := method_5_code
def yL_isStep : MethodName := ⟨RL, "isStep", "(LLearningSpans;I)Z"⟩
abbrev cL_isWell : ByteArray := method_6_code
def yL_isWell : MethodName := ⟨RL, "isWell", "(LLearningSpans;)Z"⟩
abbrev cL_isText : ByteArray := method_7_code
def yL_isText : MethodName := ⟨RL, "isText", "(LLearningSpans;I)Z"⟩
abbrev cL_law : ByteArray := code
def yL_law : MethodName := ⟨RL, "law", "([I)Z"⟩
