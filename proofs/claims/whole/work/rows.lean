section
-- ===== PART A: goes FIRST, ahead of the names: the tables' words, and 'selects' of the private methods out of them =====
/-- a private method of a class that the tables say can be made, by its rows of tables_1 -/
def lw_okq (q : MethodName × Nat) : Prop := (q.1.cls ≠ "java/lang/invoke/MethodHandle" ∧ q.1.cls ≠ "java/lang/invoke/VarHandle") ∧ Cond.instantiable q.1.cls q.2 ∈ tables_1 ∧ Cond.privateMethod q.1 ∈ tables_1 ∧ Cond.instanceMethod q.1 ∈ tables_1
theorem lw_p0 : lw_okq (⟨"LearningSpans$History", "dropOldest", "()V"⟩, 2) := ⟨⟨by decide +kernel, by decide +kernel⟩, List.mem_of_getElem? (i := 203) (by decide +kernel), List.mem_of_getElem? (i := 253) (by decide +kernel), List.mem_of_getElem? (i := 254) (by decide +kernel)⟩
theorem lw_p1 : lw_okq (⟨"LearningSpans$Coder", "narrow", "(I)V"⟩, 6) := ⟨⟨by decide +kernel, by decide +kernel⟩, List.mem_of_getElem? (i := 49) (by decide +kernel), List.mem_of_getElem? (i := 276) (by decide +kernel), List.mem_of_getElem? (i := 277) (by decide +kernel)⟩
theorem lw_p2 : lw_okq (⟨"LearningSpans$Coder", "writeBit", "(I)V"⟩, 6) := ⟨⟨by decide +kernel, by decide +kernel⟩, List.mem_of_getElem? (i := 49) (by decide +kernel), List.mem_of_getElem? (i := 299) (by decide +kernel), List.mem_of_getElem? (i := 300) (by decide +kernel)⟩
theorem lw_p3 : lw_okq (⟨"LearningSpans$Counts", "halve", "()V"⟩, 5) := ⟨⟨by decide +kernel, by decide +kernel⟩, List.mem_of_getElem? (i := 55) (by decide +kernel), List.mem_of_getElem? (i := 311) (by decide +kernel), List.mem_of_getElem? (i := 312) (by decide +kernel)⟩
theorem lw_p4 : lw_okq (⟨"LearningSpans", "writeAnew", "()V"⟩, 7) := ⟨⟨by decide +kernel, by decide +kernel⟩, List.mem_of_getElem? (i := 13) (by decide +kernel), List.mem_of_getElem? (i := 331) (by decide +kernel), List.mem_of_getElem? (i := 332) (by decide +kernel)⟩
theorem lw_p5 : lw_okq (⟨"LearningSpans", "bitsMoreWith", "(I)I"⟩, 7) := ⟨⟨by decide +kernel, by decide +kernel⟩, List.mem_of_getElem? (i := 13) (by decide +kernel), List.mem_of_getElem? (i := 394) (by decide +kernel), List.mem_of_getElem? (i := 395) (by decide +kernel)⟩
theorem lw_p6 : lw_okq (⟨"LearningSpans", "bitsEnded", "(I)I"⟩, 7) := ⟨⟨by decide +kernel, by decide +kernel⟩, List.mem_of_getElem? (i := 13) (by decide +kernel), List.mem_of_getElem? (i := 420) (by decide +kernel), List.mem_of_getElem? (i := 421) (by decide +kernel)⟩
theorem lw_p7 : lw_okq (⟨"LearningSpans$Reader", "takeBit", "(LLearningSpans$BitRow;)V"⟩, 7) := ⟨⟨by decide +kernel, by decide +kernel⟩, List.mem_of_getElem? (i := 152) (by decide +kernel), List.mem_of_getElem? (i := 438) (by decide +kernel), List.mem_of_getElem? (i := 439) (by decide +kernel)⟩
theorem lw_p8 : lw_okq (⟨"LearningSpans$Reader", "readLetter", "(LLearningSpans$BitRow;)V"⟩, 7) := ⟨⟨by decide +kernel, by decide +kernel⟩, List.mem_of_getElem? (i := 152) (by decide +kernel), List.mem_of_getElem? (i := 443) (by decide +kernel), List.mem_of_getElem? (i := 444) (by decide +kernel)⟩
theorem lw_p9 : lw_okq (⟨"LearningSpans$Reader", "narrow", "(ILLearningSpans$BitRow;)V"⟩, 7) := ⟨⟨by decide +kernel, by decide +kernel⟩, List.mem_of_getElem? (i := 152) (by decide +kernel), List.mem_of_getElem? (i := 455) (by decide +kernel), List.mem_of_getElem? (i := 456) (by decide +kernel)⟩
theorem lw_p10 : lw_okq (⟨"LearningSpans", "alikeFromFirst", "()I"⟩, 7) := ⟨⟨by decide +kernel, by decide +kernel⟩, List.mem_of_getElem? (i := 13) (by decide +kernel), List.mem_of_getElem? (i := 462) (by decide +kernel), List.mem_of_getElem? (i := 463) (by decide +kernel)⟩
theorem lw_p11 : lw_okq (⟨"LearningSpans", "faultReason", "()I"⟩, 7) := ⟨⟨by decide +kernel, by decide +kernel⟩, List.mem_of_getElem? (i := 13) (by decide +kernel), List.mem_of_getElem? (i := 512) (by decide +kernel), List.mem_of_getElem? (i := 513) (by decide +kernel)⟩
theorem lw_p12 : lw_okq (⟨"LearningSpans", "faultPlace", "(I)I"⟩, 7) := ⟨⟨by decide +kernel, by decide +kernel⟩, List.mem_of_getElem? (i := 13) (by decide +kernel), List.mem_of_getElem? (i := 532) (by decide +kernel), List.mem_of_getElem? (i := 533) (by decide +kernel)⟩
theorem lw_p13 : lw_okq (⟨"LearningSpansModel", "record", "()V"⟩, 21) := ⟨⟨by decide +kernel, by decide +kernel⟩, List.mem_of_getElem? (i := 540) (by decide +kernel), List.mem_of_getElem? (i := 618) (by decide +kernel), List.mem_of_getElem? (i := 619) (by decide +kernel)⟩
theorem lw_p14 : lw_okq (⟨"LearningSpansModel", "putsNow", "()V"⟩, 21) := ⟨⟨by decide +kernel, by decide +kernel⟩, List.mem_of_getElem? (i := 540) (by decide +kernel), List.mem_of_getElem? (i := 622) (by decide +kernel), List.mem_of_getElem? (i := 623) (by decide +kernel)⟩
theorem lw_p15 : lw_okq (⟨"LearningSpansModel", "putsAll", "(IZ)V"⟩, 21) := ⟨⟨by decide +kernel, by decide +kernel⟩, List.mem_of_getElem? (i := 540) (by decide +kernel), List.mem_of_getElem? (i := 626) (by decide +kernel), List.mem_of_getElem? (i := 627) (by decide +kernel)⟩
def lw_privs_1 : List (MethodName × Nat) := [(⟨"LearningSpans$History", "dropOldest", "()V"⟩, 2), (⟨"LearningSpans$Coder", "narrow", "(I)V"⟩, 6), (⟨"LearningSpans$Coder", "writeBit", "(I)V"⟩, 6), (⟨"LearningSpans$Counts", "halve", "()V"⟩, 5), (⟨"LearningSpans", "writeAnew", "()V"⟩, 7), (⟨"LearningSpans", "bitsMoreWith", "(I)I"⟩, 7), (⟨"LearningSpans", "bitsEnded", "(I)I"⟩, 7), (⟨"LearningSpans$Reader", "takeBit", "(LLearningSpans$BitRow;)V"⟩, 7), (⟨"LearningSpans$Reader", "readLetter", "(LLearningSpans$BitRow;)V"⟩, 7), (⟨"LearningSpans$Reader", "narrow", "(ILLearningSpans$BitRow;)V"⟩, 7), (⟨"LearningSpans", "alikeFromFirst", "()I"⟩, 7), (⟨"LearningSpans", "faultReason", "()I"⟩, 7), (⟨"LearningSpans", "faultPlace", "(I)I"⟩, 7), (⟨"LearningSpansModel", "record", "()V"⟩, 21), (⟨"LearningSpansModel", "putsNow", "()V"⟩, 21), (⟨"LearningSpansModel", "putsAll", "(IZ)V"⟩, 21)]
theorem lw_r1 : ∀ q ∈ lw_privs_1, lw_okq q := List.forall_mem_cons.mpr ⟨lw_p0, List.forall_mem_cons.mpr ⟨lw_p1, List.forall_mem_cons.mpr ⟨lw_p2, List.forall_mem_cons.mpr ⟨lw_p3, List.forall_mem_cons.mpr ⟨lw_p4, List.forall_mem_cons.mpr ⟨lw_p5, List.forall_mem_cons.mpr ⟨lw_p6, List.forall_mem_cons.mpr ⟨lw_p7, List.forall_mem_cons.mpr ⟨lw_p8, List.forall_mem_cons.mpr ⟨lw_p9, List.forall_mem_cons.mpr ⟨lw_p10, List.forall_mem_cons.mpr ⟨lw_p11, List.forall_mem_cons.mpr ⟨lw_p12, List.forall_mem_cons.mpr ⟨lw_p13, List.forall_mem_cons.mpr ⟨lw_p14, List.forall_mem_cons.mpr ⟨lw_p15, fun _ h => absurd h List.not_mem_nil⟩⟩⟩⟩⟩⟩⟩⟩⟩⟩⟩⟩⟩⟩⟩⟩
theorem lw_p16 : lw_okq (⟨"LearningSpansModel", "beginsSpan", "()V"⟩, 21) := ⟨⟨by decide +kernel, by decide +kernel⟩, List.mem_of_getElem? (i := 540) (by decide +kernel), List.mem_of_getElem? (i := 630) (by decide +kernel), List.mem_of_getElem? (i := 631) (by decide +kernel)⟩
theorem lw_p17 : lw_okq (⟨"LearningSpansModel", "beginsCounts", "()V"⟩, 21) := ⟨⟨by decide +kernel, by decide +kernel⟩, List.mem_of_getElem? (i := 540) (by decide +kernel), List.mem_of_getElem? (i := 634) (by decide +kernel), List.mem_of_getElem? (i := 635) (by decide +kernel)⟩
theorem lw_p18 : lw_okq (⟨"LearningSpansModel", "narrows", "(I)V"⟩, 21) := ⟨⟨by decide +kernel, by decide +kernel⟩, List.mem_of_getElem? (i := 540) (by decide +kernel), List.mem_of_getElem? (i := 639) (by decide +kernel), List.mem_of_getElem? (i := 640) (by decide +kernel)⟩
theorem lw_p19 : lw_okq (⟨"LearningSpansModel", "cuts", "(I)V"⟩, 21) := ⟨⟨by decide +kernel, by decide +kernel⟩, List.mem_of_getElem? (i := 540) (by decide +kernel), List.mem_of_getElem? (i := 643) (by decide +kernel), List.mem_of_getElem? (i := 644) (by decide +kernel)⟩
theorem lw_p20 : lw_okq (⟨"LearningSpansModel", "below", "(I)I"⟩, 21) := ⟨⟨by decide +kernel, by decide +kernel⟩, List.mem_of_getElem? (i := 540) (by decide +kernel), List.mem_of_getElem? (i := 647) (by decide +kernel), List.mem_of_getElem? (i := 648) (by decide +kernel)⟩
theorem lw_p21 : lw_okq (⟨"LearningSpansModel", "takenOff", "()I"⟩, 21) := ⟨⟨by decide +kernel, by decide +kernel⟩, List.mem_of_getElem? (i := 540) (by decide +kernel), List.mem_of_getElem? (i := 651) (by decide +kernel), List.mem_of_getElem? (i := 652) (by decide +kernel)⟩
theorem lw_p22 : lw_okq (⟨"LearningSpansModel", "writes", "(I)V"⟩, 21) := ⟨⟨by decide +kernel, by decide +kernel⟩, List.mem_of_getElem? (i := 540) (by decide +kernel), List.mem_of_getElem? (i := 657) (by decide +kernel), List.mem_of_getElem? (i := 658) (by decide +kernel)⟩
theorem lw_p23 : lw_okq (⟨"LearningSpansModel", "doubles", "(I)V"⟩, 21) := ⟨⟨by decide +kernel, by decide +kernel⟩, List.mem_of_getElem? (i := 540) (by decide +kernel), List.mem_of_getElem? (i := 661) (by decide +kernel), List.mem_of_getElem? (i := 662) (by decide +kernel)⟩
theorem lw_p24 : lw_okq (⟨"LearningSpansModel", "learns", "(II)V"⟩, 21) := ⟨⟨by decide +kernel, by decide +kernel⟩, List.mem_of_getElem? (i := 540) (by decide +kernel), List.mem_of_getElem? (i := 665) (by decide +kernel), List.mem_of_getElem? (i := 666) (by decide +kernel)⟩
theorem lw_p25 : lw_okq (⟨"LearningSpansModel", "ends", "()V"⟩, 21) := ⟨⟨by decide +kernel, by decide +kernel⟩, List.mem_of_getElem? (i := 540) (by decide +kernel), List.mem_of_getElem? (i := 669) (by decide +kernel), List.mem_of_getElem? (i := 670) (by decide +kernel)⟩
theorem lw_p26 : lw_okq (⟨"LearningSpansModel", "bitsNow", "()I"⟩, 21) := ⟨⟨by decide +kernel, by decide +kernel⟩, List.mem_of_getElem? (i := 540) (by decide +kernel), List.mem_of_getElem? (i := 677) (by decide +kernel), List.mem_of_getElem? (i := 678) (by decide +kernel)⟩
theorem lw_p27 : lw_okq (⟨"LearningSpansModel", "begins", "()I"⟩, 21) := ⟨⟨by decide +kernel, by decide +kernel⟩, List.mem_of_getElem? (i := 540) (by decide +kernel), List.mem_of_getElem? (i := 685) (by decide +kernel), List.mem_of_getElem? (i := 686) (by decide +kernel)⟩
theorem lw_p28 : lw_okq (⟨"LearningSpansModel", "stands", "(I)I"⟩, 21) := ⟨⟨by decide +kernel, by decide +kernel⟩, List.mem_of_getElem? (i := 540) (by decide +kernel), List.mem_of_getElem? (i := 719) (by decide +kernel), List.mem_of_getElem? (i := 720) (by decide +kernel)⟩
theorem lw_p29 : lw_okq (⟨"LearningSpansModel", "wouldWrite", "(I)I"⟩, 21) := ⟨⟨by decide +kernel, by decide +kernel⟩, List.mem_of_getElem? (i := 540) (by decide +kernel), List.mem_of_getElem? (i := 723) (by decide +kernel), List.mem_of_getElem? (i := 724) (by decide +kernel)⟩
theorem lw_p30 : lw_okq (⟨"LearningSpansModel", "mostWritten", "()I"⟩, 21) := ⟨⟨by decide +kernel, by decide +kernel⟩, List.mem_of_getElem? (i := 540) (by decide +kernel), List.mem_of_getElem? (i := 731) (by decide +kernel), List.mem_of_getElem? (i := 732) (by decide +kernel)⟩
theorem lw_p31 : lw_okq (⟨"LearningSpansModel", "bitsOf", "(I)I"⟩, 21) := ⟨⟨by decide +kernel, by decide +kernel⟩, List.mem_of_getElem? (i := 540) (by decide +kernel), List.mem_of_getElem? (i := 743) (by decide +kernel), List.mem_of_getElem? (i := 744) (by decide +kernel)⟩
def lw_privs_2 : List (MethodName × Nat) := [(⟨"LearningSpansModel", "beginsSpan", "()V"⟩, 21), (⟨"LearningSpansModel", "beginsCounts", "()V"⟩, 21), (⟨"LearningSpansModel", "narrows", "(I)V"⟩, 21), (⟨"LearningSpansModel", "cuts", "(I)V"⟩, 21), (⟨"LearningSpansModel", "below", "(I)I"⟩, 21), (⟨"LearningSpansModel", "takenOff", "()I"⟩, 21), (⟨"LearningSpansModel", "writes", "(I)V"⟩, 21), (⟨"LearningSpansModel", "doubles", "(I)V"⟩, 21), (⟨"LearningSpansModel", "learns", "(II)V"⟩, 21), (⟨"LearningSpansModel", "ends", "()V"⟩, 21), (⟨"LearningSpansModel", "bitsNow", "()I"⟩, 21), (⟨"LearningSpansModel", "begins", "()I"⟩, 21), (⟨"LearningSpansModel", "stands", "(I)I"⟩, 21), (⟨"LearningSpansModel", "wouldWrite", "(I)I"⟩, 21), (⟨"LearningSpansModel", "mostWritten", "()I"⟩, 21), (⟨"LearningSpansModel", "bitsOf", "(I)I"⟩, 21)]
theorem lw_r2 : ∀ q ∈ lw_privs_2, lw_okq q := List.forall_mem_cons.mpr ⟨lw_p16, List.forall_mem_cons.mpr ⟨lw_p17, List.forall_mem_cons.mpr ⟨lw_p18, List.forall_mem_cons.mpr ⟨lw_p19, List.forall_mem_cons.mpr ⟨lw_p20, List.forall_mem_cons.mpr ⟨lw_p21, List.forall_mem_cons.mpr ⟨lw_p22, List.forall_mem_cons.mpr ⟨lw_p23, List.forall_mem_cons.mpr ⟨lw_p24, List.forall_mem_cons.mpr ⟨lw_p25, List.forall_mem_cons.mpr ⟨lw_p26, List.forall_mem_cons.mpr ⟨lw_p27, List.forall_mem_cons.mpr ⟨lw_p28, List.forall_mem_cons.mpr ⟨lw_p29, List.forall_mem_cons.mpr ⟨lw_p30, List.forall_mem_cons.mpr ⟨lw_p31, fun _ h => absurd h List.not_mem_nil⟩⟩⟩⟩⟩⟩⟩⟩⟩⟩⟩⟩⟩⟩⟩⟩
theorem lw_p32 : lw_okq (⟨"LearningSpansModel", "reads", "()Z"⟩, 21) := ⟨⟨by decide +kernel, by decide +kernel⟩, List.mem_of_getElem? (i := 540) (by decide +kernel), List.mem_of_getElem? (i := 756) (by decide +kernel), List.mem_of_getElem? (i := 757) (by decide +kernel)⟩
theorem lw_p33 : lw_okq (⟨"LearningSpansModel", "takes", "()V"⟩, 21) := ⟨⟨by decide +kernel, by decide +kernel⟩, List.mem_of_getElem? (i := 540) (by decide +kernel), List.mem_of_getElem? (i := 760) (by decide +kernel), List.mem_of_getElem? (i := 761) (by decide +kernel)⟩
theorem lw_p34 : lw_okq (⟨"LearningSpansModel", "letterAt", "()I"⟩, 21) := ⟨⟨by decide +kernel, by decide +kernel⟩, List.mem_of_getElem? (i := 540) (by decide +kernel), List.mem_of_getElem? (i := 764) (by decide +kernel), List.mem_of_getElem? (i := 765) (by decide +kernel)⟩
theorem lw_p35 : lw_okq (⟨"LearningSpansModel", "reason", "()I"⟩, 21) := ⟨⟨by decide +kernel, by decide +kernel⟩, List.mem_of_getElem? (i := 540) (by decide +kernel), List.mem_of_getElem? (i := 789) (by decide +kernel), List.mem_of_getElem? (i := 790) (by decide +kernel)⟩
def lw_privs_3 : List (MethodName × Nat) := [(⟨"LearningSpansModel", "reads", "()Z"⟩, 21), (⟨"LearningSpansModel", "takes", "()V"⟩, 21), (⟨"LearningSpansModel", "letterAt", "()I"⟩, 21), (⟨"LearningSpansModel", "reason", "()I"⟩, 21)]
theorem lw_r3 : ∀ q ∈ lw_privs_3, lw_okq q := List.forall_mem_cons.mpr ⟨lw_p32, List.forall_mem_cons.mpr ⟨lw_p33, List.forall_mem_cons.mpr ⟨lw_p34, List.forall_mem_cons.mpr ⟨lw_p35, fun _ h => absurd h List.not_mem_nil⟩⟩⟩⟩
def lw_privs : List (MethodName × Nat) := lw_privs_1 ++ (lw_privs_2 ++ (lw_privs_3))
def lw_tbl : List Cond := k2_sels lw_privs ++ tables_1
theorem lw_privs_ok : ∀ q ∈ lw_privs, lw_okq q := by
  show ∀ q ∈ lw_privs_1 ++ (lw_privs_2 ++ (lw_privs_3)), lw_okq q
  exact List.forall_mem_append.mpr ⟨lw_r1, List.forall_mem_append.mpr ⟨lw_r2, lw_r3⟩⟩
end
section
/-! ===== BEGIN printed: names, fields, word lists, decode rows ===== -/
def RX0 : String := "LearningSpans$BitRow"
def TX0 : u_T := fun k => match k with
  | 0 => ("LearningSpans$BitRow", "row", "[I", true)
  | _ => ("LearningSpans$BitRow", "size", "I", false)
def tyX0 : Nat → FieldType := fun k => match k with
  | 0 => .array .int
  | _ => .int
abbrev wsX00 : List Cond := u_ws RX0 TX0 2
theorem nmX0 : ∀ a, a < 2 → ∀ b, b < 2 → a ≠ b → (TX0 a).2.1 ≠ (TX0 b).2.1 := by decide +kernel
theorem tyX0_ok : ∀ k, k < 2 → parseFieldDescriptor (TX0 k).2.2.1 = some (tyX0 k) := by decide +kernel
abbrev cX0_init : ByteArray := prog_2_method_1_code
def yX0_init : MethodName := ⟨RX0, "<init>", "()V"⟩
abbrev cX0_empty : ByteArray := prog_2_method_2_code
def yX0_empty : MethodName := ⟨RX0, "empty", "()V"⟩
abbrev cX0_append : ByteArray := prog_2_method_3_code
def yX0_append : MethodName := ⟨RX0, "append", "(I)V"⟩
abbrev cX0_bitAt : ByteArray := prog_2_method_4_code
def yX0_bitAt : MethodName := ⟨RX0, "bitAt", "(I)I"⟩
abbrev cX0_firstOne : ByteArray := prog_2_method_5_code
def yX0_firstOne : MethodName := ⟨RX0, "firstOne", "(I)I"⟩
def RX1 : String := "LearningSpans$Coder"
def TX1 : u_T := fun k => match k with
  | 0 => ("LearningSpans$Coder", "counts", "LLearningSpans$Counts;", true)
  | 1 => ("LearningSpans$Coder", "span", "LLearningSpans$Span;", true)
  | 2 => ("LearningSpans$Coder", "bits", "LLearningSpans$BitRow;", true)
  | 3 => ("LearningSpans$Coder", "costs", "[I", true)
  | 4 => ("LearningSpans$Coder", "size", "I", false)
  | _ => ("LearningSpans$Coder", "waiting", "I", false)
def tyX1 : Nat → FieldType := fun k => match k with
  | 0 => .object "LearningSpans$Counts"
  | 1 => .object "LearningSpans$Span"
  | 2 => .object "LearningSpans$BitRow"
  | 3 => .array .int
  | 4 => .int
  | _ => .int
abbrev wsX10 : List Cond := u_ws RX1 TX1 6
theorem nmX1 : ∀ a, a < 6 → ∀ b, b < 6 → a ≠ b → (TX1 a).2.1 ≠ (TX1 b).2.1 := by decide +kernel
theorem tyX1_ok : ∀ k, k < 6 → parseFieldDescriptor (TX1 k).2.2.1 = some (tyX1 k) := by decide +kernel
abbrev cX1_init : ByteArray := prog_3_method_1_code
def yX1_init : MethodName := ⟨RX1, "<init>", "()V"⟩
abbrev cX1_start : ByteArray := prog_3_method_2_code
def yX1_start : MethodName := ⟨RX1, "start", "(II)V"⟩
abbrev cX1_add : ByteArray := prog_3_method_3_code
def yX1_add : MethodName := ⟨RX1, "add", "(I)I"⟩
abbrev cX1_addAll : ByteArray := prog_3_method_4_code
def yX1_addAll : MethodName := ⟨RX1, "addAll", "(LLearningSpans$Message;)V"⟩
abbrev cX1_close : ByteArray := prog_3_method_5_code
def yX1_close : MethodName := ⟨RX1, "close", "()V"⟩
abbrev cX1_costAt : ByteArray := prog_3_method_6_code
def yX1_costAt : MethodName := ⟨RX1, "costAt", "(I)I"⟩
abbrev cX1_dearest : ByteArray := prog_3_method_7_code
def yX1_dearest : MethodName := ⟨RX1, "dearest", "()I"⟩
abbrev cX1_narrow : ByteArray := prog_3_method_8_code
def yX1_narrow : MethodName := ⟨RX1, "narrow", "(I)V"⟩
abbrev cX1_writeBit : ByteArray := prog_3_method_9_code
def yX1_writeBit : MethodName := ⟨RX1, "writeBit", "(I)V"⟩
def RX2 : String := "LearningSpans$Counts"
def TX2 : u_T := fun k => match k with
  | 0 => ("LearningSpans$Counts", "row", "[I", true)
  | 1 => ("LearningSpans$Counts", "total", "I", false)
  | 2 => ("LearningSpans$Counts", "halvings", "I", false)
  | 3 => ("LearningSpans$Counts", "pace", "I", false)
  | _ => ("LearningSpans$Counts", "bound", "I", false)
def tyX2 : Nat → FieldType := fun k => match k with
  | 0 => .array .int
  | 1 => .int
  | 2 => .int
  | 3 => .int
  | _ => .int
abbrev wsX20 : List Cond := u_ws RX2 TX2 5
theorem nmX2 : ∀ a, a < 5 → ∀ b, b < 5 → a ≠ b → (TX2 a).2.1 ≠ (TX2 b).2.1 := by decide +kernel
theorem tyX2_ok : ∀ k, k < 5 → parseFieldDescriptor (TX2 k).2.2.1 = some (tyX2 k) := by decide +kernel
abbrev cX2_init : ByteArray := prog_4_method_1_code
def yX2_init : MethodName := ⟨RX2, "<init>", "()V"⟩
abbrev cX2_start : ByteArray := prog_4_method_2_code
def yX2_start : MethodName := ⟨RX2, "start", "(II)V"⟩
abbrev cX2_countAt : ByteArray := prog_4_method_3_code
def yX2_countAt : MethodName := ⟨RX2, "countAt", "(I)I"⟩
abbrev cX2_below : ByteArray := prog_4_method_4_code
def yX2_below : MethodName := ⟨RX2, "below", "(I)I"⟩
abbrev cX2_letterWith : ByteArray := prog_4_method_5_code
def yX2_letterWith : MethodName := ⟨RX2, "letterWith", "(I)I"⟩
abbrev cX2_learn : ByteArray := prog_4_method_6_code
def yX2_learn : MethodName := ⟨RX2, "learn", "(I)V"⟩
abbrev cX2_halve : ByteArray := prog_4_method_7_code
def yX2_halve : MethodName := ⟨RX2, "halve", "()V"⟩
def RX3 : String := "LearningSpans$History"
def TX3 : u_T := fun k => match k with
  | 0 => ("LearningSpans$History", "states", "[LLearningSpans$Message;", true)
  | _ => ("LearningSpans$History", "size", "I", false)
def tyX3 : Nat → FieldType := fun k => match k with
  | 0 => .array (.object "LearningSpans$Message")
  | _ => .int
abbrev wsX30 : List Cond := u_ws RX3 TX3 2
theorem nmX3 : ∀ a, a < 2 → ∀ b, b < 2 → a ≠ b → (TX3 a).2.1 ≠ (TX3 b).2.1 := by decide +kernel
theorem tyX3_ok : ∀ k, k < 2 → parseFieldDescriptor (TX3 k).2.2.1 = some (tyX3 k) := by decide +kernel
abbrev cX3_init : ByteArray := prog_5_method_1_code
def yX3_init : MethodName := ⟨RX3, "<init>", "()V"⟩
abbrev cX3_keep : ByteArray := prog_5_method_2_code
def yX3_keep : MethodName := ⟨RX3, "keep", "(LLearningSpans$Message;)V"⟩
abbrev cX3_restore : ByteArray := prog_5_method_3_code
def yX3_restore : MethodName := ⟨RX3, "restore", "(LLearningSpans$Message;)V"⟩
abbrev cX3_dropOldest : ByteArray := prog_5_method_4_code
def yX3_dropOldest : MethodName := ⟨RX3, "dropOldest", "()V"⟩
abbrev cX3_copy : ByteArray := prog_5_method_5_code
def yX3_copy : MethodName := ⟨RX3, "copy", "(LLearningSpans$Message;LLearningSpans$Message;)V"⟩
def RX4 : String := "LearningSpans$Message"
def TX4 : u_T := fun k => match k with
  | 0 => ("LearningSpans$Message", "letters", "[I", true)
  | 1 => ("LearningSpans$Message", "size", "I", false)
  | 2 => ("LearningSpans$Message", "ended", "Z", false)
  | 3 => ("LearningSpans$Message", "pace", "I", false)
  | _ => ("LearningSpans$Message", "bound", "I", false)
def tyX4 : Nat → FieldType := fun k => match k with
  | 0 => .array .int
  | 1 => .int
  | 2 => .boolean
  | 3 => .int
  | _ => .int
abbrev wsX40 : List Cond := u_ws RX4 TX4 5
theorem nmX4 : ∀ a, a < 5 → ∀ b, b < 5 → a ≠ b → (TX4 a).2.1 ≠ (TX4 b).2.1 := by decide +kernel
theorem tyX4_ok : ∀ k, k < 5 → parseFieldDescriptor (TX4 k).2.2.1 = some (tyX4 k) := by decide +kernel
abbrev cX4_init : ByteArray := prog_6_method_1_code
def yX4_init : MethodName := ⟨RX4, "<init>", "()V"⟩
abbrev cX4_letterAt : ByteArray := prog_6_method_2_code
def yX4_letterAt : MethodName := ⟨RX4, "letterAt", "(I)I"⟩
abbrev cX4_append : ByteArray := prog_6_method_3_code
def yX4_append : MethodName := ⟨RX4, "append", "(I)V"⟩
abbrev cX4_replace : ByteArray := prog_6_method_4_code
def yX4_replace : MethodName := ⟨RX4, "replace", "(II)V"⟩
abbrev cX4_shorten : ByteArray := prog_6_method_5_code
def yX4_shorten : MethodName := ⟨RX4, "shorten", "(I)V"⟩
abbrev cX4_empty : ByteArray := prog_6_method_6_code
def yX4_empty : MethodName := ⟨RX4, "empty", "()V"⟩
abbrev cX4_howOften : ByteArray := prog_6_method_7_code
def yX4_howOften : MethodName := ⟨RX4, "howOften", "(I)I"⟩
abbrev cX4_copyFrom : ByteArray := prog_6_method_8_code
def yX4_copyFrom : MethodName := ⟨RX4, "copyFrom", "(LLearningSpans$Message;)V"⟩
def RX5 : String := "LearningSpans$Reader"
def TX5 : u_T := fun k => match k with
  | 0 => ("LearningSpans$Reader", "counts", "LLearningSpans$Counts;", true)
  | 1 => ("LearningSpans$Reader", "span", "LLearningSpans$Span;", true)
  | 2 => ("LearningSpans$Reader", "letters", "[I", true)
  | 3 => ("LearningSpans$Reader", "size", "I", false)
  | 4 => ("LearningSpans$Reader", "number", "I", false)
  | 5 => ("LearningSpans$Reader", "taken", "I", false)
  | _ => ("LearningSpans$Reader", "over", "Z", false)
def tyX5 : Nat → FieldType := fun k => match k with
  | 0 => .object "LearningSpans$Counts"
  | 1 => .object "LearningSpans$Span"
  | 2 => .array .int
  | 3 => .int
  | 4 => .int
  | 5 => .int
  | _ => .boolean
abbrev wsX50 : List Cond := u_ws RX5 TX5 7
theorem nmX5 : ∀ a, a < 7 → ∀ b, b < 7 → a ≠ b → (TX5 a).2.1 ≠ (TX5 b).2.1 := by decide +kernel
theorem tyX5_ok : ∀ k, k < 7 → parseFieldDescriptor (TX5 k).2.2.1 = some (tyX5 k) := by decide +kernel
abbrev cX5_init : ByteArray := prog_7_method_1_code
def yX5_init : MethodName := ⟨RX5, "<init>", "()V"⟩
abbrev cX5_letterAt : ByteArray := prog_7_method_2_code
def yX5_letterAt : MethodName := ⟨RX5, "letterAt", "(I)I"⟩
abbrev cX5_read : ByteArray := prog_7_method_3_code
def yX5_read : MethodName := ⟨RX5, "read", "(LLearningSpans$BitRow;II)V"⟩
abbrev cX5_readLetter : ByteArray := prog_7_method_4_code
def yX5_readLetter : MethodName := ⟨RX5, "readLetter", "(LLearningSpans$BitRow;)V"⟩
abbrev cX5_narrow : ByteArray := prog_7_method_5_code
def yX5_narrow : MethodName := ⟨RX5, "narrow", "(ILLearningSpans$BitRow;)V"⟩
abbrev cX5_takeBit : ByteArray := prog_7_method_6_code
def yX5_takeBit : MethodName := ⟨RX5, "takeBit", "(LLearningSpans$BitRow;)V"⟩
def RX6 : String := "LearningSpans$Span"
def TX6 : u_T := fun k => match k with
  | 0 => ("LearningSpans$Span", "low", "I", false)
  | _ => ("LearningSpans$Span", "high", "I", false)
def tyX6 : Nat → FieldType := fun k => match k with
  | 0 => .int
  | _ => .int
abbrev wsX60 : List Cond := u_ws RX6 TX6 2
theorem nmX6 : ∀ a, a < 2 → ∀ b, b < 2 → a ≠ b → (TX6 a).2.1 ≠ (TX6 b).2.1 := by decide +kernel
theorem tyX6_ok : ∀ k, k < 2 → parseFieldDescriptor (TX6 k).2.2.1 = some (tyX6 k) := by decide +kernel
abbrev cX6_init : ByteArray := prog_8_method_1_code
def yX6_init : MethodName := ⟨RX6, "<init>", "()V"⟩
abbrev cX6_start : ByteArray := prog_8_method_2_code
def yX6_start : MethodName := ⟨RX6, "start", "()V"⟩
abbrev cX6_shrink : ByteArray := prog_8_method_3_code
def yX6_shrink : MethodName := ⟨RX6, "shrink", "(LLearningSpans$Counts;I)V"⟩
abbrev cX6_widen : ByteArray := prog_8_method_4_code
def yX6_widen : MethodName := ⟨RX6, "widen", "()I"⟩
abbrev cX6_letterAround : ByteArray := prog_8_method_5_code
def yX6_letterAround : MethodName := ⟨RX6, "letterAround", "(ILLearningSpans$Counts;)I"⟩
def RX7 : String := "LearningSpans$Text"
def TX7 : u_T := fun k => match k with
  | 0 => ("LearningSpans$Text", "characters", "[I", true)
  | _ => ("LearningSpans$Text", "size", "I", false)
def tyX7 : Nat → FieldType := fun k => match k with
  | 0 => .array .int
  | _ => .int
abbrev wsX70 : List Cond := u_ws RX7 TX7 2
theorem nmX7 : ∀ a, a < 2 → ∀ b, b < 2 → a ≠ b → (TX7 a).2.1 ≠ (TX7 b).2.1 := by decide +kernel
theorem tyX7_ok : ∀ k, k < 2 → parseFieldDescriptor (TX7 k).2.2.1 = some (tyX7 k) := by decide +kernel
abbrev cX7_init : ByteArray := prog_9_method_1_code
def yX7_init : MethodName := ⟨RX7, "<init>", "()V"⟩
abbrev cX7_empty : ByteArray := prog_9_method_2_code
def yX7_empty : MethodName := ⟨RX7, "empty", "()V"⟩
abbrev cX7_append : ByteArray := prog_9_method_3_code
def yX7_append : MethodName := ⟨RX7, "append", "(I)V"⟩
abbrev cX7_copyFrom : ByteArray := prog_9_method_4_code
def yX7_copyFrom : MethodName := ⟨RX7, "copyFrom", "(LLearningSpans$BitRow;)V"⟩
abbrev cX7_copyTo : ByteArray := prog_9_method_5_code
def yX7_copyTo : MethodName := ⟨RX7, "copyTo", "(LLearningSpans$BitRow;)V"⟩
abbrev cX7_firstStrange : ByteArray := prog_9_method_6_code
def yX7_firstStrange : MethodName := ⟨RX7, "firstStrange", "()I"⟩
def RX8 : String := "LearningSpans"
def TX8 : u_T := fun k => match k with
  | 0 => ("LearningSpans", "message", "LLearningSpans$Message;", true)
  | 1 => ("LearningSpans", "coder", "LLearningSpans$Coder;", true)
  | 2 => ("LearningSpans", "trial", "LLearningSpans$Coder;", true)
  | 3 => ("LearningSpans", "reader", "LLearningSpans$Reader;", true)
  | 4 => ("LearningSpans", "text", "LLearningSpans$Text;", true)
  | 5 => ("LearningSpans", "textBits", "LLearningSpans$BitRow;", true)
  | _ => ("LearningSpans", "history", "LLearningSpans$History;", true)
def tyX8 : Nat → FieldType := fun k => match k with
  | 0 => .object "LearningSpans$Message"
  | 1 => .object "LearningSpans$Coder"
  | 2 => .object "LearningSpans$Coder"
  | 3 => .object "LearningSpans$Reader"
  | 4 => .object "LearningSpans$Text"
  | 5 => .object "LearningSpans$BitRow"
  | _ => .object "LearningSpans$History"
abbrev wsX80 : List Cond := u_ws RX8 TX8 7
theorem nmX8 : ∀ a, a < 7 → ∀ b, b < 7 → a ≠ b → (TX8 a).2.1 ≠ (TX8 b).2.1 := by decide +kernel
theorem tyX8_ok : ∀ k, k < 7 → parseFieldDescriptor (TX8 k).2.2.1 = some (tyX8 k) := by decide +kernel
abbrev cX8_init : ByteArray := prog_1_method_1_code
def yX8_init : MethodName := ⟨RX8, "<init>", "()V"⟩
abbrev cX8_put : ByteArray := prog_1_method_2_code
def yX8_put : MethodName := ⟨RX8, "put", "(I)I"⟩
abbrev cX8_end : ByteArray := prog_1_method_3_code
def yX8_end : MethodName := ⟨RX8, "end", "()I"⟩
abbrev cX8_begin : ByteArray := prog_1_method_4_code
def yX8_begin : MethodName := ⟨RX8, "begin", "()I"⟩
abbrev cX8_drop : ByteArray := prog_1_method_5_code
def yX8_drop : MethodName := ⟨RX8, "drop", "(I)I"⟩
abbrev cX8_mend : ByteArray := prog_1_method_6_code
def yX8_mend : MethodName := ⟨RX8, "mend", "(II)I"⟩
abbrev cX8_set : ByteArray := prog_1_method_7_code
def yX8_set : MethodName := ⟨RX8, "set", "(II)I"⟩
abbrev cX8_letter : ByteArray := prog_1_method_8_code
def yX8_letter : MethodName := ⟨RX8, "letter", "(I)I"⟩
abbrev cX8_bit : ByteArray := prog_1_method_9_code
def yX8_bit : MethodName := ⟨RX8, "bit", "(I)I"⟩
abbrev cX8_letterOf : ByteArray := prog_1_method_10_code
def yX8_letterOf : MethodName := ⟨RX8, "letterOf", "(II)I"⟩
abbrev cX8_count : ByteArray := prog_1_method_11_code
def yX8_count : MethodName := ⟨RX8, "count", "(I)I"⟩
abbrev cX8_cost : ByteArray := prog_1_method_12_code
def yX8_cost : MethodName := ⟨RX8, "cost", "(I)I"⟩
abbrev cX8_bitsBy : ByteArray := prog_1_method_13_code
def yX8_bitsBy : MethodName := ⟨RX8, "bitsBy", "(I)I"⟩
abbrev cX8_bestPace : ByteArray := prog_1_method_14_code
def yX8_bestPace : MethodName := ⟨RX8, "bestPace", "()I"⟩
abbrev cX8_readBack : ByteArray := prog_1_method_15_code
def yX8_readBack : MethodName := ⟨RX8, "readBack", "(I)I"⟩
abbrev cX8_undo : ByteArray := prog_1_method_16_code
def yX8_undo : MethodName := ⟨RX8, "undo", "()I"⟩
abbrev cX8_type : ByteArray := prog_1_method_17_code
def yX8_type : MethodName := ⟨RX8, "type", "(I)I"⟩
abbrev cX8_clearText : ByteArray := prog_1_method_18_code
def yX8_clearText : MethodName := ⟨RX8, "clearText", "()I"⟩
abbrev cX8_write : ByteArray := prog_1_method_19_code
def yX8_write : MethodName := ⟨RX8, "write", "()I"⟩
abbrev cX8_fault : ByteArray := prog_1_method_20_code
def yX8_fault : MethodName := ⟨RX8, "fault", "(I)I"⟩
abbrev cX8_told : ByteArray := prog_1_method_21_code
def yX8_told : MethodName := ⟨RX8, "told", "(I)I"⟩
abbrev cX8_isLetter : ByteArray := prog_1_method_22_code
def yX8_isLetter : MethodName := ⟨RX8, "isLetter", "(I)Z"⟩
abbrev cX8_isPace : ByteArray := prog_1_method_23_code
def yX8_isPace : MethodName := ⟨RX8, "isPace", "(I)Z"⟩
abbrev cX8_isSetting : ByteArray := prog_1_method_24_code
def yX8_isSetting : MethodName := ⟨RX8, "isSetting", "(II)Z"⟩
abbrev cX8_writeAnew : ByteArray := prog_1_method_25_code
def yX8_writeAnew : MethodName := ⟨RX8, "writeAnew", "()V"⟩
abbrev cX8_bitsMoreWith : ByteArray := prog_1_method_26_code
def yX8_bitsMoreWith : MethodName := ⟨RX8, "bitsMoreWith", "(I)I"⟩
abbrev cX8_bitsEnded : ByteArray := prog_1_method_27_code
def yX8_bitsEnded : MethodName := ⟨RX8, "bitsEnded", "(I)I"⟩
abbrev cX8_alikeFromFirst : ByteArray := prog_1_method_28_code
def yX8_alikeFromFirst : MethodName := ⟨RX8, "alikeFromFirst", "()I"⟩
abbrev cX8_faultReason : ByteArray := prog_1_method_29_code
def yX8_faultReason : MethodName := ⟨RX8, "faultReason", "()I"⟩
abbrev cX8_faultPlace : ByteArray := prog_1_method_30_code
def yX8_faultPlace : MethodName := ⟨RX8, "faultPlace", "(I)I"⟩
def RX9 : String := "LearningSpansModel"
def TX9 : u_T := fun k => match k with
  | 0 => ("LearningSpansModel", "all", "[I", true)
  | 1 => ("LearningSpansModel", "history", "[I", true)
  | 2 => ("LearningSpansModel", "historyLong", "I", false)
  | 3 => ("LearningSpansModel", "counts", "[I", true)
  | 4 => ("LearningSpansModel", "total", "I", false)
  | 5 => ("LearningSpansModel", "halvings", "I", false)
  | 6 => ("LearningSpansModel", "low", "I", false)
  | 7 => ("LearningSpansModel", "high", "I", false)
  | 8 => ("LearningSpansModel", "wait", "I", false)
  | 9 => ("LearningSpansModel", "bits", "[I", true)
  | 10 => ("LearningSpansModel", "bitsLong", "I", false)
  | 11 => ("LearningSpansModel", "costs", "[I", true)
  | 12 => ("LearningSpansModel", "given", "[I", true)
  | 13 => ("LearningSpansModel", "givenLong", "I", false)
  | 14 => ("LearningSpansModel", "taken", "I", false)
  | 15 => ("LearningSpansModel", "v", "I", false)
  | 16 => ("LearningSpansModel", "read", "[I", true)
  | 17 => ("LearningSpansModel", "readMany", "I", false)
  | 18 => ("LearningSpansModel", "text", "[I", true)
  | 19 => ("LearningSpansModel", "textLong", "I", false)
  | _ => ("LearningSpansModel", "place", "I", false)
def tyX9 : Nat → FieldType := fun k => match k with
  | 0 => .array .int
  | 1 => .array .int
  | 2 => .int
  | 3 => .array .int
  | 4 => .int
  | 5 => .int
  | 6 => .int
  | 7 => .int
  | 8 => .int
  | 9 => .array .int
  | 10 => .int
  | 11 => .array .int
  | 12 => .array .int
  | 13 => .int
  | 14 => .int
  | 15 => .int
  | 16 => .array .int
  | 17 => .int
  | 18 => .array .int
  | 19 => .int
  | _ => .int
abbrev wsX90 : List Cond := u_ws RX9 TX9 21
theorem nmX9 : ∀ a, a < 21 → ∀ b, b < 21 → a ≠ b → (TX9 a).2.1 ≠ (TX9 b).2.1 := by decide +kernel
theorem tyX9_ok : ∀ k, k < 21 → parseFieldDescriptor (TX9 k).2.2.1 = some (tyX9 k) := by decide +kernel
abbrev cX9_init : ByteArray := prog_11_method_1_code
def yX9_init : MethodName := ⟨RX9, "<init>", "()V"⟩
abbrev cX9_in : ByteArray := prog_11_method_3_code
def yX9_in : MethodName := ⟨RX9, "in", "(JJJ)Z"⟩
abbrev cX9_record : ByteArray := prog_11_method_4_code
def yX9_record : MethodName := ⟨RX9, "record", "()V"⟩
abbrev cX9_beginsCounts : ByteArray := prog_11_method_5_code
def yX9_beginsCounts : MethodName := ⟨RX9, "beginsCounts", "()V"⟩
abbrev cX9_learns : ByteArray := prog_11_method_6_code
def yX9_learns : MethodName := ⟨RX9, "learns", "(II)V"⟩
abbrev cX9_below : ByteArray := prog_11_method_7_code
def yX9_below : MethodName := ⟨RX9, "below", "(I)I"⟩
abbrev cX9_writes : ByteArray := prog_11_method_8_code
def yX9_writes : MethodName := ⟨RX9, "writes", "(I)V"⟩
abbrev cX9_cuts : ByteArray := prog_11_method_9_code
def yX9_cuts : MethodName := ⟨RX9, "cuts", "(I)V"⟩
abbrev cX9_takenOff : ByteArray := prog_11_method_10_code
def yX9_takenOff : MethodName := ⟨RX9, "takenOff", "()I"⟩
abbrev cX9_doubles : ByteArray := prog_11_method_11_code
def yX9_doubles : MethodName := ⟨RX9, "doubles", "(I)V"⟩
abbrev cX9_narrows : ByteArray := prog_11_method_12_code
def yX9_narrows : MethodName := ⟨RX9, "narrows", "(I)V"⟩
abbrev cX9_beginsSpan : ByteArray := prog_11_method_13_code
def yX9_beginsSpan : MethodName := ⟨RX9, "beginsSpan", "()V"⟩
abbrev cX9_ends : ByteArray := prog_11_method_14_code
def yX9_ends : MethodName := ⟨RX9, "ends", "()V"⟩
abbrev cX9_putsAll : ByteArray := prog_11_method_15_code
def yX9_putsAll : MethodName := ⟨RX9, "putsAll", "(IZ)V"⟩
abbrev cX9_putsNow : ByteArray := prog_11_method_16_code
def yX9_putsNow : MethodName := ⟨RX9, "putsNow", "()V"⟩
abbrev cX9_bitsNow : ByteArray := prog_11_method_17_code
def yX9_bitsNow : MethodName := ⟨RX9, "bitsNow", "()I"⟩
abbrev cX9_put : ByteArray := prog_11_method_18_code
def yX9_put : MethodName := ⟨RX9, "put", "(I)I"⟩
abbrev cX9_end : ByteArray := prog_11_method_19_code
def yX9_end : MethodName := ⟨RX9, "end", "()I"⟩
abbrev cX9_begins : ByteArray := prog_11_method_20_code
def yX9_begins : MethodName := ⟨RX9, "begins", "()I"⟩
abbrev cX9_begin : ByteArray := prog_11_method_21_code
def yX9_begin : MethodName := ⟨RX9, "begin", "()I"⟩
abbrev cX9_drop : ByteArray := prog_11_method_22_code
def yX9_drop : MethodName := ⟨RX9, "drop", "(I)I"⟩
abbrev cX9_mend : ByteArray := prog_11_method_23_code
def yX9_mend : MethodName := ⟨RX9, "mend", "(II)I"⟩
abbrev cX9_set : ByteArray := prog_11_method_24_code
def yX9_set : MethodName := ⟨RX9, "set", "(II)I"⟩
abbrev cX9_letter : ByteArray := prog_11_method_25_code
def yX9_letter : MethodName := ⟨RX9, "letter", "(I)I"⟩
abbrev cX9_bit : ByteArray := prog_11_method_26_code
def yX9_bit : MethodName := ⟨RX9, "bit", "(I)I"⟩
abbrev cX9_stands : ByteArray := prog_11_method_27_code
def yX9_stands : MethodName := ⟨RX9, "stands", "(I)I"⟩
abbrev cX9_wouldWrite : ByteArray := prog_11_method_28_code
def yX9_wouldWrite : MethodName := ⟨RX9, "wouldWrite", "(I)I"⟩
abbrev cX9_letterOf : ByteArray := prog_11_method_29_code
def yX9_letterOf : MethodName := ⟨RX9, "letterOf", "(II)I"⟩
abbrev cX9_mostWritten : ByteArray := prog_11_method_30_code
def yX9_mostWritten : MethodName := ⟨RX9, "mostWritten", "()I"⟩
abbrev cX9_count : ByteArray := prog_11_method_31_code
def yX9_count : MethodName := ⟨RX9, "count", "(I)I"⟩
abbrev cX9_cost : ByteArray := prog_11_method_32_code
def yX9_cost : MethodName := ⟨RX9, "cost", "(I)I"⟩
abbrev cX9_bitsOf : ByteArray := prog_11_method_33_code
def yX9_bitsOf : MethodName := ⟨RX9, "bitsOf", "(I)I"⟩
abbrev cX9_bitsBy : ByteArray := prog_11_method_34_code
def yX9_bitsBy : MethodName := ⟨RX9, "bitsBy", "(I)I"⟩
abbrev cX9_bestPace : ByteArray := prog_11_method_35_code
def yX9_bestPace : MethodName := ⟨RX9, "bestPace", "()I"⟩
abbrev cX9_takes : ByteArray := prog_11_method_36_code
def yX9_takes : MethodName := ⟨RX9, "takes", "()V"⟩
abbrev cX9_letterAt : ByteArray := prog_11_method_37_code
def yX9_letterAt : MethodName := ⟨RX9, "letterAt", "()I"⟩
abbrev cX9_reads : ByteArray := prog_11_method_38_code
def yX9_reads : MethodName := ⟨RX9, "reads", "()Z"⟩
abbrev cX9_readBack : ByteArray := prog_11_method_39_code
def yX9_readBack : MethodName := ⟨RX9, "readBack", "(I)I"⟩
abbrev cX9_undo : ByteArray := prog_11_method_40_code
def yX9_undo : MethodName := ⟨RX9, "undo", "()I"⟩
abbrev cX9_type : ByteArray := prog_11_method_41_code
def yX9_type : MethodName := ⟨RX9, "type", "(I)I"⟩
abbrev cX9_clearText : ByteArray := prog_11_method_42_code
def yX9_clearText : MethodName := ⟨RX9, "clearText", "()I"⟩
abbrev cX9_write : ByteArray := prog_11_method_43_code
def yX9_write : MethodName := ⟨RX9, "write", "()I"⟩
abbrev cX9_reason : ByteArray := prog_11_method_44_code
def yX9_reason : MethodName := ⟨RX9, "reason", "()I"⟩
abbrev cX9_fault : ByteArray := prog_11_method_45_code
def yX9_fault : MethodName := ⟨RX9, "fault", "(I)I"⟩
abbrev cX9_told : ByteArray := prog_11_method_46_code
def yX9_told : MethodName := ⟨RX9, "told", "(I)I"⟩
def RJ9 : String := "java/lang/Math"
def TJ9 : u_T := fun k => match k with
  | _ => ("", "", "", false)
def tyJ9 : Nat → FieldType := fun k => match k with
  | _ => .int
abbrev wsJ90 : List Cond := u_ws RJ9 TJ9 0
theorem nmJ9 : ∀ a, a < 0 → ∀ b, b < 0 → a ≠ b → (TJ9 a).2.1 ≠ (TJ9 b).2.1 := by decide +kernel
theorem tyJ9_ok : ∀ k, k < 0 → parseFieldDescriptor (TJ9 k).2.2.1 = some (tyJ9 k) := by decide +kernel
abbrev cJ9_max_7cf53 : ByteArray := prog_12_method_65_code
def yJ9_max_7cf53 : MethodName := ⟨RJ9, "max", "(II)I"⟩
abbrev cJ9_min_7cf53 : ByteArray := prog_12_method_69_code
def yJ9_min_7cf53 : MethodName := ⟨RJ9, "min", "(II)I"⟩
def RL : String := "LearningSpansLaw"
abbrev cL_law : ByteArray := code
def yL_law : MethodName := ⟨RL, "law", "([I)Z"⟩
end
section
/-! the walk's own judgement: V holds of a state of cells, locals and stack written out, for every heap that bears it -/
abbrev vwCl : List vw_C := [(RX0, TX0, 2), (RX1, TX1, 6), (RX2, TX2, 5), (RX3, TX3, 2), (RX4, TX4, 5), (RX5, TX5, 7), (RX6, TX6, 2), (RX7, TX7, 2), (RX8, TX8, 7), (RX9, TX9, 21)]
def AW : List Cond := lw_tbl.filter goodWord
theorem AWm {i : Nat} {w : Cond} (h : tables_1[i]? = some w) (g : goodWord w = true) : w ∈ AW := List.mem_filter.mpr ⟨List.mem_append_right _ (List.mem_of_getElem? h), g⟩
theorem AWs {i : Nat} {q : MethodName × Nat} (h : lw_privs[i]? = some q) : Cond.selects q.1.cls q.1 q.1 ∈ AW := List.mem_filter.mpr ⟨List.mem_append_left _ (List.mem_map.mpr ⟨q, List.mem_of_getElem? h, rfl⟩), rfl⟩
theorem AWgood : ∀ w ∈ AW, goodWord w = true := fun w h => (List.mem_filter.mp h).2
theorem AWsub : ∀ w ∈ AW, w ∈ lw_tbl := fun w h => (List.mem_filter.mp h).1
abbrev TS (y : MethodName) (bytes : ByteArray) (maxL : Nat) (ret : Option FieldType) : List Cond := Cond.code y bytes maxL ret :: AW
theorem AWin {w : Cond} (h : w ∈ AW) : w ∈ AW ∧ ((w.onTables && w.keeps) = true ∨ ∃ ty, w = .arrayClass ty) := ⟨h, good_of_word (AWgood _ h)⟩
theorem goodTS {y : MethodName} {bytes : ByteArray} {maxL : Nat} {ret : Option FieldType} (hc : Cond.code y bytes maxL ret ∈ AW) : GoodIn AW (TS y bytes maxL ret) := fun w h => by
  rcases List.mem_cons.mp h with rfl | h
  · exact AWin hc
  · exact AWin h
/-- what a call wants of the method that it calls, out of the tables -/
abbrev MOK (C : String) (y : MethodName) (bytes : ByteArray) (maxL : Nat) (ret : Option FieldType) (n : Nat) : Prop := Cond.instanceMethod y ∈ AW ∧ Cond.selects C y y ∈ AW ∧ Cond.initialized C ∈ AW ∧ Cond.code y bytes maxL ret ∈ AW ∧ (y.cls = C ∧ y.cls ≠ "java/lang/invoke/MethodHandle" ∧ y.cls ≠ "java/lang/invoke/VarHandle" ∧ (parseMethodDescriptor y.desc).map (fun d => d.parameters.length) = some n)
abbrev MOKs (y : MethodName) (bytes : ByteArray) (maxL : Nat) (ret : Option FieldType) (n : Nat) : Prop := Cond.static y ∈ AW ∧ Cond.initialized y.cls ∈ AW ∧ Cond.code y bytes maxL ret ∈ AW ∧ (y.cls ≠ "java/lang/invoke/MethodHandle" ∧ y.cls ≠ "java/lang/invoke/VarHandle" ∧ (parseMethodDescriptor y.desc).map (fun d => d.parameters.length) = some n)
abbrev MOKi (y : MethodName) (bytes : ByteArray) (maxL : Nat) (n : Nat) : Prop := Cond.instanceMethod y ∈ AW ∧ Cond.initialized y.cls ∈ AW ∧ Cond.code y bytes maxL none ∈ AW ∧ y.name = "<init>" ∧ (y.cls ≠ "java/lang/invoke/MethodHandle" ∧ y.cls ≠ "java/lang/invoke/VarHandle" ∧ (parseMethodDescriptor y.desc).map (fun d => d.parameters.length) = some n)
theorem goodV {own C : String} {idx maxL n : Nat} {y : MethodName} {bytes : ByteArray} {ret : Option FieldType} (hl : Cond.methodLink own idx y ∈ AW) (h : MOK C y bytes maxL ret n) : GoodIn AW (wsV own idx C y (TS y bytes maxL ret)) := by
  intro w hw
  rcases List.mem_append.mp hw with hw | hw
  · simp only [List.mem_cons, List.not_mem_nil, or_false] at hw
    rcases hw with rfl | rfl | rfl | rfl
    · exact AWin hl
    · exact AWin h.1
    · exact AWin h.2.1
    · exact AWin h.2.2.1
  · exact goodTS h.2.2.2.1 w hw
theorem goodS {own : String} {idx maxL n : Nat} {y : MethodName} {bytes : ByteArray} {ret : Option FieldType} (hl : Cond.methodLink own idx y ∈ AW) (h : MOKs y bytes maxL ret n) : GoodIn AW (va_wsS own idx y (TS y bytes maxL ret)) := by
  intro w hw
  rcases List.mem_append.mp hw with hw | hw
  · simp only [List.mem_cons, List.not_mem_nil, or_false] at hw
    rcases hw with rfl | rfl | rfl
    · exact AWin hl
    · exact AWin h.1
    · exact AWin h.2.1
  · exact goodTS h.2.2.1 w hw
/-- the links among nest mates: no word of a contract may say them, so they ride in the world -/
def isNest : Cond → Bool
  | .fieldLinkNest .. => true
  | .methodLinkNest .. => true
  | _ => false
def NW (U : State) : Prop := ∀ w ∈ tables_1, isNest w = true → va_Nw w U
theorem NW.warm {s U : State} (hW : s.WarmedH U.vm) (h : NW s) : NW U := by
  intro w hw hn
  have h1 := h w hw hn
  cases w <;> first | exact va_Nw.warmF hW h1 | exact va_Nw.warmM hW h1 | (simp [isNest] at hn)
theorem NW.same {s U : State} (e : s.vm = U.vm) (h : NW s) : NW U := by
  intro w hw hn
  have h1 := h w hw hn
  cases w <;> first | exact va_Nw.same rfl e h1 | (simp [isNest] at hn)
theorem NW.at {s : State} (h : NW s) {w : Cond} {i : Nat} (hi : tables_1[i]? = some w) (hn : isNest w = true) : va_Nw w s := h w (List.mem_of_getElem? hi) hn
def Pin (D : va_G) (tys : List (ClassId × FieldType)) (av : List Value) (ws : va_W) (sz : Nat) : Array Value → State → Prop :=
  va_Pc av (fun U => U.heap.size = sz ∧ va_P D vwCl ws U.heap ∧ va_K D vwCl tys U ∧ va_D (fun _ => True) ws ∧ NW U)
theorem Pin.blind {D : va_G} {tys : List (ClassId × FieldType)} {av : List Value} {ws : va_W} {sz : Nat} : FrameBlind (Pin D tys av ws sz) := fun a U g mk q => by
  obtain ⟨q0, q1, qP, qK, qD, qN⟩ := q
  exact ⟨q0, q1, qP, va_K.moved (u := U) (U := U.calling g mk a) (Vm.Alike.refl U.vm) qK, qD, NW.same (s := U) rfl qN⟩
def Bo {S : Type} (D : va_G) (tys : List (ClassId × FieldType)) (A : Nat → Prop) (wo : S → va_W) : S → State → Prop := fun u t => va_P D vwCl (wo u) t.heap ∧ va_K D vwCl tys t ∧ va_D A (wo u)
/-- the contract of a method that answers an int (MI), or nothing (MV): cells wi before, cells 'wo u' behind it, 'post answer u' -/
def MI {S : Type} (l : Launch) (y : MethodName) (bytes : ByteArray) (maxL : Nat) (ret : Option FieldType) (rm : Room) (D : va_G) (tys : List (ClassId × FieldType)) (av : List Value) (wi : va_W) (post : Int32 → S → Prop) (wo : S → va_W) (mc ms : Nat) : Prop :=
  ∀ sz : Nat, Met l y (TS y bytes maxL ret) rm (Pin D tys av wi sz) (va_Qi post (Bo D tys (va_A wi sz) wo) (va_A wi sz)) mc ms (va_A wi sz)
def MV {S : Type} (l : Launch) (y : MethodName) (bytes : ByteArray) (maxL : Nat) (ret : Option FieldType) (rm : Room) (D : va_G) (tys : List (ClassId × FieldType)) (av : List Value) (wi : va_W) (post : S → Prop) (wo : S → va_W) (mc ms : Nat) : Prop :=
  ∀ sz : Nat, Met l y (TS y bytes maxL ret) rm (Pin D tys av wi sz) (va_Qv post (Bo D tys (va_A wi sz) wo) (va_A wi sz)) mc ms (va_A wi sz)
abbrev Cx (p : Program) (s : State) (m : MethodId) (args : Array Value) (c : Code) (cc : ByteArray) (nL : Nat) (own : String) (D : va_G) (tys : List (ClassId × FieldType)) (A : Nat → Prop) (H0 : Heap) : Prop :=
  CallFix p m c cc nL s args AW own ∧ va_K D vwCl tys s ∧ (∀ q, H0.size ≤ q → A q) ∧ NW s
def V (p : Program) (l : Launch) (e : Env) (R : Room) (s : State) (m : MethodId) (args : Array Value) (below : List Frame) (meth : Method) (c : Code) (D : va_G) (A : Nat → Prop) (H0 : Heap) (nL : Nat) (Q : State → Prop) (ws : va_W) (lv : List (Nat × Value)) (cells slots pc : Nat) (st : List Value) : Prop :=
  ∀ (H : Heap) (locs : List Loc) (ls : Array Slot), va_P D vwCl ws H → va_D A ws → va_S A H0 H locs → lv_has ls nL lv → W p l e R s m args below meth c H locs cells slots Q (F0 m pc ls st)
section VV
variable {p : Program} {l : Launch} {e : Env} {R : Room} {s : State} {m : MethodId} {args : Array Value} {below : List Frame} {meth : Method} {c : Code} {D : va_G} {A : Nat → Prop} {H0 : Heap} {nL : Nat} {Q : State → Prop} {ws : va_W} {lv : List (Nat × Value)} {cells slots pc : Nat} {rest st : List Value} {cc : ByteArray} {own : String} {tys : List (ClassId × FieldType)}
theorem MI.start {S : Type} {y : MethodName} {bytes : ByteArray} {maxL : Nat} {ret : Option FieldType} {rm : Room} {av : List Value} {wi : va_W} {post : Int32 → S → Prop} {wo : S → va_W} {mc ms : Nat} (hy : plainName y.cls = true) (hn : (lg_sl av).length ≤ maxL) {lv0 : List (Nat × Value)} (hlv : lv_args 0 av = lv0)
    (body : ∀ (p : Program) (e : Env) (s : State) (m : MethodId) (args : Array Value) (below : List Frame) (meth : Method) (c : Code) (A : Nat → Prop) (Q9 : State → Prop), Q9 = MQ below (va_Qi post (Bo D tys A wo) A) args s mc ms A → Cx p s m args c bytes maxL y.cls D tys A s.heap → meth.sig.returnType = ret → meth.locks = false → meth.name = y.name →
      V p l e rm s m args below meth c D A s.heap maxL Q9 wi lv0 0 0 0 []) : MI l y bytes maxL ret rm D tys av wi post wo mc ms := by
  intro sz
  refine Met.ofW (cc := bytes) (maxL := maxL) (ret := ret) hy rfl ?_
  intro p e s m args below meth c s₁ B hml hv
  obtain ⟨rfl, hsz, hP, hK, hD0, hN⟩ := hv
  subst hsz
  subst hlv
  have hts := atoms_spec (ws := TS y bytes maxL ret) B.pre
  have hown : s.vm.findClass y.cls = some m.cls := findClass_of_methodNamed B.named
  have hl := lv_entry av (n := maxL) hn
  rw [lg_entry_eq]
  exact body p e s m av.toArray below meth c (va_A wi s.heap.size) _ rfl ⟨⟨B.exec, B.bytes, hml, hown, fun w h => hts w (List.mem_cons_of_mem _ h)⟩, hK, fun q h => Or.inr h, hN⟩ B.returns B.notSynchronized (name_of_methodNamed B.named B.method).1 s.heap [] _ hP hD0.self va_S.rf hl
theorem MV.start {S : Type} {y : MethodName} {bytes : ByteArray} {maxL : Nat} {ret : Option FieldType} {rm : Room} {av : List Value} {wi : va_W} {post : S → Prop} {wo : S → va_W} {mc ms : Nat} (hy : plainName y.cls = true) (hn : (lg_sl av).length ≤ maxL) {lv0 : List (Nat × Value)} (hlv : lv_args 0 av = lv0)
    (body : ∀ (p : Program) (e : Env) (s : State) (m : MethodId) (args : Array Value) (below : List Frame) (meth : Method) (c : Code) (A : Nat → Prop) (Q9 : State → Prop), Q9 = MQ below (va_Qv post (Bo D tys A wo) A) args s mc ms A → Cx p s m args c bytes maxL y.cls D tys A s.heap → meth.sig.returnType = ret → meth.locks = false → meth.name = y.name →
      V p l e rm s m args below meth c D A s.heap maxL Q9 wi lv0 0 0 0 []) : MV l y bytes maxL ret rm D tys av wi post wo mc ms := by
  intro sz
  refine Met.ofW (cc := bytes) (maxL := maxL) (ret := ret) hy rfl ?_
  intro p e s m args below meth c s₁ B hml hv
  obtain ⟨rfl, hsz, hP, hK, hD0, hN⟩ := hv
  subst hsz
  subst hlv
  have hts := atoms_spec (ws := TS y bytes maxL ret) B.pre
  have hown : s.vm.findClass y.cls = some m.cls := findClass_of_methodNamed B.named
  have hl := lv_entry av (n := maxL) hn
  rw [lg_entry_eq]
  exact body p e s m av.toArray below meth c (va_A wi s.heap.size) _ rfl ⟨⟨B.exec, B.bytes, hml, hown, fun w h => hts w (List.mem_cons_of_mem _ h)⟩, hK, fun q h => Or.inr h, hN⟩ B.returns B.notSynchronized (name_of_methodNamed B.named B.method).1 s.heap [] _ hP hD0.self va_S.rf hl
theorem V_ws {ws2 : va_W} (h : ws = ws2) (K : V p l e R s m args below meth c D A H0 nL Q ws2 lv cells slots pc st) : V p l e R s m args below meth c D A H0 nL Q ws lv cells slots pc st := by subst h; exact K
theorem V_st {st2 : List Value} (h : st = st2) (K : V p l e R s m args below meth c D A H0 nL Q ws lv cells slots pc st2) : V p l e R s m args below meth c D A H0 nL Q ws lv cells slots pc st := by subst h; exact K
theorem V_lv {lv2 : List (Nat × Value)} (h : lv = lv2) (K : V p l e R s m args below meth c D A H0 nL Q ws lv2 cells slots pc st) : V p l e R s m args below meth c D A H0 nL Q ws lv cells slots pc st := by subst h; exact K
theorem V_pick {lv2 : List (Nat × Value)} (ks : List Nat) (h : lv_pick lv ks = lv2) (K : V p l e R s m args below meth c D A H0 nL Q ws lv2 cells slots pc st) : V p l e R s m args below meth c D A H0 nL Q ws lv cells slots pc st := fun H locs ls hP hD hS hl => K H locs ls hP hD hS (lv_sub hl ks h)
theorem va_subM {cl : List vw_C} {ws ws' : va_W} {H : Heap} (h : va_P D cl ws H) (is : List Nat) (hs : is.map (fun i => ws[i]?) = ws'.map some) : va_P D cl ws' H := by
  intro k q hq
  have h1 : (is.map (fun i => ws[i]?))[k]? = some (some q) := by rw [hs, List.getElem?_map, hq]; rfl
  rw [List.getElem?_map] at h1
  cases hi : is[k]? with
  | none => rw [hi] at h1; cases h1
  | some i => rw [hi] at h1; exact h i q (Option.some.inj h1)
theorem V_perm {ws2 : va_W} (is : List Nat) (hs : is.map (fun i => ws[i]?) = ws2.map some) (hn : va_nd is = true) (K : V p l e R s m args below meth c D A H0 nL Q ws2 lv cells slots pc st) : V p l e R s m args below meth c D A H0 nL Q ws lv cells slots pc st := fun H locs ls hP hD hS hl => K H locs ls (va_subM hP is hs) (hD.sub is hn hs) hS hl
/-- cells that are the same in all that can be read -/
theorem vp_cell_cong {cA : ClassId} {n : Nat} {f g : Nat → Int32} (h : ∀ j, j < n → f j = g j) : vp_cell cA (n, .inl f) = vp_cell cA (n, .inl g) := by
  rw [vp_cell_i, vp_cell_i]
  unfold arrV
  congr 1
  congr 1
  funext j
  exact congrArg Value.int (h j.val j.isLt)
theorem va_P.cong {cl : List vw_C} {ws : va_W} {H : Heap} {k a : Nat} {cA : ClassId} {n : Nat} {f g : Nat → Int32} (hP : va_P D cl ws H) (hk : ws[k]? = some (a, .inl (cA, n, .inl f))) (h : ∀ j, j < n → f j = g j) : va_P D cl (ws.set k (a, .inl (cA, n, .inl g))) H := by
  intro i q hq
  by_cases hi : i = k
  · subst hi
    have hl : i < ws.length := (List.getElem?_eq_some_iff.mp hk).1
    rw [List.getElem?_set_self hl] at hq
    cases hq
    have h1 := hP i _ hk
    show H[a]? = some (vp_cell cA (n, .inl g))
    rw [← vp_cell_cong h]
    exact h1
  · rw [List.getElem?_set_ne (fun e => hi e.symm)] at hq
    exact hP i q hq
theorem V_cong {k a n : Nat} {cA : ClassId} {f g : Nat → Int32} (hk : ws[k]? = some (a, .inl (cA, n, .inl f))) (h : ∀ j, j < n → f j = g j) {ws2 : va_W} (hw : ws.set k (a, .inl (cA, n, .inl g)) = ws2) (K : V p l e R s m args below meth c D A H0 nL Q ws2 lv cells slots pc st) : V p l e R s m args below meth c D A H0 nL Q ws lv cells slots pc st := by
  subst hw
  exact fun H locs ls hP hD hS hl => K H locs ls (hP.cong hk h) (hD.set hk) hS hl
theorem V_iconst (C : Cx p s m args c cc nL own D tys A H0) {n : Int} {v : Int32} (d : decode cc pc = .ok (.iconst n, 1)) (hv : Int32.ofInt n = v) (K : V p l e R s m args below meth c D A H0 nL Q ws lv cells slots (pc + 1) (.int v :: rest)) : V p l e R s m args below meth c D A H0 nL Q ws lv cells slots pc rest := fun H locs ls hP hD hS hl => lv_iconst C.1.1 C.1.2.1 d hv (K H locs ls hP hD hS hl)
theorem V_bipush (C : Cx p s m args c cc nL own D tys A H0) {n : Int} {v : Int32} (d : decode cc pc = .ok (.bipush n, 2)) (hv : (Int8.ofInt n).toInt32 = v) (K : V p l e R s m args below meth c D A H0 nL Q ws lv cells slots (pc + 2) (.int v :: rest)) : V p l e R s m args below meth c D A H0 nL Q ws lv cells slots pc rest := fun H locs ls hP hD hS hl => lv_bipush C.1.1 C.1.2.1 d hv (K H locs ls hP hD hS hl)
theorem V_sipush (C : Cx p s m args c cc nL own D tys A H0) {n : Int} {v : Int32} (d : decode cc pc = .ok (.sipush n, 3)) (hv : (Int16.ofInt n).toInt32 = v) (K : V p l e R s m args below meth c D A H0 nL Q ws lv cells slots (pc + 3) (.int v :: rest)) : V p l e R s m args below meth c D A H0 nL Q ws lv cells slots pc rest := fun H locs ls hP hD hS hl => lv_sipush C.1.1 C.1.2.1 d hv (K H locs ls hP hD hS hl)
theorem V_ldc (C : Cx p s m args c cc nL own D tys A H0) {index : Nat} {v v2 : Int32} (d : decode cc pc = .ok (.ldc index, 2)) (hw : Cond.constant own index v ∈ AW) (hv : v = v2) (K : V p l e R s m args below meth c D A H0 nL Q ws lv cells slots (pc + 2) (.int v2 :: rest)) : V p l e R s m args below meth c D A H0 nL Q ws lv cells slots pc rest := fun H locs ls hP hD hS hl => lv_ldc C.1.1 C.1.2.1 C.1.2.2.2.1 (hv ▸ C.1.2.2.2.2 _ hw) d (K H locs ls hP hD hS hl)
theorem V_ldc2 (C : Cx p s m args c cc nL own D tys A H0) {index : Nat} {v v2 : Int64} (d : decode cc pc = .ok (.ldc2_w index, 3)) (hw : Cond.constantLong own index v ∈ AW) (hv : v = v2) (K : V p l e R s m args below meth c D A H0 nL Q ws lv cells slots (pc + 3) (.long v2 :: rest)) : V p l e R s m args below meth c D A H0 nL Q ws lv cells slots pc rest := fun H locs ls hP hD hS hl => lv_ldc2 C.1.1 C.1.2.1 C.1.2.2.2.1 (hv ▸ C.1.2.2.2.2 _ hw) d (K H locs ls hP hD hS hl)
theorem V_lconst (C : Cx p s m args c cc nL own D tys A H0) {n : Fin 2} {v : Int64} (d : decode cc pc = .ok (.lconst n, 1)) (hv : Int64.ofNat (n : Nat) = v) (K : V p l e R s m args below meth c D A H0 nL Q ws lv cells slots (pc + 1) (.long v :: rest)) : V p l e R s m args below meth c D A H0 nL Q ws lv cells slots pc rest := fun H locs ls hP hD hS hl => lv_lconst C.1.1 C.1.2.1 d hv (K H locs ls hP hD hS hl)
theorem V_iload_n (C : Cx p s m args c cc nL own D tys A H0) {k : Fin 4} {i : Nat} {x : Int32} (d : decode cc pc = .ok (.iload_n k, 1)) (hi : (k : Nat) = i) (q : Nat) (hq : lv[q]? = some (i, .int x)) (K : V p l e R s m args below meth c D A H0 nL Q ws lv cells slots (pc + 1) (.int x :: rest)) : V p l e R s m args below meth c D A H0 nL Q ws lv cells slots pc rest := fun H locs ls hP hD hS hl => lv_iload_n C.1.1 C.1.2.1 d hi (lv_at hl q hq) (K H locs ls hP hD hS hl)
theorem V_iload (C : Cx p s m args c cc nL own D tys A H0) {i : Nat} {x : Int32} (d : decode cc pc = .ok (.iload i, 2)) (q : Nat) (hq : lv[q]? = some (i, .int x)) (K : V p l e R s m args below meth c D A H0 nL Q ws lv cells slots (pc + 2) (.int x :: rest)) : V p l e R s m args below meth c D A H0 nL Q ws lv cells slots pc rest := fun H locs ls hP hD hS hl => lv_iload C.1.1 C.1.2.1 d (lv_at hl q hq) (K H locs ls hP hD hS hl)
theorem V_aload_n (C : Cx p s m args c cc nL own D tys A H0) {k : Fin 4} {i : Nat} {x : Nat} (d : decode cc pc = .ok (.aload_n k, 1)) (hi : (k : Nat) = i) (q : Nat) (hq : lv[q]? = some (i, .ref x)) (K : V p l e R s m args below meth c D A H0 nL Q ws lv cells slots (pc + 1) (.ref x :: rest)) : V p l e R s m args below meth c D A H0 nL Q ws lv cells slots pc rest := fun H locs ls hP hD hS hl => lv_aload_n C.1.1 C.1.2.1 d hi (lv_at hl q hq) (K H locs ls hP hD hS hl)
theorem V_aload (C : Cx p s m args c cc nL own D tys A H0) {i : Nat} {x : Nat} (d : decode cc pc = .ok (.aload i, 2)) (q : Nat) (hq : lv[q]? = some (i, .ref x)) (K : V p l e R s m args below meth c D A H0 nL Q ws lv cells slots (pc + 2) (.ref x :: rest)) : V p l e R s m args below meth c D A H0 nL Q ws lv cells slots pc rest := fun H locs ls hP hD hS hl => lv_aload C.1.1 C.1.2.1 d (lv_at hl q hq) (K H locs ls hP hD hS hl)
theorem V_lload_n (C : Cx p s m args c cc nL own D tys A H0) {k : Fin 4} {i : Nat} {x : Int64} (d : decode cc pc = .ok (.lload_n k, 1)) (hi : (k : Nat) = i) (q : Nat) (hq : lv[q]? = some (i, .long x)) (K : V p l e R s m args below meth c D A H0 nL Q ws lv cells slots (pc + 1) (.long x :: rest)) : V p l e R s m args below meth c D A H0 nL Q ws lv cells slots pc rest := fun H locs ls hP hD hS hl => lv_lload_n C.1.1 C.1.2.1 d hi (lv_at hl q hq) (K H locs ls hP hD hS hl)
theorem V_lload (C : Cx p s m args c cc nL own D tys A H0) {i : Nat} {x : Int64} (d : decode cc pc = .ok (.lload i, 2)) (q : Nat) (hq : lv[q]? = some (i, .long x)) (K : V p l e R s m args below meth c D A H0 nL Q ws lv cells slots (pc + 2) (.long x :: rest)) : V p l e R s m args below meth c D A H0 nL Q ws lv cells slots pc rest := fun H locs ls hP hD hS hl => lv_lload C.1.1 C.1.2.1 d (lv_at hl q hq) (K H locs ls hP hD hS hl)
theorem V_istore_n (C : Cx p s m args c cc nL own D tys A H0) {k : Fin 4} {i : Nat} {x : Int32} (d : decode cc pc = .ok (.istore_n k, 1)) (hi : (k : Nat) = i) (hn : i < nL) {lv2 : List (Nat × Value)} (ks : List Nat) (hl2 : lv_pick ((i, Value.int x) :: lv.filter (fun q => !(q.1 == i) && !(q.1 + 1 == i && q.2.category == 2))) ks = lv2) (K : V p l e R s m args below meth c D A H0 nL Q ws lv2 cells slots (pc + 1) rest) : V p l e R s m args below meth c D A H0 nL Q ws lv cells slots pc (.int x :: rest) := fun H locs ls hP hD hS hl => lv_istore_n C.1.1 C.1.2.1 d hi hl hn rfl (fun ls2 hl3 => K H locs ls2 hP hD hS (lv_sub hl3 ks hl2))
theorem V_istore (C : Cx p s m args c cc nL own D tys A H0) {i : Nat} {x : Int32} (d : decode cc pc = .ok (.istore i, 2)) (hn : i < nL) {lv2 : List (Nat × Value)} (ks : List Nat) (hl2 : lv_pick ((i, Value.int x) :: lv.filter (fun q => !(q.1 == i) && !(q.1 + 1 == i && q.2.category == 2))) ks = lv2) (K : V p l e R s m args below meth c D A H0 nL Q ws lv2 cells slots (pc + 2) rest) : V p l e R s m args below meth c D A H0 nL Q ws lv cells slots pc (.int x :: rest) := fun H locs ls hP hD hS hl => lv_istore C.1.1 C.1.2.1 d hl hn rfl (fun ls2 hl3 => K H locs ls2 hP hD hS (lv_sub hl3 ks hl2))
theorem V_astore_n (C : Cx p s m args c cc nL own D tys A H0) {k : Fin 4} {i : Nat} {x : Nat} (d : decode cc pc = .ok (.astore_n k, 1)) (hi : (k : Nat) = i) (hn : i < nL) {lv2 : List (Nat × Value)} (ks : List Nat) (hl2 : lv_pick ((i, Value.ref x) :: lv.filter (fun q => !(q.1 == i) && !(q.1 + 1 == i && q.2.category == 2))) ks = lv2) (K : V p l e R s m args below meth c D A H0 nL Q ws lv2 cells slots (pc + 1) rest) : V p l e R s m args below meth c D A H0 nL Q ws lv cells slots pc (.ref x :: rest) := fun H locs ls hP hD hS hl => lv_astore_n C.1.1 C.1.2.1 d hi hl hn rfl (fun ls2 hl3 => K H locs ls2 hP hD hS (lv_sub hl3 ks hl2))
theorem V_astore (C : Cx p s m args c cc nL own D tys A H0) {i : Nat} {x : Nat} (d : decode cc pc = .ok (.astore i, 2)) (hn : i < nL) {lv2 : List (Nat × Value)} (ks : List Nat) (hl2 : lv_pick ((i, Value.ref x) :: lv.filter (fun q => !(q.1 == i) && !(q.1 + 1 == i && q.2.category == 2))) ks = lv2) (K : V p l e R s m args below meth c D A H0 nL Q ws lv2 cells slots (pc + 2) rest) : V p l e R s m args below meth c D A H0 nL Q ws lv cells slots pc (.ref x :: rest) := fun H locs ls hP hD hS hl => lv_astore C.1.1 C.1.2.1 d hl hn rfl (fun ls2 hl3 => K H locs ls2 hP hD hS (lv_sub hl3 ks hl2))
theorem V_iinc (C : Cx p s m args c cc nL own D tys A H0) {i q : Nat} {n : Int} {x v : Int32} (d : decode cc pc = .ok (.iinc i n, 3)) (hq : lv[q]? = some (i, .int x)) (hv : x + Int32.ofInt n = v) (hn : i < nL) {lv2 : List (Nat × Value)} (ks : List Nat) (hl2 : lv_pick ((i, Value.int v) :: lv.filter (fun q => !(q.1 == i) && !(q.1 + 1 == i && q.2.category == 2))) ks = lv2) (K : V p l e R s m args below meth c D A H0 nL Q ws lv2 cells slots (pc + 3) rest) : V p l e R s m args below meth c D A H0 nL Q ws lv cells slots pc rest := fun H locs ls hP hD hS hl => lv_iinc C.1.1 C.1.2.1 d hl hq hv hn rfl (fun ls2 hl3 => K H locs ls2 hP hD hS (lv_sub hl3 ks hl2))
theorem V_iadd (C : Cx p s m args c cc nL own D tys A H0) {a b : Nat} (d : decode cc pc = .ok (.iadd, 1))  (K : V p l e R s m args below meth c D A H0 nL Q ws lv cells slots (pc + 1) (.int (nI (a + b)) :: rest)) : V p l e R s m args below meth c D A H0 nL Q ws lv cells slots pc (.int (nI b) :: .int (nI a) :: rest) := fun H locs ls hP hD hS hl => lv_iadd C.1.1 C.1.2.1 d  (by rw [nI_add]; exact K H locs ls hP hD hS hl)
theorem V_isub (C : Cx p s m args c cc nL own D tys A H0) {a b : Nat} (d : decode cc pc = .ok (.isub, 1)) (h : b ≤ a) (K : V p l e R s m args below meth c D A H0 nL Q ws lv cells slots (pc + 1) (.int (nI (a - b)) :: rest)) : V p l e R s m args below meth c D A H0 nL Q ws lv cells slots pc (.int (nI b) :: .int (nI a) :: rest) := fun H locs ls hP hD hS hl => lv_isub C.1.1 C.1.2.1 d  (by rw [pk_sub h]; exact K H locs ls hP hD hS hl)
theorem V_imul (C : Cx p s m args c cc nL own D tys A H0) {a b : Nat} (d : decode cc pc = .ok (.imul, 1))  (K : V p l e R s m args below meth c D A H0 nL Q ws lv cells slots (pc + 1) (.int (nI (a * b)) :: rest)) : V p l e R s m args below meth c D A H0 nL Q ws lv cells slots pc (.int (nI b) :: .int (nI a) :: rest) := fun H locs ls hP hD hS hl => lv_imul C.1.1 C.1.2.1 d  (by rw [pk_mul]; exact K H locs ls hP hD hS hl)
theorem V_idiv (C : Cx p s m args c cc nL own D tys A H0) {a b : Nat} (d : decode cc pc = .ok (.idiv, 1)) (h0 : 0 < b) (ha : a < 2147483648) (hb : b < 2147483648) (K : V p l e R s m args below meth c D A H0 nL Q ws lv cells slots (pc + 1) (.int (nI (a / b)) :: rest)) : V p l e R s m args below meth c D A H0 nL Q ws lv cells slots pc (.int (nI b) :: .int (nI a) :: rest) := fun H locs ls hP hD hS hl => lv_idiv C.1.1 C.1.2.1 d (nI_ne0 h0 hb) (by rw [pk_div ha h0 hb]; exact K H locs ls hP hD hS hl)
theorem V_iand (C : Cx p s m args c cc nL own D tys A H0) {x y : Int32} (d : decode cc pc = .ok (.iand, 1)) (K : V p l e R s m args below meth c D A H0 nL Q ws lv cells slots (pc + 1) (.int (x &&& y) :: rest)) : V p l e R s m args below meth c D A H0 nL Q ws lv cells slots pc (.int y :: .int x :: rest) := fun H locs ls hP hD hS hl => lv_iand C.1.1 C.1.2.1 d (K H locs ls hP hD hS hl)
theorem V_i2l (C : Cx p s m args c cc nL own D tys A H0) {x : Int32} {v : Int64} (d : decode cc pc = .ok (.i2l, 1)) (hv : x.toInt64 = v) (K : V p l e R s m args below meth c D A H0 nL Q ws lv cells slots (pc + 1) (.long v :: rest)) : V p l e R s m args below meth c D A H0 nL Q ws lv cells slots pc (.int x :: rest) := fun H locs ls hP hD hS hl => lv_i2l C.1.1 C.1.2.1 d hv (K H locs ls hP hD hS hl)
theorem V_lcmp (C : Cx p s m args c cc nL own D tys A H0) {x y : Int64} {v : Int32} (d : decode cc pc = .ok (.lcmp, 1)) (hv : lg_cmp x y = v) (K : V p l e R s m args below meth c D A H0 nL Q ws lv cells slots (pc + 1) (.int v :: rest)) : V p l e R s m args below meth c D A H0 nL Q ws lv cells slots pc (.long y :: .long x :: rest) := fun H locs ls hP hD hS hl => W.lcmp C.1.1 C.1.2.1 d (hv ▸ (K H locs ls hP hD hS hl))
theorem V_dup (C : Cx p s m args c cc nL own D tys A H0) {va : Value} (d : decode cc pc = .ok (.dup, 1)) (hva : va.category = 1) (K : V p l e R s m args below meth c D A H0 nL Q ws lv cells slots (pc + 1) (va :: va :: rest)) : V p l e R s m args below meth c D A H0 nL Q ws lv cells slots pc (va :: rest) := fun H locs ls hP hD hS hl => lv_dup C.1.1 C.1.2.1 d hva (K H locs ls hP hD hS hl)
theorem V_pop (C : Cx p s m args c cc nL own D tys A H0) {va : Value} (d : decode cc pc = .ok (.pop, 1)) (hva : va.category = 1) (K : V p l e R s m args below meth c D A H0 nL Q ws lv cells slots (pc + 1) rest) : V p l e R s m args below meth c D A H0 nL Q ws lv cells slots pc (va :: rest) := fun H locs ls hP hD hS hl => lv_pop C.1.1 C.1.2.1 d hva (K H locs ls hP hD hS hl)
theorem V_dup2 (C : Cx p s m args c cc nL own D tys A H0) {va vb : Value} (d : decode cc pc = .ok (.dup2, 1)) (hva : va.category = 1) (hvb : vb.category = 1) (K : V p l e R s m args below meth c D A H0 nL Q ws lv cells slots (pc + 1) (va :: vb :: va :: vb :: rest)) : V p l e R s m args below meth c D A H0 nL Q ws lv cells slots pc (va :: vb :: rest) := fun H locs ls hP hD hS hl => lv_dup2_11 C.1.1 C.1.2.1 d hva hvb (K H locs ls hP hD hS hl)
theorem V_goto (C : Cx p s m args c cc nL own D tys A H0) {off : Int} {tgt : Nat} (d : decode cc pc = .ok (.goto off, 3)) (ht : (pc : Int) + off = (tgt : Int)) (K : V p l e R s m args below meth c D A H0 nL Q ws lv cells slots tgt rest) : V p l e R s m args below meth c D A H0 nL Q ws lv cells slots pc rest := fun H locs ls hP hD hS hl => lv_goto C.1.1 C.1.2.1 d ht (K H locs ls hP hD hS hl)
theorem V_icmp_eq_T (C : Cx p s m args c cc nL own D tys A H0) {x y : Int32} {off : Int} {tgt : Nat} (d : decode cc pc = .ok (.if_icmp .eq off, 3)) (ht : (pc : Int) + off = (tgt : Int)) (h : x = y) (K : V p l e R s m args below meth c D A H0 nL Q ws lv cells slots tgt rest) : V p l e R s m args below meth c D A H0 nL Q ws lv cells slots pc (.int y :: .int x :: rest) := fun H locs ls hP hD hS hl => lv_icmp_eq C.1.1 C.1.2.1 d ht (fun _ => K H locs ls hP hD hS hl) (fun z => absurd h z)
theorem V_icmp_eq_F (C : Cx p s m args c cc nL own D tys A H0) {x y : Int32} {off : Int} {tgt : Nat} (d : decode cc pc = .ok (.if_icmp .eq off, 3)) (ht : (pc : Int) + off = (tgt : Int)) (h : ¬ x = y) (K : V p l e R s m args below meth c D A H0 nL Q ws lv cells slots (pc + 3) rest) : V p l e R s m args below meth c D A H0 nL Q ws lv cells slots pc (.int y :: .int x :: rest) := fun H locs ls hP hD hS hl => lv_icmp_eq C.1.1 C.1.2.1 d ht (fun z => absurd z h) (fun _ => K H locs ls hP hD hS hl)
theorem V_icmp_eq (C : Cx p s m args c cc nL own D tys A H0) {a b : Nat} (ha : a < 2147483648) (hb : b < 2147483648) {off : Int} {tgt : Nat} (d : decode cc pc = .ok (.if_icmp .eq off, 3)) (ht : (pc : Int) + off = (tgt : Int)) (kt : a = b → V p l e R s m args below meth c D A H0 nL Q ws lv cells slots tgt rest) (kf : a ≠ b → V p l e R s m args below meth c D A H0 nL Q ws lv cells slots (pc + 3) rest) : V p l e R s m args below meth c D A H0 nL Q ws lv cells slots pc (.int (nI b) :: .int (nI a) :: rest) := fun H locs ls hP hD hS hl => lv_icmp_eq C.1.1 C.1.2.1 d ht (fun h => kt ((nI_eq ha hb).mp h) H locs ls hP hD hS hl) (fun h => kf (fun z => h ((nI_eq ha hb).mpr z)) H locs ls hP hD hS hl)
theorem V_if_eq_T (C : Cx p s m args c cc nL own D tys A H0) {x : Int32} {off : Int} {tgt : Nat} (d : decode cc pc = .ok (.ifCond .eq off, 3)) (ht : (pc : Int) + off = (tgt : Int)) (h : x = 0) (K : V p l e R s m args below meth c D A H0 nL Q ws lv cells slots tgt rest) : V p l e R s m args below meth c D A H0 nL Q ws lv cells slots pc (.int x :: rest) := fun H locs ls hP hD hS hl => lv_if_eq C.1.1 C.1.2.1 d ht (fun _ => K H locs ls hP hD hS hl) (fun z => absurd h z)
theorem V_if_eq_F (C : Cx p s m args c cc nL own D tys A H0) {x : Int32} {off : Int} {tgt : Nat} (d : decode cc pc = .ok (.ifCond .eq off, 3)) (ht : (pc : Int) + off = (tgt : Int)) (h : ¬ x = 0) (K : V p l e R s m args below meth c D A H0 nL Q ws lv cells slots (pc + 3) rest) : V p l e R s m args below meth c D A H0 nL Q ws lv cells slots pc (.int x :: rest) := fun H locs ls hP hD hS hl => lv_if_eq C.1.1 C.1.2.1 d ht (fun z => absurd z h) (fun _ => K H locs ls hP hD hS hl)
theorem V_if_eq (C : Cx p s m args c cc nL own D tys A H0) {a : Nat} (ha : a < 2147483648) {off : Int} {tgt : Nat} (d : decode cc pc = .ok (.ifCond .eq off, 3)) (ht : (pc : Int) + off = (tgt : Int)) (kt : a = 0 → V p l e R s m args below meth c D A H0 nL Q ws lv cells slots tgt rest) (kf : 0 < a → V p l e R s m args below meth c D A H0 nL Q ws lv cells slots (pc + 3) rest) : V p l e R s m args below meth c D A H0 nL Q ws lv cells slots pc (.int (nI a) :: rest) := fun H locs ls hP hD hS hl => lv_if_eq C.1.1 C.1.2.1 d ht (fun h => kt ((nI_eq ha (by decide : (0 : Nat) < 2147483648)).mp (h.trans nI_0.symm)) H locs ls hP hD hS hl) (fun h => kf (Nat.pos_of_ne_zero fun z => h (((nI_eq ha (by decide : (0 : Nat) < 2147483648)).mpr z).trans nI_0)) H locs ls hP hD hS hl)
theorem V_icmp_ne_T (C : Cx p s m args c cc nL own D tys A H0) {x y : Int32} {off : Int} {tgt : Nat} (d : decode cc pc = .ok (.if_icmp .ne off, 3)) (ht : (pc : Int) + off = (tgt : Int)) (h : ¬ x = y) (K : V p l e R s m args below meth c D A H0 nL Q ws lv cells slots tgt rest) : V p l e R s m args below meth c D A H0 nL Q ws lv cells slots pc (.int y :: .int x :: rest) := fun H locs ls hP hD hS hl => lv_icmp_ne C.1.1 C.1.2.1 d ht (fun _ => K H locs ls hP hD hS hl) (fun z => absurd z h)
theorem V_icmp_ne_F (C : Cx p s m args c cc nL own D tys A H0) {x y : Int32} {off : Int} {tgt : Nat} (d : decode cc pc = .ok (.if_icmp .ne off, 3)) (ht : (pc : Int) + off = (tgt : Int)) (h : x = y) (K : V p l e R s m args below meth c D A H0 nL Q ws lv cells slots (pc + 3) rest) : V p l e R s m args below meth c D A H0 nL Q ws lv cells slots pc (.int y :: .int x :: rest) := fun H locs ls hP hD hS hl => lv_icmp_ne C.1.1 C.1.2.1 d ht (fun z => absurd h z) (fun _ => K H locs ls hP hD hS hl)
theorem V_icmp_ne (C : Cx p s m args c cc nL own D tys A H0) {a b : Nat} (ha : a < 2147483648) (hb : b < 2147483648) {off : Int} {tgt : Nat} (d : decode cc pc = .ok (.if_icmp .ne off, 3)) (ht : (pc : Int) + off = (tgt : Int)) (kt : a ≠ b → V p l e R s m args below meth c D A H0 nL Q ws lv cells slots tgt rest) (kf : a = b → V p l e R s m args below meth c D A H0 nL Q ws lv cells slots (pc + 3) rest) : V p l e R s m args below meth c D A H0 nL Q ws lv cells slots pc (.int (nI b) :: .int (nI a) :: rest) := fun H locs ls hP hD hS hl => lv_icmp_ne C.1.1 C.1.2.1 d ht (fun h => kt (fun z => h ((nI_eq ha hb).mpr z)) H locs ls hP hD hS hl) (fun h => kf ((nI_eq ha hb).mp h) H locs ls hP hD hS hl)
theorem V_if_ne_T (C : Cx p s m args c cc nL own D tys A H0) {x : Int32} {off : Int} {tgt : Nat} (d : decode cc pc = .ok (.ifCond .ne off, 3)) (ht : (pc : Int) + off = (tgt : Int)) (h : ¬ x = 0) (K : V p l e R s m args below meth c D A H0 nL Q ws lv cells slots tgt rest) : V p l e R s m args below meth c D A H0 nL Q ws lv cells slots pc (.int x :: rest) := fun H locs ls hP hD hS hl => lv_if_ne C.1.1 C.1.2.1 d ht (fun _ => K H locs ls hP hD hS hl) (fun z => absurd z h)
theorem V_if_ne_F (C : Cx p s m args c cc nL own D tys A H0) {x : Int32} {off : Int} {tgt : Nat} (d : decode cc pc = .ok (.ifCond .ne off, 3)) (ht : (pc : Int) + off = (tgt : Int)) (h : x = 0) (K : V p l e R s m args below meth c D A H0 nL Q ws lv cells slots (pc + 3) rest) : V p l e R s m args below meth c D A H0 nL Q ws lv cells slots pc (.int x :: rest) := fun H locs ls hP hD hS hl => lv_if_ne C.1.1 C.1.2.1 d ht (fun z => absurd h z) (fun _ => K H locs ls hP hD hS hl)
theorem V_if_ne (C : Cx p s m args c cc nL own D tys A H0) {a : Nat} (ha : a < 2147483648) {off : Int} {tgt : Nat} (d : decode cc pc = .ok (.ifCond .ne off, 3)) (ht : (pc : Int) + off = (tgt : Int)) (kt : 0 < a → V p l e R s m args below meth c D A H0 nL Q ws lv cells slots tgt rest) (kf : a = 0 → V p l e R s m args below meth c D A H0 nL Q ws lv cells slots (pc + 3) rest) : V p l e R s m args below meth c D A H0 nL Q ws lv cells slots pc (.int (nI a) :: rest) := fun H locs ls hP hD hS hl => lv_if_ne C.1.1 C.1.2.1 d ht (fun h => kt (Nat.pos_of_ne_zero fun z => h (((nI_eq ha (by decide : (0 : Nat) < 2147483648)).mpr z).trans nI_0)) H locs ls hP hD hS hl) (fun h => kf ((nI_eq ha (by decide : (0 : Nat) < 2147483648)).mp (h.trans nI_0.symm)) H locs ls hP hD hS hl)
theorem V_icmp_lt_T (C : Cx p s m args c cc nL own D tys A H0) {x y : Int32} {off : Int} {tgt : Nat} (d : decode cc pc = .ok (.if_icmp .lt off, 3)) (ht : (pc : Int) + off = (tgt : Int)) (h : x < y) (K : V p l e R s m args below meth c D A H0 nL Q ws lv cells slots tgt rest) : V p l e R s m args below meth c D A H0 nL Q ws lv cells slots pc (.int y :: .int x :: rest) := fun H locs ls hP hD hS hl => lv_icmp_lt C.1.1 C.1.2.1 d ht (fun _ => K H locs ls hP hD hS hl) (fun z => absurd h z)
theorem V_icmp_lt_F (C : Cx p s m args c cc nL own D tys A H0) {x y : Int32} {off : Int} {tgt : Nat} (d : decode cc pc = .ok (.if_icmp .lt off, 3)) (ht : (pc : Int) + off = (tgt : Int)) (h : ¬ x < y) (K : V p l e R s m args below meth c D A H0 nL Q ws lv cells slots (pc + 3) rest) : V p l e R s m args below meth c D A H0 nL Q ws lv cells slots pc (.int y :: .int x :: rest) := fun H locs ls hP hD hS hl => lv_icmp_lt C.1.1 C.1.2.1 d ht (fun z => absurd z h) (fun _ => K H locs ls hP hD hS hl)
theorem V_icmp_lt (C : Cx p s m args c cc nL own D tys A H0) {a b : Nat} (ha : a < 2147483648) (hb : b < 2147483648) {off : Int} {tgt : Nat} (d : decode cc pc = .ok (.if_icmp .lt off, 3)) (ht : (pc : Int) + off = (tgt : Int)) (kt : a < b → V p l e R s m args below meth c D A H0 nL Q ws lv cells slots tgt rest) (kf : b ≤ a → V p l e R s m args below meth c D A H0 nL Q ws lv cells slots (pc + 3) rest) : V p l e R s m args below meth c D A H0 nL Q ws lv cells slots pc (.int (nI b) :: .int (nI a) :: rest) := fun H locs ls hP hD hS hl => lv_icmp_lt C.1.1 C.1.2.1 d ht (fun h => kt ((nI_ltI ha hb).mp h) H locs ls hP hD hS hl) (fun h => kf (Nat.not_lt.mp fun z => h ((nI_ltI ha hb).mpr z)) H locs ls hP hD hS hl)
theorem V_if_lt_T (C : Cx p s m args c cc nL own D tys A H0) {x : Int32} {off : Int} {tgt : Nat} (d : decode cc pc = .ok (.ifCond .lt off, 3)) (ht : (pc : Int) + off = (tgt : Int)) (h : x < 0) (K : V p l e R s m args below meth c D A H0 nL Q ws lv cells slots tgt rest) : V p l e R s m args below meth c D A H0 nL Q ws lv cells slots pc (.int x :: rest) := fun H locs ls hP hD hS hl => lv_if_lt C.1.1 C.1.2.1 d ht (fun _ => K H locs ls hP hD hS hl) (fun z => absurd h z)
theorem V_if_lt_F (C : Cx p s m args c cc nL own D tys A H0) {x : Int32} {off : Int} {tgt : Nat} (d : decode cc pc = .ok (.ifCond .lt off, 3)) (ht : (pc : Int) + off = (tgt : Int)) (h : ¬ x < 0) (K : V p l e R s m args below meth c D A H0 nL Q ws lv cells slots (pc + 3) rest) : V p l e R s m args below meth c D A H0 nL Q ws lv cells slots pc (.int x :: rest) := fun H locs ls hP hD hS hl => lv_if_lt C.1.1 C.1.2.1 d ht (fun z => absurd z h) (fun _ => K H locs ls hP hD hS hl)
theorem V_icmp_ge_T (C : Cx p s m args c cc nL own D tys A H0) {x y : Int32} {off : Int} {tgt : Nat} (d : decode cc pc = .ok (.if_icmp .ge off, 3)) (ht : (pc : Int) + off = (tgt : Int)) (h : y ≤ x) (K : V p l e R s m args below meth c D A H0 nL Q ws lv cells slots tgt rest) : V p l e R s m args below meth c D A H0 nL Q ws lv cells slots pc (.int y :: .int x :: rest) := fun H locs ls hP hD hS hl => lv_icmp_ge C.1.1 C.1.2.1 d ht (fun _ => K H locs ls hP hD hS hl) (fun z => absurd h z)
theorem V_icmp_ge_F (C : Cx p s m args c cc nL own D tys A H0) {x y : Int32} {off : Int} {tgt : Nat} (d : decode cc pc = .ok (.if_icmp .ge off, 3)) (ht : (pc : Int) + off = (tgt : Int)) (h : ¬ y ≤ x) (K : V p l e R s m args below meth c D A H0 nL Q ws lv cells slots (pc + 3) rest) : V p l e R s m args below meth c D A H0 nL Q ws lv cells slots pc (.int y :: .int x :: rest) := fun H locs ls hP hD hS hl => lv_icmp_ge C.1.1 C.1.2.1 d ht (fun z => absurd z h) (fun _ => K H locs ls hP hD hS hl)
theorem V_icmp_ge (C : Cx p s m args c cc nL own D tys A H0) {a b : Nat} (ha : a < 2147483648) (hb : b < 2147483648) {off : Int} {tgt : Nat} (d : decode cc pc = .ok (.if_icmp .ge off, 3)) (ht : (pc : Int) + off = (tgt : Int)) (kt : b ≤ a → V p l e R s m args below meth c D A H0 nL Q ws lv cells slots tgt rest) (kf : a < b → V p l e R s m args below meth c D A H0 nL Q ws lv cells slots (pc + 3) rest) : V p l e R s m args below meth c D A H0 nL Q ws lv cells slots pc (.int (nI b) :: .int (nI a) :: rest) := fun H locs ls hP hD hS hl => lv_icmp_ge C.1.1 C.1.2.1 d ht (fun h => kt ((nI_leI hb ha).mp h) H locs ls hP hD hS hl) (fun h => kf (Nat.not_le.mp fun z => h ((nI_leI hb ha).mpr z)) H locs ls hP hD hS hl)
theorem V_if_ge_T (C : Cx p s m args c cc nL own D tys A H0) {x : Int32} {off : Int} {tgt : Nat} (d : decode cc pc = .ok (.ifCond .ge off, 3)) (ht : (pc : Int) + off = (tgt : Int)) (h : 0 ≤ x) (K : V p l e R s m args below meth c D A H0 nL Q ws lv cells slots tgt rest) : V p l e R s m args below meth c D A H0 nL Q ws lv cells slots pc (.int x :: rest) := fun H locs ls hP hD hS hl => lv_if_ge C.1.1 C.1.2.1 d ht (fun _ => K H locs ls hP hD hS hl) (fun z => absurd h z)
theorem V_if_ge_F (C : Cx p s m args c cc nL own D tys A H0) {x : Int32} {off : Int} {tgt : Nat} (d : decode cc pc = .ok (.ifCond .ge off, 3)) (ht : (pc : Int) + off = (tgt : Int)) (h : ¬ 0 ≤ x) (K : V p l e R s m args below meth c D A H0 nL Q ws lv cells slots (pc + 3) rest) : V p l e R s m args below meth c D A H0 nL Q ws lv cells slots pc (.int x :: rest) := fun H locs ls hP hD hS hl => lv_if_ge C.1.1 C.1.2.1 d ht (fun z => absurd z h) (fun _ => K H locs ls hP hD hS hl)
theorem V_icmp_gt_T (C : Cx p s m args c cc nL own D tys A H0) {x y : Int32} {off : Int} {tgt : Nat} (d : decode cc pc = .ok (.if_icmp .gt off, 3)) (ht : (pc : Int) + off = (tgt : Int)) (h : y < x) (K : V p l e R s m args below meth c D A H0 nL Q ws lv cells slots tgt rest) : V p l e R s m args below meth c D A H0 nL Q ws lv cells slots pc (.int y :: .int x :: rest) := fun H locs ls hP hD hS hl => lv_icmp_gt C.1.1 C.1.2.1 d ht (fun _ => K H locs ls hP hD hS hl) (fun z => absurd h z)
theorem V_icmp_gt_F (C : Cx p s m args c cc nL own D tys A H0) {x y : Int32} {off : Int} {tgt : Nat} (d : decode cc pc = .ok (.if_icmp .gt off, 3)) (ht : (pc : Int) + off = (tgt : Int)) (h : ¬ y < x) (K : V p l e R s m args below meth c D A H0 nL Q ws lv cells slots (pc + 3) rest) : V p l e R s m args below meth c D A H0 nL Q ws lv cells slots pc (.int y :: .int x :: rest) := fun H locs ls hP hD hS hl => lv_icmp_gt C.1.1 C.1.2.1 d ht (fun z => absurd z h) (fun _ => K H locs ls hP hD hS hl)
theorem V_icmp_gt (C : Cx p s m args c cc nL own D tys A H0) {a b : Nat} (ha : a < 2147483648) (hb : b < 2147483648) {off : Int} {tgt : Nat} (d : decode cc pc = .ok (.if_icmp .gt off, 3)) (ht : (pc : Int) + off = (tgt : Int)) (kt : b < a → V p l e R s m args below meth c D A H0 nL Q ws lv cells slots tgt rest) (kf : a ≤ b → V p l e R s m args below meth c D A H0 nL Q ws lv cells slots (pc + 3) rest) : V p l e R s m args below meth c D A H0 nL Q ws lv cells slots pc (.int (nI b) :: .int (nI a) :: rest) := fun H locs ls hP hD hS hl => lv_icmp_gt C.1.1 C.1.2.1 d ht (fun h => kt ((nI_ltI hb ha).mp h) H locs ls hP hD hS hl) (fun h => kf (Nat.not_lt.mp fun z => h ((nI_ltI hb ha).mpr z)) H locs ls hP hD hS hl)
theorem V_if_gt_T (C : Cx p s m args c cc nL own D tys A H0) {x : Int32} {off : Int} {tgt : Nat} (d : decode cc pc = .ok (.ifCond .gt off, 3)) (ht : (pc : Int) + off = (tgt : Int)) (h : 0 < x) (K : V p l e R s m args below meth c D A H0 nL Q ws lv cells slots tgt rest) : V p l e R s m args below meth c D A H0 nL Q ws lv cells slots pc (.int x :: rest) := fun H locs ls hP hD hS hl => lv_if_gt C.1.1 C.1.2.1 d ht (fun _ => K H locs ls hP hD hS hl) (fun z => absurd h z)
theorem V_if_gt_F (C : Cx p s m args c cc nL own D tys A H0) {x : Int32} {off : Int} {tgt : Nat} (d : decode cc pc = .ok (.ifCond .gt off, 3)) (ht : (pc : Int) + off = (tgt : Int)) (h : ¬ 0 < x) (K : V p l e R s m args below meth c D A H0 nL Q ws lv cells slots (pc + 3) rest) : V p l e R s m args below meth c D A H0 nL Q ws lv cells slots pc (.int x :: rest) := fun H locs ls hP hD hS hl => lv_if_gt C.1.1 C.1.2.1 d ht (fun z => absurd z h) (fun _ => K H locs ls hP hD hS hl)
theorem V_if_gt (C : Cx p s m args c cc nL own D tys A H0) {a : Nat} (ha : a < 2147483648) {off : Int} {tgt : Nat} (d : decode cc pc = .ok (.ifCond .gt off, 3)) (ht : (pc : Int) + off = (tgt : Int)) (kt : 0 < a → V p l e R s m args below meth c D A H0 nL Q ws lv cells slots tgt rest) (kf : a = 0 → V p l e R s m args below meth c D A H0 nL Q ws lv cells slots (pc + 3) rest) : V p l e R s m args below meth c D A H0 nL Q ws lv cells slots pc (.int (nI a) :: rest) := fun H locs ls hP hD hS hl => lv_if_gt C.1.1 C.1.2.1 d ht (fun h => kt ((nI_ltI (by decide : (0 : Nat) < 2147483648) ha).mp (by rw [nI_0]; exact h)) H locs ls hP hD hS hl) (fun h => kf (Nat.le_zero.mp (Nat.not_lt.mp fun z => h (by have := (nI_ltI (by decide : (0 : Nat) < 2147483648) ha).mpr z; rwa [nI_0] at this))) H locs ls hP hD hS hl)
theorem V_icmp_le_T (C : Cx p s m args c cc nL own D tys A H0) {x y : Int32} {off : Int} {tgt : Nat} (d : decode cc pc = .ok (.if_icmp .le off, 3)) (ht : (pc : Int) + off = (tgt : Int)) (h : x ≤ y) (K : V p l e R s m args below meth c D A H0 nL Q ws lv cells slots tgt rest) : V p l e R s m args below meth c D A H0 nL Q ws lv cells slots pc (.int y :: .int x :: rest) := fun H locs ls hP hD hS hl => lv_icmp_le C.1.1 C.1.2.1 d ht (fun _ => K H locs ls hP hD hS hl) (fun z => absurd h z)
theorem V_icmp_le_F (C : Cx p s m args c cc nL own D tys A H0) {x y : Int32} {off : Int} {tgt : Nat} (d : decode cc pc = .ok (.if_icmp .le off, 3)) (ht : (pc : Int) + off = (tgt : Int)) (h : ¬ x ≤ y) (K : V p l e R s m args below meth c D A H0 nL Q ws lv cells slots (pc + 3) rest) : V p l e R s m args below meth c D A H0 nL Q ws lv cells slots pc (.int y :: .int x :: rest) := fun H locs ls hP hD hS hl => lv_icmp_le C.1.1 C.1.2.1 d ht (fun z => absurd z h) (fun _ => K H locs ls hP hD hS hl)
theorem V_icmp_le (C : Cx p s m args c cc nL own D tys A H0) {a b : Nat} (ha : a < 2147483648) (hb : b < 2147483648) {off : Int} {tgt : Nat} (d : decode cc pc = .ok (.if_icmp .le off, 3)) (ht : (pc : Int) + off = (tgt : Int)) (kt : a ≤ b → V p l e R s m args below meth c D A H0 nL Q ws lv cells slots tgt rest) (kf : b < a → V p l e R s m args below meth c D A H0 nL Q ws lv cells slots (pc + 3) rest) : V p l e R s m args below meth c D A H0 nL Q ws lv cells slots pc (.int (nI b) :: .int (nI a) :: rest) := fun H locs ls hP hD hS hl => lv_icmp_le C.1.1 C.1.2.1 d ht (fun h => kt ((nI_leI ha hb).mp h) H locs ls hP hD hS hl) (fun h => kf (Nat.not_le.mp fun z => h ((nI_leI ha hb).mpr z)) H locs ls hP hD hS hl)
theorem V_if_le_T (C : Cx p s m args c cc nL own D tys A H0) {x : Int32} {off : Int} {tgt : Nat} (d : decode cc pc = .ok (.ifCond .le off, 3)) (ht : (pc : Int) + off = (tgt : Int)) (h : x ≤ 0) (K : V p l e R s m args below meth c D A H0 nL Q ws lv cells slots tgt rest) : V p l e R s m args below meth c D A H0 nL Q ws lv cells slots pc (.int x :: rest) := fun H locs ls hP hD hS hl => lv_if_le C.1.1 C.1.2.1 d ht (fun _ => K H locs ls hP hD hS hl) (fun z => absurd h z)
theorem V_if_le_F (C : Cx p s m args c cc nL own D tys A H0) {x : Int32} {off : Int} {tgt : Nat} (d : decode cc pc = .ok (.ifCond .le off, 3)) (ht : (pc : Int) + off = (tgt : Int)) (h : ¬ x ≤ 0) (K : V p l e R s m args below meth c D A H0 nL Q ws lv cells slots (pc + 3) rest) : V p l e R s m args below meth c D A H0 nL Q ws lv cells slots pc (.int x :: rest) := fun H locs ls hP hD hS hl => lv_if_le C.1.1 C.1.2.1 d ht (fun z => absurd z h) (fun _ => K H locs ls hP hD hS hl)
theorem V_if_le (C : Cx p s m args c cc nL own D tys A H0) {a : Nat} (ha : a < 2147483648) {off : Int} {tgt : Nat} (d : decode cc pc = .ok (.ifCond .le off, 3)) (ht : (pc : Int) + off = (tgt : Int)) (kt : a = 0 → V p l e R s m args below meth c D A H0 nL Q ws lv cells slots tgt rest) (kf : 0 < a → V p l e R s m args below meth c D A H0 nL Q ws lv cells slots (pc + 3) rest) : V p l e R s m args below meth c D A H0 nL Q ws lv cells slots pc (.int (nI a) :: rest) := fun H locs ls hP hD hS hl => lv_if_le C.1.1 C.1.2.1 d ht (fun h => kt (Nat.le_zero.mp ((nI_leI ha (by decide : (0 : Nat) < 2147483648)).mp (by rw [nI_0]; exact h))) H locs ls hP hD hS hl) (fun h => kf (Nat.not_le.mp fun z => h (by have := (nI_leI ha (by decide : (0 : Nat) < 2147483648)).mpr z; rwa [nI_0] at this)) H locs ls hP hD hS hl)
theorem V_get (C : Cx p s m args c cc nL own D tys A H0) {Cn : String} {T : u_T} {N ci index : Nat} {a : Nat} {fs : List Value} {v : Value} (hin : ∀ w ∈ u_ws Cn T N, w ∈ AW) (q0 : Nat) (he : ws[q0]? = some (a, .inr (ci, fs))) (hc : vwCl[ci]? = some (Cn, T, N)) (k : Nat) (hk : k < N) (hm : Cond.fieldLink own index (T k).1 (T k).2.1 (T k).2.2.1 ∈ AW) (hv : fs[k]? = some v) (d : decode cc pc = .ok (.getfield index, 3)) (K : V p l e R s m args below meth c D A H0 nL Q ws lv cells slots (pc + 3) (v :: rest)) : V p l e R s m args below meth c D A H0 nL Q ws lv cells slots pc (.ref a :: rest) := fun H locs ls hP hD hS hl => va_get C.1.1 C.1.2.1 C.1.2.2.2.2 hin C.1.2.2.2.1 C.2.1 hP q0 he hc k hk (C.1.2.2.2.2 _ hm) (fun _ h9 => h9) hv d (K H locs ls hP hD hS hl)
theorem V_getN (C : Cx p s m args c cc nL own D tys A H0) {Cn : String} {T : u_T} {N ci index : Nat} {a : Nat} {fs : List Value} {v : Value} {host : String} {i9 : Nat} (hin : ∀ w ∈ u_ws Cn T N, w ∈ AW) (q0 : Nat) (he : ws[q0]? = some (a, .inr (ci, fs))) (hc : vwCl[ci]? = some (Cn, T, N)) (k : Nat) (hk : k < N) (hm : tables_1[i9]? = some (Cond.fieldLinkNest own index (T k).1 (T k).2.1 (T k).2.2.1 host)) (hv : fs[k]? = some v) (d : decode cc pc = .ok (.getfield index, 3)) (K : V p l e R s m args below meth c D A H0 nL Q ws lv cells slots (pc + 3) (v :: rest)) : V p l e R s m args below meth c D A H0 nL Q ws lv cells slots pc (.ref a :: rest) := fun H locs ls hP hD hS hl => va_getN C.1.1 C.1.2.1 C.1.2.2.2.2 hin C.1.2.2.2.1 C.2.1 hP q0 he hc k hk (va_Nw.use rfl (C.2.2.2.at hm rfl)) (fun _ h9 => h9) hv d (K H locs ls hP hD hS hl)
theorem V_put (C : Cx p s m args c cc nL own D tys A H0) {Cn : String} {T : u_T} {N ci index : Nat} {a : Nat} {fs : List Value} {v : Value} (ty0 : Nat → FieldType) (hty : ∀ k, k < N → parseFieldDescriptor (T k).2.2.1 = some (ty0 k)) (hnm : ∀ a, a < N → ∀ b, b < N → a ≠ b → (T a).2.1 ≠ (T b).2.1) (hin : ∀ w ∈ u_ws Cn T N, w ∈ AW) (q0 : Nat) (he : ws[q0]? = some (a, .inr (ci, fs))) (hc : vwCl[ci]? = some (Cn, T, N)) (k : Nat) (hk : k < N) (hm : Cond.fieldLink own index (T k).1 (T k).2.1 (T k).2.2.1 ∈ AW) (hfin : (T k).2.2.2 = false) (hn : narrow (ty0 k) v = v) (hfit : fits (ty0 k) v = true) (hlen : k < fs.length) (d : decode cc pc = .ok (.putfield index, 3)) {ws2 : va_W} (hw : ws.set q0 (a, .inr (ci, fs.set k v)) = ws2) (K : V p l e R s m args below meth c D A H0 nL Q ws2 lv cells slots (pc + 3) rest) : V p l e R s m args below meth c D A H0 nL Q ws lv cells slots pc (v :: .ref a :: rest) := fun H locs ls hP hD hS hl => va_put C.1.1 C.1.2.1 C.1.2.2.2.2 hin ty0 hty hnm C.1.2.2.2.1 C.2.1 hP hD hS q0 he hc k hk (C.1.2.2.2.2 _ hm) (fun _ h9 => h9) hfin (hty k hk) hn hfit hlen d (fun H1 locs1 hP1 hD1 hS1 => K H1 locs1 ls (hw ▸ hP1) (hw ▸ hD1) hS1 hl)
theorem V_putN (C : Cx p s m args c cc nL own D tys A H0) {Cn : String} {T : u_T} {N ci index : Nat} {a : Nat} {fs : List Value} {v : Value} {host : String} {i9 : Nat} (ty0 : Nat → FieldType) (hty : ∀ k, k < N → parseFieldDescriptor (T k).2.2.1 = some (ty0 k)) (hnm : ∀ a, a < N → ∀ b, b < N → a ≠ b → (T a).2.1 ≠ (T b).2.1) (hin : ∀ w ∈ u_ws Cn T N, w ∈ AW) (q0 : Nat) (he : ws[q0]? = some (a, .inr (ci, fs))) (hc : vwCl[ci]? = some (Cn, T, N)) (k : Nat) (hk : k < N) (hm : tables_1[i9]? = some (Cond.fieldLinkNest own index (T k).1 (T k).2.1 (T k).2.2.1 host)) (hfin : (T k).2.2.2 = false) (hn : narrow (ty0 k) v = v) (hfit : fits (ty0 k) v = true) (hlen : k < fs.length) (d : decode cc pc = .ok (.putfield index, 3)) {ws2 : va_W} (hw : ws.set q0 (a, .inr (ci, fs.set k v)) = ws2) (K : V p l e R s m args below meth c D A H0 nL Q ws2 lv cells slots (pc + 3) rest) : V p l e R s m args below meth c D A H0 nL Q ws lv cells slots pc (v :: .ref a :: rest) := fun H locs ls hP hD hS hl => va_putN C.1.1 C.1.2.1 C.1.2.2.2.2 hin ty0 hty hnm C.1.2.2.2.1 C.2.1 hP hD hS q0 he hc k hk (va_Nw.use rfl (C.2.2.2.at hm rfl)) (fun _ h9 => h9) hfin (hty k hk) hn hfit hlen d (fun H1 locs1 hP1 hD1 hS1 => K H1 locs1 ls (hw ▸ hP1) (hw ▸ hD1) hS1 hl)
theorem V_putF (C : Cx p s m args c cc nL own D tys A H0) {Cn : String} {T : u_T} {N ci index : Nat} {a : Nat} {fs : List Value} {v : Value} (ty0 : Nat → FieldType) (hty : ∀ k, k < N → parseFieldDescriptor (T k).2.2.1 = some (ty0 k)) (hnm : ∀ a, a < N → ∀ b, b < N → a ≠ b → (T a).2.1 ≠ (T b).2.1) (hin : ∀ w ∈ u_ws Cn T N, w ∈ AW) (q0 : Nat) (he : ws[q0]? = some (a, .inr (ci, fs))) (hc : vwCl[ci]? = some (Cn, T, N)) (k : Nat) (hk : k < N) (hm : Cond.fieldLink own index (T k).1 (T k).2.1 (T k).2.2.1 ∈ AW) (hfin : (T k).2.2.2 = true) (hini : meth.name = "<init>") (hdecl : (T k).1 = own) (hn : narrow (ty0 k) v = v) (hfit : fits (ty0 k) v = true) (hlen : k < fs.length) (d : decode cc pc = .ok (.putfield index, 3)) {ws2 : va_W} (hw : ws.set q0 (a, .inr (ci, fs.set k v)) = ws2) (K : V p l e R s m args below meth c D A H0 nL Q ws2 lv cells slots (pc + 3) rest) : V p l e R s m args below meth c D A H0 nL Q ws lv cells slots pc (v :: .ref a :: rest) := fun H locs ls hP hD hS hl => va_putF C.1.1 C.1.2.1 C.1.2.2.2.2 hin ty0 hty hnm C.1.2.2.2.1 C.2.1 hP hD hS q0 he hc k hk (C.1.2.2.2.2 _ hm) (fun _ h9 => h9) hfin hini hdecl (hty k hk) hn hfit hlen d (fun H1 locs1 hP1 hD1 hS1 => K H1 locs1 ls (hw ▸ hP1) (hw ▸ hD1) hS1 hl)
theorem upd_nI {g : Nat → Nat} {k x : Nat} : upd (fun j => nI (g j)) k (nI x) = fun j => nI (va_up g k x j) := by
  funext j
  by_cases h : j = k
  · simp [upd, va_up, h]
  · simp [upd, va_up, h]
theorem V_iald (C : Cx p s m args c cc nL own D tys A H0) {a n : Nat} {cA : ClassId} {g : Nat → Nat} {i : Nat} (q0 t0 : Nat) (ha : ws[q0]? = some (a, .inl (cA, n, .inl (fun j => nI (g j))))) (ht : tys[t0]? = some (cA, .int)) (hi : i < n) (hn : n < 2147483648) (d : decode cc pc = .ok (.iaload, 1)) (K : V p l e R s m args below meth c D A H0 nL Q ws lv cells slots (pc + 1) (.int (nI (g i)) :: rest)) : V p l e R s m args below meth c D A H0 nL Q ws lv cells slots pc (.int (nI i) :: .ref a :: rest) := fun H locs ls hP hD hS hl => va_iald C.1.1 C.1.2.1 C.2.1 hP q0 t0 ha ht (vp_in_nI hi hn) d (by rw [nI_clamp (Nat.lt_trans hi hn)]; exact K H locs ls hP hD hS hl)
theorem V_iast (C : Cx p s m args c cc nL own D tys A H0) {a n : Nat} {cA : ClassId} {g : Nat → Nat} {i x : Nat} (q0 t0 : Nat) (ha : ws[q0]? = some (a, .inl (cA, n, .inl (fun j => nI (g j))))) (ht : tys[t0]? = some (cA, .int)) (hi : i < n) (hn : n < 2147483648) (d : decode cc pc = .ok (.iastore, 1)) {ws2 : va_W} (hw : ws.set q0 (a, .inl (cA, n, .inl (fun j => nI (va_up g i x j)))) = ws2) (K : V p l e R s m args below meth c D A H0 nL Q ws2 lv cells slots (pc + 1) rest) : V p l e R s m args below meth c D A H0 nL Q ws lv cells slots pc (.int (nI x) :: .int (nI i) :: .ref a :: rest) := by
  subst hw
  exact fun H locs ls hP hD hS hl => va_iast C.1.1 C.1.2.1 C.2.1 hP hD hS q0 t0 ha ht (vp_in_nI hi hn) d (fun H1 locs1 hP1 hD1 hS1 => by
    rw [nI_clamp (Nat.lt_trans hi hn), upd_nI] at hP1 hD1
    exact K H1 locs1 ls hP1 hD1 hS1 hl)
theorem V_alen (C : Cx p s m args c cc nL own D tys A H0) {a : Nat} {cA : ClassId} {x : vp_A} {ty : FieldType} {v : Int32} (q0 t0 : Nat) (ha : ws[q0]? = some (a, .inl (cA, x))) (ht : tys[t0]? = some (cA, ty)) (hv : nI x.1 = v) (d : decode cc pc = .ok (.arraylength, 1)) (K : V p l e R s m args below meth c D A H0 nL Q ws lv cells slots (pc + 1) (.int v :: rest)) : V p l e R s m args below meth c D A H0 nL Q ws lv cells slots pc (.ref a :: rest) := fun H locs ls hP hD hS hl => va_alen C.1.1 C.1.2.1 C.2.1 hP q0 t0 ha ht hv d (K H locs ls hP hD hS hl)
theorem V_aldq (C : Cx p s m args c cc nL own D tys A H0) {a n : Nat} {cA : ClassId} {Cn : String} {f : Nat → Option Nat} {i : Nat} {v : Value} (q0 t0 : Nat) (ha : ws[q0]? = some (a, .inl (cA, n, .inr (.inr (.inr (.inr f)))))) (ht : tys[t0]? = some (cA, .object Cn)) (hi : i < n) (hn : n < 2147483648) (hv : va_rf (f i) = v) (d : decode cc pc = .ok (.aaload, 1)) (K : V p l e R s m args below meth c D A H0 nL Q ws lv cells slots (pc + 1) (v :: rest)) : V p l e R s m args below meth c D A H0 nL Q ws lv cells slots pc (.int (nI i) :: .ref a :: rest) := fun H locs ls hP hD hS hl => va_aldq C.1.1 C.1.2.1 C.2.1 hP q0 t0 ha ht (vp_in_nI hi hn) d (by rw [nI_clamp (Nat.lt_trans hi hn), hv]; exact K H locs ls hP hD hS hl)
theorem V_astq (C : Cx p s m args c cc nL own D tys A H0) {a n v ci : Nat} {cA : ClassId} {r : vw_C} {f : Nat → Option Nat} {i : Nat} {vs : List Value} (q0 t0 qk : Nat) (ha : ws[q0]? = some (a, .inl (cA, n, .inr (.inr (.inr (.inr f)))))) (ht : tys[t0]? = some (cA, .object r.1)) (hv : ws[qk]? = some (v, .inr (ci, vs))) (hc : vwCl[ci]? = some r) (hi : i < n) (hn : n < 2147483648) (d : decode cc pc = .ok (.aastore, 1)) {ws2 : va_W} (hw : ws.set q0 (a, .inl (cA, n, .inr (.inr (.inr (.inr (va_up f i (some v))))))) = ws2) (K : V p l e R s m args below meth c D A H0 nL Q ws2 lv cells slots (pc + 1) rest) : V p l e R s m args below meth c D A H0 nL Q ws lv cells slots pc (.ref v :: .int (nI i) :: .ref a :: rest) := by
  subst hw
  exact fun H locs ls hP hD hS hl => va_astq C.1.1 C.1.2.1 C.2.1 hP hD hS q0 t0 qk ci ha ht hv hc (vp_in_nI hi hn) d (fun H1 locs1 hP1 hD1 hS1 => by
    rw [nI_clamp (Nat.lt_trans hi hn)] at hP1 hD1
    exact K H1 locs1 ls hP1 hD1 hS1 hl)
theorem V_ifnull (C : Cx p s m args c cc nL own D tys A H0) {x : Nat} {off : Int} (d : decode cc pc = .ok (.ifnull off, 3)) (K : V p l e R s m args below meth c D A H0 nL Q ws lv cells slots (pc + 3) rest) : V p l e R s m args below meth c D A H0 nL Q ws lv cells slots pc (.ref x :: rest) := fun H locs ls hP hD hS hl => lv_ifnull C.1.1 C.1.2.1 d (K H locs ls hP hD hS hl)
theorem V_mmax (C : Cx p s m args c cc nL own D tys A H0) {a b index : Nat} (hlink : Cond.methodLink own index Lib.Math.max.name ∈ AW) (hstat : Cond.static Lib.Math.max.name ∈ AW) (hini : Cond.initialized "java/lang/Math" ∈ AW) (hcode : Cond.code Lib.Math.max.name Lib.Math.max.code 2 (some .int) ∈ AW) (ha : a < 2147483648) (hb : b < 2147483648) (hf : 1 ≤ R.frames) (hlo : (rest.map fun v => v.category).sum + 13 ≤ R.locals) (hcs : cells ≤ R.cells) (hss : slots ≤ R.slots) (d : decode cc pc = .ok (.invokestatic index, 3)) (K : V p l e R s m args below meth c D A H0 nL Q ws lv cells slots (pc + 3) (.int (nI (max a b)) :: rest)) : V p l e R s m args below meth c D A H0 nL Q ws lv cells slots pc (.int (nI b) :: .int (nI a) :: rest) := by
  intro H locs ls hP hD hS hl
  have hT := C.1.2.2.2.2
  refine va_mmax C.1.1 C.1.2.1 (C.1.2.2.1.trans hl.1.symm) C.1.2.2.2.1 (hT _ hlink) (hT _ hstat) (hT _ hini) (hT _ hcode) hf hlo hcs hss d ?_
  have e : (if nI a < nI b then nI b else nI a) = nI (max a b) := by
    by_cases q : a < b
    · rw [if_pos (nI_lt q hb), show (max a b) = b by omega]
    · rw [if_neg (nI_nlt (Nat.not_lt.mp q) ha), show (max a b) = a by omega]
  rw [e]
  exact K H locs ls hP hD hS hl
theorem V_mmin (C : Cx p s m args c cc nL own D tys A H0) {a b index : Nat} (hlink : Cond.methodLink own index Lib.Math.min.name ∈ AW) (hstat : Cond.static Lib.Math.min.name ∈ AW) (hini : Cond.initialized "java/lang/Math" ∈ AW) (hcode : Cond.code Lib.Math.min.name Lib.Math.min.code 2 (some .int) ∈ AW) (ha : a < 2147483648) (hb : b < 2147483648) (hf : 1 ≤ R.frames) (hlo : (rest.map fun v => v.category).sum + 13 ≤ R.locals) (hcs : cells ≤ R.cells) (hss : slots ≤ R.slots) (d : decode cc pc = .ok (.invokestatic index, 3)) (K : V p l e R s m args below meth c D A H0 nL Q ws lv cells slots (pc + 3) (.int (nI (min a b)) :: rest)) : V p l e R s m args below meth c D A H0 nL Q ws lv cells slots pc (.int (nI b) :: .int (nI a) :: rest) := by
  intro H locs ls hP hD hS hl
  have hT := C.1.2.2.2.2
  refine va_mmin C.1.1 C.1.2.1 (C.1.2.2.1.trans hl.1.symm) C.1.2.2.2.1 (hT _ hlink) (hT _ hstat) (hT _ hini) (hT _ hcode) hf hlo hcs hss d ?_
  have e : (if nI b < nI a then nI b else nI a) = nI (min a b) := by
    by_cases q : b < a
    · rw [if_pos (nI_lt q ha), show (min a b) = b by omega]
    · rw [if_neg (nI_nlt (Nat.not_lt.mp q) hb), show (min a b) = a by omega]
  rw [e]
  exact K H locs ls hP hD hS hl
theorem V_iret {S : Type} {ret : FieldType} {post : Int32 → S → Prop} {wo : S → va_W} {mc ms : Nat} {x : Int32} (C : Cx p s m args c cc nL own D tys A s.heap) (hr : meth.sig.returnType = some ret) (hlk : meth.locks = false) (hnr : narrow ret (.int x) = .int x) (hmc : cells ≤ mc) (hms : slots ≤ ms) (d : decode cc pc = .ok (.ireturn, 1)) (u : S) (is : List Nat) (hs : is.map (fun i => ws[i]?) = (wo u).map some) (hn : va_nd is = true) (hp : post x u) : V p l e R s m args below meth c D A s.heap nL (MQ below (va_Qi post (Bo D tys A wo) A) args s mc ms A) ws lv cells slots pc [.int x] := fun H locs ls hP hD hS hl =>
  W.widen hmc hms (W.zret C.1.1 C.1.2.1 hr hnr (fun t ht hW => ⟨⟨x, u, rfl, hp, by rw [ht]; exact va_subM hP is hs, va_K.moved hW.alike C.2.1, hD.sub is hn hs⟩, hS.F ht⟩) hS.2.2 d hlk)
theorem V_vret {S : Type} {post : S → Prop} {wo : S → va_W} {mc ms : Nat} (C : Cx p s m args c cc nL own D tys A s.heap) (hr : meth.sig.returnType = none) (hlk : meth.locks = false) (hmc : cells ≤ mc) (hms : slots ≤ ms) (d : decode cc pc = .ok (.return_, 1)) (u : S) (is : List Nat) (hs : is.map (fun i => ws[i]?) = (wo u).map some) (hn : va_nd is = true) (hp : post u) : V p l e R s m args below meth c D A s.heap nL (MQ below (va_Qv post (Bo D tys A wo) A) args s mc ms A) ws lv cells slots pc [] := fun H locs ls hP hD hS hl =>
  W.widen hmc hms (W.vret C.1.1 C.1.2.1 hr (fun t ht hW => ⟨⟨u, rfl, hp, by rw [ht]; exact va_subM hP is hs, va_K.moved hW.alike C.2.1, hD.sub is hn hs⟩, hS.F ht⟩) hS.2.2 d hlk)
theorem V_calliV {S : Type} {y : MethodName} {bytes : ByteArray} {maxL n index mc ms : Nat} {ret : Option FieldType} {rm : Room} {Cn : String} {b : Nat} {As : List Value} {wi wr : va_W} {post : Int32 → S → Prop} {wo : S → va_W} (C : Cx p s m args c cc nL own D tys A H0) (hM : MI l y bytes maxL ret rm D tys (.ref b :: As) wi post wo mc ms) (ok : MOK Cn y bytes maxL ret n) (hlink : Cond.methodLink own index y ∈ AW) {q1 ci : Nat} {T : u_T} {N : Nat} {fs : List Value} (hq1 : wi[q1]? = some (b, .inr (ci, fs))) (hci : vwCl[ci]? = some (Cn, T, N)) (hAs : As.length = n) (hrc : rm.cells = mc) (hrs : rm.slots = ms) (hfr : rm.frames + 1 ≤ R.frames) (hlo : 8 + (maxL + 11) + rm.locals ≤ R.locals) (hcs : cells + mc ≤ R.cells ∧ slots + ms ≤ R.slots) (hroom : (rest.map fun v => v.category).sum ≤ 8) (isC isR : List Nat) (hC : isC.map (fun i => ws[i]?) = wi.map some) (hCn : va_nd isC = true) (hR : isR.map (fun i => ws[i]?) = wr.map some) (hRn : va_nd isR = true) (hdis : ∀ i ∈ isR, i ∉ isC) (d : decode cc pc = .ok (.invokevirtual index, 3)) (hst : st = (As.reverse ++ .ref b :: rest))
    (K : ∀ (r : Int32) (u : S), post r u → V p l e R s m args below meth c D A H0 nL Q (wr ++ wo u) lv (cells + mc) (slots + ms) (pc + 3) (.int r :: rest)) : V p l e R s m args below meth c D A H0 nL Q ws lv cells slots pc st := by
  subst hst
  intro H locs ls hP hD hS hl
  have hts := C.1.2.2.2.2
  have hPc : va_P D vwCl wi H := va_subM hP isC hC
  have hDc : va_D A wi := hD.sub isC hCn hC
  have hFc : ∀ q, va_A wi H.size q → A q := va_free hD hS C.2.2.1 isC hC
  refine va_calli (va_runV (As := As) (rest := rest) C.1 (hM H.size) (cwV n hts (goodV hlink ok) rfl hrc hrs ok.2.2.2.2 ⟨hfr, hlo⟩) ⟨Pin.blind, va_recv C.2.1 hPc hci hq1, fun U hU hW => ⟨rfl, by rw [hU], by rw [hU]; exact hPc, va_K.moved hW.alike C.2.1, hDc.weaken (fun _ _ _ _ => trivial), NW.warm hW C.2.2.2⟩⟩ rfl hAs hl.1 rfl (lv_room hroom) d hcs) hS (fun q _ h => hFc q h) hFc (fun r u t H1 locs1 ht hvm hw hB hz1 hk1 hS1 => ?_)
  obtain ⟨hP1, hK1, hD1⟩ := hB
  rw [ht] at hP1
  obtain ⟨hP2, hD2⟩ := va_join hP hD isC isR hC hR hRn hdis hk1 hFc hP1 hD1
  exact K r u hw H1 locs1 ls hP2 hD2 hS1 hl
theorem V_callvV {S : Type} {y : MethodName} {bytes : ByteArray} {maxL n index mc ms : Nat} {ret : Option FieldType} {rm : Room} {Cn : String} {b : Nat} {As : List Value} {wi wr : va_W} {post : S → Prop} {wo : S → va_W} (C : Cx p s m args c cc nL own D tys A H0) (hM : MV l y bytes maxL ret rm D tys (.ref b :: As) wi post wo mc ms) (ok : MOK Cn y bytes maxL ret n) (hlink : Cond.methodLink own index y ∈ AW) {q1 ci : Nat} {T : u_T} {N : Nat} {fs : List Value} (hq1 : wi[q1]? = some (b, .inr (ci, fs))) (hci : vwCl[ci]? = some (Cn, T, N)) (hAs : As.length = n) (hrc : rm.cells = mc) (hrs : rm.slots = ms) (hfr : rm.frames + 1 ≤ R.frames) (hlo : 8 + (maxL + 11) + rm.locals ≤ R.locals) (hcs : cells + mc ≤ R.cells ∧ slots + ms ≤ R.slots) (hroom : (rest.map fun v => v.category).sum ≤ 8) (isC isR : List Nat) (hC : isC.map (fun i => ws[i]?) = wi.map some) (hCn : va_nd isC = true) (hR : isR.map (fun i => ws[i]?) = wr.map some) (hRn : va_nd isR = true) (hdis : ∀ i ∈ isR, i ∉ isC) (d : decode cc pc = .ok (.invokevirtual index, 3)) (hst : st = (As.reverse ++ .ref b :: rest))
    (K : ∀ (u : S), post u → V p l e R s m args below meth c D A H0 nL Q (wr ++ wo u) lv (cells + mc) (slots + ms) (pc + 3) rest) : V p l e R s m args below meth c D A H0 nL Q ws lv cells slots pc st := by
  subst hst
  intro H locs ls hP hD hS hl
  have hts := C.1.2.2.2.2
  have hPc : va_P D vwCl wi H := va_subM hP isC hC
  have hDc : va_D A wi := hD.sub isC hCn hC
  have hFc : ∀ q, va_A wi H.size q → A q := va_free hD hS C.2.2.1 isC hC
  refine va_callv (va_runV (As := As) (rest := rest) C.1 (hM H.size) (cwV n hts (goodV hlink ok) rfl hrc hrs ok.2.2.2.2 ⟨hfr, hlo⟩) ⟨Pin.blind, va_recv C.2.1 hPc hci hq1, fun U hU hW => ⟨rfl, by rw [hU], by rw [hU]; exact hPc, va_K.moved hW.alike C.2.1, hDc.weaken (fun _ _ _ _ => trivial), NW.warm hW C.2.2.2⟩⟩ rfl hAs hl.1 rfl (lv_room hroom) d hcs) hS (fun q _ h => hFc q h) hFc (fun u t H1 locs1 ht hvm hw hB hz1 hk1 hS1 => ?_)
  obtain ⟨hP1, hK1, hD1⟩ := hB
  rw [ht] at hP1
  obtain ⟨hP2, hD2⟩ := va_join hP hD isC isR hC hR hRn hdis hk1 hFc hP1 hD1
  exact K u hw H1 locs1 ls hP2 hD2 hS1 hl
theorem V_calliS {S : Type} {y : MethodName} {bytes : ByteArray} {maxL n index mc ms : Nat} {ret : Option FieldType} {rm : Room} {As : List Value} {wi wr : va_W} {post : Int32 → S → Prop} {wo : S → va_W} (C : Cx p s m args c cc nL own D tys A H0) (hM : MI l y bytes maxL ret rm D tys As wi post wo mc ms) (ok : MOKs y bytes maxL ret n) (hlink : Cond.methodLink own index y ∈ AW) (hAs : As.length = n) (hrc : rm.cells = mc) (hrs : rm.slots = ms) (hfr : rm.frames + 1 ≤ R.frames) (hlo : 8 + (maxL + 11) + rm.locals ≤ R.locals) (hcs : cells + mc ≤ R.cells ∧ slots + ms ≤ R.slots) (hroom : (rest.map fun v => v.category).sum ≤ 8) (isC isR : List Nat) (hC : isC.map (fun i => ws[i]?) = wi.map some) (hCn : va_nd isC = true) (hR : isR.map (fun i => ws[i]?) = wr.map some) (hRn : va_nd isR = true) (hdis : ∀ i ∈ isR, i ∉ isC) (d : decode cc pc = .ok (.invokestatic index, 3)) (hst : st = (As.reverse ++ rest))
    (K : ∀ (r : Int32) (u : S), post r u → V p l e R s m args below meth c D A H0 nL Q (wr ++ wo u) lv (cells + mc) (slots + ms) (pc + 3) (.int r :: rest)) : V p l e R s m args below meth c D A H0 nL Q ws lv cells slots pc st := by
  subst hst
  intro H locs ls hP hD hS hl
  have hts := C.1.2.2.2.2
  have hPc : va_P D vwCl wi H := va_subM hP isC hC
  have hDc : va_D A wi := hD.sub isC hCn hC
  have hFc : ∀ q, va_A wi H.size q → A q := va_free hD hS C.2.2.1 isC hC
  refine va_calli (va_runS (As := As) (rest := rest) C.1 (hM H.size) (va_cwS n hts (goodS hlink ok) rfl hrc hrs ok.2.2.2 ⟨hfr, hlo⟩) ⟨Pin.blind, fun U hU hW => ⟨rfl, by rw [hU], by rw [hU]; exact hPc, va_K.moved hW.alike C.2.1, hDc.weaken (fun _ _ _ _ => trivial), NW.warm hW C.2.2.2⟩⟩ rfl hAs hl.1 rfl (lv_room hroom) d hcs) hS (fun q _ h => hFc q h) hFc (fun r u t H1 locs1 ht hvm hw hB hz1 hk1 hS1 => ?_)
  obtain ⟨hP1, hK1, hD1⟩ := hB
  rw [ht] at hP1
  obtain ⟨hP2, hD2⟩ := va_join hP hD isC isR hC hR hRn hdis hk1 hFc hP1 hD1
  exact K r u hw H1 locs1 ls hP2 hD2 hS1 hl
theorem V_callvS {S : Type} {y : MethodName} {bytes : ByteArray} {maxL n index mc ms : Nat} {ret : Option FieldType} {rm : Room} {As : List Value} {wi wr : va_W} {post : S → Prop} {wo : S → va_W} (C : Cx p s m args c cc nL own D tys A H0) (hM : MV l y bytes maxL ret rm D tys As wi post wo mc ms) (ok : MOKs y bytes maxL ret n) (hlink : Cond.methodLink own index y ∈ AW) (hAs : As.length = n) (hrc : rm.cells = mc) (hrs : rm.slots = ms) (hfr : rm.frames + 1 ≤ R.frames) (hlo : 8 + (maxL + 11) + rm.locals ≤ R.locals) (hcs : cells + mc ≤ R.cells ∧ slots + ms ≤ R.slots) (hroom : (rest.map fun v => v.category).sum ≤ 8) (isC isR : List Nat) (hC : isC.map (fun i => ws[i]?) = wi.map some) (hCn : va_nd isC = true) (hR : isR.map (fun i => ws[i]?) = wr.map some) (hRn : va_nd isR = true) (hdis : ∀ i ∈ isR, i ∉ isC) (d : decode cc pc = .ok (.invokestatic index, 3)) (hst : st = (As.reverse ++ rest))
    (K : ∀ (u : S), post u → V p l e R s m args below meth c D A H0 nL Q (wr ++ wo u) lv (cells + mc) (slots + ms) (pc + 3) rest) : V p l e R s m args below meth c D A H0 nL Q ws lv cells slots pc st := by
  subst hst
  intro H locs ls hP hD hS hl
  have hts := C.1.2.2.2.2
  have hPc : va_P D vwCl wi H := va_subM hP isC hC
  have hDc : va_D A wi := hD.sub isC hCn hC
  have hFc : ∀ q, va_A wi H.size q → A q := va_free hD hS C.2.2.1 isC hC
  refine va_callv (va_runS (As := As) (rest := rest) C.1 (hM H.size) (va_cwS n hts (goodS hlink ok) rfl hrc hrs ok.2.2.2 ⟨hfr, hlo⟩) ⟨Pin.blind, fun U hU hW => ⟨rfl, by rw [hU], by rw [hU]; exact hPc, va_K.moved hW.alike C.2.1, hDc.weaken (fun _ _ _ _ => trivial), NW.warm hW C.2.2.2⟩⟩ rfl hAs hl.1 rfl (lv_room hroom) d hcs) hS (fun q _ h => hFc q h) hFc (fun u t H1 locs1 ht hvm hw hB hz1 hk1 hS1 => ?_)
  obtain ⟨hP1, hK1, hD1⟩ := hB
  rw [ht] at hP1
  obtain ⟨hP2, hD2⟩ := va_join hP hD isC isR hC hR hRn hdis hk1 hFc hP1 hD1
  exact K u hw H1 locs1 ls hP2 hD2 hS1 hl
theorem V_callvI {S : Type} {y : MethodName} {bytes : ByteArray} {maxL n index mc ms : Nat} {ret : Option FieldType} {rm : Room} {b : Nat} {As : List Value} {wi wr : va_W} {post : S → Prop} {wo : S → va_W} (C : Cx p s m args c cc nL own D tys A H0) (hM : MV l y bytes maxL none rm D tys (.ref b :: As) wi post wo mc ms) (ok : MOKi y bytes maxL n) (hlink : Cond.methodLink own index y ∈ AW) (hAs : As.length = n) (hrc : rm.cells = mc) (hrs : rm.slots = ms) (hfr : rm.frames + 1 ≤ R.frames) (hlo : 8 + (maxL + 11) + rm.locals ≤ R.locals) (hcs : cells + mc ≤ R.cells ∧ slots + ms ≤ R.slots) (hroom : (rest.map fun v => v.category).sum ≤ 8) (isC isR : List Nat) (hC : isC.map (fun i => ws[i]?) = wi.map some) (hCn : va_nd isC = true) (hR : isR.map (fun i => ws[i]?) = wr.map some) (hRn : va_nd isR = true) (hdis : ∀ i ∈ isR, i ∉ isC) (d : decode cc pc = .ok (.invokespecial index, 3)) (hst : st = (As.reverse ++ .ref b :: rest))
    (K : ∀ (u : S), post u → V p l e R s m args below meth c D A H0 nL Q (wr ++ wo u) lv (cells + mc) (slots + ms) (pc + 3) rest) : V p l e R s m args below meth c D A H0 nL Q ws lv cells slots pc st := by
  subst hst
  intro H locs ls hP hD hS hl
  have hts := C.1.2.2.2.2
  have hPc : va_P D vwCl wi H := va_subM hP isC hC
  have hDc : va_D A wi := hD.sub isC hCn hC
  have hFc : ∀ q, va_A wi H.size q → A q := va_free hD hS C.2.2.1 isC hC
  refine va_callv (va_runI (As := As) (rest := rest) C.1 (hM H.size) (cwI n hts (goodTS ok.2.2.1) rfl hrc hrs (hts _ ok.2.1) (hts _ hlink) (hts _ ok.1) ok.2.2.2.1 ok.2.2.2.2 ⟨hfr, hlo⟩) ⟨Pin.blind, fun U hU hW => ⟨rfl, by rw [hU], by rw [hU]; exact hPc, va_K.moved hW.alike C.2.1, hDc.weaken (fun _ _ _ _ => trivial), NW.warm hW C.2.2.2⟩⟩ rfl hAs hl.1 rfl (lv_room hroom) d hcs) hS (fun q _ h => hFc q h) hFc (fun u t H1 locs1 ht hvm hw hB hz1 hk1 hS1 => ?_)
  obtain ⟨hP1, hK1, hD1⟩ := hB
  rw [ht] at hP1
  obtain ⟨hP2, hD2⟩ := va_join hP hD isC isR hC hR hRn hdis hk1 hFc hP1 hD1
  exact K u hw H1 locs1 ls hP2 hD2 hS1 hl
theorem V_callvIN {S : Type} {y : MethodName} {bytes : ByteArray} {maxL n index mc ms : Nat} {ret : Option FieldType} {rm : Room} {b : Nat} {As : List Value} {wi wr : va_W} {post : S → Prop} {wo : S → va_W} (C : Cx p s m args c cc nL own D tys A H0) (hM : MV l y bytes maxL none rm D tys (.ref b :: As) wi post wo mc ms) {host : String} {i9 : Nat} (ok : MOKi y bytes maxL n) (hlink : tables_1[i9]? = some (Cond.methodLinkNest own index y host)) (hAs : As.length = n) (hrc : rm.cells = mc) (hrs : rm.slots = ms) (hfr : rm.frames + 1 ≤ R.frames) (hlo : 8 + (maxL + 11) + rm.locals ≤ R.locals) (hcs : cells + mc ≤ R.cells ∧ slots + ms ≤ R.slots) (hroom : (rest.map fun v => v.category).sum ≤ 8) (isC isR : List Nat) (hC : isC.map (fun i => ws[i]?) = wi.map some) (hCn : va_nd isC = true) (hR : isR.map (fun i => ws[i]?) = wr.map some) (hRn : va_nd isR = true) (hdis : ∀ i ∈ isR, i ∉ isC) (d : decode cc pc = .ok (.invokespecial index, 3)) (hst : st = (As.reverse ++ .ref b :: rest))
    (K : ∀ (u : S), post u → V p l e R s m args below meth c D A H0 nL Q (wr ++ wo u) lv (cells + mc) (slots + ms) (pc + 3) rest) : V p l e R s m args below meth c D A H0 nL Q ws lv cells slots pc st := by
  subst hst
  intro H locs ls hP hD hS hl
  have hts := C.1.2.2.2.2
  have hPc : va_P D vwCl wi H := va_subM hP isC hC
  have hDc : va_D A wi := hD.sub isC hCn hC
  have hFc : ∀ q, va_A wi H.size q → A q := va_free hD hS C.2.2.1 isC hC
  refine va_callv (va_runIN (As := As) (rest := rest) C.1 (hM H.size) (⟨va_cnB n hts (goodTS ok.2.2.1) rfl hrc hrs (C.2.2.2.at hlink rfl) (hts _ ok.2.1) ok.2.2.2.2 ⟨hfr, hlo⟩, ok.2.2.2.1, hts _ ok.1⟩) ⟨Pin.blind, fun U hU hW => ⟨rfl, by rw [hU], by rw [hU]; exact hPc, va_K.moved hW.alike C.2.1, hDc.weaken (fun _ _ _ _ => trivial), NW.warm hW C.2.2.2⟩⟩ rfl hAs hl.1 rfl (lv_room hroom) d hcs) hS (fun q _ h => hFc q h) hFc (fun u t H1 locs1 ht hvm hw hB hz1 hk1 hS1 => ?_)
  obtain ⟨hP1, hK1, hD1⟩ := hB
  rw [ht] at hP1
  obtain ⟨hP2, hD2⟩ := va_join hP hD isC isR hC hR hRn hdis hk1 hFc hP1 hD1
  exact K u hw H1 locs1 ls hP2 hD2 hS1 hl
theorem V_new (C : Cx p s m args c cc nL own D tys A H0) {Cn : String} {T : u_T} {N ci index : Nat} {fs : List Value} (ty : Nat → FieldType) (hty : ∀ k, k < N → parseFieldDescriptor (T k).2.2.1 = some (ty k)) (hin : ∀ w ∈ u_ws Cn T N, w ∈ AW) (hcl : Cond.classLink own index Cn ∈ AW) (hinst : Cond.instantiable Cn N ∈ AW) (hini : Cond.initialized Cn ∈ AW) (hc : vwCl[ci]? = some (Cn, T, N)) (hfs : ∀ j, j < N → defaultValue (ty j) = vp_V fs j) (hcells : cells + 1 ≤ R.cells) (hslots : slots + N ≤ R.slots) (d : decode cc pc = .ok (.new index, 3)) (K : ∀ q : Nat, V p l e R s m args below meth c D A H0 nL Q (ws ++ [(q, .inr (ci, fs))]) lv (cells + 1) (slots + N) (pc + 3) (.ref q :: rest)) : V p l e R s m args below meth c D A H0 nL Q ws lv cells slots pc rest := fun H locs ls hP hD hS hl => va_new C.1.1 C.1.2.1 C.1.2.2.2.2 hin ty hty C.1.2.2.2.1 (C.1.2.2.2.2 _ hcl) (C.1.2.2.2.2 _ hinst) (C.1.2.2.2.2 _ hini) C.2.1 hP hD hS C.2.2.1 hc hfs hcells hslots d (fun q H1 hP1 hD1 hS1 => K q H1 locs ls hP1 hD1 hS1 hl)
theorem va_K_int {cl : List vw_C} {cI cA : ClassId} {tys : List (ClassId × FieldType)} {t0 : Nat} (ht : tys[t0]? = some (cI, .int)) (h : va_K D cl (tys ++ [(cA, .int)]) s) : cA = cI := by
  have h1 : va_RA s cA .int := (h.2 tys.length (cA, .int) (by simp)).2
  have h2 : va_RA s cI .int := (h.2 t0 (cI, .int) (by rw [List.getElem?_append_left (List.getElem?_eq_some_iff.mp ht).1]; exact ht)).2
  exact Option.some.inj (h1.symm.trans h2)
theorem va_K_obj {cl : List vw_C} {cI cA : ClassId} {Cn : String} {tys : List (ClassId × FieldType)} {t0 : Nat} (ht : tys[t0]? = some (cI, .object Cn)) (h : va_K D cl (tys ++ [(cA, .object Cn)]) s) : cA = cI := by
  obtain ⟨_, _, _, _, _, h1⟩ := (h.2 tys.length (cA, .object Cn) (by simp)).2
  obtain ⟨_, _, _, _, _, h2⟩ := (h.2 t0 (cI, .object Cn) (by rw [List.getElem?_append_left (List.getElem?_eq_some_iff.mp ht).1]; exact ht)).2
  exact Option.some.inj (h1.symm.trans h2)
theorem V_newa (C : Cx p s m args c cc nL own D tys A H0) {N t0 : Nat} {cI : ClassId} (ht : tys[t0]? = some (cI, .int)) (harr : Cond.arrayClass .int ∈ AW) (hN : N < 100000) (hcells : cells + 1 ≤ R.cells) (hslots : slots + N ≤ R.slots) (d : decode cc pc = .ok (.newarray .int, 2)) (K : ∀ q : Nat, V p l e R s m args below meth c D A H0 nL Q (ws ++ [(q, .inl (cI, N, .inl (fun _ => nI 0)))]) lv (cells + 1) (slots + N) (pc + 2) (.ref q :: rest)) : V p l e R s m args below meth c D A H0 nL Q ws lv cells slots pc (.int (nI N) :: rest) := fun H locs ls hP hD hS hl => va_newa (atype := .int) (a0 := (N, .inl (fun _ => nI 0))) C.1.1 C.1.2.1 (C.1.2.2.2.2 _ harr) rfl C.2.1 hP hD hS C.2.2.1 (fun cA => by rw [vp_cell_i]; rfl) (nI_pos (by omega)) (nI_clamp (by omega)) (by show N * 4 ≤ 536870912; omega) hcells hslots d (fun q cA H1 hK1 hP1 hD1 hS1 => by
    have e := va_K_int ht hK1
    subst e
    exact K q H1 locs ls hP1 hD1 hS1 hl)
theorem V_newq (C : Cx p s m args c cc nL own D tys A H0) {Cn : String} {index N t0 : Nat} {cI : ClassId} (ht : tys[t0]? = some (cI, .object Cn)) (hcl : Cond.classLink own index Cn ∈ AW) (hov : va_AO Cn s) (hN : N < 100000) (hcells : cells + 1 ≤ R.cells) (hslots : slots + N ≤ R.slots) (d : decode cc pc = .ok (.anewarray index, 3)) (K : ∀ q : Nat, V p l e R s m args below meth c D A H0 nL Q (ws ++ [(q, .inl (cI, N, .inr (.inr (.inr (.inr (fun _ => none))))))]) lv (cells + 1) (slots + N) (pc + 3) (.ref q :: rest)) : V p l e R s m args below meth c D A H0 nL Q ws lv cells slots pc (.int (nI N) :: rest) := fun H locs ls hP hD hS hl => va_newq C.1.1 C.1.2.1 C.1.2.2.2.1 (C.1.2.2.2.2 _ hcl) hov C.2.1 hP hD hS C.2.2.1 (nI_pos (by omega)) (nI_clamp (by omega)) (by omega) hcells hslots d (fun q cA H1 hK1 hP1 hD1 hS1 => by
    have e := va_K_obj ht hK1
    subst e
    exact K q H1 locs ls hP1 hD1 hS1 hl)
theorem V_objInit (C : Cx p s m args c cc nL own D tys A H0) {idx a : Nat} (hlink : Cond.methodLink own idx objectInit ∈ AW) (hinst : Cond.instanceMethod objectInit ∈ AW) (hcode : Cond.code objectInit ⟨#[0xb1]⟩ 1 none ∈ AW) (hf : 1 ≤ R.frames) (hlo : (rest.map fun v => v.category).sum + 12 ≤ R.locals) (d : decode cc pc = .ok (.invokespecial idx, 3)) (K : V p l e R s m args below meth c D A H0 nL Q ws lv cells slots (pc + 3) rest) : V p l e R s m args below meth c D A H0 nL Q ws lv cells slots pc (.ref a :: rest) := fun H locs ls hP hD hS hl => W.objInit C.1.1 C.1.2.1 C.1.2.2.2.1 (C.1.2.2.2.2 _ hlink) (C.1.2.2.2.2 _ hinst) (C.1.2.2.2.2 _ hcode) rfl (hl.1.trans C.1.2.2.1.symm) rfl d hf (by simpa using hlo) (K H locs ls hP hD hS hl)
end VV
/-! numbers below 0 -/
theorem neg_lt {x : Int32} {b : Nat} (h : x.toInt < 0) (hb : b < 2147483648) : x < nI b := Int32.lt_iff_toInt_lt.mpr (by rw [nI_toInt hb]; omega)
theorem neg_le {x : Int32} {b : Nat} (h : x.toInt < 0) (hb : b < 2147483648) : x ≤ nI b := Int32.le_iff_toInt_le.mpr (by rw [nI_toInt hb]; omega)
theorem neg_nle {x : Int32} {b : Nat} (h : x.toInt < 0) (hb : b < 2147483648) : ¬ nI b ≤ x := fun z => by have := Int32.le_iff_toInt_le.mp z; rw [nI_toInt hb] at this; omega
theorem neg_nlt {x : Int32} {b : Nat} (h : x.toInt < 0) (hb : b < 2147483648) : ¬ nI b < x := fun z => by have := Int32.lt_iff_toInt_lt.mp z; rw [nI_toInt hb] at this; omega
theorem neg_ne {x : Int32} {b : Nat} (h : x.toInt < 0) (hb : b < 2147483648) : ¬ x = nI b := fun z => by rw [z, nI_toInt hb] at h; omega
theorem neg_ne' {x : Int32} {b : Nat} (h : x.toInt < 0) (hb : b < 2147483648) : ¬ nI b = x := fun z => neg_ne h hb z.symm
theorem arg_cases (x : Int32) : x.toInt < 0 ∨ ∃ j : Nat, j < 2147483648 ∧ x = nI j := by
  by_cases h : x < 0
  · exact Or.inl (by have := Int32.lt_iff_toInt_lt.mp h; simpa using this)
  · exact Or.inr (nI_of h)
end
section
theorem cl_L_7 : Cond.classLink RL 7 RX8 ∈ AW := AWm (i := 12) (by decide +kernel) (by decide +kernel)
theorem ml_L_9 : Cond.methodLink RL 9 yX8_init ∈ AW := AWm (i := 14) (by decide +kernel) (by decide +kernel)
theorem ml_X8_3 : Cond.methodLink RX8 3 objectInit ∈ AW := AWm (i := 17) (by decide +kernel) (by decide +kernel)
theorem cl_X8_9 : Cond.classLink RX8 9 RX4 ∈ AW := AWm (i := 20) (by decide +kernel) (by decide +kernel)
theorem ml_X4_3 : Cond.methodLink RX4 3 objectInit ∈ AW := AWm (i := 25) (by decide +kernel) (by decide +kernel)
theorem fl_X4_9 : Cond.fieldLink RX4 9 "LearningSpans$Message" "letters" "[I" ∈ AW := AWm (i := 26) (by decide +kernel) (by decide +kernel)
theorem fl_X4_15 : Cond.fieldLink RX4 15 "LearningSpans$Message" "size" "I" ∈ AW := AWm (i := 27) (by decide +kernel) (by decide +kernel)
theorem fl_X4_19 : Cond.fieldLink RX4 19 "LearningSpans$Message" "ended" "Z" ∈ AW := AWm (i := 30) (by decide +kernel) (by decide +kernel)
theorem fl_X4_23 : Cond.fieldLink RX4 23 "LearningSpans$Message" "pace" "I" ∈ AW := AWm (i := 32) (by decide +kernel) (by decide +kernel)
theorem fl_X4_26 : Cond.fieldLink RX4 26 "LearningSpans$Message" "bound" "I" ∈ AW := AWm (i := 34) (by decide +kernel) (by decide +kernel)
theorem arrI : Cond.arrayClass .int ∈ AW := AWm (i := 47) (by decide +kernel) (by decide +kernel)
theorem cl_X8_16 : Cond.classLink RX8 16 RX1 ∈ AW := AWm (i := 48) (by decide +kernel) (by decide +kernel)
theorem ml_X8_18 : Cond.methodLink RX8 18 yX1_init ∈ AW := AWm (i := 50) (by decide +kernel) (by decide +kernel)
theorem ml_X1_3 : Cond.methodLink RX1 3 objectInit ∈ AW := AWm (i := 53) (by decide +kernel) (by decide +kernel)
theorem cl_X1_9 : Cond.classLink RX1 9 RX2 ∈ AW := AWm (i := 54) (by decide +kernel) (by decide +kernel)
theorem ml_X2_3 : Cond.methodLink RX2 3 objectInit ∈ AW := AWm (i := 59) (by decide +kernel) (by decide +kernel)
theorem fl_X2_9 : Cond.fieldLink RX2 9 "LearningSpans$Counts" "row" "[I" ∈ AW := AWm (i := 60) (by decide +kernel) (by decide +kernel)
theorem fl_X2_15 : Cond.fieldLink RX2 15 "LearningSpans$Counts" "total" "I" ∈ AW := AWm (i := 61) (by decide +kernel) (by decide +kernel)
theorem fl_X2_19 : Cond.fieldLink RX2 19 "LearningSpans$Counts" "halvings" "I" ∈ AW := AWm (i := 64) (by decide +kernel) (by decide +kernel)
theorem fl_X2_22 : Cond.fieldLink RX2 22 "LearningSpans$Counts" "pace" "I" ∈ AW := AWm (i := 66) (by decide +kernel) (by decide +kernel)
theorem fl_X2_25 : Cond.fieldLink RX2 25 "LearningSpans$Counts" "bound" "I" ∈ AW := AWm (i := 67) (by decide +kernel) (by decide +kernel)
theorem cl_X1_18 : Cond.classLink RX1 18 RX6 ∈ AW := AWm (i := 79) (by decide +kernel) (by decide +kernel)
theorem ml_X6_3 : Cond.methodLink RX6 3 objectInit ∈ AW := AWm (i := 84) (by decide +kernel) (by decide +kernel)
theorem cst_X6_15 : Cond.constant RX6 15 (65535) ∈ AW := AWm (i := 85) (by decide +kernel) (by decide +kernel)
theorem fl_X6_9 : Cond.fieldLink RX6 9 "LearningSpans$Span" "low" "I" ∈ AW := AWm (i := 86) (by decide +kernel) (by decide +kernel)
theorem fl_X6_16 : Cond.fieldLink RX6 16 "LearningSpans$Span" "high" "I" ∈ AW := AWm (i := 89) (by decide +kernel) (by decide +kernel)
theorem cl_X1_25 : Cond.classLink RX1 25 RX0 ∈ AW := AWm (i := 96) (by decide +kernel) (by decide +kernel)
theorem ml_X0_3 : Cond.methodLink RX0 3 objectInit ∈ AW := AWm (i := 101) (by decide +kernel) (by decide +kernel)
theorem fl_X0_9 : Cond.fieldLink RX0 9 "LearningSpans$BitRow" "row" "[I" ∈ AW := AWm (i := 102) (by decide +kernel) (by decide +kernel)
theorem fl_X0_15 : Cond.fieldLink RX0 15 "LearningSpans$BitRow" "size" "I" ∈ AW := AWm (i := 103) (by decide +kernel) (by decide +kernel)
theorem ml_X1_43 : Cond.methodLink RX1 43 yX1_start ∈ AW := AWm (i := 112) (by decide +kernel) (by decide +kernel)
theorem ml_X1_47 : Cond.methodLink RX1 47 yX2_start ∈ AW := AWm (i := 116) (by decide +kernel) (by decide +kernel)
theorem ml_X1_48 : Cond.methodLink RX1 48 yX6_start ∈ AW := AWm (i := 120) (by decide +kernel) (by decide +kernel)
theorem ml_X1_50 : Cond.methodLink RX1 50 yX0_empty ∈ AW := AWm (i := 124) (by decide +kernel) (by decide +kernel)
theorem fl_X1_12 : Cond.fieldLink RX1 12 "LearningSpans$Coder" "counts" "LLearningSpans$Counts;" ∈ AW := AWm (i := 128) (by decide +kernel) (by decide +kernel)
theorem fl_X1_21 : Cond.fieldLink RX1 21 "LearningSpans$Coder" "span" "LLearningSpans$Span;" ∈ AW := AWm (i := 130) (by decide +kernel) (by decide +kernel)
theorem fl_X1_28 : Cond.fieldLink RX1 28 "LearningSpans$Coder" "bits" "LLearningSpans$BitRow;" ∈ AW := AWm (i := 132) (by decide +kernel) (by decide +kernel)
theorem fl_X1_32 : Cond.fieldLink RX1 32 "LearningSpans$Coder" "costs" "[I" ∈ AW := AWm (i := 134) (by decide +kernel) (by decide +kernel)
theorem fl_X1_36 : Cond.fieldLink RX1 36 "LearningSpans$Coder" "size" "I" ∈ AW := AWm (i := 135) (by decide +kernel) (by decide +kernel)
theorem fl_X1_40 : Cond.fieldLink RX1 40 "LearningSpans$Coder" "waiting" "I" ∈ AW := AWm (i := 136) (by decide +kernel) (by decide +kernel)
theorem cl_X8_26 : Cond.classLink RX8 26 RX5 ∈ AW := AWm (i := 151) (by decide +kernel) (by decide +kernel)
theorem ml_X5_3 : Cond.methodLink RX5 3 objectInit ∈ AW := AWm (i := 156) (by decide +kernel) (by decide +kernel)
theorem cl_X5_9 : Cond.classLink RX5 9 RX2 ∈ AW := AWm (i := 157) (by decide +kernel) (by decide +kernel)
theorem cl_X5_18 : Cond.classLink RX5 18 RX6 ∈ AW := AWm (i := 159) (by decide +kernel) (by decide +kernel)
theorem fl_X5_12 : Cond.fieldLink RX5 12 "LearningSpans$Reader" "counts" "LLearningSpans$Counts;" ∈ AW := AWm (i := 161) (by decide +kernel) (by decide +kernel)
theorem fl_X5_21 : Cond.fieldLink RX5 21 "LearningSpans$Reader" "span" "LLearningSpans$Span;" ∈ AW := AWm (i := 162) (by decide +kernel) (by decide +kernel)
theorem fl_X5_25 : Cond.fieldLink RX5 25 "LearningSpans$Reader" "letters" "[I" ∈ AW := AWm (i := 163) (by decide +kernel) (by decide +kernel)
theorem fl_X5_29 : Cond.fieldLink RX5 29 "LearningSpans$Reader" "size" "I" ∈ AW := AWm (i := 164) (by decide +kernel) (by decide +kernel)
theorem fl_X5_33 : Cond.fieldLink RX5 33 "LearningSpans$Reader" "number" "I" ∈ AW := AWm (i := 166) (by decide +kernel) (by decide +kernel)
theorem fl_X5_36 : Cond.fieldLink RX5 36 "LearningSpans$Reader" "taken" "I" ∈ AW := AWm (i := 167) (by decide +kernel) (by decide +kernel)
theorem fl_X5_39 : Cond.fieldLink RX5 39 "LearningSpans$Reader" "over" "Z" ∈ AW := AWm (i := 169) (by decide +kernel) (by decide +kernel)
theorem cl_X8_33 : Cond.classLink RX8 33 RX7 ∈ AW := AWm (i := 186) (by decide +kernel) (by decide +kernel)
theorem ml_X7_3 : Cond.methodLink RX7 3 objectInit ∈ AW := AWm (i := 191) (by decide +kernel) (by decide +kernel)
theorem fl_X7_9 : Cond.fieldLink RX7 9 "LearningSpans$Text" "characters" "[I" ∈ AW := AWm (i := 192) (by decide +kernel) (by decide +kernel)
theorem fl_X7_15 : Cond.fieldLink RX7 15 "LearningSpans$Text" "size" "I" ∈ AW := AWm (i := 193) (by decide +kernel) (by decide +kernel)
theorem cl_X8_40 : Cond.classLink RX8 40 RX0 ∈ AW := AWm (i := 200) (by decide +kernel) (by decide +kernel)
theorem cl_X8_47 : Cond.classLink RX8 47 RX3 ∈ AW := AWm (i := 202) (by decide +kernel) (by decide +kernel)
theorem ml_X8_49 : Cond.methodLink RX8 49 yX3_init ∈ AW := AWm (i := 204) (by decide +kernel) (by decide +kernel)
theorem ml_X3_3 : Cond.methodLink RX3 3 objectInit ∈ AW := AWm (i := 207) (by decide +kernel) (by decide +kernel)
theorem cl_X3_9 : Cond.classLink RX3 9 RX4 ∈ AW := AWm (i := 208) (by decide +kernel) (by decide +kernel)
theorem ovM_row : tables_1[209]? = some (Cond.arrayOver (.object "LearningSpans$Message")) := by decide +kernel
theorem fl_X3_11 : Cond.fieldLink RX3 11 "LearningSpans$History" "states" "[LLearningSpans$Message;" ∈ AW := AWm (i := 211) (by decide +kernel) (by decide +kernel)
theorem fl_X3_17 : Cond.fieldLink RX3 17 "LearningSpans$History" "size" "I" ∈ AW := AWm (i := 212) (by decide +kernel) (by decide +kernel)
theorem fl_X8_12 : Cond.fieldLink RX8 12 "LearningSpans" "message" "LLearningSpans$Message;" ∈ AW := AWm (i := 219) (by decide +kernel) (by decide +kernel)
theorem fl_X8_19 : Cond.fieldLink RX8 19 "LearningSpans" "coder" "LLearningSpans$Coder;" ∈ AW := AWm (i := 220) (by decide +kernel) (by decide +kernel)
theorem fl_X8_23 : Cond.fieldLink RX8 23 "LearningSpans" "trial" "LLearningSpans$Coder;" ∈ AW := AWm (i := 221) (by decide +kernel) (by decide +kernel)
theorem fl_X8_29 : Cond.fieldLink RX8 29 "LearningSpans" "reader" "LLearningSpans$Reader;" ∈ AW := AWm (i := 222) (by decide +kernel) (by decide +kernel)
theorem fl_X8_36 : Cond.fieldLink RX8 36 "LearningSpans" "text" "LLearningSpans$Text;" ∈ AW := AWm (i := 223) (by decide +kernel) (by decide +kernel)
theorem fl_X8_43 : Cond.fieldLink RX8 43 "LearningSpans" "textBits" "LLearningSpans$BitRow;" ∈ AW := AWm (i := 224) (by decide +kernel) (by decide +kernel)
theorem fl_X8_50 : Cond.fieldLink RX8 50 "LearningSpans" "history" "LLearningSpans$History;" ∈ AW := AWm (i := 225) (by decide +kernel) (by decide +kernel)
theorem ml_L_13 : Cond.methodLink RL 13 yX8_put ∈ AW := AWm (i := 241) (by decide +kernel) (by decide +kernel)
theorem ml_X8_54 : Cond.methodLink RX8 54 yX8_isLetter ∈ AW := AWm (i := 245) (by decide +kernel) (by decide +kernel)
theorem ml_X8_66 : Cond.methodLink RX8 66 yX3_keep ∈ AW := AWm (i := 248) (by decide +kernel) (by decide +kernel)
theorem ml_X3_22 : Cond.methodLink RX3 22 yX3_dropOldest ∈ AW := AWm (i := 252) (by decide +kernel) (by decide +kernel)
theorem ml_X3_25 : Cond.methodLink RX3 25 yX3_copy ∈ AW := AWm (i := 256) (by decide +kernel) (by decide +kernel)
theorem ml_X3_29 : Cond.methodLink RX3 29 yX4_copyFrom ∈ AW := AWm (i := 259) (by decide +kernel) (by decide +kernel)
theorem ml_X4_35 : Cond.methodLink RX4 35 yX4_letterAt ∈ AW := AWm (i := 263) (by decide +kernel) (by decide +kernel)
theorem ml_X8_70 : Cond.methodLink RX8 70 yX4_append ∈ AW := AWm (i := 267) (by decide +kernel) (by decide +kernel)
theorem ml_X8_74 : Cond.methodLink RX8 74 yX1_add ∈ AW := AWm (i := 271) (by decide +kernel) (by decide +kernel)
theorem ml_X1_54 : Cond.methodLink RX1 54 yX1_narrow ∈ AW := AWm (i := 275) (by decide +kernel) (by decide +kernel)
theorem ml_X1_86 : Cond.methodLink RX1 86 yX6_shrink ∈ AW := AWm (i := 279) (by decide +kernel) (by decide +kernel)
theorem ml_X6_24 : Cond.methodLink RX6 24 yX2_below ∈ AW := AWm (i := 283) (by decide +kernel) (by decide +kernel)
theorem ml_X6_28 : Cond.methodLink RX6 28 yX2_countAt ∈ AW := AWm (i := 287) (by decide +kernel) (by decide +kernel)
theorem ml_X1_90 : Cond.methodLink RX1 90 yX6_widen ∈ AW := AWm (i := 291) (by decide +kernel) (by decide +kernel)
theorem cst_X6_31 : Cond.constant RX6 31 (32768) ∈ AW := AWm (i := 295) (by decide +kernel) (by decide +kernel)
theorem cst_X6_32 : Cond.constant RX6 32 (49152) ∈ AW := AWm (i := 296) (by decide +kernel) (by decide +kernel)
theorem cst_X1_94 : Cond.constant RX1 94 (32768) ∈ AW := AWm (i := 297) (by decide +kernel) (by decide +kernel)
theorem ml_X1_74 : Cond.methodLink RX1 74 yX1_writeBit ∈ AW := AWm (i := 298) (by decide +kernel) (by decide +kernel)
theorem ml_X1_95 : Cond.methodLink RX1 95 yX0_append ∈ AW := AWm (i := 302) (by decide +kernel) (by decide +kernel)
theorem ml_X1_58 : Cond.methodLink RX1 58 yX2_learn ∈ AW := AWm (i := 306) (by decide +kernel) (by decide +kernel)
theorem ml_X2_28 : Cond.methodLink RX2 28 yX2_halve ∈ AW := AWm (i := 310) (by decide +kernel) (by decide +kernel)
theorem ml_L_18 : Cond.methodLink RL 18 yX8_end ∈ AW := AWm (i := 314) (by decide +kernel) (by decide +kernel)
theorem ml_X8_78 : Cond.methodLink RX8 78 yX1_close ∈ AW := AWm (i := 318) (by decide +kernel) (by decide +kernel)
theorem ml_L_23 : Cond.methodLink RL 23 yX8_begin ∈ AW := AWm (i := 322) (by decide +kernel) (by decide +kernel)
theorem ml_X8_85 : Cond.methodLink RX8 85 yX4_empty ∈ AW := AWm (i := 326) (by decide +kernel) (by decide +kernel)
theorem ml_X8_88 : Cond.methodLink RX8 88 yX8_writeAnew ∈ AW := AWm (i := 330) (by decide +kernel) (by decide +kernel)
theorem ml_X8_195 : Cond.methodLink RX8 195 yX1_start ∈ AW := AWm (i := 334) (by decide +kernel) (by decide +kernel)
theorem ml_X8_198 : Cond.methodLink RX8 198 yX1_addAll ∈ AW := AWm (i := 335) (by decide +kernel) (by decide +kernel)
theorem ml_X1_64 : Cond.methodLink RX1 64 yX4_letterAt ∈ AW := AWm (i := 339) (by decide +kernel) (by decide +kernel)
theorem ml_X1_68 : Cond.methodLink RX1 68 yX1_add ∈ AW := AWm (i := 340) (by decide +kernel) (by decide +kernel)
theorem ml_L_27 : Cond.methodLink RL 27 yX8_drop ∈ AW := AWm (i := 341) (by decide +kernel) (by decide +kernel)
theorem ml_X8_91 : Cond.methodLink RX8 91 yX4_shorten ∈ AW := AWm (i := 345) (by decide +kernel) (by decide +kernel)
theorem ml_X4_29 : Cond.methodLink RX4 29 Lib.Math.max.name ∈ AW := AWm (i := 349) (by decide +kernel) (by decide +kernel)
theorem ml_L_31 : Cond.methodLink RL 31 yX8_mend ∈ AW := AWm (i := 352) (by decide +kernel) (by decide +kernel)
theorem ml_X8_94 : Cond.methodLink RX8 94 yX4_replace ∈ AW := AWm (i := 356) (by decide +kernel) (by decide +kernel)
theorem ml_L_36 : Cond.methodLink RL 36 yX8_set ∈ AW := AWm (i := 360) (by decide +kernel) (by decide +kernel)
theorem ml_X8_98 : Cond.methodLink RX8 98 yX8_isSetting ∈ AW := AWm (i := 364) (by decide +kernel) (by decide +kernel)
theorem ml_X8_162 : Cond.methodLink RX8 162 yX8_isPace ∈ AW := AWm (i := 367) (by decide +kernel) (by decide +kernel)
theorem ml_L_40 : Cond.methodLink RL 40 yX8_letter ∈ AW := AWm (i := 370) (by decide +kernel) (by decide +kernel)
theorem ml_X8_108 : Cond.methodLink RX8 108 yX4_letterAt ∈ AW := AWm (i := 374) (by decide +kernel) (by decide +kernel)
theorem ml_L_44 : Cond.methodLink RL 44 yX8_bit ∈ AW := AWm (i := 375) (by decide +kernel) (by decide +kernel)
theorem ml_X8_111 : Cond.methodLink RX8 111 yX0_bitAt ∈ AW := AWm (i := 379) (by decide +kernel) (by decide +kernel)
theorem ml_L_48 : Cond.methodLink RL 48 yX8_letterOf ∈ AW := AWm (i := 383) (by decide +kernel) (by decide +kernel)
theorem ml_X8_118 : Cond.methodLink RX8 118 yX2_countAt ∈ AW := AWm (i := 387) (by decide +kernel) (by decide +kernel)
theorem ml_X8_123 : Cond.methodLink RX8 123 yX2_below ∈ AW := AWm (i := 388) (by decide +kernel) (by decide +kernel)
theorem ml_X8_126 : Cond.methodLink RX8 126 yX4_howOften ∈ AW := AWm (i := 389) (by decide +kernel) (by decide +kernel)
theorem ml_X8_129 : Cond.methodLink RX8 129 yX8_bitsMoreWith ∈ AW := AWm (i := 393) (by decide +kernel) (by decide +kernel)
theorem ml_L_52 : Cond.methodLink RL 52 yX8_count ∈ AW := AWm (i := 397) (by decide +kernel) (by decide +kernel)
theorem ml_X8_155 : Cond.methodLink RX8 155 yX1_dearest ∈ AW := AWm (i := 401) (by decide +kernel) (by decide +kernel)
theorem ml_X1_77 : Cond.methodLink RX1 77 yX1_costAt ∈ AW := AWm (i := 405) (by decide +kernel) (by decide +kernel)
theorem ml_X1_80 : Cond.methodLink RX1 80 Lib.Math.max.name ∈ AW := AWm (i := 409) (by decide +kernel) (by decide +kernel)
theorem ml_L_56 : Cond.methodLink RL 56 yX8_cost ∈ AW := AWm (i := 410) (by decide +kernel) (by decide +kernel)
theorem ml_X8_159 : Cond.methodLink RX8 159 yX1_costAt ∈ AW := AWm (i := 414) (by decide +kernel) (by decide +kernel)
theorem ml_L_60 : Cond.methodLink RL 60 yX8_bitsBy ∈ AW := AWm (i := 415) (by decide +kernel) (by decide +kernel)
theorem ml_X8_165 : Cond.methodLink RX8 165 yX8_bitsEnded ∈ AW := AWm (i := 419) (by decide +kernel) (by decide +kernel)
theorem ml_L_64 : Cond.methodLink RL 64 yX8_bestPace ∈ AW := AWm (i := 423) (by decide +kernel) (by decide +kernel)
theorem ml_L_68 : Cond.methodLink RL 68 yX8_readBack ∈ AW := AWm (i := 427) (by decide +kernel) (by decide +kernel)
theorem ml_X8_168 : Cond.methodLink RX8 168 yX5_read ∈ AW := AWm (i := 431) (by decide +kernel) (by decide +kernel)
theorem ml_X5_43 : Cond.methodLink RX5 43 yX2_start ∈ AW := AWm (i := 435) (by decide +kernel) (by decide +kernel)
theorem ml_X5_47 : Cond.methodLink RX5 47 yX6_start ∈ AW := AWm (i := 436) (by decide +kernel) (by decide +kernel)
theorem ml_X5_49 : Cond.methodLink RX5 49 yX5_takeBit ∈ AW := AWm (i := 437) (by decide +kernel) (by decide +kernel)
theorem ml_X5_76 : Cond.methodLink RX5 76 yX0_bitAt ∈ AW := AWm (i := 441) (by decide +kernel) (by decide +kernel)
theorem ml_X5_53 : Cond.methodLink RX5 53 yX5_readLetter ∈ AW := AWm (i := 442) (by decide +kernel) (by decide +kernel)
theorem ml_X5_56 : Cond.methodLink RX5 56 yX6_letterAround ∈ AW := AWm (i := 446) (by decide +kernel) (by decide +kernel)
theorem ml_X6_33 : Cond.methodLink RX6 33 yX2_letterWith ∈ AW := AWm (i := 450) (by decide +kernel) (by decide +kernel)
theorem ml_X5_60 : Cond.methodLink RX5 60 yX5_narrow ∈ AW := AWm (i := 454) (by decide +kernel) (by decide +kernel)
theorem ml_X5_68 : Cond.methodLink RX5 68 yX6_shrink ∈ AW := AWm (i := 458) (by decide +kernel) (by decide +kernel)
theorem ml_X5_72 : Cond.methodLink RX5 72 yX6_widen ∈ AW := AWm (i := 459) (by decide +kernel) (by decide +kernel)
theorem ml_X5_64 : Cond.methodLink RX5 64 yX2_learn ∈ AW := AWm (i := 460) (by decide +kernel) (by decide +kernel)
theorem ml_X8_176 : Cond.methodLink RX8 176 yX8_alikeFromFirst ∈ AW := AWm (i := 461) (by decide +kernel) (by decide +kernel)
theorem ml_X8_201 : Cond.methodLink RX8 201 Lib.Math.min.name ∈ AW := AWm (i := 465) (by decide +kernel) (by decide +kernel)
theorem ml_X8_194 : Cond.methodLink RX8 194 yX5_letterAt ∈ AW := AWm (i := 468) (by decide +kernel) (by decide +kernel)
theorem ml_L_72 : Cond.methodLink RL 72 yX8_undo ∈ AW := AWm (i := 472) (by decide +kernel) (by decide +kernel)
theorem ml_X8_179 : Cond.methodLink RX8 179 yX3_restore ∈ AW := AWm (i := 476) (by decide +kernel) (by decide +kernel)
theorem ml_L_76 : Cond.methodLink RL 76 yX8_type ∈ AW := AWm (i := 480) (by decide +kernel) (by decide +kernel)
theorem ml_X8_182 : Cond.methodLink RX8 182 yX7_append ∈ AW := AWm (i := 484) (by decide +kernel) (by decide +kernel)
theorem ml_L_80 : Cond.methodLink RL 80 yX8_clearText ∈ AW := AWm (i := 488) (by decide +kernel) (by decide +kernel)
theorem ml_X8_183 : Cond.methodLink RX8 183 yX7_empty ∈ AW := AWm (i := 492) (by decide +kernel) (by decide +kernel)
theorem ml_L_84 : Cond.methodLink RL 84 yX8_write ∈ AW := AWm (i := 496) (by decide +kernel) (by decide +kernel)
theorem ml_X8_184 : Cond.methodLink RX8 184 yX7_copyFrom ∈ AW := AWm (i := 500) (by decide +kernel) (by decide +kernel)
theorem ml_X7_19 : Cond.methodLink RX7 19 yX7_empty ∈ AW := AWm (i := 504) (by decide +kernel) (by decide +kernel)
theorem ml_X7_25 : Cond.methodLink RX7 25 yX0_bitAt ∈ AW := AWm (i := 505) (by decide +kernel) (by decide +kernel)
theorem ml_X7_29 : Cond.methodLink RX7 29 yX7_append ∈ AW := AWm (i := 506) (by decide +kernel) (by decide +kernel)
theorem ml_L_88 : Cond.methodLink RL 88 yX8_fault ∈ AW := AWm (i := 507) (by decide +kernel) (by decide +kernel)
theorem ml_X8_188 : Cond.methodLink RX8 188 yX8_faultReason ∈ AW := AWm (i := 511) (by decide +kernel) (by decide +kernel)
theorem ml_X8_207 : Cond.methodLink RX8 207 yX7_firstStrange ∈ AW := AWm (i := 515) (by decide +kernel) (by decide +kernel)
theorem ml_X8_210 : Cond.methodLink RX8 210 yX7_copyTo ∈ AW := AWm (i := 519) (by decide +kernel) (by decide +kernel)
theorem ml_X7_33 : Cond.methodLink RX7 33 yX0_empty ∈ AW := AWm (i := 523) (by decide +kernel) (by decide +kernel)
theorem ml_X7_34 : Cond.methodLink RX7 34 yX0_append ∈ AW := AWm (i := 524) (by decide +kernel) (by decide +kernel)
theorem ml_X8_216 : Cond.methodLink RX8 216 yX0_firstOne ∈ AW := AWm (i := 525) (by decide +kernel) (by decide +kernel)
theorem ml_X0_19 : Cond.methodLink RX0 19 Lib.Math.max.name ∈ AW := AWm (i := 529) (by decide +kernel) (by decide +kernel)
theorem ml_X0_25 : Cond.methodLink RX0 25 yX0_bitAt ∈ AW := AWm (i := 530) (by decide +kernel) (by decide +kernel)
theorem ml_X8_191 : Cond.methodLink RX8 191 yX8_faultPlace ∈ AW := AWm (i := 531) (by decide +kernel) (by decide +kernel)
theorem ml_L_92 : Cond.methodLink RL 92 yX8_told ∈ AW := AWm (i := 535) (by decide +kernel) (by decide +kernel)
theorem cl_L_10 : Cond.classLink RL 10 RX9 ∈ AW := AWm (i := 539) (by decide +kernel) (by decide +kernel)
theorem ml_L_12 : Cond.methodLink RL 12 yX9_init ∈ AW := AWm (i := 541) (by decide +kernel) (by decide +kernel)
theorem ml_X9_1 : Cond.methodLink RX9 1 objectInit ∈ AW := AWm (i := 544) (by decide +kernel) (by decide +kernel)
theorem fl_X9_7 : Cond.fieldLink RX9 7 "LearningSpansModel" "all" "[I" ∈ AW := AWm (i := 545) (by decide +kernel) (by decide +kernel)
theorem fl_X9_13 : Cond.fieldLink RX9 13 "LearningSpansModel" "history" "[I" ∈ AW := AWm (i := 546) (by decide +kernel) (by decide +kernel)
theorem fl_X9_34 : Cond.fieldLink RX9 34 "LearningSpansModel" "historyLong" "I" ∈ AW := AWm (i := 547) (by decide +kernel) (by decide +kernel)
theorem fl_X9_16 : Cond.fieldLink RX9 16 "LearningSpansModel" "counts" "[I" ∈ AW := AWm (i := 548) (by decide +kernel) (by decide +kernel)
theorem fl_X9_38 : Cond.fieldLink RX9 38 "LearningSpansModel" "total" "I" ∈ AW := AWm (i := 549) (by decide +kernel) (by decide +kernel)
theorem fl_X9_41 : Cond.fieldLink RX9 41 "LearningSpansModel" "halvings" "I" ∈ AW := AWm (i := 550) (by decide +kernel) (by decide +kernel)
theorem fl_X9_53 : Cond.fieldLink RX9 53 "LearningSpansModel" "low" "I" ∈ AW := AWm (i := 551) (by decide +kernel) (by decide +kernel)
theorem fl_X9_50 : Cond.fieldLink RX9 50 "LearningSpansModel" "high" "I" ∈ AW := AWm (i := 552) (by decide +kernel) (by decide +kernel)
theorem fl_X9_47 : Cond.fieldLink RX9 47 "LearningSpansModel" "wait" "I" ∈ AW := AWm (i := 553) (by decide +kernel) (by decide +kernel)
theorem fl_X9_19 : Cond.fieldLink RX9 19 "LearningSpansModel" "bits" "[I" ∈ AW := AWm (i := 554) (by decide +kernel) (by decide +kernel)
theorem fl_X9_44 : Cond.fieldLink RX9 44 "LearningSpansModel" "bitsLong" "I" ∈ AW := AWm (i := 555) (by decide +kernel) (by decide +kernel)
theorem fl_X9_22 : Cond.fieldLink RX9 22 "LearningSpansModel" "costs" "[I" ∈ AW := AWm (i := 556) (by decide +kernel) (by decide +kernel)
theorem fl_X9_25 : Cond.fieldLink RX9 25 "LearningSpansModel" "given" "[I" ∈ AW := AWm (i := 557) (by decide +kernel) (by decide +kernel)
theorem fl_X9_148 : Cond.fieldLink RX9 148 "LearningSpansModel" "givenLong" "I" ∈ AW := AWm (i := 558) (by decide +kernel) (by decide +kernel)
theorem fl_X9_145 : Cond.fieldLink RX9 145 "LearningSpansModel" "taken" "I" ∈ AW := AWm (i := 559) (by decide +kernel) (by decide +kernel)
theorem fl_X9_142 : Cond.fieldLink RX9 142 "LearningSpansModel" "v" "I" ∈ AW := AWm (i := 560) (by decide +kernel) (by decide +kernel)
theorem fl_X9_28 : Cond.fieldLink RX9 28 "LearningSpansModel" "read" "[I" ∈ AW := AWm (i := 561) (by decide +kernel) (by decide +kernel)
theorem fl_X9_151 : Cond.fieldLink RX9 151 "LearningSpansModel" "readMany" "I" ∈ AW := AWm (i := 562) (by decide +kernel) (by decide +kernel)
theorem fl_X9_31 : Cond.fieldLink RX9 31 "LearningSpansModel" "text" "[I" ∈ AW := AWm (i := 563) (by decide +kernel) (by decide +kernel)
theorem fl_X9_133 : Cond.fieldLink RX9 133 "LearningSpansModel" "textLong" "I" ∈ AW := AWm (i := 564) (by decide +kernel) (by decide +kernel)
theorem fl_X9_168 : Cond.fieldLink RX9 168 "LearningSpansModel" "place" "I" ∈ AW := AWm (i := 565) (by decide +kernel) (by decide +kernel)
theorem ml_L_17 : Cond.methodLink RL 17 yX9_put ∈ AW := AWm (i := 609) (by decide +kernel) (by decide +kernel)
theorem cstl_X9_100 : Cond.constantLong RX9 100 (7) ∈ AW := AWm (i := 613) (by decide +kernel) (by decide +kernel)
theorem ml_X9_102 : Cond.methodLink RX9 102 yX9_in ∈ AW := AWm (i := 614) (by decide +kernel) (by decide +kernel)
theorem ml_X9_106 : Cond.methodLink RX9 106 yX9_record ∈ AW := AWm (i := 617) (by decide +kernel) (by decide +kernel)
theorem ml_X9_97 : Cond.methodLink RX9 97 yX9_putsNow ∈ AW := AWm (i := 621) (by decide +kernel) (by decide +kernel)
theorem ml_X9_93 : Cond.methodLink RX9 93 yX9_putsAll ∈ AW := AWm (i := 625) (by decide +kernel) (by decide +kernel)
theorem ml_X9_83 : Cond.methodLink RX9 83 yX9_beginsSpan ∈ AW := AWm (i := 629) (by decide +kernel) (by decide +kernel)
theorem ml_X9_76 : Cond.methodLink RX9 76 yX9_beginsCounts ∈ AW := AWm (i := 633) (by decide +kernel) (by decide +kernel)
theorem cst_X9_79 : Cond.constant RX9 79 (65535) ∈ AW := AWm (i := 637) (by decide +kernel) (by decide +kernel)
theorem ml_X9_80 : Cond.methodLink RX9 80 yX9_narrows ∈ AW := AWm (i := 638) (by decide +kernel) (by decide +kernel)
theorem ml_X9_62 : Cond.methodLink RX9 62 yX9_cuts ∈ AW := AWm (i := 642) (by decide +kernel) (by decide +kernel)
theorem ml_X9_56 : Cond.methodLink RX9 56 yX9_below ∈ AW := AWm (i := 646) (by decide +kernel) (by decide +kernel)
theorem ml_X9_66 : Cond.methodLink RX9 66 yX9_takenOff ∈ AW := AWm (i := 650) (by decide +kernel) (by decide +kernel)
theorem cst_X9_60 : Cond.constant RX9 60 (32768) ∈ AW := AWm (i := 654) (by decide +kernel) (by decide +kernel)
theorem cst_X9_61 : Cond.constant RX9 61 (49152) ∈ AW := AWm (i := 655) (by decide +kernel) (by decide +kernel)
theorem ml_X9_70 : Cond.methodLink RX9 70 yX9_writes ∈ AW := AWm (i := 656) (by decide +kernel) (by decide +kernel)
theorem ml_X9_73 : Cond.methodLink RX9 73 yX9_doubles ∈ AW := AWm (i := 660) (by decide +kernel) (by decide +kernel)
theorem ml_X9_86 : Cond.methodLink RX9 86 yX9_learns ∈ AW := AWm (i := 664) (by decide +kernel) (by decide +kernel)
theorem ml_X9_90 : Cond.methodLink RX9 90 yX9_ends ∈ AW := AWm (i := 668) (by decide +kernel) (by decide +kernel)
theorem ml_L_22 : Cond.methodLink RL 22 yX9_end ∈ AW := AWm (i := 672) (by decide +kernel) (by decide +kernel)
theorem ml_X9_109 : Cond.methodLink RX9 109 yX9_bitsNow ∈ AW := AWm (i := 676) (by decide +kernel) (by decide +kernel)
theorem ml_L_26 : Cond.methodLink RL 26 yX9_begin ∈ AW := AWm (i := 680) (by decide +kernel) (by decide +kernel)
theorem ml_X9_112 : Cond.methodLink RX9 112 yX9_begins ∈ AW := AWm (i := 684) (by decide +kernel) (by decide +kernel)
theorem ml_L_30 : Cond.methodLink RL 30 yX9_drop ∈ AW := AWm (i := 688) (by decide +kernel) (by decide +kernel)
theorem cstl_X9_115 : Cond.constantLong RX9 115 (40) ∈ AW := AWm (i := 692) (by decide +kernel) (by decide +kernel)
theorem ml_L_35 : Cond.methodLink RL 35 yX9_mend ∈ AW := AWm (i := 693) (by decide +kernel) (by decide +kernel)
theorem ml_L_39 : Cond.methodLink RL 39 yX9_set ∈ AW := AWm (i := 697) (by decide +kernel) (by decide +kernel)
theorem cstl_X9_117 : Cond.constantLong RX9 117 (64) ∈ AW := AWm (i := 701) (by decide +kernel) (by decide +kernel)
theorem cstl_X9_119 : Cond.constantLong RX9 119 (32) ∈ AW := AWm (i := 702) (by decide +kernel) (by decide +kernel)
theorem cstl_X9_121 : Cond.constantLong RX9 121 (2000) ∈ AW := AWm (i := 703) (by decide +kernel) (by decide +kernel)
theorem ml_L_43 : Cond.methodLink RL 43 yX9_letter ∈ AW := AWm (i := 704) (by decide +kernel) (by decide +kernel)
theorem ml_L_47 : Cond.methodLink RL 47 yX9_bit ∈ AW := AWm (i := 708) (by decide +kernel) (by decide +kernel)
theorem ml_L_51 : Cond.methodLink RL 51 yX9_letterOf ∈ AW := AWm (i := 712) (by decide +kernel) (by decide +kernel)
theorem cstl_X9_123 : Cond.constantLong RX9 123 (8) ∈ AW := AWm (i := 716) (by decide +kernel) (by decide +kernel)
theorem cstl_X9_125 : Cond.constantLong RX9 125 (3) ∈ AW := AWm (i := 717) (by decide +kernel) (by decide +kernel)
theorem ml_X9_127 : Cond.methodLink RX9 127 yX9_stands ∈ AW := AWm (i := 718) (by decide +kernel) (by decide +kernel)
theorem ml_X9_130 : Cond.methodLink RX9 130 yX9_wouldWrite ∈ AW := AWm (i := 722) (by decide +kernel) (by decide +kernel)
theorem ml_L_55 : Cond.methodLink RL 55 yX9_count ∈ AW := AWm (i := 726) (by decide +kernel) (by decide +kernel)
theorem ml_X9_136 : Cond.methodLink RX9 136 yX9_mostWritten ∈ AW := AWm (i := 730) (by decide +kernel) (by decide +kernel)
theorem ml_L_59 : Cond.methodLink RL 59 yX9_cost ∈ AW := AWm (i := 734) (by decide +kernel) (by decide +kernel)
theorem ml_L_63 : Cond.methodLink RL 63 yX9_bitsBy ∈ AW := AWm (i := 738) (by decide +kernel) (by decide +kernel)
theorem ml_X9_139 : Cond.methodLink RX9 139 yX9_bitsOf ∈ AW := AWm (i := 742) (by decide +kernel) (by decide +kernel)
theorem ml_L_67 : Cond.methodLink RL 67 yX9_bestPace ∈ AW := AWm (i := 746) (by decide +kernel) (by decide +kernel)
theorem ml_L_71 : Cond.methodLink RL 71 yX9_readBack ∈ AW := AWm (i := 750) (by decide +kernel) (by decide +kernel)
theorem cstl_X9_160 : Cond.constantLong RX9 160 (2) ∈ AW := AWm (i := 754) (by decide +kernel) (by decide +kernel)
theorem ml_X9_162 : Cond.methodLink RX9 162 yX9_reads ∈ AW := AWm (i := 755) (by decide +kernel) (by decide +kernel)
theorem ml_X9_154 : Cond.methodLink RX9 154 yX9_takes ∈ AW := AWm (i := 759) (by decide +kernel) (by decide +kernel)
theorem ml_X9_157 : Cond.methodLink RX9 157 yX9_letterAt ∈ AW := AWm (i := 763) (by decide +kernel) (by decide +kernel)
theorem ml_L_75 : Cond.methodLink RL 75 yX9_undo ∈ AW := AWm (i := 767) (by decide +kernel) (by decide +kernel)
theorem ml_L_79 : Cond.methodLink RL 79 yX9_type ∈ AW := AWm (i := 771) (by decide +kernel) (by decide +kernel)
theorem cstl_X9_166 : Cond.constantLong RX9 166 (126) ∈ AW := AWm (i := 775) (by decide +kernel) (by decide +kernel)
theorem ml_L_83 : Cond.methodLink RL 83 yX9_clearText ∈ AW := AWm (i := 776) (by decide +kernel) (by decide +kernel)
theorem ml_L_87 : Cond.methodLink RL 87 yX9_write ∈ AW := AWm (i := 780) (by decide +kernel) (by decide +kernel)
theorem ml_L_91 : Cond.methodLink RL 91 yX9_fault ∈ AW := AWm (i := 784) (by decide +kernel) (by decide +kernel)
theorem ml_X9_175 : Cond.methodLink RX9 175 yX9_reason ∈ AW := AWm (i := 788) (by decide +kernel) (by decide +kernel)
theorem cstl_X9_171 : Cond.constantLong RX9 171 (48) ∈ AW := AWm (i := 792) (by decide +kernel) (by decide +kernel)
theorem cstl_X9_173 : Cond.constantLong RX9 173 (49) ∈ AW := AWm (i := 793) (by decide +kernel) (by decide +kernel)
theorem ml_L_95 : Cond.methodLink RL 95 yX9_told ∈ AW := AWm (i := 794) (by decide +kernel) (by decide +kernel)
theorem ini_L : Cond.initialized RL ∈ AW := AWm (i := 0) (by decide +kernel) (by decide +kernel)
theorem ini_X8 : Cond.initialized RX8 ∈ AW := AWm (i := 1) (by decide +kernel) (by decide +kernel)
theorem ini_X4 : Cond.initialized RX4 ∈ AW := AWm (i := 2) (by decide +kernel) (by decide +kernel)
theorem ini_X1 : Cond.initialized RX1 ∈ AW := AWm (i := 3) (by decide +kernel) (by decide +kernel)
theorem ini_X2 : Cond.initialized RX2 ∈ AW := AWm (i := 4) (by decide +kernel) (by decide +kernel)
theorem ini_X6 : Cond.initialized RX6 ∈ AW := AWm (i := 5) (by decide +kernel) (by decide +kernel)
theorem ini_X0 : Cond.initialized RX0 ∈ AW := AWm (i := 6) (by decide +kernel) (by decide +kernel)
theorem ini_X5 : Cond.initialized RX5 ∈ AW := AWm (i := 7) (by decide +kernel) (by decide +kernel)
theorem ini_X7 : Cond.initialized RX7 ∈ AW := AWm (i := 8) (by decide +kernel) (by decide +kernel)
theorem ini_X3 : Cond.initialized RX3 ∈ AW := AWm (i := 9) (by decide +kernel) (by decide +kernel)
theorem ini_X9 : Cond.initialized RX9 ∈ AW := AWm (i := 10) (by decide +kernel) (by decide +kernel)
theorem ini_J9 : Cond.initialized RJ9 ∈ AW := AWm (i := 11) (by decide +kernel) (by decide +kernel)
theorem ini_Math : Cond.initialized "java/lang/Math" ∈ AW := AWm (i := 11) (by decide +kernel) (by decide +kernel)
theorem inst_X8 : Cond.instantiable RX8 7 ∈ AW := AWm (i := 13) (by decide +kernel) (by decide +kernel)
theorem inst_X4 : Cond.instantiable RX4 5 ∈ AW := AWm (i := 21) (by decide +kernel) (by decide +kernel)
theorem inst_X1 : Cond.instantiable RX1 6 ∈ AW := AWm (i := 49) (by decide +kernel) (by decide +kernel)
theorem inst_X2 : Cond.instantiable RX2 5 ∈ AW := AWm (i := 55) (by decide +kernel) (by decide +kernel)
theorem inst_X6 : Cond.instantiable RX6 2 ∈ AW := AWm (i := 80) (by decide +kernel) (by decide +kernel)
theorem inst_X0 : Cond.instantiable RX0 2 ∈ AW := AWm (i := 97) (by decide +kernel) (by decide +kernel)
theorem inst_X5 : Cond.instantiable RX5 7 ∈ AW := AWm (i := 152) (by decide +kernel) (by decide +kernel)
theorem inst_X7 : Cond.instantiable RX7 2 ∈ AW := AWm (i := 187) (by decide +kernel) (by decide +kernel)
theorem inst_X3 : Cond.instantiable RX3 2 ∈ AW := AWm (i := 203) (by decide +kernel) (by decide +kernel)
theorem inst_X9 : Cond.instantiable RX9 21 ∈ AW := AWm (i := 540) (by decide +kernel) (by decide +kernel)
theorem cd_X0_init : Cond.code yX0_init cX0_init 1 none ∈ AW := AWm (i := 100) (by decide +kernel) (by decide +kernel)
theorem im_X0_init : Cond.instanceMethod yX0_init ∈ AW := AWm (i := 99) (by decide +kernel) (by decide +kernel)
theorem mok_X0_init : MOKi yX0_init cX0_init 1 0 := ⟨im_X0_init, ini_X0, cd_X0_init, rfl, by decide +kernel, by decide +kernel, by decide +kernel⟩
theorem cd_X0_empty : Cond.code yX0_empty cX0_empty 1 none ∈ AW := AWm (i := 127) (by decide +kernel) (by decide +kernel)
theorem im_X0_empty : Cond.instanceMethod yX0_empty ∈ AW := AWm (i := 125) (by decide +kernel) (by decide +kernel)
theorem sel_X0_empty : Cond.selects RX0 yX0_empty yX0_empty ∈ AW := AWm (i := 126) (by decide +kernel) (by decide +kernel)
theorem mok_X0_empty : MOK RX0 yX0_empty cX0_empty 1 none 0 := ⟨im_X0_empty, sel_X0_empty, ini_X0, cd_X0_empty, rfl, by decide +kernel, by decide +kernel, by decide +kernel⟩
theorem cd_X0_append : Cond.code yX0_append cX0_append 2 none ∈ AW := AWm (i := 305) (by decide +kernel) (by decide +kernel)
theorem im_X0_append : Cond.instanceMethod yX0_append ∈ AW := AWm (i := 303) (by decide +kernel) (by decide +kernel)
theorem sel_X0_append : Cond.selects RX0 yX0_append yX0_append ∈ AW := AWm (i := 304) (by decide +kernel) (by decide +kernel)
theorem mok_X0_append : MOK RX0 yX0_append cX0_append 2 none 1 := ⟨im_X0_append, sel_X0_append, ini_X0, cd_X0_append, rfl, by decide +kernel, by decide +kernel, by decide +kernel⟩
theorem cd_X0_bitAt : Cond.code yX0_bitAt cX0_bitAt 2 (some .int) ∈ AW := AWm (i := 382) (by decide +kernel) (by decide +kernel)
theorem im_X0_bitAt : Cond.instanceMethod yX0_bitAt ∈ AW := AWm (i := 380) (by decide +kernel) (by decide +kernel)
theorem sel_X0_bitAt : Cond.selects RX0 yX0_bitAt yX0_bitAt ∈ AW := AWm (i := 381) (by decide +kernel) (by decide +kernel)
theorem mok_X0_bitAt : MOK RX0 yX0_bitAt cX0_bitAt 2 (some .int) 1 := ⟨im_X0_bitAt, sel_X0_bitAt, ini_X0, cd_X0_bitAt, rfl, by decide +kernel, by decide +kernel, by decide +kernel⟩
theorem cd_X0_firstOne : Cond.code yX0_firstOne cX0_firstOne 3 (some .int) ∈ AW := AWm (i := 528) (by decide +kernel) (by decide +kernel)
theorem im_X0_firstOne : Cond.instanceMethod yX0_firstOne ∈ AW := AWm (i := 526) (by decide +kernel) (by decide +kernel)
theorem sel_X0_firstOne : Cond.selects RX0 yX0_firstOne yX0_firstOne ∈ AW := AWm (i := 527) (by decide +kernel) (by decide +kernel)
theorem mok_X0_firstOne : MOK RX0 yX0_firstOne cX0_firstOne 3 (some .int) 1 := ⟨im_X0_firstOne, sel_X0_firstOne, ini_X0, cd_X0_firstOne, rfl, by decide +kernel, by decide +kernel, by decide +kernel⟩
theorem cd_X1_init : Cond.code yX1_init cX1_init 1 none ∈ AW := AWm (i := 52) (by decide +kernel) (by decide +kernel)
theorem im_X1_init : Cond.instanceMethod yX1_init ∈ AW := AWm (i := 51) (by decide +kernel) (by decide +kernel)
theorem mok_X1_init : MOKi yX1_init cX1_init 1 0 := ⟨im_X1_init, ini_X1, cd_X1_init, rfl, by decide +kernel, by decide +kernel, by decide +kernel⟩
theorem cd_X1_start : Cond.code yX1_start cX1_start 3 none ∈ AW := AWm (i := 115) (by decide +kernel) (by decide +kernel)
theorem im_X1_start : Cond.instanceMethod yX1_start ∈ AW := AWm (i := 113) (by decide +kernel) (by decide +kernel)
theorem sel_X1_start : Cond.selects RX1 yX1_start yX1_start ∈ AW := AWm (i := 114) (by decide +kernel) (by decide +kernel)
theorem mok_X1_start : MOK RX1 yX1_start cX1_start 3 none 2 := ⟨im_X1_start, sel_X1_start, ini_X1, cd_X1_start, rfl, by decide +kernel, by decide +kernel, by decide +kernel⟩
theorem cd_X1_add : Cond.code yX1_add cX1_add 4 (some .int) ∈ AW := AWm (i := 274) (by decide +kernel) (by decide +kernel)
theorem im_X1_add : Cond.instanceMethod yX1_add ∈ AW := AWm (i := 272) (by decide +kernel) (by decide +kernel)
theorem sel_X1_add : Cond.selects RX1 yX1_add yX1_add ∈ AW := AWm (i := 273) (by decide +kernel) (by decide +kernel)
theorem mok_X1_add : MOK RX1 yX1_add cX1_add 4 (some .int) 1 := ⟨im_X1_add, sel_X1_add, ini_X1, cd_X1_add, rfl, by decide +kernel, by decide +kernel, by decide +kernel⟩
theorem cd_X1_addAll : Cond.code yX1_addAll cX1_addAll 3 none ∈ AW := AWm (i := 338) (by decide +kernel) (by decide +kernel)
theorem im_X1_addAll : Cond.instanceMethod yX1_addAll ∈ AW := AWm (i := 336) (by decide +kernel) (by decide +kernel)
theorem sel_X1_addAll : Cond.selects RX1 yX1_addAll yX1_addAll ∈ AW := AWm (i := 337) (by decide +kernel) (by decide +kernel)
theorem mok_X1_addAll : MOK RX1 yX1_addAll cX1_addAll 3 none 1 := ⟨im_X1_addAll, sel_X1_addAll, ini_X1, cd_X1_addAll, rfl, by decide +kernel, by decide +kernel, by decide +kernel⟩
theorem cd_X1_close : Cond.code yX1_close cX1_close 1 none ∈ AW := AWm (i := 321) (by decide +kernel) (by decide +kernel)
theorem im_X1_close : Cond.instanceMethod yX1_close ∈ AW := AWm (i := 319) (by decide +kernel) (by decide +kernel)
theorem sel_X1_close : Cond.selects RX1 yX1_close yX1_close ∈ AW := AWm (i := 320) (by decide +kernel) (by decide +kernel)
theorem mok_X1_close : MOK RX1 yX1_close cX1_close 1 none 0 := ⟨im_X1_close, sel_X1_close, ini_X1, cd_X1_close, rfl, by decide +kernel, by decide +kernel, by decide +kernel⟩
theorem cd_X1_costAt : Cond.code yX1_costAt cX1_costAt 2 (some .int) ∈ AW := AWm (i := 408) (by decide +kernel) (by decide +kernel)
theorem im_X1_costAt : Cond.instanceMethod yX1_costAt ∈ AW := AWm (i := 406) (by decide +kernel) (by decide +kernel)
theorem sel_X1_costAt : Cond.selects RX1 yX1_costAt yX1_costAt ∈ AW := AWm (i := 407) (by decide +kernel) (by decide +kernel)
theorem mok_X1_costAt : MOK RX1 yX1_costAt cX1_costAt 2 (some .int) 1 := ⟨im_X1_costAt, sel_X1_costAt, ini_X1, cd_X1_costAt, rfl, by decide +kernel, by decide +kernel, by decide +kernel⟩
theorem cd_X1_dearest : Cond.code yX1_dearest cX1_dearest 3 (some .int) ∈ AW := AWm (i := 404) (by decide +kernel) (by decide +kernel)
theorem im_X1_dearest : Cond.instanceMethod yX1_dearest ∈ AW := AWm (i := 402) (by decide +kernel) (by decide +kernel)
theorem sel_X1_dearest : Cond.selects RX1 yX1_dearest yX1_dearest ∈ AW := AWm (i := 403) (by decide +kernel) (by decide +kernel)
theorem mok_X1_dearest : MOK RX1 yX1_dearest cX1_dearest 3 (some .int) 0 := ⟨im_X1_dearest, sel_X1_dearest, ini_X1, cd_X1_dearest, rfl, by decide +kernel, by decide +kernel, by decide +kernel⟩
theorem cd_X1_narrow : Cond.code yX1_narrow cX1_narrow 4 none ∈ AW := AWm (i := 278) (by decide +kernel) (by decide +kernel)
theorem im_X1_narrow : Cond.instanceMethod yX1_narrow ∈ AW := AWm (i := 277) (by decide +kernel) (by decide +kernel)
theorem sel_X1_narrow : Cond.selects RX1 yX1_narrow yX1_narrow ∈ AW := AWs (i := 1) (q := (yX1_narrow, 6)) (by decide +kernel)
theorem mok_X1_narrow : MOK RX1 yX1_narrow cX1_narrow 4 none 1 := ⟨im_X1_narrow, sel_X1_narrow, ini_X1, cd_X1_narrow, rfl, by decide +kernel, by decide +kernel, by decide +kernel⟩
theorem cd_X1_writeBit : Cond.code yX1_writeBit cX1_writeBit 3 none ∈ AW := AWm (i := 301) (by decide +kernel) (by decide +kernel)
theorem im_X1_writeBit : Cond.instanceMethod yX1_writeBit ∈ AW := AWm (i := 300) (by decide +kernel) (by decide +kernel)
theorem sel_X1_writeBit : Cond.selects RX1 yX1_writeBit yX1_writeBit ∈ AW := AWs (i := 2) (q := (yX1_writeBit, 6)) (by decide +kernel)
theorem mok_X1_writeBit : MOK RX1 yX1_writeBit cX1_writeBit 3 none 1 := ⟨im_X1_writeBit, sel_X1_writeBit, ini_X1, cd_X1_writeBit, rfl, by decide +kernel, by decide +kernel, by decide +kernel⟩
theorem cd_X2_init : Cond.code yX2_init cX2_init 1 none ∈ AW := AWm (i := 58) (by decide +kernel) (by decide +kernel)
theorem im_X2_init : Cond.instanceMethod yX2_init ∈ AW := AWm (i := 57) (by decide +kernel) (by decide +kernel)
theorem mok_X2_init : MOKi yX2_init cX2_init 1 0 := ⟨im_X2_init, ini_X2, cd_X2_init, rfl, by decide +kernel, by decide +kernel, by decide +kernel⟩
theorem cd_X2_start : Cond.code yX2_start cX2_start 4 none ∈ AW := AWm (i := 119) (by decide +kernel) (by decide +kernel)
theorem im_X2_start : Cond.instanceMethod yX2_start ∈ AW := AWm (i := 117) (by decide +kernel) (by decide +kernel)
theorem sel_X2_start : Cond.selects RX2 yX2_start yX2_start ∈ AW := AWm (i := 118) (by decide +kernel) (by decide +kernel)
theorem mok_X2_start : MOK RX2 yX2_start cX2_start 4 none 2 := ⟨im_X2_start, sel_X2_start, ini_X2, cd_X2_start, rfl, by decide +kernel, by decide +kernel, by decide +kernel⟩
theorem cd_X2_countAt : Cond.code yX2_countAt cX2_countAt 2 (some .int) ∈ AW := AWm (i := 290) (by decide +kernel) (by decide +kernel)
theorem im_X2_countAt : Cond.instanceMethod yX2_countAt ∈ AW := AWm (i := 288) (by decide +kernel) (by decide +kernel)
theorem sel_X2_countAt : Cond.selects RX2 yX2_countAt yX2_countAt ∈ AW := AWm (i := 289) (by decide +kernel) (by decide +kernel)
theorem mok_X2_countAt : MOK RX2 yX2_countAt cX2_countAt 2 (some .int) 1 := ⟨im_X2_countAt, sel_X2_countAt, ini_X2, cd_X2_countAt, rfl, by decide +kernel, by decide +kernel, by decide +kernel⟩
theorem cd_X2_below : Cond.code yX2_below cX2_below 4 (some .int) ∈ AW := AWm (i := 286) (by decide +kernel) (by decide +kernel)
theorem im_X2_below : Cond.instanceMethod yX2_below ∈ AW := AWm (i := 284) (by decide +kernel) (by decide +kernel)
theorem sel_X2_below : Cond.selects RX2 yX2_below yX2_below ∈ AW := AWm (i := 285) (by decide +kernel) (by decide +kernel)
theorem mok_X2_below : MOK RX2 yX2_below cX2_below 4 (some .int) 1 := ⟨im_X2_below, sel_X2_below, ini_X2, cd_X2_below, rfl, by decide +kernel, by decide +kernel, by decide +kernel⟩
theorem cd_X2_letterWith : Cond.code yX2_letterWith cX2_letterWith 4 (some .int) ∈ AW := AWm (i := 453) (by decide +kernel) (by decide +kernel)
theorem im_X2_letterWith : Cond.instanceMethod yX2_letterWith ∈ AW := AWm (i := 451) (by decide +kernel) (by decide +kernel)
theorem sel_X2_letterWith : Cond.selects RX2 yX2_letterWith yX2_letterWith ∈ AW := AWm (i := 452) (by decide +kernel) (by decide +kernel)
theorem mok_X2_letterWith : MOK RX2 yX2_letterWith cX2_letterWith 4 (some .int) 1 := ⟨im_X2_letterWith, sel_X2_letterWith, ini_X2, cd_X2_letterWith, rfl, by decide +kernel, by decide +kernel, by decide +kernel⟩
theorem cd_X2_learn : Cond.code yX2_learn cX2_learn 2 none ∈ AW := AWm (i := 309) (by decide +kernel) (by decide +kernel)
theorem im_X2_learn : Cond.instanceMethod yX2_learn ∈ AW := AWm (i := 307) (by decide +kernel) (by decide +kernel)
theorem sel_X2_learn : Cond.selects RX2 yX2_learn yX2_learn ∈ AW := AWm (i := 308) (by decide +kernel) (by decide +kernel)
theorem mok_X2_learn : MOK RX2 yX2_learn cX2_learn 2 none 1 := ⟨im_X2_learn, sel_X2_learn, ini_X2, cd_X2_learn, rfl, by decide +kernel, by decide +kernel, by decide +kernel⟩
theorem cd_X2_halve : Cond.code yX2_halve cX2_halve 2 none ∈ AW := AWm (i := 313) (by decide +kernel) (by decide +kernel)
theorem im_X2_halve : Cond.instanceMethod yX2_halve ∈ AW := AWm (i := 312) (by decide +kernel) (by decide +kernel)
theorem sel_X2_halve : Cond.selects RX2 yX2_halve yX2_halve ∈ AW := AWs (i := 3) (q := (yX2_halve, 5)) (by decide +kernel)
theorem mok_X2_halve : MOK RX2 yX2_halve cX2_halve 2 none 0 := ⟨im_X2_halve, sel_X2_halve, ini_X2, cd_X2_halve, rfl, by decide +kernel, by decide +kernel, by decide +kernel⟩
theorem cd_X3_init : Cond.code yX3_init cX3_init 2 none ∈ AW := AWm (i := 206) (by decide +kernel) (by decide +kernel)
theorem im_X3_init : Cond.instanceMethod yX3_init ∈ AW := AWm (i := 205) (by decide +kernel) (by decide +kernel)
theorem mok_X3_init : MOKi yX3_init cX3_init 2 0 := ⟨im_X3_init, ini_X3, cd_X3_init, rfl, by decide +kernel, by decide +kernel, by decide +kernel⟩
theorem cd_X3_keep : Cond.code yX3_keep cX3_keep 2 none ∈ AW := AWm (i := 251) (by decide +kernel) (by decide +kernel)
theorem im_X3_keep : Cond.instanceMethod yX3_keep ∈ AW := AWm (i := 249) (by decide +kernel) (by decide +kernel)
theorem sel_X3_keep : Cond.selects RX3 yX3_keep yX3_keep ∈ AW := AWm (i := 250) (by decide +kernel) (by decide +kernel)
theorem mok_X3_keep : MOK RX3 yX3_keep cX3_keep 2 none 1 := ⟨im_X3_keep, sel_X3_keep, ini_X3, cd_X3_keep, rfl, by decide +kernel, by decide +kernel, by decide +kernel⟩
theorem cd_X3_restore : Cond.code yX3_restore cX3_restore 2 none ∈ AW := AWm (i := 479) (by decide +kernel) (by decide +kernel)
theorem im_X3_restore : Cond.instanceMethod yX3_restore ∈ AW := AWm (i := 477) (by decide +kernel) (by decide +kernel)
theorem sel_X3_restore : Cond.selects RX3 yX3_restore yX3_restore ∈ AW := AWm (i := 478) (by decide +kernel) (by decide +kernel)
theorem mok_X3_restore : MOK RX3 yX3_restore cX3_restore 2 none 1 := ⟨im_X3_restore, sel_X3_restore, ini_X3, cd_X3_restore, rfl, by decide +kernel, by decide +kernel, by decide +kernel⟩
theorem cd_X3_dropOldest : Cond.code yX3_dropOldest cX3_dropOldest 2 none ∈ AW := AWm (i := 255) (by decide +kernel) (by decide +kernel)
theorem im_X3_dropOldest : Cond.instanceMethod yX3_dropOldest ∈ AW := AWm (i := 254) (by decide +kernel) (by decide +kernel)
theorem sel_X3_dropOldest : Cond.selects RX3 yX3_dropOldest yX3_dropOldest ∈ AW := AWs (i := 0) (q := (yX3_dropOldest, 2)) (by decide +kernel)
theorem mok_X3_dropOldest : MOK RX3 yX3_dropOldest cX3_dropOldest 2 none 0 := ⟨im_X3_dropOldest, sel_X3_dropOldest, ini_X3, cd_X3_dropOldest, rfl, by decide +kernel, by decide +kernel, by decide +kernel⟩
theorem cd_X3_copy : Cond.code yX3_copy cX3_copy 2 none ∈ AW := AWm (i := 258) (by decide +kernel) (by decide +kernel)
theorem stt_X3_copy : Cond.static yX3_copy ∈ AW := AWm (i := 257) (by decide +kernel) (by decide +kernel)
theorem mok_X3_copy : MOKs yX3_copy cX3_copy 2 none 2 := ⟨stt_X3_copy, ini_X3, cd_X3_copy, by decide +kernel, by decide +kernel, by decide +kernel⟩
theorem cd_X4_init : Cond.code yX4_init cX4_init 1 none ∈ AW := AWm (i := 24) (by decide +kernel) (by decide +kernel)
theorem im_X4_init : Cond.instanceMethod yX4_init ∈ AW := AWm (i := 23) (by decide +kernel) (by decide +kernel)
theorem mok_X4_init : MOKi yX4_init cX4_init 1 0 := ⟨im_X4_init, ini_X4, cd_X4_init, rfl, by decide +kernel, by decide +kernel, by decide +kernel⟩
theorem cd_X4_letterAt : Cond.code yX4_letterAt cX4_letterAt 2 (some .int) ∈ AW := AWm (i := 266) (by decide +kernel) (by decide +kernel)
theorem im_X4_letterAt : Cond.instanceMethod yX4_letterAt ∈ AW := AWm (i := 264) (by decide +kernel) (by decide +kernel)
theorem sel_X4_letterAt : Cond.selects RX4 yX4_letterAt yX4_letterAt ∈ AW := AWm (i := 265) (by decide +kernel) (by decide +kernel)
theorem mok_X4_letterAt : MOK RX4 yX4_letterAt cX4_letterAt 2 (some .int) 1 := ⟨im_X4_letterAt, sel_X4_letterAt, ini_X4, cd_X4_letterAt, rfl, by decide +kernel, by decide +kernel, by decide +kernel⟩
theorem cd_X4_append : Cond.code yX4_append cX4_append 2 none ∈ AW := AWm (i := 270) (by decide +kernel) (by decide +kernel)
theorem im_X4_append : Cond.instanceMethod yX4_append ∈ AW := AWm (i := 268) (by decide +kernel) (by decide +kernel)
theorem sel_X4_append : Cond.selects RX4 yX4_append yX4_append ∈ AW := AWm (i := 269) (by decide +kernel) (by decide +kernel)
theorem mok_X4_append : MOK RX4 yX4_append cX4_append 2 none 1 := ⟨im_X4_append, sel_X4_append, ini_X4, cd_X4_append, rfl, by decide +kernel, by decide +kernel, by decide +kernel⟩
theorem cd_X4_replace : Cond.code yX4_replace cX4_replace 3 none ∈ AW := AWm (i := 359) (by decide +kernel) (by decide +kernel)
theorem im_X4_replace : Cond.instanceMethod yX4_replace ∈ AW := AWm (i := 357) (by decide +kernel) (by decide +kernel)
theorem sel_X4_replace : Cond.selects RX4 yX4_replace yX4_replace ∈ AW := AWm (i := 358) (by decide +kernel) (by decide +kernel)
theorem mok_X4_replace : MOK RX4 yX4_replace cX4_replace 3 none 2 := ⟨im_X4_replace, sel_X4_replace, ini_X4, cd_X4_replace, rfl, by decide +kernel, by decide +kernel, by decide +kernel⟩
theorem cd_X4_shorten : Cond.code yX4_shorten cX4_shorten 2 none ∈ AW := AWm (i := 348) (by decide +kernel) (by decide +kernel)
theorem im_X4_shorten : Cond.instanceMethod yX4_shorten ∈ AW := AWm (i := 346) (by decide +kernel) (by decide +kernel)
theorem sel_X4_shorten : Cond.selects RX4 yX4_shorten yX4_shorten ∈ AW := AWm (i := 347) (by decide +kernel) (by decide +kernel)
theorem mok_X4_shorten : MOK RX4 yX4_shorten cX4_shorten 2 none 1 := ⟨im_X4_shorten, sel_X4_shorten, ini_X4, cd_X4_shorten, rfl, by decide +kernel, by decide +kernel, by decide +kernel⟩
theorem cd_X4_empty : Cond.code yX4_empty cX4_empty 1 none ∈ AW := AWm (i := 329) (by decide +kernel) (by decide +kernel)
theorem im_X4_empty : Cond.instanceMethod yX4_empty ∈ AW := AWm (i := 327) (by decide +kernel) (by decide +kernel)
theorem sel_X4_empty : Cond.selects RX4 yX4_empty yX4_empty ∈ AW := AWm (i := 328) (by decide +kernel) (by decide +kernel)
theorem mok_X4_empty : MOK RX4 yX4_empty cX4_empty 1 none 0 := ⟨im_X4_empty, sel_X4_empty, ini_X4, cd_X4_empty, rfl, by decide +kernel, by decide +kernel, by decide +kernel⟩
theorem cd_X4_howOften : Cond.code yX4_howOften cX4_howOften 4 (some .int) ∈ AW := AWm (i := 392) (by decide +kernel) (by decide +kernel)
theorem im_X4_howOften : Cond.instanceMethod yX4_howOften ∈ AW := AWm (i := 390) (by decide +kernel) (by decide +kernel)
theorem sel_X4_howOften : Cond.selects RX4 yX4_howOften yX4_howOften ∈ AW := AWm (i := 391) (by decide +kernel) (by decide +kernel)
theorem mok_X4_howOften : MOK RX4 yX4_howOften cX4_howOften 4 (some .int) 1 := ⟨im_X4_howOften, sel_X4_howOften, ini_X4, cd_X4_howOften, rfl, by decide +kernel, by decide +kernel, by decide +kernel⟩
theorem cd_X4_copyFrom : Cond.code yX4_copyFrom cX4_copyFrom 3 none ∈ AW := AWm (i := 262) (by decide +kernel) (by decide +kernel)
theorem im_X4_copyFrom : Cond.instanceMethod yX4_copyFrom ∈ AW := AWm (i := 260) (by decide +kernel) (by decide +kernel)
theorem sel_X4_copyFrom : Cond.selects RX4 yX4_copyFrom yX4_copyFrom ∈ AW := AWm (i := 261) (by decide +kernel) (by decide +kernel)
theorem mok_X4_copyFrom : MOK RX4 yX4_copyFrom cX4_copyFrom 3 none 1 := ⟨im_X4_copyFrom, sel_X4_copyFrom, ini_X4, cd_X4_copyFrom, rfl, by decide +kernel, by decide +kernel, by decide +kernel⟩
theorem cd_X5_init : Cond.code yX5_init cX5_init 1 none ∈ AW := AWm (i := 155) (by decide +kernel) (by decide +kernel)
theorem im_X5_init : Cond.instanceMethod yX5_init ∈ AW := AWm (i := 154) (by decide +kernel) (by decide +kernel)
theorem mok_X5_init : MOKi yX5_init cX5_init 1 0 := ⟨im_X5_init, ini_X5, cd_X5_init, rfl, by decide +kernel, by decide +kernel, by decide +kernel⟩
theorem cd_X5_letterAt : Cond.code yX5_letterAt cX5_letterAt 2 (some .int) ∈ AW := AWm (i := 471) (by decide +kernel) (by decide +kernel)
theorem im_X5_letterAt : Cond.instanceMethod yX5_letterAt ∈ AW := AWm (i := 469) (by decide +kernel) (by decide +kernel)
theorem sel_X5_letterAt : Cond.selects RX5 yX5_letterAt yX5_letterAt ∈ AW := AWm (i := 470) (by decide +kernel) (by decide +kernel)
theorem mok_X5_letterAt : MOK RX5 yX5_letterAt cX5_letterAt 2 (some .int) 1 := ⟨im_X5_letterAt, sel_X5_letterAt, ini_X5, cd_X5_letterAt, rfl, by decide +kernel, by decide +kernel, by decide +kernel⟩
theorem cd_X5_read : Cond.code yX5_read cX5_read 5 none ∈ AW := AWm (i := 434) (by decide +kernel) (by decide +kernel)
theorem im_X5_read : Cond.instanceMethod yX5_read ∈ AW := AWm (i := 432) (by decide +kernel) (by decide +kernel)
theorem sel_X5_read : Cond.selects RX5 yX5_read yX5_read ∈ AW := AWm (i := 433) (by decide +kernel) (by decide +kernel)
theorem mok_X5_read : MOK RX5 yX5_read cX5_read 5 none 3 := ⟨im_X5_read, sel_X5_read, ini_X5, cd_X5_read, rfl, by decide +kernel, by decide +kernel, by decide +kernel⟩
theorem cd_X5_readLetter : Cond.code yX5_readLetter cX5_readLetter 3 none ∈ AW := AWm (i := 445) (by decide +kernel) (by decide +kernel)
theorem im_X5_readLetter : Cond.instanceMethod yX5_readLetter ∈ AW := AWm (i := 444) (by decide +kernel) (by decide +kernel)
theorem sel_X5_readLetter : Cond.selects RX5 yX5_readLetter yX5_readLetter ∈ AW := AWs (i := 8) (q := (yX5_readLetter, 7)) (by decide +kernel)
theorem mok_X5_readLetter : MOK RX5 yX5_readLetter cX5_readLetter 3 none 1 := ⟨im_X5_readLetter, sel_X5_readLetter, ini_X5, cd_X5_readLetter, rfl, by decide +kernel, by decide +kernel, by decide +kernel⟩
theorem cd_X5_narrow : Cond.code yX5_narrow cX5_narrow 5 none ∈ AW := AWm (i := 457) (by decide +kernel) (by decide +kernel)
theorem im_X5_narrow : Cond.instanceMethod yX5_narrow ∈ AW := AWm (i := 456) (by decide +kernel) (by decide +kernel)
theorem sel_X5_narrow : Cond.selects RX5 yX5_narrow yX5_narrow ∈ AW := AWs (i := 9) (q := (yX5_narrow, 7)) (by decide +kernel)
theorem mok_X5_narrow : MOK RX5 yX5_narrow cX5_narrow 5 none 2 := ⟨im_X5_narrow, sel_X5_narrow, ini_X5, cd_X5_narrow, rfl, by decide +kernel, by decide +kernel, by decide +kernel⟩
theorem cd_X5_takeBit : Cond.code yX5_takeBit cX5_takeBit 2 none ∈ AW := AWm (i := 440) (by decide +kernel) (by decide +kernel)
theorem im_X5_takeBit : Cond.instanceMethod yX5_takeBit ∈ AW := AWm (i := 439) (by decide +kernel) (by decide +kernel)
theorem sel_X5_takeBit : Cond.selects RX5 yX5_takeBit yX5_takeBit ∈ AW := AWs (i := 7) (q := (yX5_takeBit, 7)) (by decide +kernel)
theorem mok_X5_takeBit : MOK RX5 yX5_takeBit cX5_takeBit 2 none 1 := ⟨im_X5_takeBit, sel_X5_takeBit, ini_X5, cd_X5_takeBit, rfl, by decide +kernel, by decide +kernel, by decide +kernel⟩
theorem cd_X6_init : Cond.code yX6_init cX6_init 1 none ∈ AW := AWm (i := 83) (by decide +kernel) (by decide +kernel)
theorem im_X6_init : Cond.instanceMethod yX6_init ∈ AW := AWm (i := 82) (by decide +kernel) (by decide +kernel)
theorem mok_X6_init : MOKi yX6_init cX6_init 1 0 := ⟨im_X6_init, ini_X6, cd_X6_init, rfl, by decide +kernel, by decide +kernel, by decide +kernel⟩
theorem cd_X6_start : Cond.code yX6_start cX6_start 1 none ∈ AW := AWm (i := 123) (by decide +kernel) (by decide +kernel)
theorem im_X6_start : Cond.instanceMethod yX6_start ∈ AW := AWm (i := 121) (by decide +kernel) (by decide +kernel)
theorem sel_X6_start : Cond.selects RX6 yX6_start yX6_start ∈ AW := AWm (i := 122) (by decide +kernel) (by decide +kernel)
theorem mok_X6_start : MOK RX6 yX6_start cX6_start 1 none 0 := ⟨im_X6_start, sel_X6_start, ini_X6, cd_X6_start, rfl, by decide +kernel, by decide +kernel, by decide +kernel⟩
theorem cd_X6_shrink : Cond.code yX6_shrink cX6_shrink 7 none ∈ AW := AWm (i := 282) (by decide +kernel) (by decide +kernel)
theorem im_X6_shrink : Cond.instanceMethod yX6_shrink ∈ AW := AWm (i := 280) (by decide +kernel) (by decide +kernel)
theorem sel_X6_shrink : Cond.selects RX6 yX6_shrink yX6_shrink ∈ AW := AWm (i := 281) (by decide +kernel) (by decide +kernel)
theorem mok_X6_shrink : MOK RX6 yX6_shrink cX6_shrink 7 none 2 := ⟨im_X6_shrink, sel_X6_shrink, ini_X6, cd_X6_shrink, rfl, by decide +kernel, by decide +kernel, by decide +kernel⟩
theorem cd_X6_widen : Cond.code yX6_widen cX6_widen 2 (some .int) ∈ AW := AWm (i := 294) (by decide +kernel) (by decide +kernel)
theorem im_X6_widen : Cond.instanceMethod yX6_widen ∈ AW := AWm (i := 292) (by decide +kernel) (by decide +kernel)
theorem sel_X6_widen : Cond.selects RX6 yX6_widen yX6_widen ∈ AW := AWm (i := 293) (by decide +kernel) (by decide +kernel)
theorem mok_X6_widen : MOK RX6 yX6_widen cX6_widen 2 (some .int) 0 := ⟨im_X6_widen, sel_X6_widen, ini_X6, cd_X6_widen, rfl, by decide +kernel, by decide +kernel, by decide +kernel⟩
theorem cd_X6_letterAround : Cond.code yX6_letterAround cX6_letterAround 4 (some .int) ∈ AW := AWm (i := 449) (by decide +kernel) (by decide +kernel)
theorem im_X6_letterAround : Cond.instanceMethod yX6_letterAround ∈ AW := AWm (i := 447) (by decide +kernel) (by decide +kernel)
theorem sel_X6_letterAround : Cond.selects RX6 yX6_letterAround yX6_letterAround ∈ AW := AWm (i := 448) (by decide +kernel) (by decide +kernel)
theorem mok_X6_letterAround : MOK RX6 yX6_letterAround cX6_letterAround 4 (some .int) 2 := ⟨im_X6_letterAround, sel_X6_letterAround, ini_X6, cd_X6_letterAround, rfl, by decide +kernel, by decide +kernel, by decide +kernel⟩
theorem cd_X7_init : Cond.code yX7_init cX7_init 1 none ∈ AW := AWm (i := 190) (by decide +kernel) (by decide +kernel)
theorem im_X7_init : Cond.instanceMethod yX7_init ∈ AW := AWm (i := 189) (by decide +kernel) (by decide +kernel)
theorem mok_X7_init : MOKi yX7_init cX7_init 1 0 := ⟨im_X7_init, ini_X7, cd_X7_init, rfl, by decide +kernel, by decide +kernel, by decide +kernel⟩
theorem cd_X7_empty : Cond.code yX7_empty cX7_empty 1 none ∈ AW := AWm (i := 495) (by decide +kernel) (by decide +kernel)
theorem im_X7_empty : Cond.instanceMethod yX7_empty ∈ AW := AWm (i := 493) (by decide +kernel) (by decide +kernel)
theorem sel_X7_empty : Cond.selects RX7 yX7_empty yX7_empty ∈ AW := AWm (i := 494) (by decide +kernel) (by decide +kernel)
theorem mok_X7_empty : MOK RX7 yX7_empty cX7_empty 1 none 0 := ⟨im_X7_empty, sel_X7_empty, ini_X7, cd_X7_empty, rfl, by decide +kernel, by decide +kernel, by decide +kernel⟩
theorem cd_X7_append : Cond.code yX7_append cX7_append 2 none ∈ AW := AWm (i := 487) (by decide +kernel) (by decide +kernel)
theorem im_X7_append : Cond.instanceMethod yX7_append ∈ AW := AWm (i := 485) (by decide +kernel) (by decide +kernel)
theorem sel_X7_append : Cond.selects RX7 yX7_append yX7_append ∈ AW := AWm (i := 486) (by decide +kernel) (by decide +kernel)
theorem mok_X7_append : MOK RX7 yX7_append cX7_append 2 none 1 := ⟨im_X7_append, sel_X7_append, ini_X7, cd_X7_append, rfl, by decide +kernel, by decide +kernel, by decide +kernel⟩
theorem cd_X7_copyFrom : Cond.code yX7_copyFrom cX7_copyFrom 3 none ∈ AW := AWm (i := 503) (by decide +kernel) (by decide +kernel)
theorem im_X7_copyFrom : Cond.instanceMethod yX7_copyFrom ∈ AW := AWm (i := 501) (by decide +kernel) (by decide +kernel)
theorem sel_X7_copyFrom : Cond.selects RX7 yX7_copyFrom yX7_copyFrom ∈ AW := AWm (i := 502) (by decide +kernel) (by decide +kernel)
theorem mok_X7_copyFrom : MOK RX7 yX7_copyFrom cX7_copyFrom 3 none 1 := ⟨im_X7_copyFrom, sel_X7_copyFrom, ini_X7, cd_X7_copyFrom, rfl, by decide +kernel, by decide +kernel, by decide +kernel⟩
theorem cd_X7_copyTo : Cond.code yX7_copyTo cX7_copyTo 3 none ∈ AW := AWm (i := 522) (by decide +kernel) (by decide +kernel)
theorem im_X7_copyTo : Cond.instanceMethod yX7_copyTo ∈ AW := AWm (i := 520) (by decide +kernel) (by decide +kernel)
theorem sel_X7_copyTo : Cond.selects RX7 yX7_copyTo yX7_copyTo ∈ AW := AWm (i := 521) (by decide +kernel) (by decide +kernel)
theorem mok_X7_copyTo : MOK RX7 yX7_copyTo cX7_copyTo 3 none 1 := ⟨im_X7_copyTo, sel_X7_copyTo, ini_X7, cd_X7_copyTo, rfl, by decide +kernel, by decide +kernel, by decide +kernel⟩
theorem cd_X7_firstStrange : Cond.code yX7_firstStrange cX7_firstStrange 2 (some .int) ∈ AW := AWm (i := 518) (by decide +kernel) (by decide +kernel)
theorem im_X7_firstStrange : Cond.instanceMethod yX7_firstStrange ∈ AW := AWm (i := 516) (by decide +kernel) (by decide +kernel)
theorem sel_X7_firstStrange : Cond.selects RX7 yX7_firstStrange yX7_firstStrange ∈ AW := AWm (i := 517) (by decide +kernel) (by decide +kernel)
theorem mok_X7_firstStrange : MOK RX7 yX7_firstStrange cX7_firstStrange 2 (some .int) 0 := ⟨im_X7_firstStrange, sel_X7_firstStrange, ini_X7, cd_X7_firstStrange, rfl, by decide +kernel, by decide +kernel, by decide +kernel⟩
theorem cd_X8_init : Cond.code yX8_init cX8_init 1 none ∈ AW := AWm (i := 16) (by decide +kernel) (by decide +kernel)
theorem im_X8_init : Cond.instanceMethod yX8_init ∈ AW := AWm (i := 15) (by decide +kernel) (by decide +kernel)
theorem mok_X8_init : MOKi yX8_init cX8_init 1 0 := ⟨im_X8_init, ini_X8, cd_X8_init, rfl, by decide +kernel, by decide +kernel, by decide +kernel⟩
theorem cd_X8_put : Cond.code yX8_put cX8_put 2 (some .int) ∈ AW := AWm (i := 244) (by decide +kernel) (by decide +kernel)
theorem im_X8_put : Cond.instanceMethod yX8_put ∈ AW := AWm (i := 242) (by decide +kernel) (by decide +kernel)
theorem sel_X8_put : Cond.selects RX8 yX8_put yX8_put ∈ AW := AWm (i := 243) (by decide +kernel) (by decide +kernel)
theorem mok_X8_put : MOK RX8 yX8_put cX8_put 2 (some .int) 1 := ⟨im_X8_put, sel_X8_put, ini_X8, cd_X8_put, rfl, by decide +kernel, by decide +kernel, by decide +kernel⟩
theorem cd_X8_end : Cond.code yX8_end cX8_end 1 (some .int) ∈ AW := AWm (i := 317) (by decide +kernel) (by decide +kernel)
theorem im_X8_end : Cond.instanceMethod yX8_end ∈ AW := AWm (i := 315) (by decide +kernel) (by decide +kernel)
theorem sel_X8_end : Cond.selects RX8 yX8_end yX8_end ∈ AW := AWm (i := 316) (by decide +kernel) (by decide +kernel)
theorem mok_X8_end : MOK RX8 yX8_end cX8_end 1 (some .int) 0 := ⟨im_X8_end, sel_X8_end, ini_X8, cd_X8_end, rfl, by decide +kernel, by decide +kernel, by decide +kernel⟩
theorem cd_X8_begin : Cond.code yX8_begin cX8_begin 2 (some .int) ∈ AW := AWm (i := 325) (by decide +kernel) (by decide +kernel)
theorem im_X8_begin : Cond.instanceMethod yX8_begin ∈ AW := AWm (i := 323) (by decide +kernel) (by decide +kernel)
theorem sel_X8_begin : Cond.selects RX8 yX8_begin yX8_begin ∈ AW := AWm (i := 324) (by decide +kernel) (by decide +kernel)
theorem mok_X8_begin : MOK RX8 yX8_begin cX8_begin 2 (some .int) 0 := ⟨im_X8_begin, sel_X8_begin, ini_X8, cd_X8_begin, rfl, by decide +kernel, by decide +kernel, by decide +kernel⟩
theorem cd_X8_drop : Cond.code yX8_drop cX8_drop 2 (some .int) ∈ AW := AWm (i := 344) (by decide +kernel) (by decide +kernel)
theorem im_X8_drop : Cond.instanceMethod yX8_drop ∈ AW := AWm (i := 342) (by decide +kernel) (by decide +kernel)
theorem sel_X8_drop : Cond.selects RX8 yX8_drop yX8_drop ∈ AW := AWm (i := 343) (by decide +kernel) (by decide +kernel)
theorem mok_X8_drop : MOK RX8 yX8_drop cX8_drop 2 (some .int) 1 := ⟨im_X8_drop, sel_X8_drop, ini_X8, cd_X8_drop, rfl, by decide +kernel, by decide +kernel, by decide +kernel⟩
theorem cd_X8_mend : Cond.code yX8_mend cX8_mend 3 (some .int) ∈ AW := AWm (i := 355) (by decide +kernel) (by decide +kernel)
theorem im_X8_mend : Cond.instanceMethod yX8_mend ∈ AW := AWm (i := 353) (by decide +kernel) (by decide +kernel)
theorem sel_X8_mend : Cond.selects RX8 yX8_mend yX8_mend ∈ AW := AWm (i := 354) (by decide +kernel) (by decide +kernel)
theorem mok_X8_mend : MOK RX8 yX8_mend cX8_mend 3 (some .int) 2 := ⟨im_X8_mend, sel_X8_mend, ini_X8, cd_X8_mend, rfl, by decide +kernel, by decide +kernel, by decide +kernel⟩
theorem cd_X8_set : Cond.code yX8_set cX8_set 4 (some .int) ∈ AW := AWm (i := 363) (by decide +kernel) (by decide +kernel)
theorem im_X8_set : Cond.instanceMethod yX8_set ∈ AW := AWm (i := 361) (by decide +kernel) (by decide +kernel)
theorem sel_X8_set : Cond.selects RX8 yX8_set yX8_set ∈ AW := AWm (i := 362) (by decide +kernel) (by decide +kernel)
theorem mok_X8_set : MOK RX8 yX8_set cX8_set 4 (some .int) 2 := ⟨im_X8_set, sel_X8_set, ini_X8, cd_X8_set, rfl, by decide +kernel, by decide +kernel, by decide +kernel⟩
theorem cd_X8_letter : Cond.code yX8_letter cX8_letter 2 (some .int) ∈ AW := AWm (i := 373) (by decide +kernel) (by decide +kernel)
theorem im_X8_letter : Cond.instanceMethod yX8_letter ∈ AW := AWm (i := 371) (by decide +kernel) (by decide +kernel)
theorem sel_X8_letter : Cond.selects RX8 yX8_letter yX8_letter ∈ AW := AWm (i := 372) (by decide +kernel) (by decide +kernel)
theorem mok_X8_letter : MOK RX8 yX8_letter cX8_letter 2 (some .int) 1 := ⟨im_X8_letter, sel_X8_letter, ini_X8, cd_X8_letter, rfl, by decide +kernel, by decide +kernel, by decide +kernel⟩
theorem cd_X8_bit : Cond.code yX8_bit cX8_bit 2 (some .int) ∈ AW := AWm (i := 378) (by decide +kernel) (by decide +kernel)
theorem im_X8_bit : Cond.instanceMethod yX8_bit ∈ AW := AWm (i := 376) (by decide +kernel) (by decide +kernel)
theorem sel_X8_bit : Cond.selects RX8 yX8_bit yX8_bit ∈ AW := AWm (i := 377) (by decide +kernel) (by decide +kernel)
theorem mok_X8_bit : MOK RX8 yX8_bit cX8_bit 2 (some .int) 1 := ⟨im_X8_bit, sel_X8_bit, ini_X8, cd_X8_bit, rfl, by decide +kernel, by decide +kernel, by decide +kernel⟩
theorem cd_X8_letterOf : Cond.code yX8_letterOf cX8_letterOf 3 (some .int) ∈ AW := AWm (i := 386) (by decide +kernel) (by decide +kernel)
theorem im_X8_letterOf : Cond.instanceMethod yX8_letterOf ∈ AW := AWm (i := 384) (by decide +kernel) (by decide +kernel)
theorem sel_X8_letterOf : Cond.selects RX8 yX8_letterOf yX8_letterOf ∈ AW := AWm (i := 385) (by decide +kernel) (by decide +kernel)
theorem mok_X8_letterOf : MOK RX8 yX8_letterOf cX8_letterOf 3 (some .int) 2 := ⟨im_X8_letterOf, sel_X8_letterOf, ini_X8, cd_X8_letterOf, rfl, by decide +kernel, by decide +kernel, by decide +kernel⟩
theorem cd_X8_count : Cond.code yX8_count cX8_count 2 (some .int) ∈ AW := AWm (i := 400) (by decide +kernel) (by decide +kernel)
theorem im_X8_count : Cond.instanceMethod yX8_count ∈ AW := AWm (i := 398) (by decide +kernel) (by decide +kernel)
theorem sel_X8_count : Cond.selects RX8 yX8_count yX8_count ∈ AW := AWm (i := 399) (by decide +kernel) (by decide +kernel)
theorem mok_X8_count : MOK RX8 yX8_count cX8_count 2 (some .int) 1 := ⟨im_X8_count, sel_X8_count, ini_X8, cd_X8_count, rfl, by decide +kernel, by decide +kernel, by decide +kernel⟩
theorem cd_X8_cost : Cond.code yX8_cost cX8_cost 2 (some .int) ∈ AW := AWm (i := 413) (by decide +kernel) (by decide +kernel)
theorem im_X8_cost : Cond.instanceMethod yX8_cost ∈ AW := AWm (i := 411) (by decide +kernel) (by decide +kernel)
theorem sel_X8_cost : Cond.selects RX8 yX8_cost yX8_cost ∈ AW := AWm (i := 412) (by decide +kernel) (by decide +kernel)
theorem mok_X8_cost : MOK RX8 yX8_cost cX8_cost 2 (some .int) 1 := ⟨im_X8_cost, sel_X8_cost, ini_X8, cd_X8_cost, rfl, by decide +kernel, by decide +kernel, by decide +kernel⟩
theorem cd_X8_bitsBy : Cond.code yX8_bitsBy cX8_bitsBy 2 (some .int) ∈ AW := AWm (i := 418) (by decide +kernel) (by decide +kernel)
theorem im_X8_bitsBy : Cond.instanceMethod yX8_bitsBy ∈ AW := AWm (i := 416) (by decide +kernel) (by decide +kernel)
theorem sel_X8_bitsBy : Cond.selects RX8 yX8_bitsBy yX8_bitsBy ∈ AW := AWm (i := 417) (by decide +kernel) (by decide +kernel)
theorem mok_X8_bitsBy : MOK RX8 yX8_bitsBy cX8_bitsBy 2 (some .int) 1 := ⟨im_X8_bitsBy, sel_X8_bitsBy, ini_X8, cd_X8_bitsBy, rfl, by decide +kernel, by decide +kernel, by decide +kernel⟩
theorem cd_X8_bestPace : Cond.code yX8_bestPace cX8_bestPace 5 (some .int) ∈ AW := AWm (i := 426) (by decide +kernel) (by decide +kernel)
theorem im_X8_bestPace : Cond.instanceMethod yX8_bestPace ∈ AW := AWm (i := 424) (by decide +kernel) (by decide +kernel)
theorem sel_X8_bestPace : Cond.selects RX8 yX8_bestPace yX8_bestPace ∈ AW := AWm (i := 425) (by decide +kernel) (by decide +kernel)
theorem mok_X8_bestPace : MOK RX8 yX8_bestPace cX8_bestPace 5 (some .int) 0 := ⟨im_X8_bestPace, sel_X8_bestPace, ini_X8, cd_X8_bestPace, rfl, by decide +kernel, by decide +kernel, by decide +kernel⟩
theorem cd_X8_readBack : Cond.code yX8_readBack cX8_readBack 2 (some .int) ∈ AW := AWm (i := 430) (by decide +kernel) (by decide +kernel)
theorem im_X8_readBack : Cond.instanceMethod yX8_readBack ∈ AW := AWm (i := 428) (by decide +kernel) (by decide +kernel)
theorem sel_X8_readBack : Cond.selects RX8 yX8_readBack yX8_readBack ∈ AW := AWm (i := 429) (by decide +kernel) (by decide +kernel)
theorem mok_X8_readBack : MOK RX8 yX8_readBack cX8_readBack 2 (some .int) 1 := ⟨im_X8_readBack, sel_X8_readBack, ini_X8, cd_X8_readBack, rfl, by decide +kernel, by decide +kernel, by decide +kernel⟩
theorem cd_X8_undo : Cond.code yX8_undo cX8_undo 1 (some .int) ∈ AW := AWm (i := 475) (by decide +kernel) (by decide +kernel)
theorem im_X8_undo : Cond.instanceMethod yX8_undo ∈ AW := AWm (i := 473) (by decide +kernel) (by decide +kernel)
theorem sel_X8_undo : Cond.selects RX8 yX8_undo yX8_undo ∈ AW := AWm (i := 474) (by decide +kernel) (by decide +kernel)
theorem mok_X8_undo : MOK RX8 yX8_undo cX8_undo 1 (some .int) 0 := ⟨im_X8_undo, sel_X8_undo, ini_X8, cd_X8_undo, rfl, by decide +kernel, by decide +kernel, by decide +kernel⟩
theorem cd_X8_type : Cond.code yX8_type cX8_type 2 (some .int) ∈ AW := AWm (i := 483) (by decide +kernel) (by decide +kernel)
theorem im_X8_type : Cond.instanceMethod yX8_type ∈ AW := AWm (i := 481) (by decide +kernel) (by decide +kernel)
theorem sel_X8_type : Cond.selects RX8 yX8_type yX8_type ∈ AW := AWm (i := 482) (by decide +kernel) (by decide +kernel)
theorem mok_X8_type : MOK RX8 yX8_type cX8_type 2 (some .int) 1 := ⟨im_X8_type, sel_X8_type, ini_X8, cd_X8_type, rfl, by decide +kernel, by decide +kernel, by decide +kernel⟩
theorem cd_X8_clearText : Cond.code yX8_clearText cX8_clearText 2 (some .int) ∈ AW := AWm (i := 491) (by decide +kernel) (by decide +kernel)
theorem im_X8_clearText : Cond.instanceMethod yX8_clearText ∈ AW := AWm (i := 489) (by decide +kernel) (by decide +kernel)
theorem sel_X8_clearText : Cond.selects RX8 yX8_clearText yX8_clearText ∈ AW := AWm (i := 490) (by decide +kernel) (by decide +kernel)
theorem mok_X8_clearText : MOK RX8 yX8_clearText cX8_clearText 2 (some .int) 0 := ⟨im_X8_clearText, sel_X8_clearText, ini_X8, cd_X8_clearText, rfl, by decide +kernel, by decide +kernel, by decide +kernel⟩
theorem cd_X8_write : Cond.code yX8_write cX8_write 1 (some .int) ∈ AW := AWm (i := 499) (by decide +kernel) (by decide +kernel)
theorem im_X8_write : Cond.instanceMethod yX8_write ∈ AW := AWm (i := 497) (by decide +kernel) (by decide +kernel)
theorem sel_X8_write : Cond.selects RX8 yX8_write yX8_write ∈ AW := AWm (i := 498) (by decide +kernel) (by decide +kernel)
theorem mok_X8_write : MOK RX8 yX8_write cX8_write 1 (some .int) 0 := ⟨im_X8_write, sel_X8_write, ini_X8, cd_X8_write, rfl, by decide +kernel, by decide +kernel, by decide +kernel⟩
theorem cd_X8_fault : Cond.code yX8_fault cX8_fault 3 (some .int) ∈ AW := AWm (i := 510) (by decide +kernel) (by decide +kernel)
theorem im_X8_fault : Cond.instanceMethod yX8_fault ∈ AW := AWm (i := 508) (by decide +kernel) (by decide +kernel)
theorem sel_X8_fault : Cond.selects RX8 yX8_fault yX8_fault ∈ AW := AWm (i := 509) (by decide +kernel) (by decide +kernel)
theorem mok_X8_fault : MOK RX8 yX8_fault cX8_fault 3 (some .int) 1 := ⟨im_X8_fault, sel_X8_fault, ini_X8, cd_X8_fault, rfl, by decide +kernel, by decide +kernel, by decide +kernel⟩
theorem cd_X8_told : Cond.code yX8_told cX8_told 2 (some .int) ∈ AW := AWm (i := 538) (by decide +kernel) (by decide +kernel)
theorem im_X8_told : Cond.instanceMethod yX8_told ∈ AW := AWm (i := 536) (by decide +kernel) (by decide +kernel)
theorem sel_X8_told : Cond.selects RX8 yX8_told yX8_told ∈ AW := AWm (i := 537) (by decide +kernel) (by decide +kernel)
theorem mok_X8_told : MOK RX8 yX8_told cX8_told 2 (some .int) 1 := ⟨im_X8_told, sel_X8_told, ini_X8, cd_X8_told, rfl, by decide +kernel, by decide +kernel, by decide +kernel⟩
theorem cd_X8_isLetter : Cond.code yX8_isLetter cX8_isLetter 1 (some .boolean) ∈ AW := AWm (i := 247) (by decide +kernel) (by decide +kernel)
theorem stt_X8_isLetter : Cond.static yX8_isLetter ∈ AW := AWm (i := 246) (by decide +kernel) (by decide +kernel)
theorem mok_X8_isLetter : MOKs yX8_isLetter cX8_isLetter 1 (some .boolean) 1 := ⟨stt_X8_isLetter, ini_X8, cd_X8_isLetter, by decide +kernel, by decide +kernel, by decide +kernel⟩
theorem cd_X8_isPace : Cond.code yX8_isPace cX8_isPace 1 (some .boolean) ∈ AW := AWm (i := 369) (by decide +kernel) (by decide +kernel)
theorem stt_X8_isPace : Cond.static yX8_isPace ∈ AW := AWm (i := 368) (by decide +kernel) (by decide +kernel)
theorem mok_X8_isPace : MOKs yX8_isPace cX8_isPace 1 (some .boolean) 1 := ⟨stt_X8_isPace, ini_X8, cd_X8_isPace, by decide +kernel, by decide +kernel, by decide +kernel⟩
theorem cd_X8_isSetting : Cond.code yX8_isSetting cX8_isSetting 2 (some .boolean) ∈ AW := AWm (i := 366) (by decide +kernel) (by decide +kernel)
theorem stt_X8_isSetting : Cond.static yX8_isSetting ∈ AW := AWm (i := 365) (by decide +kernel) (by decide +kernel)
theorem mok_X8_isSetting : MOKs yX8_isSetting cX8_isSetting 2 (some .boolean) 2 := ⟨stt_X8_isSetting, ini_X8, cd_X8_isSetting, by decide +kernel, by decide +kernel, by decide +kernel⟩
theorem cd_X8_writeAnew : Cond.code yX8_writeAnew cX8_writeAnew 1 none ∈ AW := AWm (i := 333) (by decide +kernel) (by decide +kernel)
theorem im_X8_writeAnew : Cond.instanceMethod yX8_writeAnew ∈ AW := AWm (i := 332) (by decide +kernel) (by decide +kernel)
theorem sel_X8_writeAnew : Cond.selects RX8 yX8_writeAnew yX8_writeAnew ∈ AW := AWs (i := 4) (q := (yX8_writeAnew, 7)) (by decide +kernel)
theorem mok_X8_writeAnew : MOK RX8 yX8_writeAnew cX8_writeAnew 1 none 0 := ⟨im_X8_writeAnew, sel_X8_writeAnew, ini_X8, cd_X8_writeAnew, rfl, by decide +kernel, by decide +kernel, by decide +kernel⟩
theorem cd_X8_bitsMoreWith : Cond.code yX8_bitsMoreWith cX8_bitsMoreWith 3 (some .int) ∈ AW := AWm (i := 396) (by decide +kernel) (by decide +kernel)
theorem im_X8_bitsMoreWith : Cond.instanceMethod yX8_bitsMoreWith ∈ AW := AWm (i := 395) (by decide +kernel) (by decide +kernel)
theorem sel_X8_bitsMoreWith : Cond.selects RX8 yX8_bitsMoreWith yX8_bitsMoreWith ∈ AW := AWs (i := 5) (q := (yX8_bitsMoreWith, 7)) (by decide +kernel)
theorem mok_X8_bitsMoreWith : MOK RX8 yX8_bitsMoreWith cX8_bitsMoreWith 3 (some .int) 1 := ⟨im_X8_bitsMoreWith, sel_X8_bitsMoreWith, ini_X8, cd_X8_bitsMoreWith, rfl, by decide +kernel, by decide +kernel, by decide +kernel⟩
theorem cd_X8_bitsEnded : Cond.code yX8_bitsEnded cX8_bitsEnded 2 (some .int) ∈ AW := AWm (i := 422) (by decide +kernel) (by decide +kernel)
theorem im_X8_bitsEnded : Cond.instanceMethod yX8_bitsEnded ∈ AW := AWm (i := 421) (by decide +kernel) (by decide +kernel)
theorem sel_X8_bitsEnded : Cond.selects RX8 yX8_bitsEnded yX8_bitsEnded ∈ AW := AWs (i := 6) (q := (yX8_bitsEnded, 7)) (by decide +kernel)
theorem mok_X8_bitsEnded : MOK RX8 yX8_bitsEnded cX8_bitsEnded 2 (some .int) 1 := ⟨im_X8_bitsEnded, sel_X8_bitsEnded, ini_X8, cd_X8_bitsEnded, rfl, by decide +kernel, by decide +kernel, by decide +kernel⟩
theorem cd_X8_alikeFromFirst : Cond.code yX8_alikeFromFirst cX8_alikeFromFirst 3 (some .int) ∈ AW := AWm (i := 464) (by decide +kernel) (by decide +kernel)
theorem im_X8_alikeFromFirst : Cond.instanceMethod yX8_alikeFromFirst ∈ AW := AWm (i := 463) (by decide +kernel) (by decide +kernel)
theorem sel_X8_alikeFromFirst : Cond.selects RX8 yX8_alikeFromFirst yX8_alikeFromFirst ∈ AW := AWs (i := 10) (q := (yX8_alikeFromFirst, 7)) (by decide +kernel)
theorem mok_X8_alikeFromFirst : MOK RX8 yX8_alikeFromFirst cX8_alikeFromFirst 3 (some .int) 0 := ⟨im_X8_alikeFromFirst, sel_X8_alikeFromFirst, ini_X8, cd_X8_alikeFromFirst, rfl, by decide +kernel, by decide +kernel, by decide +kernel⟩
theorem cd_X8_faultReason : Cond.code yX8_faultReason cX8_faultReason 1 (some .int) ∈ AW := AWm (i := 514) (by decide +kernel) (by decide +kernel)
theorem im_X8_faultReason : Cond.instanceMethod yX8_faultReason ∈ AW := AWm (i := 513) (by decide +kernel) (by decide +kernel)
theorem sel_X8_faultReason : Cond.selects RX8 yX8_faultReason yX8_faultReason ∈ AW := AWs (i := 11) (q := (yX8_faultReason, 7)) (by decide +kernel)
theorem mok_X8_faultReason : MOK RX8 yX8_faultReason cX8_faultReason 1 (some .int) 0 := ⟨im_X8_faultReason, sel_X8_faultReason, ini_X8, cd_X8_faultReason, rfl, by decide +kernel, by decide +kernel, by decide +kernel⟩
theorem cd_X8_faultPlace : Cond.code yX8_faultPlace cX8_faultPlace 2 (some .int) ∈ AW := AWm (i := 534) (by decide +kernel) (by decide +kernel)
theorem im_X8_faultPlace : Cond.instanceMethod yX8_faultPlace ∈ AW := AWm (i := 533) (by decide +kernel) (by decide +kernel)
theorem sel_X8_faultPlace : Cond.selects RX8 yX8_faultPlace yX8_faultPlace ∈ AW := AWs (i := 12) (q := (yX8_faultPlace, 7)) (by decide +kernel)
theorem mok_X8_faultPlace : MOK RX8 yX8_faultPlace cX8_faultPlace 2 (some .int) 1 := ⟨im_X8_faultPlace, sel_X8_faultPlace, ini_X8, cd_X8_faultPlace, rfl, by decide +kernel, by decide +kernel, by decide +kernel⟩
theorem cd_X9_init : Cond.code yX9_init cX9_init 1 none ∈ AW := AWm (i := 543) (by decide +kernel) (by decide +kernel)
theorem im_X9_init : Cond.instanceMethod yX9_init ∈ AW := AWm (i := 542) (by decide +kernel) (by decide +kernel)
theorem mok_X9_init : MOKi yX9_init cX9_init 1 0 := ⟨im_X9_init, ini_X9, cd_X9_init, rfl, by decide +kernel, by decide +kernel, by decide +kernel⟩
theorem cd_X9_in : Cond.code yX9_in cX9_in 6 (some .boolean) ∈ AW := AWm (i := 616) (by decide +kernel) (by decide +kernel)
theorem stt_X9_in : Cond.static yX9_in ∈ AW := AWm (i := 615) (by decide +kernel) (by decide +kernel)
theorem mok_X9_in : MOKs yX9_in cX9_in 6 (some .boolean) 3 := ⟨stt_X9_in, ini_X9, cd_X9_in, by decide +kernel, by decide +kernel, by decide +kernel⟩
theorem cd_X9_record : Cond.code yX9_record cX9_record 2 none ∈ AW := AWm (i := 620) (by decide +kernel) (by decide +kernel)
theorem im_X9_record : Cond.instanceMethod yX9_record ∈ AW := AWm (i := 619) (by decide +kernel) (by decide +kernel)
theorem sel_X9_record : Cond.selects RX9 yX9_record yX9_record ∈ AW := AWs (i := 13) (q := (yX9_record, 21)) (by decide +kernel)
theorem mok_X9_record : MOK RX9 yX9_record cX9_record 2 none 0 := ⟨im_X9_record, sel_X9_record, ini_X9, cd_X9_record, rfl, by decide +kernel, by decide +kernel, by decide +kernel⟩
theorem cd_X9_beginsCounts : Cond.code yX9_beginsCounts cX9_beginsCounts 2 none ∈ AW := AWm (i := 636) (by decide +kernel) (by decide +kernel)
theorem im_X9_beginsCounts : Cond.instanceMethod yX9_beginsCounts ∈ AW := AWm (i := 635) (by decide +kernel) (by decide +kernel)
theorem sel_X9_beginsCounts : Cond.selects RX9 yX9_beginsCounts yX9_beginsCounts ∈ AW := AWs (i := 17) (q := (yX9_beginsCounts, 21)) (by decide +kernel)
theorem mok_X9_beginsCounts : MOK RX9 yX9_beginsCounts cX9_beginsCounts 2 none 0 := ⟨im_X9_beginsCounts, sel_X9_beginsCounts, ini_X9, cd_X9_beginsCounts, rfl, by decide +kernel, by decide +kernel, by decide +kernel⟩
theorem cd_X9_learns : Cond.code yX9_learns cX9_learns 4 none ∈ AW := AWm (i := 667) (by decide +kernel) (by decide +kernel)
theorem im_X9_learns : Cond.instanceMethod yX9_learns ∈ AW := AWm (i := 666) (by decide +kernel) (by decide +kernel)
theorem sel_X9_learns : Cond.selects RX9 yX9_learns yX9_learns ∈ AW := AWs (i := 24) (q := (yX9_learns, 21)) (by decide +kernel)
theorem mok_X9_learns : MOK RX9 yX9_learns cX9_learns 4 none 2 := ⟨im_X9_learns, sel_X9_learns, ini_X9, cd_X9_learns, rfl, by decide +kernel, by decide +kernel, by decide +kernel⟩
theorem cd_X9_below : Cond.code yX9_below cX9_below 4 (some .int) ∈ AW := AWm (i := 649) (by decide +kernel) (by decide +kernel)
theorem im_X9_below : Cond.instanceMethod yX9_below ∈ AW := AWm (i := 648) (by decide +kernel) (by decide +kernel)
theorem sel_X9_below : Cond.selects RX9 yX9_below yX9_below ∈ AW := AWs (i := 20) (q := (yX9_below, 21)) (by decide +kernel)
theorem mok_X9_below : MOK RX9 yX9_below cX9_below 4 (some .int) 1 := ⟨im_X9_below, sel_X9_below, ini_X9, cd_X9_below, rfl, by decide +kernel, by decide +kernel, by decide +kernel⟩
theorem cd_X9_writes : Cond.code yX9_writes cX9_writes 2 none ∈ AW := AWm (i := 659) (by decide +kernel) (by decide +kernel)
theorem im_X9_writes : Cond.instanceMethod yX9_writes ∈ AW := AWm (i := 658) (by decide +kernel) (by decide +kernel)
theorem sel_X9_writes : Cond.selects RX9 yX9_writes yX9_writes ∈ AW := AWs (i := 22) (q := (yX9_writes, 21)) (by decide +kernel)
theorem mok_X9_writes : MOK RX9 yX9_writes cX9_writes 2 none 1 := ⟨im_X9_writes, sel_X9_writes, ini_X9, cd_X9_writes, rfl, by decide +kernel, by decide +kernel, by decide +kernel⟩
theorem cd_X9_cuts : Cond.code yX9_cuts cX9_cuts 4 none ∈ AW := AWm (i := 645) (by decide +kernel) (by decide +kernel)
theorem im_X9_cuts : Cond.instanceMethod yX9_cuts ∈ AW := AWm (i := 644) (by decide +kernel) (by decide +kernel)
theorem sel_X9_cuts : Cond.selects RX9 yX9_cuts yX9_cuts ∈ AW := AWs (i := 19) (q := (yX9_cuts, 21)) (by decide +kernel)
theorem mok_X9_cuts : MOK RX9 yX9_cuts cX9_cuts 4 none 1 := ⟨im_X9_cuts, sel_X9_cuts, ini_X9, cd_X9_cuts, rfl, by decide +kernel, by decide +kernel, by decide +kernel⟩
theorem cd_X9_takenOff : Cond.code yX9_takenOff cX9_takenOff 1 (some .int) ∈ AW := AWm (i := 653) (by decide +kernel) (by decide +kernel)
theorem im_X9_takenOff : Cond.instanceMethod yX9_takenOff ∈ AW := AWm (i := 652) (by decide +kernel) (by decide +kernel)
theorem sel_X9_takenOff : Cond.selects RX9 yX9_takenOff yX9_takenOff ∈ AW := AWs (i := 21) (q := (yX9_takenOff, 21)) (by decide +kernel)
theorem mok_X9_takenOff : MOK RX9 yX9_takenOff cX9_takenOff 1 (some .int) 0 := ⟨im_X9_takenOff, sel_X9_takenOff, ini_X9, cd_X9_takenOff, rfl, by decide +kernel, by decide +kernel, by decide +kernel⟩
theorem cd_X9_doubles : Cond.code yX9_doubles cX9_doubles 2 none ∈ AW := AWm (i := 663) (by decide +kernel) (by decide +kernel)
theorem im_X9_doubles : Cond.instanceMethod yX9_doubles ∈ AW := AWm (i := 662) (by decide +kernel) (by decide +kernel)
theorem sel_X9_doubles : Cond.selects RX9 yX9_doubles yX9_doubles ∈ AW := AWs (i := 23) (q := (yX9_doubles, 21)) (by decide +kernel)
theorem mok_X9_doubles : MOK RX9 yX9_doubles cX9_doubles 2 none 1 := ⟨im_X9_doubles, sel_X9_doubles, ini_X9, cd_X9_doubles, rfl, by decide +kernel, by decide +kernel, by decide +kernel⟩
theorem cd_X9_narrows : Cond.code yX9_narrows cX9_narrows 3 none ∈ AW := AWm (i := 641) (by decide +kernel) (by decide +kernel)
theorem im_X9_narrows : Cond.instanceMethod yX9_narrows ∈ AW := AWm (i := 640) (by decide +kernel) (by decide +kernel)
theorem sel_X9_narrows : Cond.selects RX9 yX9_narrows yX9_narrows ∈ AW := AWs (i := 18) (q := (yX9_narrows, 21)) (by decide +kernel)
theorem mok_X9_narrows : MOK RX9 yX9_narrows cX9_narrows 3 none 1 := ⟨im_X9_narrows, sel_X9_narrows, ini_X9, cd_X9_narrows, rfl, by decide +kernel, by decide +kernel, by decide +kernel⟩
theorem cd_X9_beginsSpan : Cond.code yX9_beginsSpan cX9_beginsSpan 1 none ∈ AW := AWm (i := 632) (by decide +kernel) (by decide +kernel)
theorem im_X9_beginsSpan : Cond.instanceMethod yX9_beginsSpan ∈ AW := AWm (i := 631) (by decide +kernel) (by decide +kernel)
theorem sel_X9_beginsSpan : Cond.selects RX9 yX9_beginsSpan yX9_beginsSpan ∈ AW := AWs (i := 16) (q := (yX9_beginsSpan, 21)) (by decide +kernel)
theorem mok_X9_beginsSpan : MOK RX9 yX9_beginsSpan cX9_beginsSpan 1 none 0 := ⟨im_X9_beginsSpan, sel_X9_beginsSpan, ini_X9, cd_X9_beginsSpan, rfl, by decide +kernel, by decide +kernel, by decide +kernel⟩
theorem cd_X9_ends : Cond.code yX9_ends cX9_ends 1 none ∈ AW := AWm (i := 671) (by decide +kernel) (by decide +kernel)
theorem im_X9_ends : Cond.instanceMethod yX9_ends ∈ AW := AWm (i := 670) (by decide +kernel) (by decide +kernel)
theorem sel_X9_ends : Cond.selects RX9 yX9_ends yX9_ends ∈ AW := AWs (i := 25) (q := (yX9_ends, 21)) (by decide +kernel)
theorem mok_X9_ends : MOK RX9 yX9_ends cX9_ends 1 none 0 := ⟨im_X9_ends, sel_X9_ends, ini_X9, cd_X9_ends, rfl, by decide +kernel, by decide +kernel, by decide +kernel⟩
theorem cd_X9_putsAll : Cond.code yX9_putsAll cX9_putsAll 5 none ∈ AW := AWm (i := 628) (by decide +kernel) (by decide +kernel)
theorem im_X9_putsAll : Cond.instanceMethod yX9_putsAll ∈ AW := AWm (i := 627) (by decide +kernel) (by decide +kernel)
theorem sel_X9_putsAll : Cond.selects RX9 yX9_putsAll yX9_putsAll ∈ AW := AWs (i := 15) (q := (yX9_putsAll, 21)) (by decide +kernel)
theorem mok_X9_putsAll : MOK RX9 yX9_putsAll cX9_putsAll 5 none 2 := ⟨im_X9_putsAll, sel_X9_putsAll, ini_X9, cd_X9_putsAll, rfl, by decide +kernel, by decide +kernel, by decide +kernel⟩
theorem cd_X9_putsNow : Cond.code yX9_putsNow cX9_putsNow 1 none ∈ AW := AWm (i := 624) (by decide +kernel) (by decide +kernel)
theorem im_X9_putsNow : Cond.instanceMethod yX9_putsNow ∈ AW := AWm (i := 623) (by decide +kernel) (by decide +kernel)
theorem sel_X9_putsNow : Cond.selects RX9 yX9_putsNow yX9_putsNow ∈ AW := AWs (i := 14) (q := (yX9_putsNow, 21)) (by decide +kernel)
theorem mok_X9_putsNow : MOK RX9 yX9_putsNow cX9_putsNow 1 none 0 := ⟨im_X9_putsNow, sel_X9_putsNow, ini_X9, cd_X9_putsNow, rfl, by decide +kernel, by decide +kernel, by decide +kernel⟩
theorem cd_X9_bitsNow : Cond.code yX9_bitsNow cX9_bitsNow 1 (some .int) ∈ AW := AWm (i := 679) (by decide +kernel) (by decide +kernel)
theorem im_X9_bitsNow : Cond.instanceMethod yX9_bitsNow ∈ AW := AWm (i := 678) (by decide +kernel) (by decide +kernel)
theorem sel_X9_bitsNow : Cond.selects RX9 yX9_bitsNow yX9_bitsNow ∈ AW := AWs (i := 26) (q := (yX9_bitsNow, 21)) (by decide +kernel)
theorem mok_X9_bitsNow : MOK RX9 yX9_bitsNow cX9_bitsNow 1 (some .int) 0 := ⟨im_X9_bitsNow, sel_X9_bitsNow, ini_X9, cd_X9_bitsNow, rfl, by decide +kernel, by decide +kernel, by decide +kernel⟩
theorem cd_X9_put : Cond.code yX9_put cX9_put 2 (some .int) ∈ AW := AWm (i := 612) (by decide +kernel) (by decide +kernel)
theorem im_X9_put : Cond.instanceMethod yX9_put ∈ AW := AWm (i := 610) (by decide +kernel) (by decide +kernel)
theorem sel_X9_put : Cond.selects RX9 yX9_put yX9_put ∈ AW := AWm (i := 611) (by decide +kernel) (by decide +kernel)
theorem mok_X9_put : MOK RX9 yX9_put cX9_put 2 (some .int) 1 := ⟨im_X9_put, sel_X9_put, ini_X9, cd_X9_put, rfl, by decide +kernel, by decide +kernel, by decide +kernel⟩
theorem cd_X9_end : Cond.code yX9_end cX9_end 1 (some .int) ∈ AW := AWm (i := 675) (by decide +kernel) (by decide +kernel)
theorem im_X9_end : Cond.instanceMethod yX9_end ∈ AW := AWm (i := 673) (by decide +kernel) (by decide +kernel)
theorem sel_X9_end : Cond.selects RX9 yX9_end yX9_end ∈ AW := AWm (i := 674) (by decide +kernel) (by decide +kernel)
theorem mok_X9_end : MOK RX9 yX9_end cX9_end 1 (some .int) 0 := ⟨im_X9_end, sel_X9_end, ini_X9, cd_X9_end, rfl, by decide +kernel, by decide +kernel, by decide +kernel⟩
theorem cd_X9_begins : Cond.code yX9_begins cX9_begins 2 (some .int) ∈ AW := AWm (i := 687) (by decide +kernel) (by decide +kernel)
theorem im_X9_begins : Cond.instanceMethod yX9_begins ∈ AW := AWm (i := 686) (by decide +kernel) (by decide +kernel)
theorem sel_X9_begins : Cond.selects RX9 yX9_begins yX9_begins ∈ AW := AWs (i := 27) (q := (yX9_begins, 21)) (by decide +kernel)
theorem mok_X9_begins : MOK RX9 yX9_begins cX9_begins 2 (some .int) 0 := ⟨im_X9_begins, sel_X9_begins, ini_X9, cd_X9_begins, rfl, by decide +kernel, by decide +kernel, by decide +kernel⟩
theorem cd_X9_begin : Cond.code yX9_begin cX9_begin 1 (some .int) ∈ AW := AWm (i := 683) (by decide +kernel) (by decide +kernel)
theorem im_X9_begin : Cond.instanceMethod yX9_begin ∈ AW := AWm (i := 681) (by decide +kernel) (by decide +kernel)
theorem sel_X9_begin : Cond.selects RX9 yX9_begin yX9_begin ∈ AW := AWm (i := 682) (by decide +kernel) (by decide +kernel)
theorem mok_X9_begin : MOK RX9 yX9_begin cX9_begin 1 (some .int) 0 := ⟨im_X9_begin, sel_X9_begin, ini_X9, cd_X9_begin, rfl, by decide +kernel, by decide +kernel, by decide +kernel⟩
theorem cd_X9_drop : Cond.code yX9_drop cX9_drop 2 (some .int) ∈ AW := AWm (i := 691) (by decide +kernel) (by decide +kernel)
theorem im_X9_drop : Cond.instanceMethod yX9_drop ∈ AW := AWm (i := 689) (by decide +kernel) (by decide +kernel)
theorem sel_X9_drop : Cond.selects RX9 yX9_drop yX9_drop ∈ AW := AWm (i := 690) (by decide +kernel) (by decide +kernel)
theorem mok_X9_drop : MOK RX9 yX9_drop cX9_drop 2 (some .int) 1 := ⟨im_X9_drop, sel_X9_drop, ini_X9, cd_X9_drop, rfl, by decide +kernel, by decide +kernel, by decide +kernel⟩
theorem cd_X9_mend : Cond.code yX9_mend cX9_mend 3 (some .int) ∈ AW := AWm (i := 696) (by decide +kernel) (by decide +kernel)
theorem im_X9_mend : Cond.instanceMethod yX9_mend ∈ AW := AWm (i := 694) (by decide +kernel) (by decide +kernel)
theorem sel_X9_mend : Cond.selects RX9 yX9_mend yX9_mend ∈ AW := AWm (i := 695) (by decide +kernel) (by decide +kernel)
theorem mok_X9_mend : MOK RX9 yX9_mend cX9_mend 3 (some .int) 2 := ⟨im_X9_mend, sel_X9_mend, ini_X9, cd_X9_mend, rfl, by decide +kernel, by decide +kernel, by decide +kernel⟩
theorem cd_X9_set : Cond.code yX9_set cX9_set 6 (some .int) ∈ AW := AWm (i := 700) (by decide +kernel) (by decide +kernel)
theorem im_X9_set : Cond.instanceMethod yX9_set ∈ AW := AWm (i := 698) (by decide +kernel) (by decide +kernel)
theorem sel_X9_set : Cond.selects RX9 yX9_set yX9_set ∈ AW := AWm (i := 699) (by decide +kernel) (by decide +kernel)
theorem mok_X9_set : MOK RX9 yX9_set cX9_set 6 (some .int) 2 := ⟨im_X9_set, sel_X9_set, ini_X9, cd_X9_set, rfl, by decide +kernel, by decide +kernel, by decide +kernel⟩
theorem cd_X9_letter : Cond.code yX9_letter cX9_letter 2 (some .int) ∈ AW := AWm (i := 707) (by decide +kernel) (by decide +kernel)
theorem im_X9_letter : Cond.instanceMethod yX9_letter ∈ AW := AWm (i := 705) (by decide +kernel) (by decide +kernel)
theorem sel_X9_letter : Cond.selects RX9 yX9_letter yX9_letter ∈ AW := AWm (i := 706) (by decide +kernel) (by decide +kernel)
theorem mok_X9_letter : MOK RX9 yX9_letter cX9_letter 2 (some .int) 1 := ⟨im_X9_letter, sel_X9_letter, ini_X9, cd_X9_letter, rfl, by decide +kernel, by decide +kernel, by decide +kernel⟩
theorem cd_X9_bit : Cond.code yX9_bit cX9_bit 2 (some .int) ∈ AW := AWm (i := 711) (by decide +kernel) (by decide +kernel)
theorem im_X9_bit : Cond.instanceMethod yX9_bit ∈ AW := AWm (i := 709) (by decide +kernel) (by decide +kernel)
theorem sel_X9_bit : Cond.selects RX9 yX9_bit yX9_bit ∈ AW := AWm (i := 710) (by decide +kernel) (by decide +kernel)
theorem mok_X9_bit : MOK RX9 yX9_bit cX9_bit 2 (some .int) 1 := ⟨im_X9_bit, sel_X9_bit, ini_X9, cd_X9_bit, rfl, by decide +kernel, by decide +kernel, by decide +kernel⟩
theorem cd_X9_stands : Cond.code yX9_stands cX9_stands 4 (some .int) ∈ AW := AWm (i := 721) (by decide +kernel) (by decide +kernel)
theorem im_X9_stands : Cond.instanceMethod yX9_stands ∈ AW := AWm (i := 720) (by decide +kernel) (by decide +kernel)
theorem sel_X9_stands : Cond.selects RX9 yX9_stands yX9_stands ∈ AW := AWs (i := 28) (q := (yX9_stands, 21)) (by decide +kernel)
theorem mok_X9_stands : MOK RX9 yX9_stands cX9_stands 4 (some .int) 1 := ⟨im_X9_stands, sel_X9_stands, ini_X9, cd_X9_stands, rfl, by decide +kernel, by decide +kernel, by decide +kernel⟩
theorem cd_X9_wouldWrite : Cond.code yX9_wouldWrite cX9_wouldWrite 3 (some .int) ∈ AW := AWm (i := 725) (by decide +kernel) (by decide +kernel)
theorem im_X9_wouldWrite : Cond.instanceMethod yX9_wouldWrite ∈ AW := AWm (i := 724) (by decide +kernel) (by decide +kernel)
theorem sel_X9_wouldWrite : Cond.selects RX9 yX9_wouldWrite yX9_wouldWrite ∈ AW := AWs (i := 29) (q := (yX9_wouldWrite, 21)) (by decide +kernel)
theorem mok_X9_wouldWrite : MOK RX9 yX9_wouldWrite cX9_wouldWrite 3 (some .int) 1 := ⟨im_X9_wouldWrite, sel_X9_wouldWrite, ini_X9, cd_X9_wouldWrite, rfl, by decide +kernel, by decide +kernel, by decide +kernel⟩
theorem cd_X9_letterOf : Cond.code yX9_letterOf cX9_letterOf 3 (some .int) ∈ AW := AWm (i := 715) (by decide +kernel) (by decide +kernel)
theorem im_X9_letterOf : Cond.instanceMethod yX9_letterOf ∈ AW := AWm (i := 713) (by decide +kernel) (by decide +kernel)
theorem sel_X9_letterOf : Cond.selects RX9 yX9_letterOf yX9_letterOf ∈ AW := AWm (i := 714) (by decide +kernel) (by decide +kernel)
theorem mok_X9_letterOf : MOK RX9 yX9_letterOf cX9_letterOf 3 (some .int) 2 := ⟨im_X9_letterOf, sel_X9_letterOf, ini_X9, cd_X9_letterOf, rfl, by decide +kernel, by decide +kernel, by decide +kernel⟩
theorem cd_X9_mostWritten : Cond.code yX9_mostWritten cX9_mostWritten 3 (some .int) ∈ AW := AWm (i := 733) (by decide +kernel) (by decide +kernel)
theorem im_X9_mostWritten : Cond.instanceMethod yX9_mostWritten ∈ AW := AWm (i := 732) (by decide +kernel) (by decide +kernel)
theorem sel_X9_mostWritten : Cond.selects RX9 yX9_mostWritten yX9_mostWritten ∈ AW := AWs (i := 30) (q := (yX9_mostWritten, 21)) (by decide +kernel)
theorem mok_X9_mostWritten : MOK RX9 yX9_mostWritten cX9_mostWritten 3 (some .int) 0 := ⟨im_X9_mostWritten, sel_X9_mostWritten, ini_X9, cd_X9_mostWritten, rfl, by decide +kernel, by decide +kernel, by decide +kernel⟩
theorem cd_X9_count : Cond.code yX9_count cX9_count 2 (some .int) ∈ AW := AWm (i := 729) (by decide +kernel) (by decide +kernel)
theorem im_X9_count : Cond.instanceMethod yX9_count ∈ AW := AWm (i := 727) (by decide +kernel) (by decide +kernel)
theorem sel_X9_count : Cond.selects RX9 yX9_count yX9_count ∈ AW := AWm (i := 728) (by decide +kernel) (by decide +kernel)
theorem mok_X9_count : MOK RX9 yX9_count cX9_count 2 (some .int) 1 := ⟨im_X9_count, sel_X9_count, ini_X9, cd_X9_count, rfl, by decide +kernel, by decide +kernel, by decide +kernel⟩
theorem cd_X9_cost : Cond.code yX9_cost cX9_cost 2 (some .int) ∈ AW := AWm (i := 737) (by decide +kernel) (by decide +kernel)
theorem im_X9_cost : Cond.instanceMethod yX9_cost ∈ AW := AWm (i := 735) (by decide +kernel) (by decide +kernel)
theorem sel_X9_cost : Cond.selects RX9 yX9_cost yX9_cost ∈ AW := AWm (i := 736) (by decide +kernel) (by decide +kernel)
theorem mok_X9_cost : MOK RX9 yX9_cost cX9_cost 2 (some .int) 1 := ⟨im_X9_cost, sel_X9_cost, ini_X9, cd_X9_cost, rfl, by decide +kernel, by decide +kernel, by decide +kernel⟩
theorem cd_X9_bitsOf : Cond.code yX9_bitsOf cX9_bitsOf 2 (some .int) ∈ AW := AWm (i := 745) (by decide +kernel) (by decide +kernel)
theorem im_X9_bitsOf : Cond.instanceMethod yX9_bitsOf ∈ AW := AWm (i := 744) (by decide +kernel) (by decide +kernel)
theorem sel_X9_bitsOf : Cond.selects RX9 yX9_bitsOf yX9_bitsOf ∈ AW := AWs (i := 31) (q := (yX9_bitsOf, 21)) (by decide +kernel)
theorem mok_X9_bitsOf : MOK RX9 yX9_bitsOf cX9_bitsOf 2 (some .int) 1 := ⟨im_X9_bitsOf, sel_X9_bitsOf, ini_X9, cd_X9_bitsOf, rfl, by decide +kernel, by decide +kernel, by decide +kernel⟩
theorem cd_X9_bitsBy : Cond.code yX9_bitsBy cX9_bitsBy 2 (some .int) ∈ AW := AWm (i := 741) (by decide +kernel) (by decide +kernel)
theorem im_X9_bitsBy : Cond.instanceMethod yX9_bitsBy ∈ AW := AWm (i := 739) (by decide +kernel) (by decide +kernel)
theorem sel_X9_bitsBy : Cond.selects RX9 yX9_bitsBy yX9_bitsBy ∈ AW := AWm (i := 740) (by decide +kernel) (by decide +kernel)
theorem mok_X9_bitsBy : MOK RX9 yX9_bitsBy cX9_bitsBy 2 (some .int) 1 := ⟨im_X9_bitsBy, sel_X9_bitsBy, ini_X9, cd_X9_bitsBy, rfl, by decide +kernel, by decide +kernel, by decide +kernel⟩
theorem cd_X9_bestPace : Cond.code yX9_bestPace cX9_bestPace 5 (some .int) ∈ AW := AWm (i := 749) (by decide +kernel) (by decide +kernel)
theorem im_X9_bestPace : Cond.instanceMethod yX9_bestPace ∈ AW := AWm (i := 747) (by decide +kernel) (by decide +kernel)
theorem sel_X9_bestPace : Cond.selects RX9 yX9_bestPace yX9_bestPace ∈ AW := AWm (i := 748) (by decide +kernel) (by decide +kernel)
theorem mok_X9_bestPace : MOK RX9 yX9_bestPace cX9_bestPace 5 (some .int) 0 := ⟨im_X9_bestPace, sel_X9_bestPace, ini_X9, cd_X9_bestPace, rfl, by decide +kernel, by decide +kernel, by decide +kernel⟩
theorem cd_X9_takes : Cond.code yX9_takes cX9_takes 1 none ∈ AW := AWm (i := 762) (by decide +kernel) (by decide +kernel)
theorem im_X9_takes : Cond.instanceMethod yX9_takes ∈ AW := AWm (i := 761) (by decide +kernel) (by decide +kernel)
theorem sel_X9_takes : Cond.selects RX9 yX9_takes yX9_takes ∈ AW := AWs (i := 33) (q := (yX9_takes, 21)) (by decide +kernel)
theorem mok_X9_takes : MOK RX9 yX9_takes cX9_takes 1 none 0 := ⟨im_X9_takes, sel_X9_takes, ini_X9, cd_X9_takes, rfl, by decide +kernel, by decide +kernel, by decide +kernel⟩
theorem cd_X9_letterAt : Cond.code yX9_letterAt cX9_letterAt 5 (some .int) ∈ AW := AWm (i := 766) (by decide +kernel) (by decide +kernel)
theorem im_X9_letterAt : Cond.instanceMethod yX9_letterAt ∈ AW := AWm (i := 765) (by decide +kernel) (by decide +kernel)
theorem sel_X9_letterAt : Cond.selects RX9 yX9_letterAt yX9_letterAt ∈ AW := AWs (i := 34) (q := (yX9_letterAt, 21)) (by decide +kernel)
theorem mok_X9_letterAt : MOK RX9 yX9_letterAt cX9_letterAt 5 (some .int) 0 := ⟨im_X9_letterAt, sel_X9_letterAt, ini_X9, cd_X9_letterAt, rfl, by decide +kernel, by decide +kernel, by decide +kernel⟩
theorem cd_X9_reads : Cond.code yX9_reads cX9_reads 3 (some .boolean) ∈ AW := AWm (i := 758) (by decide +kernel) (by decide +kernel)
theorem im_X9_reads : Cond.instanceMethod yX9_reads ∈ AW := AWm (i := 757) (by decide +kernel) (by decide +kernel)
theorem sel_X9_reads : Cond.selects RX9 yX9_reads yX9_reads ∈ AW := AWs (i := 32) (q := (yX9_reads, 21)) (by decide +kernel)
theorem mok_X9_reads : MOK RX9 yX9_reads cX9_reads 3 (some .boolean) 0 := ⟨im_X9_reads, sel_X9_reads, ini_X9, cd_X9_reads, rfl, by decide +kernel, by decide +kernel, by decide +kernel⟩
theorem cd_X9_readBack : Cond.code yX9_readBack cX9_readBack 4 (some .int) ∈ AW := AWm (i := 753) (by decide +kernel) (by decide +kernel)
theorem im_X9_readBack : Cond.instanceMethod yX9_readBack ∈ AW := AWm (i := 751) (by decide +kernel) (by decide +kernel)
theorem sel_X9_readBack : Cond.selects RX9 yX9_readBack yX9_readBack ∈ AW := AWm (i := 752) (by decide +kernel) (by decide +kernel)
theorem mok_X9_readBack : MOK RX9 yX9_readBack cX9_readBack 4 (some .int) 1 := ⟨im_X9_readBack, sel_X9_readBack, ini_X9, cd_X9_readBack, rfl, by decide +kernel, by decide +kernel, by decide +kernel⟩
theorem cd_X9_undo : Cond.code yX9_undo cX9_undo 2 (some .int) ∈ AW := AWm (i := 770) (by decide +kernel) (by decide +kernel)
theorem im_X9_undo : Cond.instanceMethod yX9_undo ∈ AW := AWm (i := 768) (by decide +kernel) (by decide +kernel)
theorem sel_X9_undo : Cond.selects RX9 yX9_undo yX9_undo ∈ AW := AWm (i := 769) (by decide +kernel) (by decide +kernel)
theorem mok_X9_undo : MOK RX9 yX9_undo cX9_undo 2 (some .int) 0 := ⟨im_X9_undo, sel_X9_undo, ini_X9, cd_X9_undo, rfl, by decide +kernel, by decide +kernel, by decide +kernel⟩
theorem cd_X9_type : Cond.code yX9_type cX9_type 2 (some .int) ∈ AW := AWm (i := 774) (by decide +kernel) (by decide +kernel)
theorem im_X9_type : Cond.instanceMethod yX9_type ∈ AW := AWm (i := 772) (by decide +kernel) (by decide +kernel)
theorem sel_X9_type : Cond.selects RX9 yX9_type yX9_type ∈ AW := AWm (i := 773) (by decide +kernel) (by decide +kernel)
theorem mok_X9_type : MOK RX9 yX9_type cX9_type 2 (some .int) 1 := ⟨im_X9_type, sel_X9_type, ini_X9, cd_X9_type, rfl, by decide +kernel, by decide +kernel, by decide +kernel⟩
theorem cd_X9_clearText : Cond.code yX9_clearText cX9_clearText 2 (some .int) ∈ AW := AWm (i := 779) (by decide +kernel) (by decide +kernel)
theorem im_X9_clearText : Cond.instanceMethod yX9_clearText ∈ AW := AWm (i := 777) (by decide +kernel) (by decide +kernel)
theorem sel_X9_clearText : Cond.selects RX9 yX9_clearText yX9_clearText ∈ AW := AWm (i := 778) (by decide +kernel) (by decide +kernel)
theorem mok_X9_clearText : MOK RX9 yX9_clearText cX9_clearText 2 (some .int) 0 := ⟨im_X9_clearText, sel_X9_clearText, ini_X9, cd_X9_clearText, rfl, by decide +kernel, by decide +kernel, by decide +kernel⟩
theorem cd_X9_write : Cond.code yX9_write cX9_write 2 (some .int) ∈ AW := AWm (i := 783) (by decide +kernel) (by decide +kernel)
theorem im_X9_write : Cond.instanceMethod yX9_write ∈ AW := AWm (i := 781) (by decide +kernel) (by decide +kernel)
theorem sel_X9_write : Cond.selects RX9 yX9_write yX9_write ∈ AW := AWm (i := 782) (by decide +kernel) (by decide +kernel)
theorem mok_X9_write : MOK RX9 yX9_write cX9_write 2 (some .int) 0 := ⟨im_X9_write, sel_X9_write, ini_X9, cd_X9_write, rfl, by decide +kernel, by decide +kernel, by decide +kernel⟩
theorem cd_X9_reason : Cond.code yX9_reason cX9_reason 1 (some .int) ∈ AW := AWm (i := 791) (by decide +kernel) (by decide +kernel)
theorem im_X9_reason : Cond.instanceMethod yX9_reason ∈ AW := AWm (i := 790) (by decide +kernel) (by decide +kernel)
theorem sel_X9_reason : Cond.selects RX9 yX9_reason yX9_reason ∈ AW := AWs (i := 35) (q := (yX9_reason, 21)) (by decide +kernel)
theorem mok_X9_reason : MOK RX9 yX9_reason cX9_reason 1 (some .int) 0 := ⟨im_X9_reason, sel_X9_reason, ini_X9, cd_X9_reason, rfl, by decide +kernel, by decide +kernel, by decide +kernel⟩
theorem cd_X9_fault : Cond.code yX9_fault cX9_fault 3 (some .int) ∈ AW := AWm (i := 787) (by decide +kernel) (by decide +kernel)
theorem im_X9_fault : Cond.instanceMethod yX9_fault ∈ AW := AWm (i := 785) (by decide +kernel) (by decide +kernel)
theorem sel_X9_fault : Cond.selects RX9 yX9_fault yX9_fault ∈ AW := AWm (i := 786) (by decide +kernel) (by decide +kernel)
theorem mok_X9_fault : MOK RX9 yX9_fault cX9_fault 3 (some .int) 1 := ⟨im_X9_fault, sel_X9_fault, ini_X9, cd_X9_fault, rfl, by decide +kernel, by decide +kernel, by decide +kernel⟩
theorem cd_X9_told : Cond.code yX9_told cX9_told 2 (some .int) ∈ AW := AWm (i := 797) (by decide +kernel) (by decide +kernel)
theorem im_X9_told : Cond.instanceMethod yX9_told ∈ AW := AWm (i := 795) (by decide +kernel) (by decide +kernel)
theorem sel_X9_told : Cond.selects RX9 yX9_told yX9_told ∈ AW := AWm (i := 796) (by decide +kernel) (by decide +kernel)
theorem mok_X9_told : MOK RX9 yX9_told cX9_told 2 (some .int) 1 := ⟨im_X9_told, sel_X9_told, ini_X9, cd_X9_told, rfl, by decide +kernel, by decide +kernel, by decide +kernel⟩
theorem cd_J9_max_7cf53 : Cond.code yJ9_max_7cf53 cJ9_max_7cf53 2 (some .int) ∈ AW := AWm (i := 351) (by decide +kernel) (by decide +kernel)
theorem stt_J9_max_7cf53 : Cond.static yJ9_max_7cf53 ∈ AW := AWm (i := 350) (by decide +kernel) (by decide +kernel)
theorem mok_J9_max_7cf53 : MOKs yJ9_max_7cf53 cJ9_max_7cf53 2 (some .int) 2 := ⟨stt_J9_max_7cf53, ini_J9, cd_J9_max_7cf53, by decide +kernel, by decide +kernel, by decide +kernel⟩
theorem cd_J9_min_7cf53 : Cond.code yJ9_min_7cf53 cJ9_min_7cf53 2 (some .int) ∈ AW := AWm (i := 467) (by decide +kernel) (by decide +kernel)
theorem stt_J9_min_7cf53 : Cond.static yJ9_min_7cf53 ∈ AW := AWm (i := 466) (by decide +kernel) (by decide +kernel)
theorem mok_J9_min_7cf53 : MOKs yJ9_min_7cf53 cJ9_min_7cf53 2 (some .int) 2 := ⟨stt_J9_min_7cf53, ini_J9, cd_J9_min_7cf53, by decide +kernel, by decide +kernel, by decide +kernel⟩
theorem im_obj : Cond.instanceMethod objectInit ∈ AW := AWm (i := 18) (by decide +kernel) (by decide +kernel)
theorem cd_obj : Cond.code objectInit ⟨#[0xb1]⟩ 1 none ∈ AW := AWm (i := 19) (by decide +kernel) (by decide +kernel)
theorem stt_max : Cond.static Lib.Math.max.name ∈ AW := AWm (i := 350) (by decide +kernel) (by decide +kernel)
theorem cd_max : Cond.code Lib.Math.max.name Lib.Math.max.code 2 (some .int) ∈ AW := AWm (i := 351) (by decide +kernel) (by decide +kernel)
theorem stt_min : Cond.static Lib.Math.min.name ∈ AW := AWm (i := 466) (by decide +kernel) (by decide +kernel)
theorem cd_min : Cond.code Lib.Math.min.name Lib.Math.min.code 2 (some .int) ∈ AW := AWm (i := 467) (by decide +kernel) (by decide +kernel)
theorem in_X0 : ∀ w ∈ u_ws RX0 TX0 2, w ∈ AW := by
  intro w hw
  obtain ⟨k, hk, rfl⟩ := List.mem_map.mp hw
  have hk := List.mem_range.mp hk
  match k, hk with
  | 0, _ => exact AWm (i := 107) (by decide +kernel) (by decide +kernel)
  | 1, _ => exact AWm (i := 109) (by decide +kernel) (by decide +kernel)
  | k + 2, hk => exact absurd hk (by omega)
theorem cls_X0 : vwCl[0]? = some (RX0, TX0, 2) := rfl
theorem in_X1 : ∀ w ∈ u_ws RX1 TX1 6, w ∈ AW := by
  intro w hw
  obtain ⟨k, hk, rfl⟩ := List.mem_map.mp hw
  have hk := List.mem_range.mp hk
  match k, hk with
  | 0, _ => exact AWm (i := 138) (by decide +kernel) (by decide +kernel)
  | 1, _ => exact AWm (i := 140) (by decide +kernel) (by decide +kernel)
  | 2, _ => exact AWm (i := 142) (by decide +kernel) (by decide +kernel)
  | 3, _ => exact AWm (i := 144) (by decide +kernel) (by decide +kernel)
  | 4, _ => exact AWm (i := 146) (by decide +kernel) (by decide +kernel)
  | 5, _ => exact AWm (i := 148) (by decide +kernel) (by decide +kernel)
  | k + 6, hk => exact absurd hk (by omega)
theorem cls_X1 : vwCl[1]? = some (RX1, TX1, 6) := rfl
theorem in_X2 : ∀ w ∈ u_ws RX2 TX2 5, w ∈ AW := by
  intro w hw
  obtain ⟨k, hk, rfl⟩ := List.mem_map.mp hw
  have hk := List.mem_range.mp hk
  match k, hk with
  | 0, _ => exact AWm (i := 68) (by decide +kernel) (by decide +kernel)
  | 1, _ => exact AWm (i := 70) (by decide +kernel) (by decide +kernel)
  | 2, _ => exact AWm (i := 72) (by decide +kernel) (by decide +kernel)
  | 3, _ => exact AWm (i := 74) (by decide +kernel) (by decide +kernel)
  | 4, _ => exact AWm (i := 76) (by decide +kernel) (by decide +kernel)
  | k + 5, hk => exact absurd hk (by omega)
theorem cls_X2 : vwCl[2]? = some (RX2, TX2, 5) := rfl
theorem in_X3 : ∀ w ∈ u_ws RX3 TX3 2, w ∈ AW := by
  intro w hw
  obtain ⟨k, hk, rfl⟩ := List.mem_map.mp hw
  have hk := List.mem_range.mp hk
  match k, hk with
  | 0, _ => exact AWm (i := 214) (by decide +kernel) (by decide +kernel)
  | 1, _ => exact AWm (i := 216) (by decide +kernel) (by decide +kernel)
  | k + 2, hk => exact absurd hk (by omega)
theorem cls_X3 : vwCl[3]? = some (RX3, TX3, 2) := rfl
theorem in_X4 : ∀ w ∈ u_ws RX4 TX4 5, w ∈ AW := by
  intro w hw
  obtain ⟨k, hk, rfl⟩ := List.mem_map.mp hw
  have hk := List.mem_range.mp hk
  match k, hk with
  | 0, _ => exact AWm (i := 36) (by decide +kernel) (by decide +kernel)
  | 1, _ => exact AWm (i := 38) (by decide +kernel) (by decide +kernel)
  | 2, _ => exact AWm (i := 40) (by decide +kernel) (by decide +kernel)
  | 3, _ => exact AWm (i := 42) (by decide +kernel) (by decide +kernel)
  | 4, _ => exact AWm (i := 44) (by decide +kernel) (by decide +kernel)
  | k + 5, hk => exact absurd hk (by omega)
theorem cls_X4 : vwCl[4]? = some (RX4, TX4, 5) := rfl
theorem in_X5 : ∀ w ∈ u_ws RX5 TX5 7, w ∈ AW := by
  intro w hw
  obtain ⟨k, hk, rfl⟩ := List.mem_map.mp hw
  have hk := List.mem_range.mp hk
  match k, hk with
  | 0, _ => exact AWm (i := 171) (by decide +kernel) (by decide +kernel)
  | 1, _ => exact AWm (i := 173) (by decide +kernel) (by decide +kernel)
  | 2, _ => exact AWm (i := 175) (by decide +kernel) (by decide +kernel)
  | 3, _ => exact AWm (i := 177) (by decide +kernel) (by decide +kernel)
  | 4, _ => exact AWm (i := 179) (by decide +kernel) (by decide +kernel)
  | 5, _ => exact AWm (i := 181) (by decide +kernel) (by decide +kernel)
  | 6, _ => exact AWm (i := 183) (by decide +kernel) (by decide +kernel)
  | k + 7, hk => exact absurd hk (by omega)
theorem cls_X5 : vwCl[5]? = some (RX5, TX5, 7) := rfl
theorem in_X6 : ∀ w ∈ u_ws RX6 TX6 2, w ∈ AW := by
  intro w hw
  obtain ⟨k, hk, rfl⟩ := List.mem_map.mp hw
  have hk := List.mem_range.mp hk
  match k, hk with
  | 0, _ => exact AWm (i := 91) (by decide +kernel) (by decide +kernel)
  | 1, _ => exact AWm (i := 93) (by decide +kernel) (by decide +kernel)
  | k + 2, hk => exact absurd hk (by omega)
theorem cls_X6 : vwCl[6]? = some (RX6, TX6, 2) := rfl
theorem in_X7 : ∀ w ∈ u_ws RX7 TX7 2, w ∈ AW := by
  intro w hw
  obtain ⟨k, hk, rfl⟩ := List.mem_map.mp hw
  have hk := List.mem_range.mp hk
  match k, hk with
  | 0, _ => exact AWm (i := 195) (by decide +kernel) (by decide +kernel)
  | 1, _ => exact AWm (i := 197) (by decide +kernel) (by decide +kernel)
  | k + 2, hk => exact absurd hk (by omega)
theorem cls_X7 : vwCl[7]? = some (RX7, TX7, 2) := rfl
theorem in_X8 : ∀ w ∈ u_ws RX8 TX8 7, w ∈ AW := by
  intro w hw
  obtain ⟨k, hk, rfl⟩ := List.mem_map.mp hw
  have hk := List.mem_range.mp hk
  match k, hk with
  | 0, _ => exact AWm (i := 226) (by decide +kernel) (by decide +kernel)
  | 1, _ => exact AWm (i := 228) (by decide +kernel) (by decide +kernel)
  | 2, _ => exact AWm (i := 230) (by decide +kernel) (by decide +kernel)
  | 3, _ => exact AWm (i := 232) (by decide +kernel) (by decide +kernel)
  | 4, _ => exact AWm (i := 234) (by decide +kernel) (by decide +kernel)
  | 5, _ => exact AWm (i := 236) (by decide +kernel) (by decide +kernel)
  | 6, _ => exact AWm (i := 238) (by decide +kernel) (by decide +kernel)
  | k + 7, hk => exact absurd hk (by omega)
theorem cls_X8 : vwCl[8]? = some (RX8, TX8, 7) := rfl
theorem in_X9 : ∀ w ∈ u_ws RX9 TX9 21, w ∈ AW := by
  intro w hw
  obtain ⟨k, hk, rfl⟩ := List.mem_map.mp hw
  have hk := List.mem_range.mp hk
  match k, hk with
  | 0, _ => exact AWm (i := 566) (by decide +kernel) (by decide +kernel)
  | 1, _ => exact AWm (i := 568) (by decide +kernel) (by decide +kernel)
  | 2, _ => exact AWm (i := 570) (by decide +kernel) (by decide +kernel)
  | 3, _ => exact AWm (i := 572) (by decide +kernel) (by decide +kernel)
  | 4, _ => exact AWm (i := 574) (by decide +kernel) (by decide +kernel)
  | 5, _ => exact AWm (i := 576) (by decide +kernel) (by decide +kernel)
  | 6, _ => exact AWm (i := 578) (by decide +kernel) (by decide +kernel)
  | 7, _ => exact AWm (i := 580) (by decide +kernel) (by decide +kernel)
  | 8, _ => exact AWm (i := 582) (by decide +kernel) (by decide +kernel)
  | 9, _ => exact AWm (i := 584) (by decide +kernel) (by decide +kernel)
  | 10, _ => exact AWm (i := 586) (by decide +kernel) (by decide +kernel)
  | 11, _ => exact AWm (i := 588) (by decide +kernel) (by decide +kernel)
  | 12, _ => exact AWm (i := 590) (by decide +kernel) (by decide +kernel)
  | 13, _ => exact AWm (i := 592) (by decide +kernel) (by decide +kernel)
  | 14, _ => exact AWm (i := 594) (by decide +kernel) (by decide +kernel)
  | 15, _ => exact AWm (i := 596) (by decide +kernel) (by decide +kernel)
  | 16, _ => exact AWm (i := 598) (by decide +kernel) (by decide +kernel)
  | 17, _ => exact AWm (i := 600) (by decide +kernel) (by decide +kernel)
  | 18, _ => exact AWm (i := 602) (by decide +kernel) (by decide +kernel)
  | 19, _ => exact AWm (i := 604) (by decide +kernel) (by decide +kernel)
  | 20, _ => exact AWm (i := 606) (by decide +kernel) (by decide +kernel)
  | k + 21, hk => exact absurd hk (by omega)
theorem cls_X9 : vwCl[9]? = some (RX9, TX9, 21) := rfl
theorem mn_X8_11 : tables_1[22]? = some (Cond.methodLinkNest RX8 11 yX4_init "LearningSpans") := by decide +kernel
theorem fn_X8_62 : tables_1[28]? = some (Cond.fieldLinkNest RX8 62 "LearningSpans$Message" "size" "I" "LearningSpans") := by decide +kernel
theorem fn_X1_61 : tables_1[29]? = some (Cond.fieldLinkNest RX1 61 "LearningSpans$Message" "size" "I" "LearningSpans") := by decide +kernel
theorem fn_X8_58 : tables_1[31]? = some (Cond.fieldLinkNest RX8 58 "LearningSpans$Message" "ended" "Z" "LearningSpans") := by decide +kernel
theorem fn_X8_102 : tables_1[33]? = some (Cond.fieldLinkNest RX8 102 "LearningSpans$Message" "pace" "I" "LearningSpans") := by decide +kernel
theorem fn_X8_105 : tables_1[35]? = some (Cond.fieldLinkNest RX8 105 "LearningSpans$Message" "bound" "I" "LearningSpans") := by decide +kernel
theorem mn_X1_11 : tables_1[56]? = some (Cond.methodLinkNest RX1 11 yX2_init "LearningSpans") := by decide +kernel
theorem fn_X6_19 : tables_1[62]? = some (Cond.fieldLinkNest RX6 19 "LearningSpans$Counts" "total" "I" "LearningSpans") := by decide +kernel
theorem fn_X8_147 : tables_1[63]? = some (Cond.fieldLinkNest RX8 147 "LearningSpans$Counts" "total" "I" "LearningSpans") := by decide +kernel
theorem fn_X8_150 : tables_1[65]? = some (Cond.fieldLinkNest RX8 150 "LearningSpans$Counts" "halvings" "I" "LearningSpans") := by decide +kernel
theorem mn_X1_20 : tables_1[81]? = some (Cond.methodLinkNest RX1 20 yX6_init "LearningSpans") := by decide +kernel
theorem fn_X1_71 : tables_1[87]? = some (Cond.fieldLinkNest RX1 71 "LearningSpans$Span" "low" "I" "LearningSpans") := by decide +kernel
theorem fn_X8_139 : tables_1[88]? = some (Cond.fieldLinkNest RX8 139 "LearningSpans$Span" "low" "I" "LearningSpans") := by decide +kernel
theorem fn_X8_144 : tables_1[90]? = some (Cond.fieldLinkNest RX8 144 "LearningSpans$Span" "high" "I" "LearningSpans") := by decide +kernel
theorem mn_X1_27 : tables_1[98]? = some (Cond.methodLinkNest RX1 27 yX0_init "LearningSpans") := by decide +kernel
theorem fn_X1_53 : tables_1[104]? = some (Cond.fieldLinkNest RX1 53 "LearningSpans$BitRow" "size" "I" "LearningSpans") := by decide +kernel
theorem fn_X8_84 : tables_1[105]? = some (Cond.fieldLinkNest RX8 84 "LearningSpans$BitRow" "size" "I" "LearningSpans") := by decide +kernel
theorem fn_X7_22 : tables_1[106]? = some (Cond.fieldLinkNest RX7 22 "LearningSpans$BitRow" "size" "I" "LearningSpans") := by decide +kernel
theorem fn_X8_114 : tables_1[129]? = some (Cond.fieldLinkNest RX8 114 "LearningSpans$Coder" "counts" "LLearningSpans$Counts;" "LearningSpans") := by decide +kernel
theorem fn_X8_135 : tables_1[131]? = some (Cond.fieldLinkNest RX8 135 "LearningSpans$Coder" "span" "LLearningSpans$Span;" "LearningSpans") := by decide +kernel
theorem fn_X8_81 : tables_1[133]? = some (Cond.fieldLinkNest RX8 81 "LearningSpans$Coder" "bits" "LLearningSpans$BitRow;" "LearningSpans") := by decide +kernel
theorem fn_X8_132 : tables_1[137]? = some (Cond.fieldLinkNest RX8 132 "LearningSpans$Coder" "waiting" "I" "LearningSpans") := by decide +kernel
theorem mn_X8_28 : tables_1[153]? = some (Cond.methodLinkNest RX8 28 yX5_init "LearningSpans") := by decide +kernel
theorem mn_X5_11 : tables_1[158]? = some (Cond.methodLinkNest RX5 11 yX2_init "LearningSpans") := by decide +kernel
theorem mn_X5_20 : tables_1[160]? = some (Cond.methodLinkNest RX5 20 yX6_init "LearningSpans") := by decide +kernel
theorem fn_X8_172 : tables_1[165]? = some (Cond.fieldLinkNest RX8 172 "LearningSpans$Reader" "size" "I" "LearningSpans") := by decide +kernel
theorem fn_X8_213 : tables_1[168]? = some (Cond.fieldLinkNest RX8 213 "LearningSpans$Reader" "taken" "I" "LearningSpans") := by decide +kernel
theorem fn_X8_173 : tables_1[170]? = some (Cond.fieldLinkNest RX8 173 "LearningSpans$Reader" "over" "Z" "LearningSpans") := by decide +kernel
theorem mn_X8_35 : tables_1[188]? = some (Cond.methodLinkNest RX8 35 yX7_init "LearningSpans") := by decide +kernel
theorem fn_X8_154 : tables_1[194]? = some (Cond.fieldLinkNest RX8 154 "LearningSpans$Text" "size" "I" "LearningSpans") := by decide +kernel
theorem mn_X8_42 : tables_1[201]? = some (Cond.methodLinkNest RX8 42 yX0_init "LearningSpans") := by decide +kernel
theorem mn_X3_21 : tables_1[210]? = some (Cond.methodLinkNest RX3 21 yX4_init "LearningSpans") := by decide +kernel
theorem fn_X8_153 : tables_1[213]? = some (Cond.fieldLinkNest RX8 153 "LearningSpans$History" "size" "I" "LearningSpans") := by decide +kernel
end
section
theorem dX0_init_0 : decode cX0_init 0 = .ok (.aload_n 0, 1) := by decide +kernel
theorem dX0_init_1 : decode cX0_init 1 = .ok (.invokespecial 3, 3) := by decide +kernel
theorem dX0_init_4 : decode cX0_init 4 = .ok (.aload_n 0, 1) := by decide +kernel
theorem dX0_init_5 : decode cX0_init 5 = .ok (.sipush 658, 3) := by decide +kernel
theorem dX0_init_8 : decode cX0_init 8 = .ok (.newarray .int, 2) := by decide +kernel
theorem dX0_init_10 : decode cX0_init 10 = .ok (.putfield 9, 3) := by decide +kernel
theorem dX0_init_13 : decode cX0_init 13 = .ok (.aload_n 0, 1) := by decide +kernel
theorem dX0_init_14 : decode cX0_init 14 = .ok (.iconst 0, 1) := by decide +kernel
theorem dX0_init_15 : decode cX0_init 15 = .ok (.putfield 15, 3) := by decide +kernel
theorem dX0_init_18 : decode cX0_init 18 = .ok (.return_, 1) := by decide +kernel
theorem dX0_empty_0 : decode cX0_empty 0 = .ok (.aload_n 0, 1) := by decide +kernel
theorem dX0_empty_1 : decode cX0_empty 1 = .ok (.iconst 0, 1) := by decide +kernel
theorem dX0_empty_2 : decode cX0_empty 2 = .ok (.putfield 15, 3) := by decide +kernel
theorem dX0_empty_5 : decode cX0_empty 5 = .ok (.return_, 1) := by decide +kernel
theorem dX0_append_0 : decode cX0_append 0 = .ok (.aload_n 0, 1) := by decide +kernel
theorem dX0_append_1 : decode cX0_append 1 = .ok (.getfield 15, 3) := by decide +kernel
theorem dX0_append_4 : decode cX0_append 4 = .ok (.ifCond .lt 35, 3) := by decide +kernel
theorem dX0_append_7 : decode cX0_append 7 = .ok (.aload_n 0, 1) := by decide +kernel
theorem dX0_append_8 : decode cX0_append 8 = .ok (.getfield 15, 3) := by decide +kernel
theorem dX0_append_11 : decode cX0_append 11 = .ok (.aload_n 0, 1) := by decide +kernel
theorem dX0_append_12 : decode cX0_append 12 = .ok (.getfield 9, 3) := by decide +kernel
theorem dX0_append_15 : decode cX0_append 15 = .ok (.arraylength, 1) := by decide +kernel
theorem dX0_append_16 : decode cX0_append 16 = .ok (.if_icmp .ge 23, 3) := by decide +kernel
theorem dX0_append_19 : decode cX0_append 19 = .ok (.aload_n 0, 1) := by decide +kernel
theorem dX0_append_20 : decode cX0_append 20 = .ok (.getfield 9, 3) := by decide +kernel
theorem dX0_append_23 : decode cX0_append 23 = .ok (.aload_n 0, 1) := by decide +kernel
theorem dX0_append_24 : decode cX0_append 24 = .ok (.getfield 15, 3) := by decide +kernel
theorem dX0_append_27 : decode cX0_append 27 = .ok (.iload_n 1, 1) := by decide +kernel
theorem dX0_append_28 : decode cX0_append 28 = .ok (.iastore, 1) := by decide +kernel
theorem dX0_append_29 : decode cX0_append 29 = .ok (.aload_n 0, 1) := by decide +kernel
theorem dX0_append_30 : decode cX0_append 30 = .ok (.dup, 1) := by decide +kernel
theorem dX0_append_31 : decode cX0_append 31 = .ok (.getfield 15, 3) := by decide +kernel
theorem dX0_append_34 : decode cX0_append 34 = .ok (.iconst 1, 1) := by decide +kernel
theorem dX0_append_35 : decode cX0_append 35 = .ok (.iadd, 1) := by decide +kernel
theorem dX0_append_36 : decode cX0_append 36 = .ok (.putfield 15, 3) := by decide +kernel
theorem dX0_append_39 : decode cX0_append 39 = .ok (.return_, 1) := by decide +kernel
theorem dX0_bitAt_0 : decode cX0_bitAt 0 = .ok (.iload_n 1, 1) := by decide +kernel
theorem dX0_bitAt_1 : decode cX0_bitAt 1 = .ok (.ifCond .lt 29, 3) := by decide +kernel
theorem dX0_bitAt_4 : decode cX0_bitAt 4 = .ok (.iload_n 1, 1) := by decide +kernel
theorem dX0_bitAt_5 : decode cX0_bitAt 5 = .ok (.aload_n 0, 1) := by decide +kernel
theorem dX0_bitAt_6 : decode cX0_bitAt 6 = .ok (.getfield 15, 3) := by decide +kernel
theorem dX0_bitAt_9 : decode cX0_bitAt 9 = .ok (.if_icmp .ge 21, 3) := by decide +kernel
theorem dX0_bitAt_12 : decode cX0_bitAt 12 = .ok (.iload_n 1, 1) := by decide +kernel
theorem dX0_bitAt_13 : decode cX0_bitAt 13 = .ok (.aload_n 0, 1) := by decide +kernel
theorem dX0_bitAt_14 : decode cX0_bitAt 14 = .ok (.getfield 9, 3) := by decide +kernel
theorem dX0_bitAt_17 : decode cX0_bitAt 17 = .ok (.arraylength, 1) := by decide +kernel
theorem dX0_bitAt_18 : decode cX0_bitAt 18 = .ok (.if_icmp .ge 12, 3) := by decide +kernel
theorem dX0_bitAt_21 : decode cX0_bitAt 21 = .ok (.aload_n 0, 1) := by decide +kernel
theorem dX0_bitAt_22 : decode cX0_bitAt 22 = .ok (.getfield 9, 3) := by decide +kernel
theorem dX0_bitAt_25 : decode cX0_bitAt 25 = .ok (.iload_n 1, 1) := by decide +kernel
theorem dX0_bitAt_26 : decode cX0_bitAt 26 = .ok (.iaload, 1) := by decide +kernel
theorem dX0_bitAt_27 : decode cX0_bitAt 27 = .ok (.goto 4, 3) := by decide +kernel
theorem dX0_bitAt_30 : decode cX0_bitAt 30 = .ok (.iconst 0, 1) := by decide +kernel
theorem dX0_bitAt_31 : decode cX0_bitAt 31 = .ok (.ireturn, 1) := by decide +kernel
theorem dX0_firstOne_0 : decode cX0_firstOne 0 = .ok (.iconst 0, 1) := by decide +kernel
theorem dX0_firstOne_1 : decode cX0_firstOne 1 = .ok (.iload_n 1, 1) := by decide +kernel
theorem dX0_firstOne_2 : decode cX0_firstOne 2 = .ok (.invokestatic 19, 3) := by decide +kernel
theorem dX0_firstOne_5 : decode cX0_firstOne 5 = .ok (.istore_n 2, 1) := by decide +kernel
theorem dX0_firstOne_6 : decode cX0_firstOne 6 = .ok (.iload_n 2, 1) := by decide +kernel
theorem dX0_firstOne_7 : decode cX0_firstOne 7 = .ok (.aload_n 0, 1) := by decide +kernel
theorem dX0_firstOne_8 : decode cX0_firstOne 8 = .ok (.getfield 15, 3) := by decide +kernel
theorem dX0_firstOne_11 : decode cX0_firstOne 11 = .ok (.if_icmp .ge 20, 3) := by decide +kernel
theorem dX0_firstOne_14 : decode cX0_firstOne 14 = .ok (.aload_n 0, 1) := by decide +kernel
theorem dX0_firstOne_15 : decode cX0_firstOne 15 = .ok (.iload_n 2, 1) := by decide +kernel
theorem dX0_firstOne_16 : decode cX0_firstOne 16 = .ok (.invokevirtual 25, 3) := by decide +kernel
theorem dX0_firstOne_19 : decode cX0_firstOne 19 = .ok (.iconst 1, 1) := by decide +kernel
theorem dX0_firstOne_20 : decode cX0_firstOne 20 = .ok (.if_icmp .ne 5, 3) := by decide +kernel
theorem dX0_firstOne_23 : decode cX0_firstOne 23 = .ok (.iload_n 2, 1) := by decide +kernel
theorem dX0_firstOne_24 : decode cX0_firstOne 24 = .ok (.ireturn, 1) := by decide +kernel
theorem dX0_firstOne_25 : decode cX0_firstOne 25 = .ok (.iinc 2 1, 3) := by decide +kernel
theorem dX0_firstOne_28 : decode cX0_firstOne 28 = .ok (.goto (-22), 3) := by decide +kernel
theorem dX0_firstOne_31 : decode cX0_firstOne 31 = .ok (.aload_n 0, 1) := by decide +kernel
theorem dX0_firstOne_32 : decode cX0_firstOne 32 = .ok (.getfield 15, 3) := by decide +kernel
theorem dX0_firstOne_35 : decode cX0_firstOne 35 = .ok (.ireturn, 1) := by decide +kernel
theorem dX1_init_0 : decode cX1_init 0 = .ok (.aload_n 0, 1) := by decide +kernel
theorem dX1_init_1 : decode cX1_init 1 = .ok (.invokespecial 3, 3) := by decide +kernel
theorem dX1_init_4 : decode cX1_init 4 = .ok (.aload_n 0, 1) := by decide +kernel
theorem dX1_init_5 : decode cX1_init 5 = .ok (.new 9, 3) := by decide +kernel
theorem dX1_init_8 : decode cX1_init 8 = .ok (.dup, 1) := by decide +kernel
theorem dX1_init_9 : decode cX1_init 9 = .ok (.invokespecial 11, 3) := by decide +kernel
theorem dX1_init_12 : decode cX1_init 12 = .ok (.putfield 12, 3) := by decide +kernel
theorem dX1_init_15 : decode cX1_init 15 = .ok (.aload_n 0, 1) := by decide +kernel
theorem dX1_init_16 : decode cX1_init 16 = .ok (.new 18, 3) := by decide +kernel
theorem dX1_init_19 : decode cX1_init 19 = .ok (.dup, 1) := by decide +kernel
theorem dX1_init_20 : decode cX1_init 20 = .ok (.invokespecial 20, 3) := by decide +kernel
theorem dX1_init_23 : decode cX1_init 23 = .ok (.putfield 21, 3) := by decide +kernel
theorem dX1_init_26 : decode cX1_init 26 = .ok (.aload_n 0, 1) := by decide +kernel
theorem dX1_init_27 : decode cX1_init 27 = .ok (.new 25, 3) := by decide +kernel
theorem dX1_init_30 : decode cX1_init 30 = .ok (.dup, 1) := by decide +kernel
theorem dX1_init_31 : decode cX1_init 31 = .ok (.invokespecial 27, 3) := by decide +kernel
theorem dX1_init_34 : decode cX1_init 34 = .ok (.putfield 28, 3) := by decide +kernel
theorem dX1_init_37 : decode cX1_init 37 = .ok (.aload_n 0, 1) := by decide +kernel
theorem dX1_init_38 : decode cX1_init 38 = .ok (.bipush 40, 2) := by decide +kernel
theorem dX1_init_40 : decode cX1_init 40 = .ok (.newarray .int, 2) := by decide +kernel
theorem dX1_init_42 : decode cX1_init 42 = .ok (.putfield 32, 3) := by decide +kernel
theorem dX1_init_45 : decode cX1_init 45 = .ok (.aload_n 0, 1) := by decide +kernel
theorem dX1_init_46 : decode cX1_init 46 = .ok (.iconst 0, 1) := by decide +kernel
theorem dX1_init_47 : decode cX1_init 47 = .ok (.putfield 36, 3) := by decide +kernel
theorem dX1_init_50 : decode cX1_init 50 = .ok (.aload_n 0, 1) := by decide +kernel
theorem dX1_init_51 : decode cX1_init 51 = .ok (.iconst 0, 1) := by decide +kernel
theorem dX1_init_52 : decode cX1_init 52 = .ok (.putfield 40, 3) := by decide +kernel
theorem dX1_init_55 : decode cX1_init 55 = .ok (.aload_n 0, 1) := by decide +kernel
theorem dX1_init_56 : decode cX1_init 56 = .ok (.bipush 8, 2) := by decide +kernel
theorem dX1_init_58 : decode cX1_init 58 = .ok (.sipush 400, 3) := by decide +kernel
theorem dX1_init_61 : decode cX1_init 61 = .ok (.invokevirtual 43, 3) := by decide +kernel
theorem dX1_init_64 : decode cX1_init 64 = .ok (.return_, 1) := by decide +kernel
theorem dX1_start_0 : decode cX1_start 0 = .ok (.aload_n 0, 1) := by decide +kernel
theorem dX1_start_1 : decode cX1_start 1 = .ok (.getfield 12, 3) := by decide +kernel
theorem dX1_start_4 : decode cX1_start 4 = .ok (.iload_n 1, 1) := by decide +kernel
theorem dX1_start_5 : decode cX1_start 5 = .ok (.iload_n 2, 1) := by decide +kernel
theorem dX1_start_6 : decode cX1_start 6 = .ok (.invokevirtual 47, 3) := by decide +kernel
theorem dX1_start_9 : decode cX1_start 9 = .ok (.aload_n 0, 1) := by decide +kernel
theorem dX1_start_10 : decode cX1_start 10 = .ok (.getfield 21, 3) := by decide +kernel
theorem dX1_start_13 : decode cX1_start 13 = .ok (.invokevirtual 48, 3) := by decide +kernel
theorem dX1_start_16 : decode cX1_start 16 = .ok (.aload_n 0, 1) := by decide +kernel
theorem dX1_start_17 : decode cX1_start 17 = .ok (.getfield 28, 3) := by decide +kernel
theorem dX1_start_20 : decode cX1_start 20 = .ok (.invokevirtual 50, 3) := by decide +kernel
theorem dX1_start_23 : decode cX1_start 23 = .ok (.aload_n 0, 1) := by decide +kernel
theorem dX1_start_24 : decode cX1_start 24 = .ok (.iconst 0, 1) := by decide +kernel
theorem dX1_start_25 : decode cX1_start 25 = .ok (.putfield 36, 3) := by decide +kernel
theorem dX1_start_28 : decode cX1_start 28 = .ok (.aload_n 0, 1) := by decide +kernel
theorem dX1_start_29 : decode cX1_start 29 = .ok (.iconst 0, 1) := by decide +kernel
theorem dX1_start_30 : decode cX1_start 30 = .ok (.putfield 40, 3) := by decide +kernel
theorem dX1_start_33 : decode cX1_start 33 = .ok (.return_, 1) := by decide +kernel
theorem dX1_add_0 : decode cX1_add 0 = .ok (.aload_n 0, 1) := by decide +kernel
theorem dX1_add_1 : decode cX1_add 1 = .ok (.getfield 28, 3) := by decide +kernel
theorem dX1_add_4 : decode cX1_add 4 = .ok (.getfield 53, 3) := by decide +kernel
theorem dX1_add_7 : decode cX1_add 7 = .ok (.istore_n 2, 1) := by decide +kernel
theorem dX1_add_8 : decode cX1_add 8 = .ok (.aload_n 0, 1) := by decide +kernel
theorem dX1_add_9 : decode cX1_add 9 = .ok (.iload_n 1, 1) := by decide +kernel
theorem dX1_add_10 : decode cX1_add 10 = .ok (.invokevirtual 54, 3) := by decide +kernel
theorem dX1_add_13 : decode cX1_add 13 = .ok (.aload_n 0, 1) := by decide +kernel
theorem dX1_add_14 : decode cX1_add 14 = .ok (.getfield 12, 3) := by decide +kernel
theorem dX1_add_17 : decode cX1_add 17 = .ok (.iload_n 1, 1) := by decide +kernel
theorem dX1_add_18 : decode cX1_add 18 = .ok (.invokevirtual 58, 3) := by decide +kernel
theorem dX1_add_21 : decode cX1_add 21 = .ok (.aload_n 0, 1) := by decide +kernel
theorem dX1_add_22 : decode cX1_add 22 = .ok (.getfield 28, 3) := by decide +kernel
theorem dX1_add_25 : decode cX1_add 25 = .ok (.getfield 53, 3) := by decide +kernel
theorem dX1_add_28 : decode cX1_add 28 = .ok (.iload_n 2, 1) := by decide +kernel
theorem dX1_add_29 : decode cX1_add 29 = .ok (.isub, 1) := by decide +kernel
theorem dX1_add_30 : decode cX1_add 30 = .ok (.istore_n 3, 1) := by decide +kernel
theorem dX1_add_31 : decode cX1_add 31 = .ok (.aload_n 0, 1) := by decide +kernel
theorem dX1_add_32 : decode cX1_add 32 = .ok (.getfield 36, 3) := by decide +kernel
theorem dX1_add_35 : decode cX1_add 35 = .ok (.ifCond .lt 35, 3) := by decide +kernel
theorem dX1_add_38 : decode cX1_add 38 = .ok (.aload_n 0, 1) := by decide +kernel
theorem dX1_add_39 : decode cX1_add 39 = .ok (.getfield 36, 3) := by decide +kernel
theorem dX1_add_42 : decode cX1_add 42 = .ok (.aload_n 0, 1) := by decide +kernel
theorem dX1_add_43 : decode cX1_add 43 = .ok (.getfield 32, 3) := by decide +kernel
theorem dX1_add_46 : decode cX1_add 46 = .ok (.arraylength, 1) := by decide +kernel
theorem dX1_add_47 : decode cX1_add 47 = .ok (.if_icmp .ge 23, 3) := by decide +kernel
theorem dX1_add_50 : decode cX1_add 50 = .ok (.aload_n 0, 1) := by decide +kernel
theorem dX1_add_51 : decode cX1_add 51 = .ok (.getfield 32, 3) := by decide +kernel
theorem dX1_add_54 : decode cX1_add 54 = .ok (.aload_n 0, 1) := by decide +kernel
theorem dX1_add_55 : decode cX1_add 55 = .ok (.getfield 36, 3) := by decide +kernel
theorem dX1_add_58 : decode cX1_add 58 = .ok (.iload_n 3, 1) := by decide +kernel
theorem dX1_add_59 : decode cX1_add 59 = .ok (.iastore, 1) := by decide +kernel
theorem dX1_add_60 : decode cX1_add 60 = .ok (.aload_n 0, 1) := by decide +kernel
theorem dX1_add_61 : decode cX1_add 61 = .ok (.dup, 1) := by decide +kernel
theorem dX1_add_62 : decode cX1_add 62 = .ok (.getfield 36, 3) := by decide +kernel
theorem dX1_add_65 : decode cX1_add 65 = .ok (.iconst 1, 1) := by decide +kernel
theorem dX1_add_66 : decode cX1_add 66 = .ok (.iadd, 1) := by decide +kernel
theorem dX1_add_67 : decode cX1_add 67 = .ok (.putfield 36, 3) := by decide +kernel
theorem dX1_add_70 : decode cX1_add 70 = .ok (.iload_n 3, 1) := by decide +kernel
theorem dX1_add_71 : decode cX1_add 71 = .ok (.ireturn, 1) := by decide +kernel
theorem dX1_addAll_0 : decode cX1_addAll 0 = .ok (.iconst 0, 1) := by decide +kernel
theorem dX1_addAll_1 : decode cX1_addAll 1 = .ok (.istore_n 2, 1) := by decide +kernel
theorem dX1_addAll_2 : decode cX1_addAll 2 = .ok (.iload_n 2, 1) := by decide +kernel
theorem dX1_addAll_3 : decode cX1_addAll 3 = .ok (.aload_n 1, 1) := by decide +kernel
theorem dX1_addAll_4 : decode cX1_addAll 4 = .ok (.getfield 61, 3) := by decide +kernel
theorem dX1_addAll_7 : decode cX1_addAll 7 = .ok (.if_icmp .ge 19, 3) := by decide +kernel
theorem dX1_addAll_10 : decode cX1_addAll 10 = .ok (.aload_n 0, 1) := by decide +kernel
theorem dX1_addAll_11 : decode cX1_addAll 11 = .ok (.aload_n 1, 1) := by decide +kernel
theorem dX1_addAll_12 : decode cX1_addAll 12 = .ok (.iload_n 2, 1) := by decide +kernel
theorem dX1_addAll_13 : decode cX1_addAll 13 = .ok (.invokevirtual 64, 3) := by decide +kernel
theorem dX1_addAll_16 : decode cX1_addAll 16 = .ok (.invokevirtual 68, 3) := by decide +kernel
theorem dX1_addAll_19 : decode cX1_addAll 19 = .ok (.pop, 1) := by decide +kernel
theorem dX1_addAll_20 : decode cX1_addAll 20 = .ok (.iinc 2 1, 3) := by decide +kernel
theorem dX1_addAll_23 : decode cX1_addAll 23 = .ok (.goto (-21), 3) := by decide +kernel
theorem dX1_addAll_26 : decode cX1_addAll 26 = .ok (.return_, 1) := by decide +kernel
theorem dX1_close_0 : decode cX1_close 0 = .ok (.aload_n 0, 1) := by decide +kernel
theorem dX1_close_1 : decode cX1_close 1 = .ok (.bipush 8, 2) := by decide +kernel
theorem dX1_close_3 : decode cX1_close 3 = .ok (.invokevirtual 54, 3) := by decide +kernel
theorem dX1_close_6 : decode cX1_close 6 = .ok (.aload_n 0, 1) := by decide +kernel
theorem dX1_close_7 : decode cX1_close 7 = .ok (.dup, 1) := by decide +kernel
theorem dX1_close_8 : decode cX1_close 8 = .ok (.getfield 40, 3) := by decide +kernel
theorem dX1_close_11 : decode cX1_close 11 = .ok (.iconst 1, 1) := by decide +kernel
theorem dX1_close_12 : decode cX1_close 12 = .ok (.iadd, 1) := by decide +kernel
theorem dX1_close_13 : decode cX1_close 13 = .ok (.putfield 40, 3) := by decide +kernel
theorem dX1_close_16 : decode cX1_close 16 = .ok (.aload_n 0, 1) := by decide +kernel
theorem dX1_close_17 : decode cX1_close 17 = .ok (.aload_n 0, 1) := by decide +kernel
theorem dX1_close_18 : decode cX1_close 18 = .ok (.getfield 21, 3) := by decide +kernel
theorem dX1_close_21 : decode cX1_close 21 = .ok (.getfield 71, 3) := by decide +kernel
theorem dX1_close_24 : decode cX1_close 24 = .ok (.sipush 16384, 3) := by decide +kernel
theorem dX1_close_27 : decode cX1_close 27 = .ok (.if_icmp .ge 7, 3) := by decide +kernel
theorem dX1_close_30 : decode cX1_close 30 = .ok (.iconst 0, 1) := by decide +kernel
theorem dX1_close_31 : decode cX1_close 31 = .ok (.goto 4, 3) := by decide +kernel
theorem dX1_close_34 : decode cX1_close 34 = .ok (.iconst 1, 1) := by decide +kernel
theorem dX1_close_35 : decode cX1_close 35 = .ok (.invokevirtual 74, 3) := by decide +kernel
theorem dX1_close_38 : decode cX1_close 38 = .ok (.return_, 1) := by decide +kernel
theorem dX1_costAt_0 : decode cX1_costAt 0 = .ok (.iload_n 1, 1) := by decide +kernel
theorem dX1_costAt_1 : decode cX1_costAt 1 = .ok (.ifCond .lt 21, 3) := by decide +kernel
theorem dX1_costAt_4 : decode cX1_costAt 4 = .ok (.iload_n 1, 1) := by decide +kernel
theorem dX1_costAt_5 : decode cX1_costAt 5 = .ok (.aload_n 0, 1) := by decide +kernel
theorem dX1_costAt_6 : decode cX1_costAt 6 = .ok (.getfield 32, 3) := by decide +kernel
theorem dX1_costAt_9 : decode cX1_costAt 9 = .ok (.arraylength, 1) := by decide +kernel
theorem dX1_costAt_10 : decode cX1_costAt 10 = .ok (.if_icmp .ge 12, 3) := by decide +kernel
theorem dX1_costAt_13 : decode cX1_costAt 13 = .ok (.aload_n 0, 1) := by decide +kernel
theorem dX1_costAt_14 : decode cX1_costAt 14 = .ok (.getfield 32, 3) := by decide +kernel
theorem dX1_costAt_17 : decode cX1_costAt 17 = .ok (.iload_n 1, 1) := by decide +kernel
theorem dX1_costAt_18 : decode cX1_costAt 18 = .ok (.iaload, 1) := by decide +kernel
theorem dX1_costAt_19 : decode cX1_costAt 19 = .ok (.goto 4, 3) := by decide +kernel
theorem dX1_costAt_22 : decode cX1_costAt 22 = .ok (.iconst 0, 1) := by decide +kernel
theorem dX1_costAt_23 : decode cX1_costAt 23 = .ok (.ireturn, 1) := by decide +kernel
theorem dX1_dearest_0 : decode cX1_dearest 0 = .ok (.iconst 0, 1) := by decide +kernel
theorem dX1_dearest_1 : decode cX1_dearest 1 = .ok (.istore_n 1, 1) := by decide +kernel
theorem dX1_dearest_2 : decode cX1_dearest 2 = .ok (.iconst 0, 1) := by decide +kernel
theorem dX1_dearest_3 : decode cX1_dearest 3 = .ok (.istore_n 2, 1) := by decide +kernel
theorem dX1_dearest_4 : decode cX1_dearest 4 = .ok (.iload_n 2, 1) := by decide +kernel
theorem dX1_dearest_5 : decode cX1_dearest 5 = .ok (.aload_n 0, 1) := by decide +kernel
theorem dX1_dearest_6 : decode cX1_dearest 6 = .ok (.getfield 36, 3) := by decide +kernel
theorem dX1_dearest_9 : decode cX1_dearest 9 = .ok (.if_icmp .ge 19, 3) := by decide +kernel
theorem dX1_dearest_12 : decode cX1_dearest 12 = .ok (.iload_n 1, 1) := by decide +kernel
theorem dX1_dearest_13 : decode cX1_dearest 13 = .ok (.aload_n 0, 1) := by decide +kernel
theorem dX1_dearest_14 : decode cX1_dearest 14 = .ok (.iload_n 2, 1) := by decide +kernel
theorem dX1_dearest_15 : decode cX1_dearest 15 = .ok (.invokevirtual 77, 3) := by decide +kernel
theorem dX1_dearest_18 : decode cX1_dearest 18 = .ok (.invokestatic 80, 3) := by decide +kernel
theorem dX1_dearest_21 : decode cX1_dearest 21 = .ok (.istore_n 1, 1) := by decide +kernel
theorem dX1_dearest_22 : decode cX1_dearest 22 = .ok (.iinc 2 1, 3) := by decide +kernel
theorem dX1_dearest_25 : decode cX1_dearest 25 = .ok (.goto (-21), 3) := by decide +kernel
theorem dX1_dearest_28 : decode cX1_dearest 28 = .ok (.iload_n 1, 1) := by decide +kernel
theorem dX1_dearest_29 : decode cX1_dearest 29 = .ok (.ireturn, 1) := by decide +kernel
theorem dX1_narrow_0 : decode cX1_narrow 0 = .ok (.aload_n 0, 1) := by decide +kernel
theorem dX1_narrow_1 : decode cX1_narrow 1 = .ok (.getfield 21, 3) := by decide +kernel
theorem dX1_narrow_4 : decode cX1_narrow 4 = .ok (.aload_n 0, 1) := by decide +kernel
theorem dX1_narrow_5 : decode cX1_narrow 5 = .ok (.getfield 12, 3) := by decide +kernel
theorem dX1_narrow_8 : decode cX1_narrow 8 = .ok (.iload_n 1, 1) := by decide +kernel
theorem dX1_narrow_9 : decode cX1_narrow 9 = .ok (.invokevirtual 86, 3) := by decide +kernel
theorem dX1_narrow_12 : decode cX1_narrow 12 = .ok (.iconst 0, 1) := by decide +kernel
theorem dX1_narrow_13 : decode cX1_narrow 13 = .ok (.istore_n 2, 1) := by decide +kernel
theorem dX1_narrow_14 : decode cX1_narrow 14 = .ok (.iload_n 2, 1) := by decide +kernel
theorem dX1_narrow_15 : decode cX1_narrow 15 = .ok (.bipush 16, 2) := by decide +kernel
theorem dX1_narrow_17 : decode cX1_narrow 17 = .ok (.if_icmp .ge 58, 3) := by decide +kernel
theorem dX1_narrow_20 : decode cX1_narrow 20 = .ok (.aload_n 0, 1) := by decide +kernel
theorem dX1_narrow_21 : decode cX1_narrow 21 = .ok (.getfield 21, 3) := by decide +kernel
theorem dX1_narrow_24 : decode cX1_narrow 24 = .ok (.invokevirtual 90, 3) := by decide +kernel
theorem dX1_narrow_27 : decode cX1_narrow 27 = .ok (.istore_n 3, 1) := by decide +kernel
theorem dX1_narrow_28 : decode cX1_narrow 28 = .ok (.iload_n 3, 1) := by decide +kernel
theorem dX1_narrow_29 : decode cX1_narrow 29 = .ok (.iconst (-1), 1) := by decide +kernel
theorem dX1_narrow_30 : decode cX1_narrow 30 = .ok (.if_icmp .ne 4, 3) := by decide +kernel
theorem dX1_narrow_33 : decode cX1_narrow 33 = .ok (.return_, 1) := by decide +kernel
theorem dX1_narrow_34 : decode cX1_narrow 34 = .ok (.iload_n 3, 1) := by decide +kernel
theorem dX1_narrow_35 : decode cX1_narrow 35 = .ok (.sipush 16384, 3) := by decide +kernel
theorem dX1_narrow_38 : decode cX1_narrow 38 = .ok (.if_icmp .ne 16, 3) := by decide +kernel
theorem dX1_narrow_41 : decode cX1_narrow 41 = .ok (.aload_n 0, 1) := by decide +kernel
theorem dX1_narrow_42 : decode cX1_narrow 42 = .ok (.dup, 1) := by decide +kernel
theorem dX1_narrow_43 : decode cX1_narrow 43 = .ok (.getfield 40, 3) := by decide +kernel
theorem dX1_narrow_46 : decode cX1_narrow 46 = .ok (.iconst 1, 1) := by decide +kernel
theorem dX1_narrow_47 : decode cX1_narrow 47 = .ok (.iadd, 1) := by decide +kernel
theorem dX1_narrow_48 : decode cX1_narrow 48 = .ok (.putfield 40, 3) := by decide +kernel
theorem dX1_narrow_51 : decode cX1_narrow 51 = .ok (.goto 18, 3) := by decide +kernel
theorem dX1_narrow_54 : decode cX1_narrow 54 = .ok (.aload_n 0, 1) := by decide +kernel
theorem dX1_narrow_55 : decode cX1_narrow 55 = .ok (.iload_n 3, 1) := by decide +kernel
theorem dX1_narrow_56 : decode cX1_narrow 56 = .ok (.ldc 94, 2) := by decide +kernel
theorem dX1_narrow_58 : decode cX1_narrow 58 = .ok (.if_icmp .ne 7, 3) := by decide +kernel
theorem dX1_narrow_61 : decode cX1_narrow 61 = .ok (.iconst 1, 1) := by decide +kernel
theorem dX1_narrow_62 : decode cX1_narrow 62 = .ok (.goto 4, 3) := by decide +kernel
theorem dX1_narrow_65 : decode cX1_narrow 65 = .ok (.iconst 0, 1) := by decide +kernel
theorem dX1_narrow_66 : decode cX1_narrow 66 = .ok (.invokevirtual 74, 3) := by decide +kernel
theorem dX1_narrow_69 : decode cX1_narrow 69 = .ok (.iinc 2 1, 3) := by decide +kernel
theorem dX1_narrow_72 : decode cX1_narrow 72 = .ok (.goto (-58), 3) := by decide +kernel
theorem dX1_narrow_75 : decode cX1_narrow 75 = .ok (.return_, 1) := by decide +kernel
theorem dX1_writeBit_0 : decode cX1_writeBit 0 = .ok (.aload_n 0, 1) := by decide +kernel
theorem dX1_writeBit_1 : decode cX1_writeBit 1 = .ok (.getfield 28, 3) := by decide +kernel
theorem dX1_writeBit_4 : decode cX1_writeBit 4 = .ok (.iload_n 1, 1) := by decide +kernel
theorem dX1_writeBit_5 : decode cX1_writeBit 5 = .ok (.invokevirtual 95, 3) := by decide +kernel
theorem dX1_writeBit_8 : decode cX1_writeBit 8 = .ok (.iconst 0, 1) := by decide +kernel
theorem dX1_writeBit_9 : decode cX1_writeBit 9 = .ok (.istore_n 2, 1) := by decide +kernel
theorem dX1_writeBit_10 : decode cX1_writeBit 10 = .ok (.iload_n 2, 1) := by decide +kernel
theorem dX1_writeBit_11 : decode cX1_writeBit 11 = .ok (.aload_n 0, 1) := by decide +kernel
theorem dX1_writeBit_12 : decode cX1_writeBit 12 = .ok (.getfield 40, 3) := by decide +kernel
theorem dX1_writeBit_15 : decode cX1_writeBit 15 = .ok (.if_icmp .ge 19, 3) := by decide +kernel
theorem dX1_writeBit_18 : decode cX1_writeBit 18 = .ok (.aload_n 0, 1) := by decide +kernel
theorem dX1_writeBit_19 : decode cX1_writeBit 19 = .ok (.getfield 28, 3) := by decide +kernel
theorem dX1_writeBit_22 : decode cX1_writeBit 22 = .ok (.iconst 1, 1) := by decide +kernel
theorem dX1_writeBit_23 : decode cX1_writeBit 23 = .ok (.iload_n 1, 1) := by decide +kernel
theorem dX1_writeBit_24 : decode cX1_writeBit 24 = .ok (.isub, 1) := by decide +kernel
theorem dX1_writeBit_25 : decode cX1_writeBit 25 = .ok (.invokevirtual 95, 3) := by decide +kernel
theorem dX1_writeBit_28 : decode cX1_writeBit 28 = .ok (.iinc 2 1, 3) := by decide +kernel
theorem dX1_writeBit_31 : decode cX1_writeBit 31 = .ok (.goto (-21), 3) := by decide +kernel
theorem dX1_writeBit_34 : decode cX1_writeBit 34 = .ok (.aload_n 0, 1) := by decide +kernel
theorem dX1_writeBit_35 : decode cX1_writeBit 35 = .ok (.iconst 0, 1) := by decide +kernel
theorem dX1_writeBit_36 : decode cX1_writeBit 36 = .ok (.putfield 40, 3) := by decide +kernel
theorem dX1_writeBit_39 : decode cX1_writeBit 39 = .ok (.return_, 1) := by decide +kernel
theorem dX2_init_0 : decode cX2_init 0 = .ok (.aload_n 0, 1) := by decide +kernel
theorem dX2_init_1 : decode cX2_init 1 = .ok (.invokespecial 3, 3) := by decide +kernel
theorem dX2_init_4 : decode cX2_init 4 = .ok (.aload_n 0, 1) := by decide +kernel
theorem dX2_init_5 : decode cX2_init 5 = .ok (.bipush 9, 2) := by decide +kernel
theorem dX2_init_7 : decode cX2_init 7 = .ok (.newarray .int, 2) := by decide +kernel
theorem dX2_init_9 : decode cX2_init 9 = .ok (.putfield 9, 3) := by decide +kernel
theorem dX2_init_12 : decode cX2_init 12 = .ok (.aload_n 0, 1) := by decide +kernel
theorem dX2_init_13 : decode cX2_init 13 = .ok (.iconst 0, 1) := by decide +kernel
theorem dX2_init_14 : decode cX2_init 14 = .ok (.putfield 15, 3) := by decide +kernel
theorem dX2_init_17 : decode cX2_init 17 = .ok (.aload_n 0, 1) := by decide +kernel
theorem dX2_init_18 : decode cX2_init 18 = .ok (.iconst 0, 1) := by decide +kernel
theorem dX2_init_19 : decode cX2_init 19 = .ok (.putfield 19, 3) := by decide +kernel
theorem dX2_init_22 : decode cX2_init 22 = .ok (.aload_n 0, 1) := by decide +kernel
theorem dX2_init_23 : decode cX2_init 23 = .ok (.bipush 8, 2) := by decide +kernel
theorem dX2_init_25 : decode cX2_init 25 = .ok (.putfield 22, 3) := by decide +kernel
theorem dX2_init_28 : decode cX2_init 28 = .ok (.aload_n 0, 1) := by decide +kernel
theorem dX2_init_29 : decode cX2_init 29 = .ok (.sipush 400, 3) := by decide +kernel
theorem dX2_init_32 : decode cX2_init 32 = .ok (.putfield 25, 3) := by decide +kernel
theorem dX2_init_35 : decode cX2_init 35 = .ok (.return_, 1) := by decide +kernel
theorem dX2_start_0 : decode cX2_start 0 = .ok (.iconst 0, 1) := by decide +kernel
theorem dX2_start_1 : decode cX2_start 1 = .ok (.istore_n 3, 1) := by decide +kernel
theorem dX2_start_2 : decode cX2_start 2 = .ok (.iload_n 3, 1) := by decide +kernel
theorem dX2_start_3 : decode cX2_start 3 = .ok (.aload_n 0, 1) := by decide +kernel
theorem dX2_start_4 : decode cX2_start 4 = .ok (.getfield 9, 3) := by decide +kernel
theorem dX2_start_7 : decode cX2_start 7 = .ok (.arraylength, 1) := by decide +kernel
theorem dX2_start_8 : decode cX2_start 8 = .ok (.if_icmp .ge 16, 3) := by decide +kernel
theorem dX2_start_11 : decode cX2_start 11 = .ok (.aload_n 0, 1) := by decide +kernel
theorem dX2_start_12 : decode cX2_start 12 = .ok (.getfield 9, 3) := by decide +kernel
theorem dX2_start_15 : decode cX2_start 15 = .ok (.iload_n 3, 1) := by decide +kernel
theorem dX2_start_16 : decode cX2_start 16 = .ok (.iconst 1, 1) := by decide +kernel
theorem dX2_start_17 : decode cX2_start 17 = .ok (.iastore, 1) := by decide +kernel
theorem dX2_start_18 : decode cX2_start 18 = .ok (.iinc 3 1, 3) := by decide +kernel
theorem dX2_start_21 : decode cX2_start 21 = .ok (.goto (-19), 3) := by decide +kernel
theorem dX2_start_24 : decode cX2_start 24 = .ok (.aload_n 0, 1) := by decide +kernel
theorem dX2_start_25 : decode cX2_start 25 = .ok (.aload_n 0, 1) := by decide +kernel
theorem dX2_start_26 : decode cX2_start 26 = .ok (.getfield 9, 3) := by decide +kernel
theorem dX2_start_29 : decode cX2_start 29 = .ok (.arraylength, 1) := by decide +kernel
theorem dX2_start_30 : decode cX2_start 30 = .ok (.putfield 15, 3) := by decide +kernel
theorem dX2_start_33 : decode cX2_start 33 = .ok (.aload_n 0, 1) := by decide +kernel
theorem dX2_start_34 : decode cX2_start 34 = .ok (.iconst 0, 1) := by decide +kernel
theorem dX2_start_35 : decode cX2_start 35 = .ok (.putfield 19, 3) := by decide +kernel
theorem dX2_start_38 : decode cX2_start 38 = .ok (.aload_n 0, 1) := by decide +kernel
theorem dX2_start_39 : decode cX2_start 39 = .ok (.iload_n 1, 1) := by decide +kernel
theorem dX2_start_40 : decode cX2_start 40 = .ok (.putfield 22, 3) := by decide +kernel
theorem dX2_start_43 : decode cX2_start 43 = .ok (.aload_n 0, 1) := by decide +kernel
theorem dX2_start_44 : decode cX2_start 44 = .ok (.iload_n 2, 1) := by decide +kernel
theorem dX2_start_45 : decode cX2_start 45 = .ok (.putfield 25, 3) := by decide +kernel
theorem dX2_start_48 : decode cX2_start 48 = .ok (.return_, 1) := by decide +kernel
theorem dX2_countAt_0 : decode cX2_countAt 0 = .ok (.iload_n 1, 1) := by decide +kernel
theorem dX2_countAt_1 : decode cX2_countAt 1 = .ok (.ifCond .lt 21, 3) := by decide +kernel
theorem dX2_countAt_4 : decode cX2_countAt 4 = .ok (.iload_n 1, 1) := by decide +kernel
theorem dX2_countAt_5 : decode cX2_countAt 5 = .ok (.aload_n 0, 1) := by decide +kernel
theorem dX2_countAt_6 : decode cX2_countAt 6 = .ok (.getfield 9, 3) := by decide +kernel
theorem dX2_countAt_9 : decode cX2_countAt 9 = .ok (.arraylength, 1) := by decide +kernel
theorem dX2_countAt_10 : decode cX2_countAt 10 = .ok (.if_icmp .ge 12, 3) := by decide +kernel
theorem dX2_countAt_13 : decode cX2_countAt 13 = .ok (.aload_n 0, 1) := by decide +kernel
theorem dX2_countAt_14 : decode cX2_countAt 14 = .ok (.getfield 9, 3) := by decide +kernel
theorem dX2_countAt_17 : decode cX2_countAt 17 = .ok (.iload_n 1, 1) := by decide +kernel
theorem dX2_countAt_18 : decode cX2_countAt 18 = .ok (.iaload, 1) := by decide +kernel
theorem dX2_countAt_19 : decode cX2_countAt 19 = .ok (.goto 4, 3) := by decide +kernel
theorem dX2_countAt_22 : decode cX2_countAt 22 = .ok (.iconst 0, 1) := by decide +kernel
theorem dX2_countAt_23 : decode cX2_countAt 23 = .ok (.ireturn, 1) := by decide +kernel
theorem dX2_below_0 : decode cX2_below 0 = .ok (.iconst 0, 1) := by decide +kernel
theorem dX2_below_1 : decode cX2_below 1 = .ok (.istore_n 2, 1) := by decide +kernel
theorem dX2_below_2 : decode cX2_below 2 = .ok (.iconst 0, 1) := by decide +kernel
theorem dX2_below_3 : decode cX2_below 3 = .ok (.istore_n 3, 1) := by decide +kernel
theorem dX2_below_4 : decode cX2_below 4 = .ok (.iload_n 3, 1) := by decide +kernel
theorem dX2_below_5 : decode cX2_below 5 = .ok (.iload_n 1, 1) := by decide +kernel
theorem dX2_below_6 : decode cX2_below 6 = .ok (.if_icmp .ge 27, 3) := by decide +kernel
theorem dX2_below_9 : decode cX2_below 9 = .ok (.iload_n 3, 1) := by decide +kernel
theorem dX2_below_10 : decode cX2_below 10 = .ok (.aload_n 0, 1) := by decide +kernel
theorem dX2_below_11 : decode cX2_below 11 = .ok (.getfield 9, 3) := by decide +kernel
theorem dX2_below_14 : decode cX2_below 14 = .ok (.arraylength, 1) := by decide +kernel
theorem dX2_below_15 : decode cX2_below 15 = .ok (.if_icmp .ge 18, 3) := by decide +kernel
theorem dX2_below_18 : decode cX2_below 18 = .ok (.iload_n 2, 1) := by decide +kernel
theorem dX2_below_19 : decode cX2_below 19 = .ok (.aload_n 0, 1) := by decide +kernel
theorem dX2_below_20 : decode cX2_below 20 = .ok (.getfield 9, 3) := by decide +kernel
theorem dX2_below_23 : decode cX2_below 23 = .ok (.iload_n 3, 1) := by decide +kernel
theorem dX2_below_24 : decode cX2_below 24 = .ok (.iaload, 1) := by decide +kernel
theorem dX2_below_25 : decode cX2_below 25 = .ok (.iadd, 1) := by decide +kernel
theorem dX2_below_26 : decode cX2_below 26 = .ok (.istore_n 2, 1) := by decide +kernel
theorem dX2_below_27 : decode cX2_below 27 = .ok (.iinc 3 1, 3) := by decide +kernel
theorem dX2_below_30 : decode cX2_below 30 = .ok (.goto (-26), 3) := by decide +kernel
theorem dX2_below_33 : decode cX2_below 33 = .ok (.iload_n 2, 1) := by decide +kernel
theorem dX2_below_34 : decode cX2_below 34 = .ok (.ireturn, 1) := by decide +kernel
theorem dX2_letterWith_0 : decode cX2_letterWith 0 = .ok (.iconst 0, 1) := by decide +kernel
theorem dX2_letterWith_1 : decode cX2_letterWith 1 = .ok (.istore_n 2, 1) := by decide +kernel
theorem dX2_letterWith_2 : decode cX2_letterWith 2 = .ok (.iconst 0, 1) := by decide +kernel
theorem dX2_letterWith_3 : decode cX2_letterWith 3 = .ok (.istore_n 3, 1) := by decide +kernel
theorem dX2_letterWith_4 : decode cX2_letterWith 4 = .ok (.iload_n 3, 1) := by decide +kernel
theorem dX2_letterWith_5 : decode cX2_letterWith 5 = .ok (.aload_n 0, 1) := by decide +kernel
theorem dX2_letterWith_6 : decode cX2_letterWith 6 = .ok (.getfield 9, 3) := by decide +kernel
theorem dX2_letterWith_9 : decode cX2_letterWith 9 = .ok (.arraylength, 1) := by decide +kernel
theorem dX2_letterWith_10 : decode cX2_letterWith 10 = .ok (.if_icmp .ge 25, 3) := by decide +kernel
theorem dX2_letterWith_13 : decode cX2_letterWith 13 = .ok (.iload_n 2, 1) := by decide +kernel
theorem dX2_letterWith_14 : decode cX2_letterWith 14 = .ok (.aload_n 0, 1) := by decide +kernel
theorem dX2_letterWith_15 : decode cX2_letterWith 15 = .ok (.getfield 9, 3) := by decide +kernel
theorem dX2_letterWith_18 : decode cX2_letterWith 18 = .ok (.iload_n 3, 1) := by decide +kernel
theorem dX2_letterWith_19 : decode cX2_letterWith 19 = .ok (.iaload, 1) := by decide +kernel
theorem dX2_letterWith_20 : decode cX2_letterWith 20 = .ok (.iadd, 1) := by decide +kernel
theorem dX2_letterWith_21 : decode cX2_letterWith 21 = .ok (.istore_n 2, 1) := by decide +kernel
theorem dX2_letterWith_22 : decode cX2_letterWith 22 = .ok (.iload_n 2, 1) := by decide +kernel
theorem dX2_letterWith_23 : decode cX2_letterWith 23 = .ok (.iload_n 1, 1) := by decide +kernel
theorem dX2_letterWith_24 : decode cX2_letterWith 24 = .ok (.if_icmp .le 5, 3) := by decide +kernel
theorem dX2_letterWith_27 : decode cX2_letterWith 27 = .ok (.iload_n 3, 1) := by decide +kernel
theorem dX2_letterWith_28 : decode cX2_letterWith 28 = .ok (.ireturn, 1) := by decide +kernel
theorem dX2_letterWith_29 : decode cX2_letterWith 29 = .ok (.iinc 3 1, 3) := by decide +kernel
theorem dX2_letterWith_32 : decode cX2_letterWith 32 = .ok (.goto (-28), 3) := by decide +kernel
theorem dX2_letterWith_35 : decode cX2_letterWith 35 = .ok (.bipush 8, 2) := by decide +kernel
theorem dX2_letterWith_37 : decode cX2_letterWith 37 = .ok (.ireturn, 1) := by decide +kernel
theorem dX2_learn_0 : decode cX2_learn 0 = .ok (.iload_n 1, 1) := by decide +kernel
theorem dX2_learn_1 : decode cX2_learn 1 = .ok (.ifCond .lt 12, 3) := by decide +kernel
theorem dX2_learn_4 : decode cX2_learn 4 = .ok (.iload_n 1, 1) := by decide +kernel
theorem dX2_learn_5 : decode cX2_learn 5 = .ok (.aload_n 0, 1) := by decide +kernel
theorem dX2_learn_6 : decode cX2_learn 6 = .ok (.getfield 9, 3) := by decide +kernel
theorem dX2_learn_9 : decode cX2_learn 9 = .ok (.arraylength, 1) := by decide +kernel
theorem dX2_learn_10 : decode cX2_learn 10 = .ok (.if_icmp .lt 4, 3) := by decide +kernel
theorem dX2_learn_13 : decode cX2_learn 13 = .ok (.return_, 1) := by decide +kernel
theorem dX2_learn_14 : decode cX2_learn 14 = .ok (.aload_n 0, 1) := by decide +kernel
theorem dX2_learn_15 : decode cX2_learn 15 = .ok (.getfield 9, 3) := by decide +kernel
theorem dX2_learn_18 : decode cX2_learn 18 = .ok (.iload_n 1, 1) := by decide +kernel
theorem dX2_learn_19 : decode cX2_learn 19 = .ok (.dup2, 1) := by decide +kernel
theorem dX2_learn_20 : decode cX2_learn 20 = .ok (.iaload, 1) := by decide +kernel
theorem dX2_learn_21 : decode cX2_learn 21 = .ok (.aload_n 0, 1) := by decide +kernel
theorem dX2_learn_22 : decode cX2_learn 22 = .ok (.getfield 22, 3) := by decide +kernel
theorem dX2_learn_25 : decode cX2_learn 25 = .ok (.iadd, 1) := by decide +kernel
theorem dX2_learn_26 : decode cX2_learn 26 = .ok (.iastore, 1) := by decide +kernel
theorem dX2_learn_27 : decode cX2_learn 27 = .ok (.aload_n 0, 1) := by decide +kernel
theorem dX2_learn_28 : decode cX2_learn 28 = .ok (.dup, 1) := by decide +kernel
theorem dX2_learn_29 : decode cX2_learn 29 = .ok (.getfield 15, 3) := by decide +kernel
theorem dX2_learn_32 : decode cX2_learn 32 = .ok (.aload_n 0, 1) := by decide +kernel
theorem dX2_learn_33 : decode cX2_learn 33 = .ok (.getfield 22, 3) := by decide +kernel
theorem dX2_learn_36 : decode cX2_learn 36 = .ok (.iadd, 1) := by decide +kernel
theorem dX2_learn_37 : decode cX2_learn 37 = .ok (.putfield 15, 3) := by decide +kernel
theorem dX2_learn_40 : decode cX2_learn 40 = .ok (.aload_n 0, 1) := by decide +kernel
theorem dX2_learn_41 : decode cX2_learn 41 = .ok (.getfield 15, 3) := by decide +kernel
theorem dX2_learn_44 : decode cX2_learn 44 = .ok (.aload_n 0, 1) := by decide +kernel
theorem dX2_learn_45 : decode cX2_learn 45 = .ok (.getfield 25, 3) := by decide +kernel
theorem dX2_learn_48 : decode cX2_learn 48 = .ok (.if_icmp .le 7, 3) := by decide +kernel
theorem dX2_learn_51 : decode cX2_learn 51 = .ok (.aload_n 0, 1) := by decide +kernel
theorem dX2_learn_52 : decode cX2_learn 52 = .ok (.invokevirtual 28, 3) := by decide +kernel
theorem dX2_learn_55 : decode cX2_learn 55 = .ok (.return_, 1) := by decide +kernel
theorem dX2_halve_0 : decode cX2_halve 0 = .ok (.aload_n 0, 1) := by decide +kernel
theorem dX2_halve_1 : decode cX2_halve 1 = .ok (.iconst 0, 1) := by decide +kernel
theorem dX2_halve_2 : decode cX2_halve 2 = .ok (.putfield 15, 3) := by decide +kernel
theorem dX2_halve_5 : decode cX2_halve 5 = .ok (.iconst 0, 1) := by decide +kernel
theorem dX2_halve_6 : decode cX2_halve 6 = .ok (.istore_n 1, 1) := by decide +kernel
theorem dX2_halve_7 : decode cX2_halve 7 = .ok (.iload_n 1, 1) := by decide +kernel
theorem dX2_halve_8 : decode cX2_halve 8 = .ok (.aload_n 0, 1) := by decide +kernel
theorem dX2_halve_9 : decode cX2_halve 9 = .ok (.getfield 9, 3) := by decide +kernel
theorem dX2_halve_12 : decode cX2_halve 12 = .ok (.arraylength, 1) := by decide +kernel
theorem dX2_halve_13 : decode cX2_halve 13 = .ok (.if_icmp .ge 40, 3) := by decide +kernel
theorem dX2_halve_16 : decode cX2_halve 16 = .ok (.aload_n 0, 1) := by decide +kernel
theorem dX2_halve_17 : decode cX2_halve 17 = .ok (.getfield 9, 3) := by decide +kernel
theorem dX2_halve_20 : decode cX2_halve 20 = .ok (.iload_n 1, 1) := by decide +kernel
theorem dX2_halve_21 : decode cX2_halve 21 = .ok (.aload_n 0, 1) := by decide +kernel
theorem dX2_halve_22 : decode cX2_halve 22 = .ok (.getfield 9, 3) := by decide +kernel
theorem dX2_halve_25 : decode cX2_halve 25 = .ok (.iload_n 1, 1) := by decide +kernel
theorem dX2_halve_26 : decode cX2_halve 26 = .ok (.iaload, 1) := by decide +kernel
theorem dX2_halve_27 : decode cX2_halve 27 = .ok (.iconst 1, 1) := by decide +kernel
theorem dX2_halve_28 : decode cX2_halve 28 = .ok (.iadd, 1) := by decide +kernel
theorem dX2_halve_29 : decode cX2_halve 29 = .ok (.iconst 2, 1) := by decide +kernel
theorem dX2_halve_30 : decode cX2_halve 30 = .ok (.idiv, 1) := by decide +kernel
theorem dX2_halve_31 : decode cX2_halve 31 = .ok (.iastore, 1) := by decide +kernel
theorem dX2_halve_32 : decode cX2_halve 32 = .ok (.aload_n 0, 1) := by decide +kernel
theorem dX2_halve_33 : decode cX2_halve 33 = .ok (.dup, 1) := by decide +kernel
theorem dX2_halve_34 : decode cX2_halve 34 = .ok (.getfield 15, 3) := by decide +kernel
theorem dX2_halve_37 : decode cX2_halve 37 = .ok (.aload_n 0, 1) := by decide +kernel
theorem dX2_halve_38 : decode cX2_halve 38 = .ok (.getfield 9, 3) := by decide +kernel
theorem dX2_halve_41 : decode cX2_halve 41 = .ok (.iload_n 1, 1) := by decide +kernel
theorem dX2_halve_42 : decode cX2_halve 42 = .ok (.iaload, 1) := by decide +kernel
theorem dX2_halve_43 : decode cX2_halve 43 = .ok (.iadd, 1) := by decide +kernel
theorem dX2_halve_44 : decode cX2_halve 44 = .ok (.putfield 15, 3) := by decide +kernel
theorem dX2_halve_47 : decode cX2_halve 47 = .ok (.iinc 1 1, 3) := by decide +kernel
theorem dX2_halve_50 : decode cX2_halve 50 = .ok (.goto (-43), 3) := by decide +kernel
theorem dX2_halve_53 : decode cX2_halve 53 = .ok (.aload_n 0, 1) := by decide +kernel
theorem dX2_halve_54 : decode cX2_halve 54 = .ok (.dup, 1) := by decide +kernel
theorem dX2_halve_55 : decode cX2_halve 55 = .ok (.getfield 19, 3) := by decide +kernel
theorem dX2_halve_58 : decode cX2_halve 58 = .ok (.iconst 1, 1) := by decide +kernel
theorem dX2_halve_59 : decode cX2_halve 59 = .ok (.iadd, 1) := by decide +kernel
theorem dX2_halve_60 : decode cX2_halve 60 = .ok (.putfield 19, 3) := by decide +kernel
theorem dX2_halve_63 : decode cX2_halve 63 = .ok (.return_, 1) := by decide +kernel
theorem dX3_init_0 : decode cX3_init 0 = .ok (.aload_n 0, 1) := by decide +kernel
theorem dX3_init_1 : decode cX3_init 1 = .ok (.invokespecial 3, 3) := by decide +kernel
theorem dX3_init_4 : decode cX3_init 4 = .ok (.aload_n 0, 1) := by decide +kernel
theorem dX3_init_5 : decode cX3_init 5 = .ok (.iconst 4, 1) := by decide +kernel
theorem dX3_init_6 : decode cX3_init 6 = .ok (.anewarray 9, 3) := by decide +kernel
theorem dX3_init_9 : decode cX3_init 9 = .ok (.putfield 11, 3) := by decide +kernel
theorem dX3_init_12 : decode cX3_init 12 = .ok (.aload_n 0, 1) := by decide +kernel
theorem dX3_init_13 : decode cX3_init 13 = .ok (.iconst 0, 1) := by decide +kernel
theorem dX3_init_14 : decode cX3_init 14 = .ok (.putfield 17, 3) := by decide +kernel
theorem dX3_init_17 : decode cX3_init 17 = .ok (.iconst 0, 1) := by decide +kernel
theorem dX3_init_18 : decode cX3_init 18 = .ok (.istore_n 1, 1) := by decide +kernel
theorem dX3_init_19 : decode cX3_init 19 = .ok (.iload_n 1, 1) := by decide +kernel
theorem dX3_init_20 : decode cX3_init 20 = .ok (.aload_n 0, 1) := by decide +kernel
theorem dX3_init_21 : decode cX3_init 21 = .ok (.getfield 11, 3) := by decide +kernel
theorem dX3_init_24 : decode cX3_init 24 = .ok (.arraylength, 1) := by decide +kernel
theorem dX3_init_25 : decode cX3_init 25 = .ok (.if_icmp .ge 22, 3) := by decide +kernel
theorem dX3_init_28 : decode cX3_init 28 = .ok (.aload_n 0, 1) := by decide +kernel
theorem dX3_init_29 : decode cX3_init 29 = .ok (.getfield 11, 3) := by decide +kernel
theorem dX3_init_32 : decode cX3_init 32 = .ok (.iload_n 1, 1) := by decide +kernel
theorem dX3_init_33 : decode cX3_init 33 = .ok (.new 9, 3) := by decide +kernel
theorem dX3_init_36 : decode cX3_init 36 = .ok (.dup, 1) := by decide +kernel
theorem dX3_init_37 : decode cX3_init 37 = .ok (.invokespecial 21, 3) := by decide +kernel
theorem dX3_init_40 : decode cX3_init 40 = .ok (.aastore, 1) := by decide +kernel
theorem dX3_init_41 : decode cX3_init 41 = .ok (.iinc 1 1, 3) := by decide +kernel
theorem dX3_init_44 : decode cX3_init 44 = .ok (.goto (-25), 3) := by decide +kernel
theorem dX3_init_47 : decode cX3_init 47 = .ok (.return_, 1) := by decide +kernel
theorem dX3_keep_0 : decode cX3_keep 0 = .ok (.aload_n 0, 1) := by decide +kernel
theorem dX3_keep_1 : decode cX3_keep 1 = .ok (.getfield 17, 3) := by decide +kernel
theorem dX3_keep_4 : decode cX3_keep 4 = .ok (.aload_n 0, 1) := by decide +kernel
theorem dX3_keep_5 : decode cX3_keep 5 = .ok (.getfield 11, 3) := by decide +kernel
theorem dX3_keep_8 : decode cX3_keep 8 = .ok (.arraylength, 1) := by decide +kernel
theorem dX3_keep_9 : decode cX3_keep 9 = .ok (.if_icmp .lt 7, 3) := by decide +kernel
theorem dX3_keep_12 : decode cX3_keep 12 = .ok (.aload_n 0, 1) := by decide +kernel
theorem dX3_keep_13 : decode cX3_keep 13 = .ok (.invokevirtual 22, 3) := by decide +kernel
theorem dX3_keep_16 : decode cX3_keep 16 = .ok (.aload_n 0, 1) := by decide +kernel
theorem dX3_keep_17 : decode cX3_keep 17 = .ok (.getfield 17, 3) := by decide +kernel
theorem dX3_keep_20 : decode cX3_keep 20 = .ok (.ifCond .lt 38, 3) := by decide +kernel
theorem dX3_keep_23 : decode cX3_keep 23 = .ok (.aload_n 0, 1) := by decide +kernel
theorem dX3_keep_24 : decode cX3_keep 24 = .ok (.getfield 17, 3) := by decide +kernel
theorem dX3_keep_27 : decode cX3_keep 27 = .ok (.aload_n 0, 1) := by decide +kernel
theorem dX3_keep_28 : decode cX3_keep 28 = .ok (.getfield 11, 3) := by decide +kernel
theorem dX3_keep_31 : decode cX3_keep 31 = .ok (.arraylength, 1) := by decide +kernel
theorem dX3_keep_32 : decode cX3_keep 32 = .ok (.if_icmp .ge 26, 3) := by decide +kernel
theorem dX3_keep_35 : decode cX3_keep 35 = .ok (.aload_n 1, 1) := by decide +kernel
theorem dX3_keep_36 : decode cX3_keep 36 = .ok (.aload_n 0, 1) := by decide +kernel
theorem dX3_keep_37 : decode cX3_keep 37 = .ok (.getfield 11, 3) := by decide +kernel
theorem dX3_keep_40 : decode cX3_keep 40 = .ok (.aload_n 0, 1) := by decide +kernel
theorem dX3_keep_41 : decode cX3_keep 41 = .ok (.getfield 17, 3) := by decide +kernel
theorem dX3_keep_44 : decode cX3_keep 44 = .ok (.aaload, 1) := by decide +kernel
theorem dX3_keep_45 : decode cX3_keep 45 = .ok (.invokestatic 25, 3) := by decide +kernel
theorem dX3_keep_48 : decode cX3_keep 48 = .ok (.aload_n 0, 1) := by decide +kernel
theorem dX3_keep_49 : decode cX3_keep 49 = .ok (.dup, 1) := by decide +kernel
theorem dX3_keep_50 : decode cX3_keep 50 = .ok (.getfield 17, 3) := by decide +kernel
theorem dX3_keep_53 : decode cX3_keep 53 = .ok (.iconst 1, 1) := by decide +kernel
theorem dX3_keep_54 : decode cX3_keep 54 = .ok (.iadd, 1) := by decide +kernel
theorem dX3_keep_55 : decode cX3_keep 55 = .ok (.putfield 17, 3) := by decide +kernel
theorem dX3_keep_58 : decode cX3_keep 58 = .ok (.return_, 1) := by decide +kernel
theorem dX3_restore_0 : decode cX3_restore 0 = .ok (.aload_n 0, 1) := by decide +kernel
theorem dX3_restore_1 : decode cX3_restore 1 = .ok (.getfield 17, 3) := by decide +kernel
theorem dX3_restore_4 : decode cX3_restore 4 = .ok (.ifCond .le 38, 3) := by decide +kernel
theorem dX3_restore_7 : decode cX3_restore 7 = .ok (.aload_n 0, 1) := by decide +kernel
theorem dX3_restore_8 : decode cX3_restore 8 = .ok (.getfield 17, 3) := by decide +kernel
theorem dX3_restore_11 : decode cX3_restore 11 = .ok (.aload_n 0, 1) := by decide +kernel
theorem dX3_restore_12 : decode cX3_restore 12 = .ok (.getfield 11, 3) := by decide +kernel
theorem dX3_restore_15 : decode cX3_restore 15 = .ok (.arraylength, 1) := by decide +kernel
theorem dX3_restore_16 : decode cX3_restore 16 = .ok (.if_icmp .gt 26, 3) := by decide +kernel
theorem dX3_restore_19 : decode cX3_restore 19 = .ok (.aload_n 0, 1) := by decide +kernel
theorem dX3_restore_20 : decode cX3_restore 20 = .ok (.dup, 1) := by decide +kernel
theorem dX3_restore_21 : decode cX3_restore 21 = .ok (.getfield 17, 3) := by decide +kernel
theorem dX3_restore_24 : decode cX3_restore 24 = .ok (.iconst 1, 1) := by decide +kernel
theorem dX3_restore_25 : decode cX3_restore 25 = .ok (.isub, 1) := by decide +kernel
theorem dX3_restore_26 : decode cX3_restore 26 = .ok (.putfield 17, 3) := by decide +kernel
theorem dX3_restore_29 : decode cX3_restore 29 = .ok (.aload_n 0, 1) := by decide +kernel
theorem dX3_restore_30 : decode cX3_restore 30 = .ok (.getfield 11, 3) := by decide +kernel
theorem dX3_restore_33 : decode cX3_restore 33 = .ok (.aload_n 0, 1) := by decide +kernel
theorem dX3_restore_34 : decode cX3_restore 34 = .ok (.getfield 17, 3) := by decide +kernel
theorem dX3_restore_37 : decode cX3_restore 37 = .ok (.aaload, 1) := by decide +kernel
theorem dX3_restore_38 : decode cX3_restore 38 = .ok (.aload_n 1, 1) := by decide +kernel
theorem dX3_restore_39 : decode cX3_restore 39 = .ok (.invokestatic 25, 3) := by decide +kernel
theorem dX3_restore_42 : decode cX3_restore 42 = .ok (.return_, 1) := by decide +kernel
theorem dX3_dropOldest_0 : decode cX3_dropOldest 0 = .ok (.iconst 1, 1) := by decide +kernel
theorem dX3_dropOldest_1 : decode cX3_dropOldest 1 = .ok (.istore_n 1, 1) := by decide +kernel
theorem dX3_dropOldest_2 : decode cX3_dropOldest 2 = .ok (.iload_n 1, 1) := by decide +kernel
theorem dX3_dropOldest_3 : decode cX3_dropOldest 3 = .ok (.aload_n 0, 1) := by decide +kernel
theorem dX3_dropOldest_4 : decode cX3_dropOldest 4 = .ok (.getfield 11, 3) := by decide +kernel
theorem dX3_dropOldest_7 : decode cX3_dropOldest 7 = .ok (.arraylength, 1) := by decide +kernel
theorem dX3_dropOldest_8 : decode cX3_dropOldest 8 = .ok (.if_icmp .ge 26, 3) := by decide +kernel
theorem dX3_dropOldest_11 : decode cX3_dropOldest 11 = .ok (.aload_n 0, 1) := by decide +kernel
theorem dX3_dropOldest_12 : decode cX3_dropOldest 12 = .ok (.getfield 11, 3) := by decide +kernel
theorem dX3_dropOldest_15 : decode cX3_dropOldest 15 = .ok (.iload_n 1, 1) := by decide +kernel
theorem dX3_dropOldest_16 : decode cX3_dropOldest 16 = .ok (.aaload, 1) := by decide +kernel
theorem dX3_dropOldest_17 : decode cX3_dropOldest 17 = .ok (.aload_n 0, 1) := by decide +kernel
theorem dX3_dropOldest_18 : decode cX3_dropOldest 18 = .ok (.getfield 11, 3) := by decide +kernel
theorem dX3_dropOldest_21 : decode cX3_dropOldest 21 = .ok (.iload_n 1, 1) := by decide +kernel
theorem dX3_dropOldest_22 : decode cX3_dropOldest 22 = .ok (.iconst 1, 1) := by decide +kernel
theorem dX3_dropOldest_23 : decode cX3_dropOldest 23 = .ok (.isub, 1) := by decide +kernel
theorem dX3_dropOldest_24 : decode cX3_dropOldest 24 = .ok (.aaload, 1) := by decide +kernel
theorem dX3_dropOldest_25 : decode cX3_dropOldest 25 = .ok (.invokestatic 25, 3) := by decide +kernel
theorem dX3_dropOldest_28 : decode cX3_dropOldest 28 = .ok (.iinc 1 1, 3) := by decide +kernel
theorem dX3_dropOldest_31 : decode cX3_dropOldest 31 = .ok (.goto (-29), 3) := by decide +kernel
theorem dX3_dropOldest_34 : decode cX3_dropOldest 34 = .ok (.aload_n 0, 1) := by decide +kernel
theorem dX3_dropOldest_35 : decode cX3_dropOldest 35 = .ok (.aload_n 0, 1) := by decide +kernel
theorem dX3_dropOldest_36 : decode cX3_dropOldest 36 = .ok (.getfield 11, 3) := by decide +kernel
theorem dX3_dropOldest_39 : decode cX3_dropOldest 39 = .ok (.arraylength, 1) := by decide +kernel
theorem dX3_dropOldest_40 : decode cX3_dropOldest 40 = .ok (.iconst 1, 1) := by decide +kernel
theorem dX3_dropOldest_41 : decode cX3_dropOldest 41 = .ok (.isub, 1) := by decide +kernel
theorem dX3_dropOldest_42 : decode cX3_dropOldest 42 = .ok (.putfield 17, 3) := by decide +kernel
theorem dX3_dropOldest_45 : decode cX3_dropOldest 45 = .ok (.return_, 1) := by decide +kernel
theorem dX3_copy_0 : decode cX3_copy 0 = .ok (.aload_n 0, 1) := by decide +kernel
theorem dX3_copy_1 : decode cX3_copy 1 = .ok (.ifnull 12, 3) := by decide +kernel
theorem dX3_copy_4 : decode cX3_copy 4 = .ok (.aload_n 1, 1) := by decide +kernel
theorem dX3_copy_5 : decode cX3_copy 5 = .ok (.ifnull 8, 3) := by decide +kernel
theorem dX3_copy_8 : decode cX3_copy 8 = .ok (.aload_n 1, 1) := by decide +kernel
theorem dX3_copy_9 : decode cX3_copy 9 = .ok (.aload_n 0, 1) := by decide +kernel
theorem dX3_copy_10 : decode cX3_copy 10 = .ok (.invokevirtual 29, 3) := by decide +kernel
theorem dX3_copy_13 : decode cX3_copy 13 = .ok (.return_, 1) := by decide +kernel
theorem dX4_init_0 : decode cX4_init 0 = .ok (.aload_n 0, 1) := by decide +kernel
theorem dX4_init_1 : decode cX4_init 1 = .ok (.invokespecial 3, 3) := by decide +kernel
theorem dX4_init_4 : decode cX4_init 4 = .ok (.aload_n 0, 1) := by decide +kernel
theorem dX4_init_5 : decode cX4_init 5 = .ok (.bipush 40, 2) := by decide +kernel
theorem dX4_init_7 : decode cX4_init 7 = .ok (.newarray .int, 2) := by decide +kernel
theorem dX4_init_9 : decode cX4_init 9 = .ok (.putfield 9, 3) := by decide +kernel
theorem dX4_init_12 : decode cX4_init 12 = .ok (.aload_n 0, 1) := by decide +kernel
theorem dX4_init_13 : decode cX4_init 13 = .ok (.iconst 0, 1) := by decide +kernel
theorem dX4_init_14 : decode cX4_init 14 = .ok (.putfield 15, 3) := by decide +kernel
theorem dX4_init_17 : decode cX4_init 17 = .ok (.aload_n 0, 1) := by decide +kernel
theorem dX4_init_18 : decode cX4_init 18 = .ok (.iconst 0, 1) := by decide +kernel
theorem dX4_init_19 : decode cX4_init 19 = .ok (.putfield 19, 3) := by decide +kernel
theorem dX4_init_22 : decode cX4_init 22 = .ok (.aload_n 0, 1) := by decide +kernel
theorem dX4_init_23 : decode cX4_init 23 = .ok (.bipush 8, 2) := by decide +kernel
theorem dX4_init_25 : decode cX4_init 25 = .ok (.putfield 23, 3) := by decide +kernel
theorem dX4_init_28 : decode cX4_init 28 = .ok (.aload_n 0, 1) := by decide +kernel
theorem dX4_init_29 : decode cX4_init 29 = .ok (.sipush 400, 3) := by decide +kernel
theorem dX4_init_32 : decode cX4_init 32 = .ok (.putfield 26, 3) := by decide +kernel
theorem dX4_init_35 : decode cX4_init 35 = .ok (.return_, 1) := by decide +kernel
theorem dX4_letterAt_0 : decode cX4_letterAt 0 = .ok (.iload_n 1, 1) := by decide +kernel
theorem dX4_letterAt_1 : decode cX4_letterAt 1 = .ok (.ifCond .lt 21, 3) := by decide +kernel
theorem dX4_letterAt_4 : decode cX4_letterAt 4 = .ok (.iload_n 1, 1) := by decide +kernel
theorem dX4_letterAt_5 : decode cX4_letterAt 5 = .ok (.aload_n 0, 1) := by decide +kernel
theorem dX4_letterAt_6 : decode cX4_letterAt 6 = .ok (.getfield 9, 3) := by decide +kernel
theorem dX4_letterAt_9 : decode cX4_letterAt 9 = .ok (.arraylength, 1) := by decide +kernel
theorem dX4_letterAt_10 : decode cX4_letterAt 10 = .ok (.if_icmp .ge 12, 3) := by decide +kernel
theorem dX4_letterAt_13 : decode cX4_letterAt 13 = .ok (.aload_n 0, 1) := by decide +kernel
theorem dX4_letterAt_14 : decode cX4_letterAt 14 = .ok (.getfield 9, 3) := by decide +kernel
theorem dX4_letterAt_17 : decode cX4_letterAt 17 = .ok (.iload_n 1, 1) := by decide +kernel
theorem dX4_letterAt_18 : decode cX4_letterAt 18 = .ok (.iaload, 1) := by decide +kernel
theorem dX4_letterAt_19 : decode cX4_letterAt 19 = .ok (.goto 4, 3) := by decide +kernel
theorem dX4_letterAt_22 : decode cX4_letterAt 22 = .ok (.iconst 0, 1) := by decide +kernel
theorem dX4_letterAt_23 : decode cX4_letterAt 23 = .ok (.ireturn, 1) := by decide +kernel
theorem dX4_append_0 : decode cX4_append 0 = .ok (.aload_n 0, 1) := by decide +kernel
theorem dX4_append_1 : decode cX4_append 1 = .ok (.getfield 15, 3) := by decide +kernel
theorem dX4_append_4 : decode cX4_append 4 = .ok (.ifCond .lt 35, 3) := by decide +kernel
theorem dX4_append_7 : decode cX4_append 7 = .ok (.aload_n 0, 1) := by decide +kernel
theorem dX4_append_8 : decode cX4_append 8 = .ok (.getfield 15, 3) := by decide +kernel
theorem dX4_append_11 : decode cX4_append 11 = .ok (.aload_n 0, 1) := by decide +kernel
theorem dX4_append_12 : decode cX4_append 12 = .ok (.getfield 9, 3) := by decide +kernel
theorem dX4_append_15 : decode cX4_append 15 = .ok (.arraylength, 1) := by decide +kernel
theorem dX4_append_16 : decode cX4_append 16 = .ok (.if_icmp .ge 23, 3) := by decide +kernel
theorem dX4_append_19 : decode cX4_append 19 = .ok (.aload_n 0, 1) := by decide +kernel
theorem dX4_append_20 : decode cX4_append 20 = .ok (.getfield 9, 3) := by decide +kernel
theorem dX4_append_23 : decode cX4_append 23 = .ok (.aload_n 0, 1) := by decide +kernel
theorem dX4_append_24 : decode cX4_append 24 = .ok (.getfield 15, 3) := by decide +kernel
theorem dX4_append_27 : decode cX4_append 27 = .ok (.iload_n 1, 1) := by decide +kernel
theorem dX4_append_28 : decode cX4_append 28 = .ok (.iastore, 1) := by decide +kernel
theorem dX4_append_29 : decode cX4_append 29 = .ok (.aload_n 0, 1) := by decide +kernel
theorem dX4_append_30 : decode cX4_append 30 = .ok (.dup, 1) := by decide +kernel
theorem dX4_append_31 : decode cX4_append 31 = .ok (.getfield 15, 3) := by decide +kernel
theorem dX4_append_34 : decode cX4_append 34 = .ok (.iconst 1, 1) := by decide +kernel
theorem dX4_append_35 : decode cX4_append 35 = .ok (.iadd, 1) := by decide +kernel
theorem dX4_append_36 : decode cX4_append 36 = .ok (.putfield 15, 3) := by decide +kernel
theorem dX4_append_39 : decode cX4_append 39 = .ok (.return_, 1) := by decide +kernel
theorem dX4_replace_0 : decode cX4_replace 0 = .ok (.iload_n 1, 1) := by decide +kernel
theorem dX4_replace_1 : decode cX4_replace 1 = .ok (.ifCond .lt 19, 3) := by decide +kernel
theorem dX4_replace_4 : decode cX4_replace 4 = .ok (.iload_n 1, 1) := by decide +kernel
theorem dX4_replace_5 : decode cX4_replace 5 = .ok (.aload_n 0, 1) := by decide +kernel
theorem dX4_replace_6 : decode cX4_replace 6 = .ok (.getfield 9, 3) := by decide +kernel
theorem dX4_replace_9 : decode cX4_replace 9 = .ok (.arraylength, 1) := by decide +kernel
theorem dX4_replace_10 : decode cX4_replace 10 = .ok (.if_icmp .ge 10, 3) := by decide +kernel
theorem dX4_replace_13 : decode cX4_replace 13 = .ok (.aload_n 0, 1) := by decide +kernel
theorem dX4_replace_14 : decode cX4_replace 14 = .ok (.getfield 9, 3) := by decide +kernel
theorem dX4_replace_17 : decode cX4_replace 17 = .ok (.iload_n 1, 1) := by decide +kernel
theorem dX4_replace_18 : decode cX4_replace 18 = .ok (.iload_n 2, 1) := by decide +kernel
theorem dX4_replace_19 : decode cX4_replace 19 = .ok (.iastore, 1) := by decide +kernel
theorem dX4_replace_20 : decode cX4_replace 20 = .ok (.return_, 1) := by decide +kernel
theorem dX4_shorten_0 : decode cX4_shorten 0 = .ok (.aload_n 0, 1) := by decide +kernel
theorem dX4_shorten_1 : decode cX4_shorten 1 = .ok (.iconst 0, 1) := by decide +kernel
theorem dX4_shorten_2 : decode cX4_shorten 2 = .ok (.aload_n 0, 1) := by decide +kernel
theorem dX4_shorten_3 : decode cX4_shorten 3 = .ok (.getfield 15, 3) := by decide +kernel
theorem dX4_shorten_6 : decode cX4_shorten 6 = .ok (.iload_n 1, 1) := by decide +kernel
theorem dX4_shorten_7 : decode cX4_shorten 7 = .ok (.isub, 1) := by decide +kernel
theorem dX4_shorten_8 : decode cX4_shorten 8 = .ok (.invokestatic 29, 3) := by decide +kernel
theorem dX4_shorten_11 : decode cX4_shorten 11 = .ok (.putfield 15, 3) := by decide +kernel
theorem dX4_shorten_14 : decode cX4_shorten 14 = .ok (.aload_n 0, 1) := by decide +kernel
theorem dX4_shorten_15 : decode cX4_shorten 15 = .ok (.iconst 0, 1) := by decide +kernel
theorem dX4_shorten_16 : decode cX4_shorten 16 = .ok (.putfield 19, 3) := by decide +kernel
theorem dX4_shorten_19 : decode cX4_shorten 19 = .ok (.return_, 1) := by decide +kernel
theorem dX4_empty_0 : decode cX4_empty 0 = .ok (.aload_n 0, 1) := by decide +kernel
theorem dX4_empty_1 : decode cX4_empty 1 = .ok (.iconst 0, 1) := by decide +kernel
theorem dX4_empty_2 : decode cX4_empty 2 = .ok (.putfield 15, 3) := by decide +kernel
theorem dX4_empty_5 : decode cX4_empty 5 = .ok (.aload_n 0, 1) := by decide +kernel
theorem dX4_empty_6 : decode cX4_empty 6 = .ok (.iconst 0, 1) := by decide +kernel
theorem dX4_empty_7 : decode cX4_empty 7 = .ok (.putfield 19, 3) := by decide +kernel
theorem dX4_empty_10 : decode cX4_empty 10 = .ok (.return_, 1) := by decide +kernel
theorem dX4_howOften_0 : decode cX4_howOften 0 = .ok (.iconst 0, 1) := by decide +kernel
theorem dX4_howOften_1 : decode cX4_howOften 1 = .ok (.istore_n 2, 1) := by decide +kernel
theorem dX4_howOften_2 : decode cX4_howOften 2 = .ok (.iconst 0, 1) := by decide +kernel
theorem dX4_howOften_3 : decode cX4_howOften 3 = .ok (.istore_n 3, 1) := by decide +kernel
theorem dX4_howOften_4 : decode cX4_howOften 4 = .ok (.iload_n 3, 1) := by decide +kernel
theorem dX4_howOften_5 : decode cX4_howOften 5 = .ok (.aload_n 0, 1) := by decide +kernel
theorem dX4_howOften_6 : decode cX4_howOften 6 = .ok (.getfield 15, 3) := by decide +kernel
theorem dX4_howOften_9 : decode cX4_howOften 9 = .ok (.if_icmp .ge 21, 3) := by decide +kernel
theorem dX4_howOften_12 : decode cX4_howOften 12 = .ok (.aload_n 0, 1) := by decide +kernel
theorem dX4_howOften_13 : decode cX4_howOften 13 = .ok (.iload_n 3, 1) := by decide +kernel
theorem dX4_howOften_14 : decode cX4_howOften 14 = .ok (.invokevirtual 35, 3) := by decide +kernel
theorem dX4_howOften_17 : decode cX4_howOften 17 = .ok (.iload_n 1, 1) := by decide +kernel
theorem dX4_howOften_18 : decode cX4_howOften 18 = .ok (.if_icmp .ne 6, 3) := by decide +kernel
theorem dX4_howOften_21 : decode cX4_howOften 21 = .ok (.iinc 2 1, 3) := by decide +kernel
theorem dX4_howOften_24 : decode cX4_howOften 24 = .ok (.iinc 3 1, 3) := by decide +kernel
theorem dX4_howOften_27 : decode cX4_howOften 27 = .ok (.goto (-23), 3) := by decide +kernel
theorem dX4_howOften_30 : decode cX4_howOften 30 = .ok (.iload_n 2, 1) := by decide +kernel
theorem dX4_howOften_31 : decode cX4_howOften 31 = .ok (.ireturn, 1) := by decide +kernel
theorem dX4_copyFrom_0 : decode cX4_copyFrom 0 = .ok (.iconst 0, 1) := by decide +kernel
theorem dX4_copyFrom_1 : decode cX4_copyFrom 1 = .ok (.istore_n 2, 1) := by decide +kernel
theorem dX4_copyFrom_2 : decode cX4_copyFrom 2 = .ok (.iload_n 2, 1) := by decide +kernel
theorem dX4_copyFrom_3 : decode cX4_copyFrom 3 = .ok (.aload_n 0, 1) := by decide +kernel
theorem dX4_copyFrom_4 : decode cX4_copyFrom 4 = .ok (.getfield 9, 3) := by decide +kernel
theorem dX4_copyFrom_7 : decode cX4_copyFrom 7 = .ok (.arraylength, 1) := by decide +kernel
theorem dX4_copyFrom_8 : decode cX4_copyFrom 8 = .ok (.if_icmp .ge 20, 3) := by decide +kernel
theorem dX4_copyFrom_11 : decode cX4_copyFrom 11 = .ok (.aload_n 0, 1) := by decide +kernel
theorem dX4_copyFrom_12 : decode cX4_copyFrom 12 = .ok (.getfield 9, 3) := by decide +kernel
theorem dX4_copyFrom_15 : decode cX4_copyFrom 15 = .ok (.iload_n 2, 1) := by decide +kernel
theorem dX4_copyFrom_16 : decode cX4_copyFrom 16 = .ok (.aload_n 1, 1) := by decide +kernel
theorem dX4_copyFrom_17 : decode cX4_copyFrom 17 = .ok (.iload_n 2, 1) := by decide +kernel
theorem dX4_copyFrom_18 : decode cX4_copyFrom 18 = .ok (.invokevirtual 35, 3) := by decide +kernel
theorem dX4_copyFrom_21 : decode cX4_copyFrom 21 = .ok (.iastore, 1) := by decide +kernel
theorem dX4_copyFrom_22 : decode cX4_copyFrom 22 = .ok (.iinc 2 1, 3) := by decide +kernel
theorem dX4_copyFrom_25 : decode cX4_copyFrom 25 = .ok (.goto (-23), 3) := by decide +kernel
theorem dX4_copyFrom_28 : decode cX4_copyFrom 28 = .ok (.aload_n 0, 1) := by decide +kernel
theorem dX4_copyFrom_29 : decode cX4_copyFrom 29 = .ok (.aload_n 1, 1) := by decide +kernel
theorem dX4_copyFrom_30 : decode cX4_copyFrom 30 = .ok (.getfield 15, 3) := by decide +kernel
theorem dX4_copyFrom_33 : decode cX4_copyFrom 33 = .ok (.putfield 15, 3) := by decide +kernel
theorem dX4_copyFrom_36 : decode cX4_copyFrom 36 = .ok (.aload_n 0, 1) := by decide +kernel
theorem dX4_copyFrom_37 : decode cX4_copyFrom 37 = .ok (.aload_n 1, 1) := by decide +kernel
theorem dX4_copyFrom_38 : decode cX4_copyFrom 38 = .ok (.getfield 19, 3) := by decide +kernel
theorem dX4_copyFrom_41 : decode cX4_copyFrom 41 = .ok (.putfield 19, 3) := by decide +kernel
theorem dX4_copyFrom_44 : decode cX4_copyFrom 44 = .ok (.aload_n 0, 1) := by decide +kernel
theorem dX4_copyFrom_45 : decode cX4_copyFrom 45 = .ok (.aload_n 1, 1) := by decide +kernel
theorem dX4_copyFrom_46 : decode cX4_copyFrom 46 = .ok (.getfield 23, 3) := by decide +kernel
theorem dX4_copyFrom_49 : decode cX4_copyFrom 49 = .ok (.putfield 23, 3) := by decide +kernel
theorem dX4_copyFrom_52 : decode cX4_copyFrom 52 = .ok (.aload_n 0, 1) := by decide +kernel
theorem dX4_copyFrom_53 : decode cX4_copyFrom 53 = .ok (.aload_n 1, 1) := by decide +kernel
theorem dX4_copyFrom_54 : decode cX4_copyFrom 54 = .ok (.getfield 26, 3) := by decide +kernel
theorem dX4_copyFrom_57 : decode cX4_copyFrom 57 = .ok (.putfield 26, 3) := by decide +kernel
theorem dX4_copyFrom_60 : decode cX4_copyFrom 60 = .ok (.return_, 1) := by decide +kernel
theorem dX5_init_0 : decode cX5_init 0 = .ok (.aload_n 0, 1) := by decide +kernel
theorem dX5_init_1 : decode cX5_init 1 = .ok (.invokespecial 3, 3) := by decide +kernel
theorem dX5_init_4 : decode cX5_init 4 = .ok (.aload_n 0, 1) := by decide +kernel
theorem dX5_init_5 : decode cX5_init 5 = .ok (.new 9, 3) := by decide +kernel
theorem dX5_init_8 : decode cX5_init 8 = .ok (.dup, 1) := by decide +kernel
theorem dX5_init_9 : decode cX5_init 9 = .ok (.invokespecial 11, 3) := by decide +kernel
theorem dX5_init_12 : decode cX5_init 12 = .ok (.putfield 12, 3) := by decide +kernel
theorem dX5_init_15 : decode cX5_init 15 = .ok (.aload_n 0, 1) := by decide +kernel
theorem dX5_init_16 : decode cX5_init 16 = .ok (.new 18, 3) := by decide +kernel
theorem dX5_init_19 : decode cX5_init 19 = .ok (.dup, 1) := by decide +kernel
theorem dX5_init_20 : decode cX5_init 20 = .ok (.invokespecial 20, 3) := by decide +kernel
theorem dX5_init_23 : decode cX5_init 23 = .ok (.putfield 21, 3) := by decide +kernel
theorem dX5_init_26 : decode cX5_init 26 = .ok (.aload_n 0, 1) := by decide +kernel
theorem dX5_init_27 : decode cX5_init 27 = .ok (.bipush 40, 2) := by decide +kernel
theorem dX5_init_29 : decode cX5_init 29 = .ok (.newarray .int, 2) := by decide +kernel
theorem dX5_init_31 : decode cX5_init 31 = .ok (.putfield 25, 3) := by decide +kernel
theorem dX5_init_34 : decode cX5_init 34 = .ok (.aload_n 0, 1) := by decide +kernel
theorem dX5_init_35 : decode cX5_init 35 = .ok (.iconst 0, 1) := by decide +kernel
theorem dX5_init_36 : decode cX5_init 36 = .ok (.putfield 29, 3) := by decide +kernel
theorem dX5_init_39 : decode cX5_init 39 = .ok (.aload_n 0, 1) := by decide +kernel
theorem dX5_init_40 : decode cX5_init 40 = .ok (.iconst 0, 1) := by decide +kernel
theorem dX5_init_41 : decode cX5_init 41 = .ok (.putfield 33, 3) := by decide +kernel
theorem dX5_init_44 : decode cX5_init 44 = .ok (.aload_n 0, 1) := by decide +kernel
theorem dX5_init_45 : decode cX5_init 45 = .ok (.iconst 0, 1) := by decide +kernel
theorem dX5_init_46 : decode cX5_init 46 = .ok (.putfield 36, 3) := by decide +kernel
theorem dX5_init_49 : decode cX5_init 49 = .ok (.aload_n 0, 1) := by decide +kernel
theorem dX5_init_50 : decode cX5_init 50 = .ok (.iconst 0, 1) := by decide +kernel
theorem dX5_init_51 : decode cX5_init 51 = .ok (.putfield 39, 3) := by decide +kernel
theorem dX5_init_54 : decode cX5_init 54 = .ok (.return_, 1) := by decide +kernel
theorem dX5_letterAt_0 : decode cX5_letterAt 0 = .ok (.iload_n 1, 1) := by decide +kernel
theorem dX5_letterAt_1 : decode cX5_letterAt 1 = .ok (.ifCond .lt 21, 3) := by decide +kernel
theorem dX5_letterAt_4 : decode cX5_letterAt 4 = .ok (.iload_n 1, 1) := by decide +kernel
theorem dX5_letterAt_5 : decode cX5_letterAt 5 = .ok (.aload_n 0, 1) := by decide +kernel
theorem dX5_letterAt_6 : decode cX5_letterAt 6 = .ok (.getfield 25, 3) := by decide +kernel
theorem dX5_letterAt_9 : decode cX5_letterAt 9 = .ok (.arraylength, 1) := by decide +kernel
theorem dX5_letterAt_10 : decode cX5_letterAt 10 = .ok (.if_icmp .ge 12, 3) := by decide +kernel
theorem dX5_letterAt_13 : decode cX5_letterAt 13 = .ok (.aload_n 0, 1) := by decide +kernel
theorem dX5_letterAt_14 : decode cX5_letterAt 14 = .ok (.getfield 25, 3) := by decide +kernel
theorem dX5_letterAt_17 : decode cX5_letterAt 17 = .ok (.iload_n 1, 1) := by decide +kernel
theorem dX5_letterAt_18 : decode cX5_letterAt 18 = .ok (.iaload, 1) := by decide +kernel
theorem dX5_letterAt_19 : decode cX5_letterAt 19 = .ok (.goto 4, 3) := by decide +kernel
theorem dX5_letterAt_22 : decode cX5_letterAt 22 = .ok (.iconst 0, 1) := by decide +kernel
theorem dX5_letterAt_23 : decode cX5_letterAt 23 = .ok (.ireturn, 1) := by decide +kernel
theorem dX5_read_0 : decode cX5_read 0 = .ok (.aload_n 0, 1) := by decide +kernel
theorem dX5_read_1 : decode cX5_read 1 = .ok (.getfield 12, 3) := by decide +kernel
theorem dX5_read_4 : decode cX5_read 4 = .ok (.iload_n 2, 1) := by decide +kernel
theorem dX5_read_5 : decode cX5_read 5 = .ok (.iload_n 3, 1) := by decide +kernel
theorem dX5_read_6 : decode cX5_read 6 = .ok (.invokevirtual 43, 3) := by decide +kernel
theorem dX5_read_9 : decode cX5_read 9 = .ok (.aload_n 0, 1) := by decide +kernel
theorem dX5_read_10 : decode cX5_read 10 = .ok (.getfield 21, 3) := by decide +kernel
theorem dX5_read_13 : decode cX5_read 13 = .ok (.invokevirtual 47, 3) := by decide +kernel
theorem dX5_read_16 : decode cX5_read 16 = .ok (.aload_n 0, 1) := by decide +kernel
theorem dX5_read_17 : decode cX5_read 17 = .ok (.iconst 0, 1) := by decide +kernel
theorem dX5_read_18 : decode cX5_read 18 = .ok (.putfield 29, 3) := by decide +kernel
theorem dX5_read_21 : decode cX5_read 21 = .ok (.aload_n 0, 1) := by decide +kernel
theorem dX5_read_22 : decode cX5_read 22 = .ok (.iconst 0, 1) := by decide +kernel
theorem dX5_read_23 : decode cX5_read 23 = .ok (.putfield 33, 3) := by decide +kernel
theorem dX5_read_26 : decode cX5_read 26 = .ok (.aload_n 0, 1) := by decide +kernel
theorem dX5_read_27 : decode cX5_read 27 = .ok (.iconst 0, 1) := by decide +kernel
theorem dX5_read_28 : decode cX5_read 28 = .ok (.putfield 36, 3) := by decide +kernel
theorem dX5_read_31 : decode cX5_read 31 = .ok (.aload_n 0, 1) := by decide +kernel
theorem dX5_read_32 : decode cX5_read 32 = .ok (.iconst 0, 1) := by decide +kernel
theorem dX5_read_33 : decode cX5_read 33 = .ok (.putfield 39, 3) := by decide +kernel
theorem dX5_read_36 : decode cX5_read 36 = .ok (.iconst 0, 1) := by decide +kernel
theorem dX5_read_37 : decode cX5_read 37 = .ok (.istore 4, 2) := by decide +kernel
theorem dX5_read_39 : decode cX5_read 39 = .ok (.iload 4, 2) := by decide +kernel
theorem dX5_read_41 : decode cX5_read 41 = .ok (.bipush 16, 2) := by decide +kernel
theorem dX5_read_43 : decode cX5_read 43 = .ok (.if_icmp .ge 14, 3) := by decide +kernel
theorem dX5_read_46 : decode cX5_read 46 = .ok (.aload_n 0, 1) := by decide +kernel
theorem dX5_read_47 : decode cX5_read 47 = .ok (.aload_n 1, 1) := by decide +kernel
theorem dX5_read_48 : decode cX5_read 48 = .ok (.invokevirtual 49, 3) := by decide +kernel
theorem dX5_read_51 : decode cX5_read 51 = .ok (.iinc 4 1, 3) := by decide +kernel
theorem dX5_read_54 : decode cX5_read 54 = .ok (.goto (-15), 3) := by decide +kernel
theorem dX5_read_57 : decode cX5_read 57 = .ok (.iconst 0, 1) := by decide +kernel
theorem dX5_read_58 : decode cX5_read 58 = .ok (.istore 4, 2) := by decide +kernel
theorem dX5_read_60 : decode cX5_read 60 = .ok (.iload 4, 2) := by decide +kernel
theorem dX5_read_62 : decode cX5_read 62 = .ok (.bipush 40, 2) := by decide +kernel
theorem dX5_read_64 : decode cX5_read 64 = .ok (.if_icmp .gt 21, 3) := by decide +kernel
theorem dX5_read_67 : decode cX5_read 67 = .ok (.aload_n 0, 1) := by decide +kernel
theorem dX5_read_68 : decode cX5_read 68 = .ok (.getfield 39, 3) := by decide +kernel
theorem dX5_read_71 : decode cX5_read 71 = .ok (.ifCond .ne 14, 3) := by decide +kernel
theorem dX5_read_74 : decode cX5_read 74 = .ok (.aload_n 0, 1) := by decide +kernel
theorem dX5_read_75 : decode cX5_read 75 = .ok (.aload_n 1, 1) := by decide +kernel
theorem dX5_read_76 : decode cX5_read 76 = .ok (.invokevirtual 53, 3) := by decide +kernel
theorem dX5_read_79 : decode cX5_read 79 = .ok (.iinc 4 1, 3) := by decide +kernel
theorem dX5_read_82 : decode cX5_read 82 = .ok (.goto (-22), 3) := by decide +kernel
theorem dX5_read_85 : decode cX5_read 85 = .ok (.return_, 1) := by decide +kernel
theorem dX5_readLetter_0 : decode cX5_readLetter 0 = .ok (.aload_n 0, 1) := by decide +kernel
theorem dX5_readLetter_1 : decode cX5_readLetter 1 = .ok (.getfield 21, 3) := by decide +kernel
theorem dX5_readLetter_4 : decode cX5_readLetter 4 = .ok (.aload_n 0, 1) := by decide +kernel
theorem dX5_readLetter_5 : decode cX5_readLetter 5 = .ok (.getfield 33, 3) := by decide +kernel
theorem dX5_readLetter_8 : decode cX5_readLetter 8 = .ok (.aload_n 0, 1) := by decide +kernel
theorem dX5_readLetter_9 : decode cX5_readLetter 9 = .ok (.getfield 12, 3) := by decide +kernel
theorem dX5_readLetter_12 : decode cX5_readLetter 12 = .ok (.invokevirtual 56, 3) := by decide +kernel
theorem dX5_readLetter_15 : decode cX5_readLetter 15 = .ok (.istore_n 2, 1) := by decide +kernel
theorem dX5_readLetter_16 : decode cX5_readLetter 16 = .ok (.iload_n 2, 1) := by decide +kernel
theorem dX5_readLetter_17 : decode cX5_readLetter 17 = .ok (.bipush 8, 2) := by decide +kernel
theorem dX5_readLetter_19 : decode cX5_readLetter 19 = .ok (.if_icmp .ne 11, 3) := by decide +kernel
theorem dX5_readLetter_22 : decode cX5_readLetter 22 = .ok (.aload_n 0, 1) := by decide +kernel
theorem dX5_readLetter_23 : decode cX5_readLetter 23 = .ok (.iconst 1, 1) := by decide +kernel
theorem dX5_readLetter_24 : decode cX5_readLetter 24 = .ok (.putfield 39, 3) := by decide +kernel
theorem dX5_readLetter_27 : decode cX5_readLetter 27 = .ok (.goto 56, 3) := by decide +kernel
theorem dX5_readLetter_30 : decode cX5_readLetter 30 = .ok (.aload_n 0, 1) := by decide +kernel
theorem dX5_readLetter_31 : decode cX5_readLetter 31 = .ok (.getfield 29, 3) := by decide +kernel
theorem dX5_readLetter_34 : decode cX5_readLetter 34 = .ok (.ifCond .lt 49, 3) := by decide +kernel
theorem dX5_readLetter_37 : decode cX5_readLetter 37 = .ok (.aload_n 0, 1) := by decide +kernel
theorem dX5_readLetter_38 : decode cX5_readLetter 38 = .ok (.getfield 29, 3) := by decide +kernel
theorem dX5_readLetter_41 : decode cX5_readLetter 41 = .ok (.aload_n 0, 1) := by decide +kernel
theorem dX5_readLetter_42 : decode cX5_readLetter 42 = .ok (.getfield 25, 3) := by decide +kernel
theorem dX5_readLetter_45 : decode cX5_readLetter 45 = .ok (.arraylength, 1) := by decide +kernel
theorem dX5_readLetter_46 : decode cX5_readLetter 46 = .ok (.if_icmp .ge 37, 3) := by decide +kernel
theorem dX5_readLetter_49 : decode cX5_readLetter 49 = .ok (.aload_n 0, 1) := by decide +kernel
theorem dX5_readLetter_50 : decode cX5_readLetter 50 = .ok (.getfield 25, 3) := by decide +kernel
theorem dX5_readLetter_53 : decode cX5_readLetter 53 = .ok (.aload_n 0, 1) := by decide +kernel
theorem dX5_readLetter_54 : decode cX5_readLetter 54 = .ok (.getfield 29, 3) := by decide +kernel
theorem dX5_readLetter_57 : decode cX5_readLetter 57 = .ok (.iload_n 2, 1) := by decide +kernel
theorem dX5_readLetter_58 : decode cX5_readLetter 58 = .ok (.iastore, 1) := by decide +kernel
theorem dX5_readLetter_59 : decode cX5_readLetter 59 = .ok (.aload_n 0, 1) := by decide +kernel
theorem dX5_readLetter_60 : decode cX5_readLetter 60 = .ok (.dup, 1) := by decide +kernel
theorem dX5_readLetter_61 : decode cX5_readLetter 61 = .ok (.getfield 29, 3) := by decide +kernel
theorem dX5_readLetter_64 : decode cX5_readLetter 64 = .ok (.iconst 1, 1) := by decide +kernel
theorem dX5_readLetter_65 : decode cX5_readLetter 65 = .ok (.iadd, 1) := by decide +kernel
theorem dX5_readLetter_66 : decode cX5_readLetter 66 = .ok (.putfield 29, 3) := by decide +kernel
theorem dX5_readLetter_69 : decode cX5_readLetter 69 = .ok (.aload_n 0, 1) := by decide +kernel
theorem dX5_readLetter_70 : decode cX5_readLetter 70 = .ok (.iload_n 2, 1) := by decide +kernel
theorem dX5_readLetter_71 : decode cX5_readLetter 71 = .ok (.aload_n 1, 1) := by decide +kernel
theorem dX5_readLetter_72 : decode cX5_readLetter 72 = .ok (.invokevirtual 60, 3) := by decide +kernel
theorem dX5_readLetter_75 : decode cX5_readLetter 75 = .ok (.aload_n 0, 1) := by decide +kernel
theorem dX5_readLetter_76 : decode cX5_readLetter 76 = .ok (.getfield 12, 3) := by decide +kernel
theorem dX5_readLetter_79 : decode cX5_readLetter 79 = .ok (.iload_n 2, 1) := by decide +kernel
theorem dX5_readLetter_80 : decode cX5_readLetter 80 = .ok (.invokevirtual 64, 3) := by decide +kernel
theorem dX5_readLetter_83 : decode cX5_readLetter 83 = .ok (.return_, 1) := by decide +kernel
theorem dX5_narrow_0 : decode cX5_narrow 0 = .ok (.aload_n 0, 1) := by decide +kernel
theorem dX5_narrow_1 : decode cX5_narrow 1 = .ok (.getfield 21, 3) := by decide +kernel
theorem dX5_narrow_4 : decode cX5_narrow 4 = .ok (.aload_n 0, 1) := by decide +kernel
theorem dX5_narrow_5 : decode cX5_narrow 5 = .ok (.getfield 12, 3) := by decide +kernel
theorem dX5_narrow_8 : decode cX5_narrow 8 = .ok (.iload_n 1, 1) := by decide +kernel
theorem dX5_narrow_9 : decode cX5_narrow 9 = .ok (.invokevirtual 68, 3) := by decide +kernel
theorem dX5_narrow_12 : decode cX5_narrow 12 = .ok (.iconst 0, 1) := by decide +kernel
theorem dX5_narrow_13 : decode cX5_narrow 13 = .ok (.istore_n 3, 1) := by decide +kernel
theorem dX5_narrow_14 : decode cX5_narrow 14 = .ok (.iload_n 3, 1) := by decide +kernel
theorem dX5_narrow_15 : decode cX5_narrow 15 = .ok (.bipush 16, 2) := by decide +kernel
theorem dX5_narrow_17 : decode cX5_narrow 17 = .ok (.if_icmp .ge 41, 3) := by decide +kernel
theorem dX5_narrow_20 : decode cX5_narrow 20 = .ok (.aload_n 0, 1) := by decide +kernel
theorem dX5_narrow_21 : decode cX5_narrow 21 = .ok (.getfield 21, 3) := by decide +kernel
theorem dX5_narrow_24 : decode cX5_narrow 24 = .ok (.invokevirtual 72, 3) := by decide +kernel
theorem dX5_narrow_27 : decode cX5_narrow 27 = .ok (.istore 4, 2) := by decide +kernel
theorem dX5_narrow_29 : decode cX5_narrow 29 = .ok (.iload 4, 2) := by decide +kernel
theorem dX5_narrow_31 : decode cX5_narrow 31 = .ok (.iconst (-1), 1) := by decide +kernel
theorem dX5_narrow_32 : decode cX5_narrow 32 = .ok (.if_icmp .ne 4, 3) := by decide +kernel
theorem dX5_narrow_35 : decode cX5_narrow 35 = .ok (.return_, 1) := by decide +kernel
theorem dX5_narrow_36 : decode cX5_narrow 36 = .ok (.aload_n 0, 1) := by decide +kernel
theorem dX5_narrow_37 : decode cX5_narrow 37 = .ok (.dup, 1) := by decide +kernel
theorem dX5_narrow_38 : decode cX5_narrow 38 = .ok (.getfield 33, 3) := by decide +kernel
theorem dX5_narrow_41 : decode cX5_narrow 41 = .ok (.iload 4, 2) := by decide +kernel
theorem dX5_narrow_43 : decode cX5_narrow 43 = .ok (.isub, 1) := by decide +kernel
theorem dX5_narrow_44 : decode cX5_narrow 44 = .ok (.putfield 33, 3) := by decide +kernel
theorem dX5_narrow_47 : decode cX5_narrow 47 = .ok (.aload_n 0, 1) := by decide +kernel
theorem dX5_narrow_48 : decode cX5_narrow 48 = .ok (.aload_n 2, 1) := by decide +kernel
theorem dX5_narrow_49 : decode cX5_narrow 49 = .ok (.invokevirtual 49, 3) := by decide +kernel
theorem dX5_narrow_52 : decode cX5_narrow 52 = .ok (.iinc 3 1, 3) := by decide +kernel
theorem dX5_narrow_55 : decode cX5_narrow 55 = .ok (.goto (-41), 3) := by decide +kernel
theorem dX5_narrow_58 : decode cX5_narrow 58 = .ok (.return_, 1) := by decide +kernel
theorem dX5_takeBit_0 : decode cX5_takeBit 0 = .ok (.aload_n 0, 1) := by decide +kernel
theorem dX5_takeBit_1 : decode cX5_takeBit 1 = .ok (.aload_n 0, 1) := by decide +kernel
theorem dX5_takeBit_2 : decode cX5_takeBit 2 = .ok (.getfield 33, 3) := by decide +kernel
theorem dX5_takeBit_5 : decode cX5_takeBit 5 = .ok (.iconst 2, 1) := by decide +kernel
theorem dX5_takeBit_6 : decode cX5_takeBit 6 = .ok (.imul, 1) := by decide +kernel
theorem dX5_takeBit_7 : decode cX5_takeBit 7 = .ok (.aload_n 1, 1) := by decide +kernel
theorem dX5_takeBit_8 : decode cX5_takeBit 8 = .ok (.aload_n 0, 1) := by decide +kernel
theorem dX5_takeBit_9 : decode cX5_takeBit 9 = .ok (.getfield 36, 3) := by decide +kernel
theorem dX5_takeBit_12 : decode cX5_takeBit 12 = .ok (.invokevirtual 76, 3) := by decide +kernel
theorem dX5_takeBit_15 : decode cX5_takeBit 15 = .ok (.iadd, 1) := by decide +kernel
theorem dX5_takeBit_16 : decode cX5_takeBit 16 = .ok (.putfield 33, 3) := by decide +kernel
theorem dX5_takeBit_19 : decode cX5_takeBit 19 = .ok (.aload_n 0, 1) := by decide +kernel
theorem dX5_takeBit_20 : decode cX5_takeBit 20 = .ok (.dup, 1) := by decide +kernel
theorem dX5_takeBit_21 : decode cX5_takeBit 21 = .ok (.getfield 36, 3) := by decide +kernel
theorem dX5_takeBit_24 : decode cX5_takeBit 24 = .ok (.iconst 1, 1) := by decide +kernel
theorem dX5_takeBit_25 : decode cX5_takeBit 25 = .ok (.iadd, 1) := by decide +kernel
theorem dX5_takeBit_26 : decode cX5_takeBit 26 = .ok (.putfield 36, 3) := by decide +kernel
theorem dX5_takeBit_29 : decode cX5_takeBit 29 = .ok (.return_, 1) := by decide +kernel
theorem dX6_init_0 : decode cX6_init 0 = .ok (.aload_n 0, 1) := by decide +kernel
theorem dX6_init_1 : decode cX6_init 1 = .ok (.invokespecial 3, 3) := by decide +kernel
theorem dX6_init_4 : decode cX6_init 4 = .ok (.aload_n 0, 1) := by decide +kernel
theorem dX6_init_5 : decode cX6_init 5 = .ok (.iconst 0, 1) := by decide +kernel
theorem dX6_init_6 : decode cX6_init 6 = .ok (.putfield 9, 3) := by decide +kernel
theorem dX6_init_9 : decode cX6_init 9 = .ok (.aload_n 0, 1) := by decide +kernel
theorem dX6_init_10 : decode cX6_init 10 = .ok (.ldc 15, 2) := by decide +kernel
theorem dX6_init_12 : decode cX6_init 12 = .ok (.putfield 16, 3) := by decide +kernel
theorem dX6_init_15 : decode cX6_init 15 = .ok (.return_, 1) := by decide +kernel
theorem dX6_start_0 : decode cX6_start 0 = .ok (.aload_n 0, 1) := by decide +kernel
theorem dX6_start_1 : decode cX6_start 1 = .ok (.iconst 0, 1) := by decide +kernel
theorem dX6_start_2 : decode cX6_start 2 = .ok (.putfield 9, 3) := by decide +kernel
theorem dX6_start_5 : decode cX6_start 5 = .ok (.aload_n 0, 1) := by decide +kernel
theorem dX6_start_6 : decode cX6_start 6 = .ok (.ldc 15, 2) := by decide +kernel
theorem dX6_start_8 : decode cX6_start 8 = .ok (.putfield 16, 3) := by decide +kernel
theorem dX6_start_11 : decode cX6_start 11 = .ok (.return_, 1) := by decide +kernel
theorem dX6_shrink_0 : decode cX6_shrink 0 = .ok (.aload_n 1, 1) := by decide +kernel
theorem dX6_shrink_1 : decode cX6_shrink 1 = .ok (.getfield 19, 3) := by decide +kernel
theorem dX6_shrink_4 : decode cX6_shrink 4 = .ok (.istore_n 3, 1) := by decide +kernel
theorem dX6_shrink_5 : decode cX6_shrink 5 = .ok (.iload_n 3, 1) := by decide +kernel
theorem dX6_shrink_6 : decode cX6_shrink 6 = .ok (.iconst 1, 1) := by decide +kernel
theorem dX6_shrink_7 : decode cX6_shrink 7 = .ok (.if_icmp .ge 4, 3) := by decide +kernel
theorem dX6_shrink_10 : decode cX6_shrink 10 = .ok (.return_, 1) := by decide +kernel
theorem dX6_shrink_11 : decode cX6_shrink 11 = .ok (.aload_n 0, 1) := by decide +kernel
theorem dX6_shrink_12 : decode cX6_shrink 12 = .ok (.getfield 16, 3) := by decide +kernel
theorem dX6_shrink_15 : decode cX6_shrink 15 = .ok (.aload_n 0, 1) := by decide +kernel
theorem dX6_shrink_16 : decode cX6_shrink 16 = .ok (.getfield 9, 3) := by decide +kernel
theorem dX6_shrink_19 : decode cX6_shrink 19 = .ok (.isub, 1) := by decide +kernel
theorem dX6_shrink_20 : decode cX6_shrink 20 = .ok (.iconst 1, 1) := by decide +kernel
theorem dX6_shrink_21 : decode cX6_shrink 21 = .ok (.iadd, 1) := by decide +kernel
theorem dX6_shrink_22 : decode cX6_shrink 22 = .ok (.istore 4, 2) := by decide +kernel
theorem dX6_shrink_24 : decode cX6_shrink 24 = .ok (.aload_n 1, 1) := by decide +kernel
theorem dX6_shrink_25 : decode cX6_shrink 25 = .ok (.iload_n 2, 1) := by decide +kernel
theorem dX6_shrink_26 : decode cX6_shrink 26 = .ok (.invokevirtual 24, 3) := by decide +kernel
theorem dX6_shrink_29 : decode cX6_shrink 29 = .ok (.istore 5, 2) := by decide +kernel
theorem dX6_shrink_31 : decode cX6_shrink 31 = .ok (.iload 5, 2) := by decide +kernel
theorem dX6_shrink_33 : decode cX6_shrink 33 = .ok (.aload_n 1, 1) := by decide +kernel
theorem dX6_shrink_34 : decode cX6_shrink 34 = .ok (.iload_n 2, 1) := by decide +kernel
theorem dX6_shrink_35 : decode cX6_shrink 35 = .ok (.invokevirtual 28, 3) := by decide +kernel
theorem dX6_shrink_38 : decode cX6_shrink 38 = .ok (.iadd, 1) := by decide +kernel
theorem dX6_shrink_39 : decode cX6_shrink 39 = .ok (.istore 6, 2) := by decide +kernel
theorem dX6_shrink_41 : decode cX6_shrink 41 = .ok (.aload_n 0, 1) := by decide +kernel
theorem dX6_shrink_42 : decode cX6_shrink 42 = .ok (.aload_n 0, 1) := by decide +kernel
theorem dX6_shrink_43 : decode cX6_shrink 43 = .ok (.getfield 9, 3) := by decide +kernel
theorem dX6_shrink_46 : decode cX6_shrink 46 = .ok (.iload 4, 2) := by decide +kernel
theorem dX6_shrink_48 : decode cX6_shrink 48 = .ok (.iload 6, 2) := by decide +kernel
theorem dX6_shrink_50 : decode cX6_shrink 50 = .ok (.imul, 1) := by decide +kernel
theorem dX6_shrink_51 : decode cX6_shrink 51 = .ok (.iload_n 3, 1) := by decide +kernel
theorem dX6_shrink_52 : decode cX6_shrink 52 = .ok (.idiv, 1) := by decide +kernel
theorem dX6_shrink_53 : decode cX6_shrink 53 = .ok (.iadd, 1) := by decide +kernel
theorem dX6_shrink_54 : decode cX6_shrink 54 = .ok (.iconst 1, 1) := by decide +kernel
theorem dX6_shrink_55 : decode cX6_shrink 55 = .ok (.isub, 1) := by decide +kernel
theorem dX6_shrink_56 : decode cX6_shrink 56 = .ok (.putfield 16, 3) := by decide +kernel
theorem dX6_shrink_59 : decode cX6_shrink 59 = .ok (.aload_n 0, 1) := by decide +kernel
theorem dX6_shrink_60 : decode cX6_shrink 60 = .ok (.aload_n 0, 1) := by decide +kernel
theorem dX6_shrink_61 : decode cX6_shrink 61 = .ok (.getfield 9, 3) := by decide +kernel
theorem dX6_shrink_64 : decode cX6_shrink 64 = .ok (.iload 4, 2) := by decide +kernel
theorem dX6_shrink_66 : decode cX6_shrink 66 = .ok (.iload 5, 2) := by decide +kernel
theorem dX6_shrink_68 : decode cX6_shrink 68 = .ok (.imul, 1) := by decide +kernel
theorem dX6_shrink_69 : decode cX6_shrink 69 = .ok (.iload_n 3, 1) := by decide +kernel
theorem dX6_shrink_70 : decode cX6_shrink 70 = .ok (.idiv, 1) := by decide +kernel
theorem dX6_shrink_71 : decode cX6_shrink 71 = .ok (.iadd, 1) := by decide +kernel
theorem dX6_shrink_72 : decode cX6_shrink 72 = .ok (.putfield 9, 3) := by decide +kernel
theorem dX6_shrink_75 : decode cX6_shrink 75 = .ok (.return_, 1) := by decide +kernel
theorem dX6_widen_0 : decode cX6_widen 0 = .ok (.aload_n 0, 1) := by decide +kernel
theorem dX6_widen_1 : decode cX6_widen 1 = .ok (.getfield 16, 3) := by decide +kernel
theorem dX6_widen_4 : decode cX6_widen 4 = .ok (.ldc 31, 2) := by decide +kernel
theorem dX6_widen_6 : decode cX6_widen 6 = .ok (.if_icmp .ge 8, 3) := by decide +kernel
theorem dX6_widen_9 : decode cX6_widen 9 = .ok (.iconst 0, 1) := by decide +kernel
theorem dX6_widen_10 : decode cX6_widen 10 = .ok (.istore_n 1, 1) := by decide +kernel
theorem dX6_widen_11 : decode cX6_widen 11 = .ok (.goto 46, 3) := by decide +kernel
theorem dX6_widen_14 : decode cX6_widen 14 = .ok (.aload_n 0, 1) := by decide +kernel
theorem dX6_widen_15 : decode cX6_widen 15 = .ok (.getfield 9, 3) := by decide +kernel
theorem dX6_widen_18 : decode cX6_widen 18 = .ok (.ldc 31, 2) := by decide +kernel
theorem dX6_widen_20 : decode cX6_widen 20 = .ok (.if_icmp .lt 9, 3) := by decide +kernel
theorem dX6_widen_23 : decode cX6_widen 23 = .ok (.ldc 31, 2) := by decide +kernel
theorem dX6_widen_25 : decode cX6_widen 25 = .ok (.istore_n 1, 1) := by decide +kernel
theorem dX6_widen_26 : decode cX6_widen 26 = .ok (.goto 31, 3) := by decide +kernel
theorem dX6_widen_29 : decode cX6_widen 29 = .ok (.aload_n 0, 1) := by decide +kernel
theorem dX6_widen_30 : decode cX6_widen 30 = .ok (.getfield 9, 3) := by decide +kernel
theorem dX6_widen_33 : decode cX6_widen 33 = .ok (.sipush 16384, 3) := by decide +kernel
theorem dX6_widen_36 : decode cX6_widen 36 = .ok (.if_icmp .lt 19, 3) := by decide +kernel
theorem dX6_widen_39 : decode cX6_widen 39 = .ok (.aload_n 0, 1) := by decide +kernel
theorem dX6_widen_40 : decode cX6_widen 40 = .ok (.getfield 16, 3) := by decide +kernel
theorem dX6_widen_43 : decode cX6_widen 43 = .ok (.ldc 32, 2) := by decide +kernel
theorem dX6_widen_45 : decode cX6_widen 45 = .ok (.if_icmp .ge 10, 3) := by decide +kernel
theorem dX6_widen_48 : decode cX6_widen 48 = .ok (.sipush 16384, 3) := by decide +kernel
theorem dX6_widen_51 : decode cX6_widen 51 = .ok (.istore_n 1, 1) := by decide +kernel
theorem dX6_widen_52 : decode cX6_widen 52 = .ok (.goto 5, 3) := by decide +kernel
theorem dX6_widen_55 : decode cX6_widen 55 = .ok (.iconst (-1), 1) := by decide +kernel
theorem dX6_widen_56 : decode cX6_widen 56 = .ok (.ireturn, 1) := by decide +kernel
theorem dX6_widen_57 : decode cX6_widen 57 = .ok (.aload_n 0, 1) := by decide +kernel
theorem dX6_widen_58 : decode cX6_widen 58 = .ok (.aload_n 0, 1) := by decide +kernel
theorem dX6_widen_59 : decode cX6_widen 59 = .ok (.getfield 9, 3) := by decide +kernel
theorem dX6_widen_62 : decode cX6_widen 62 = .ok (.iload_n 1, 1) := by decide +kernel
theorem dX6_widen_63 : decode cX6_widen 63 = .ok (.isub, 1) := by decide +kernel
theorem dX6_widen_64 : decode cX6_widen 64 = .ok (.iconst 2, 1) := by decide +kernel
theorem dX6_widen_65 : decode cX6_widen 65 = .ok (.imul, 1) := by decide +kernel
theorem dX6_widen_66 : decode cX6_widen 66 = .ok (.putfield 9, 3) := by decide +kernel
theorem dX6_widen_69 : decode cX6_widen 69 = .ok (.aload_n 0, 1) := by decide +kernel
theorem dX6_widen_70 : decode cX6_widen 70 = .ok (.aload_n 0, 1) := by decide +kernel
theorem dX6_widen_71 : decode cX6_widen 71 = .ok (.getfield 16, 3) := by decide +kernel
theorem dX6_widen_74 : decode cX6_widen 74 = .ok (.iload_n 1, 1) := by decide +kernel
theorem dX6_widen_75 : decode cX6_widen 75 = .ok (.isub, 1) := by decide +kernel
theorem dX6_widen_76 : decode cX6_widen 76 = .ok (.iconst 2, 1) := by decide +kernel
theorem dX6_widen_77 : decode cX6_widen 77 = .ok (.imul, 1) := by decide +kernel
theorem dX6_widen_78 : decode cX6_widen 78 = .ok (.iconst 1, 1) := by decide +kernel
theorem dX6_widen_79 : decode cX6_widen 79 = .ok (.iadd, 1) := by decide +kernel
theorem dX6_widen_80 : decode cX6_widen 80 = .ok (.putfield 16, 3) := by decide +kernel
theorem dX6_widen_83 : decode cX6_widen 83 = .ok (.iload_n 1, 1) := by decide +kernel
theorem dX6_widen_84 : decode cX6_widen 84 = .ok (.ireturn, 1) := by decide +kernel
theorem dX6_letterAround_0 : decode cX6_letterAround 0 = .ok (.aload_n 0, 1) := by decide +kernel
theorem dX6_letterAround_1 : decode cX6_letterAround 1 = .ok (.getfield 16, 3) := by decide +kernel
theorem dX6_letterAround_4 : decode cX6_letterAround 4 = .ok (.aload_n 0, 1) := by decide +kernel
theorem dX6_letterAround_5 : decode cX6_letterAround 5 = .ok (.getfield 9, 3) := by decide +kernel
theorem dX6_letterAround_8 : decode cX6_letterAround 8 = .ok (.isub, 1) := by decide +kernel
theorem dX6_letterAround_9 : decode cX6_letterAround 9 = .ok (.iconst 1, 1) := by decide +kernel
theorem dX6_letterAround_10 : decode cX6_letterAround 10 = .ok (.iadd, 1) := by decide +kernel
theorem dX6_letterAround_11 : decode cX6_letterAround 11 = .ok (.istore_n 3, 1) := by decide +kernel
theorem dX6_letterAround_12 : decode cX6_letterAround 12 = .ok (.iload_n 3, 1) := by decide +kernel
theorem dX6_letterAround_13 : decode cX6_letterAround 13 = .ok (.iconst 1, 1) := by decide +kernel
theorem dX6_letterAround_14 : decode cX6_letterAround 14 = .ok (.if_icmp .ge 6, 3) := by decide +kernel
theorem dX6_letterAround_17 : decode cX6_letterAround 17 = .ok (.bipush 8, 2) := by decide +kernel
theorem dX6_letterAround_19 : decode cX6_letterAround 19 = .ok (.ireturn, 1) := by decide +kernel
theorem dX6_letterAround_20 : decode cX6_letterAround 20 = .ok (.aload_n 2, 1) := by decide +kernel
theorem dX6_letterAround_21 : decode cX6_letterAround 21 = .ok (.iload_n 1, 1) := by decide +kernel
theorem dX6_letterAround_22 : decode cX6_letterAround 22 = .ok (.aload_n 0, 1) := by decide +kernel
theorem dX6_letterAround_23 : decode cX6_letterAround 23 = .ok (.getfield 9, 3) := by decide +kernel
theorem dX6_letterAround_26 : decode cX6_letterAround 26 = .ok (.isub, 1) := by decide +kernel
theorem dX6_letterAround_27 : decode cX6_letterAround 27 = .ok (.iconst 1, 1) := by decide +kernel
theorem dX6_letterAround_28 : decode cX6_letterAround 28 = .ok (.iadd, 1) := by decide +kernel
theorem dX6_letterAround_29 : decode cX6_letterAround 29 = .ok (.aload_n 2, 1) := by decide +kernel
theorem dX6_letterAround_30 : decode cX6_letterAround 30 = .ok (.getfield 19, 3) := by decide +kernel
theorem dX6_letterAround_33 : decode cX6_letterAround 33 = .ok (.imul, 1) := by decide +kernel
theorem dX6_letterAround_34 : decode cX6_letterAround 34 = .ok (.iconst 1, 1) := by decide +kernel
theorem dX6_letterAround_35 : decode cX6_letterAround 35 = .ok (.isub, 1) := by decide +kernel
theorem dX6_letterAround_36 : decode cX6_letterAround 36 = .ok (.iload_n 3, 1) := by decide +kernel
theorem dX6_letterAround_37 : decode cX6_letterAround 37 = .ok (.idiv, 1) := by decide +kernel
theorem dX6_letterAround_38 : decode cX6_letterAround 38 = .ok (.invokevirtual 33, 3) := by decide +kernel
theorem dX6_letterAround_41 : decode cX6_letterAround 41 = .ok (.ireturn, 1) := by decide +kernel
theorem dX7_init_0 : decode cX7_init 0 = .ok (.aload_n 0, 1) := by decide +kernel
theorem dX7_init_1 : decode cX7_init 1 = .ok (.invokespecial 3, 3) := by decide +kernel
theorem dX7_init_4 : decode cX7_init 4 = .ok (.aload_n 0, 1) := by decide +kernel
theorem dX7_init_5 : decode cX7_init 5 = .ok (.bipush 120, 2) := by decide +kernel
theorem dX7_init_7 : decode cX7_init 7 = .ok (.newarray .int, 2) := by decide +kernel
theorem dX7_init_9 : decode cX7_init 9 = .ok (.putfield 9, 3) := by decide +kernel
theorem dX7_init_12 : decode cX7_init 12 = .ok (.aload_n 0, 1) := by decide +kernel
theorem dX7_init_13 : decode cX7_init 13 = .ok (.iconst 0, 1) := by decide +kernel
theorem dX7_init_14 : decode cX7_init 14 = .ok (.putfield 15, 3) := by decide +kernel
theorem dX7_init_17 : decode cX7_init 17 = .ok (.return_, 1) := by decide +kernel
theorem dX7_empty_0 : decode cX7_empty 0 = .ok (.aload_n 0, 1) := by decide +kernel
theorem dX7_empty_1 : decode cX7_empty 1 = .ok (.iconst 0, 1) := by decide +kernel
theorem dX7_empty_2 : decode cX7_empty 2 = .ok (.putfield 15, 3) := by decide +kernel
theorem dX7_empty_5 : decode cX7_empty 5 = .ok (.return_, 1) := by decide +kernel
theorem dX7_append_0 : decode cX7_append 0 = .ok (.aload_n 0, 1) := by decide +kernel
theorem dX7_append_1 : decode cX7_append 1 = .ok (.getfield 15, 3) := by decide +kernel
theorem dX7_append_4 : decode cX7_append 4 = .ok (.ifCond .lt 35, 3) := by decide +kernel
theorem dX7_append_7 : decode cX7_append 7 = .ok (.aload_n 0, 1) := by decide +kernel
theorem dX7_append_8 : decode cX7_append 8 = .ok (.getfield 15, 3) := by decide +kernel
theorem dX7_append_11 : decode cX7_append 11 = .ok (.aload_n 0, 1) := by decide +kernel
theorem dX7_append_12 : decode cX7_append 12 = .ok (.getfield 9, 3) := by decide +kernel
theorem dX7_append_15 : decode cX7_append 15 = .ok (.arraylength, 1) := by decide +kernel
theorem dX7_append_16 : decode cX7_append 16 = .ok (.if_icmp .ge 23, 3) := by decide +kernel
theorem dX7_append_19 : decode cX7_append 19 = .ok (.aload_n 0, 1) := by decide +kernel
theorem dX7_append_20 : decode cX7_append 20 = .ok (.getfield 9, 3) := by decide +kernel
theorem dX7_append_23 : decode cX7_append 23 = .ok (.aload_n 0, 1) := by decide +kernel
theorem dX7_append_24 : decode cX7_append 24 = .ok (.getfield 15, 3) := by decide +kernel
theorem dX7_append_27 : decode cX7_append 27 = .ok (.iload_n 1, 1) := by decide +kernel
theorem dX7_append_28 : decode cX7_append 28 = .ok (.iastore, 1) := by decide +kernel
theorem dX7_append_29 : decode cX7_append 29 = .ok (.aload_n 0, 1) := by decide +kernel
theorem dX7_append_30 : decode cX7_append 30 = .ok (.dup, 1) := by decide +kernel
theorem dX7_append_31 : decode cX7_append 31 = .ok (.getfield 15, 3) := by decide +kernel
theorem dX7_append_34 : decode cX7_append 34 = .ok (.iconst 1, 1) := by decide +kernel
theorem dX7_append_35 : decode cX7_append 35 = .ok (.iadd, 1) := by decide +kernel
theorem dX7_append_36 : decode cX7_append 36 = .ok (.putfield 15, 3) := by decide +kernel
theorem dX7_append_39 : decode cX7_append 39 = .ok (.return_, 1) := by decide +kernel
theorem dX7_copyFrom_0 : decode cX7_copyFrom 0 = .ok (.aload_n 0, 1) := by decide +kernel
theorem dX7_copyFrom_1 : decode cX7_copyFrom 1 = .ok (.invokevirtual 19, 3) := by decide +kernel
theorem dX7_copyFrom_4 : decode cX7_copyFrom 4 = .ok (.iconst 0, 1) := by decide +kernel
theorem dX7_copyFrom_5 : decode cX7_copyFrom 5 = .ok (.istore_n 2, 1) := by decide +kernel
theorem dX7_copyFrom_6 : decode cX7_copyFrom 6 = .ok (.iload_n 2, 1) := by decide +kernel
theorem dX7_copyFrom_7 : decode cX7_copyFrom 7 = .ok (.aload_n 1, 1) := by decide +kernel
theorem dX7_copyFrom_8 : decode cX7_copyFrom 8 = .ok (.getfield 22, 3) := by decide +kernel
theorem dX7_copyFrom_11 : decode cX7_copyFrom 11 = .ok (.if_icmp .ge 29, 3) := by decide +kernel
theorem dX7_copyFrom_14 : decode cX7_copyFrom 14 = .ok (.aload_n 0, 1) := by decide +kernel
theorem dX7_copyFrom_15 : decode cX7_copyFrom 15 = .ok (.aload_n 1, 1) := by decide +kernel
theorem dX7_copyFrom_16 : decode cX7_copyFrom 16 = .ok (.iload_n 2, 1) := by decide +kernel
theorem dX7_copyFrom_17 : decode cX7_copyFrom 17 = .ok (.invokevirtual 25, 3) := by decide +kernel
theorem dX7_copyFrom_20 : decode cX7_copyFrom 20 = .ok (.iconst 1, 1) := by decide +kernel
theorem dX7_copyFrom_21 : decode cX7_copyFrom 21 = .ok (.if_icmp .ne 8, 3) := by decide +kernel
theorem dX7_copyFrom_24 : decode cX7_copyFrom 24 = .ok (.bipush 49, 2) := by decide +kernel
theorem dX7_copyFrom_26 : decode cX7_copyFrom 26 = .ok (.goto 5, 3) := by decide +kernel
theorem dX7_copyFrom_29 : decode cX7_copyFrom 29 = .ok (.bipush 48, 2) := by decide +kernel
theorem dX7_copyFrom_31 : decode cX7_copyFrom 31 = .ok (.invokevirtual 29, 3) := by decide +kernel
theorem dX7_copyFrom_34 : decode cX7_copyFrom 34 = .ok (.iinc 2 1, 3) := by decide +kernel
theorem dX7_copyFrom_37 : decode cX7_copyFrom 37 = .ok (.goto (-31), 3) := by decide +kernel
theorem dX7_copyFrom_40 : decode cX7_copyFrom 40 = .ok (.return_, 1) := by decide +kernel
theorem dX7_copyTo_0 : decode cX7_copyTo 0 = .ok (.aload_n 1, 1) := by decide +kernel
theorem dX7_copyTo_1 : decode cX7_copyTo 1 = .ok (.invokevirtual 33, 3) := by decide +kernel
theorem dX7_copyTo_4 : decode cX7_copyTo 4 = .ok (.iconst 0, 1) := by decide +kernel
theorem dX7_copyTo_5 : decode cX7_copyTo 5 = .ok (.istore_n 2, 1) := by decide +kernel
theorem dX7_copyTo_6 : decode cX7_copyTo 6 = .ok (.iload_n 2, 1) := by decide +kernel
theorem dX7_copyTo_7 : decode cX7_copyTo 7 = .ok (.aload_n 0, 1) := by decide +kernel
theorem dX7_copyTo_8 : decode cX7_copyTo 8 = .ok (.getfield 15, 3) := by decide +kernel
theorem dX7_copyTo_11 : decode cX7_copyTo 11 = .ok (.if_icmp .ge 38, 3) := by decide +kernel
theorem dX7_copyTo_14 : decode cX7_copyTo 14 = .ok (.iload_n 2, 1) := by decide +kernel
theorem dX7_copyTo_15 : decode cX7_copyTo 15 = .ok (.aload_n 0, 1) := by decide +kernel
theorem dX7_copyTo_16 : decode cX7_copyTo 16 = .ok (.getfield 9, 3) := by decide +kernel
theorem dX7_copyTo_19 : decode cX7_copyTo 19 = .ok (.arraylength, 1) := by decide +kernel
theorem dX7_copyTo_20 : decode cX7_copyTo 20 = .ok (.if_icmp .ge 29, 3) := by decide +kernel
theorem dX7_copyTo_23 : decode cX7_copyTo 23 = .ok (.aload_n 1, 1) := by decide +kernel
theorem dX7_copyTo_24 : decode cX7_copyTo 24 = .ok (.aload_n 0, 1) := by decide +kernel
theorem dX7_copyTo_25 : decode cX7_copyTo 25 = .ok (.getfield 9, 3) := by decide +kernel
theorem dX7_copyTo_28 : decode cX7_copyTo 28 = .ok (.iload_n 2, 1) := by decide +kernel
theorem dX7_copyTo_29 : decode cX7_copyTo 29 = .ok (.iaload, 1) := by decide +kernel
theorem dX7_copyTo_30 : decode cX7_copyTo 30 = .ok (.bipush 49, 2) := by decide +kernel
theorem dX7_copyTo_32 : decode cX7_copyTo 32 = .ok (.if_icmp .ne 7, 3) := by decide +kernel
theorem dX7_copyTo_35 : decode cX7_copyTo 35 = .ok (.iconst 1, 1) := by decide +kernel
theorem dX7_copyTo_36 : decode cX7_copyTo 36 = .ok (.goto 4, 3) := by decide +kernel
theorem dX7_copyTo_39 : decode cX7_copyTo 39 = .ok (.iconst 0, 1) := by decide +kernel
theorem dX7_copyTo_40 : decode cX7_copyTo 40 = .ok (.invokevirtual 34, 3) := by decide +kernel
theorem dX7_copyTo_43 : decode cX7_copyTo 43 = .ok (.iinc 2 1, 3) := by decide +kernel
theorem dX7_copyTo_46 : decode cX7_copyTo 46 = .ok (.goto (-40), 3) := by decide +kernel
theorem dX7_copyTo_49 : decode cX7_copyTo 49 = .ok (.return_, 1) := by decide +kernel
theorem dX7_firstStrange_0 : decode cX7_firstStrange 0 = .ok (.iconst 0, 1) := by decide +kernel
theorem dX7_firstStrange_1 : decode cX7_firstStrange 1 = .ok (.istore_n 1, 1) := by decide +kernel
theorem dX7_firstStrange_2 : decode cX7_firstStrange 2 = .ok (.iload_n 1, 1) := by decide +kernel
theorem dX7_firstStrange_3 : decode cX7_firstStrange 3 = .ok (.aload_n 0, 1) := by decide +kernel
theorem dX7_firstStrange_4 : decode cX7_firstStrange 4 = .ok (.getfield 15, 3) := by decide +kernel
theorem dX7_firstStrange_7 : decode cX7_firstStrange 7 = .ok (.if_icmp .ge 42, 3) := by decide +kernel
theorem dX7_firstStrange_10 : decode cX7_firstStrange 10 = .ok (.iload_n 1, 1) := by decide +kernel
theorem dX7_firstStrange_11 : decode cX7_firstStrange 11 = .ok (.aload_n 0, 1) := by decide +kernel
theorem dX7_firstStrange_12 : decode cX7_firstStrange 12 = .ok (.getfield 9, 3) := by decide +kernel
theorem dX7_firstStrange_15 : decode cX7_firstStrange 15 = .ok (.arraylength, 1) := by decide +kernel
theorem dX7_firstStrange_16 : decode cX7_firstStrange 16 = .ok (.if_icmp .ge 33, 3) := by decide +kernel
theorem dX7_firstStrange_19 : decode cX7_firstStrange 19 = .ok (.aload_n 0, 1) := by decide +kernel
theorem dX7_firstStrange_20 : decode cX7_firstStrange 20 = .ok (.getfield 9, 3) := by decide +kernel
theorem dX7_firstStrange_23 : decode cX7_firstStrange 23 = .ok (.iload_n 1, 1) := by decide +kernel
theorem dX7_firstStrange_24 : decode cX7_firstStrange 24 = .ok (.iaload, 1) := by decide +kernel
theorem dX7_firstStrange_25 : decode cX7_firstStrange 25 = .ok (.bipush 48, 2) := by decide +kernel
theorem dX7_firstStrange_27 : decode cX7_firstStrange 27 = .ok (.if_icmp .eq 16, 3) := by decide +kernel
theorem dX7_firstStrange_30 : decode cX7_firstStrange 30 = .ok (.aload_n 0, 1) := by decide +kernel
theorem dX7_firstStrange_31 : decode cX7_firstStrange 31 = .ok (.getfield 9, 3) := by decide +kernel
theorem dX7_firstStrange_34 : decode cX7_firstStrange 34 = .ok (.iload_n 1, 1) := by decide +kernel
theorem dX7_firstStrange_35 : decode cX7_firstStrange 35 = .ok (.iaload, 1) := by decide +kernel
theorem dX7_firstStrange_36 : decode cX7_firstStrange 36 = .ok (.bipush 49, 2) := by decide +kernel
theorem dX7_firstStrange_38 : decode cX7_firstStrange 38 = .ok (.if_icmp .eq 5, 3) := by decide +kernel
theorem dX7_firstStrange_41 : decode cX7_firstStrange 41 = .ok (.iload_n 1, 1) := by decide +kernel
theorem dX7_firstStrange_42 : decode cX7_firstStrange 42 = .ok (.ireturn, 1) := by decide +kernel
theorem dX7_firstStrange_43 : decode cX7_firstStrange 43 = .ok (.iinc 1 1, 3) := by decide +kernel
theorem dX7_firstStrange_46 : decode cX7_firstStrange 46 = .ok (.goto (-44), 3) := by decide +kernel
theorem dX7_firstStrange_49 : decode cX7_firstStrange 49 = .ok (.aload_n 0, 1) := by decide +kernel
theorem dX7_firstStrange_50 : decode cX7_firstStrange 50 = .ok (.getfield 15, 3) := by decide +kernel
theorem dX7_firstStrange_53 : decode cX7_firstStrange 53 = .ok (.ireturn, 1) := by decide +kernel
theorem dX8_init_0 : decode cX8_init 0 = .ok (.aload_n 0, 1) := by decide +kernel
theorem dX8_init_1 : decode cX8_init 1 = .ok (.invokespecial 3, 3) := by decide +kernel
theorem dX8_init_4 : decode cX8_init 4 = .ok (.aload_n 0, 1) := by decide +kernel
theorem dX8_init_5 : decode cX8_init 5 = .ok (.new 9, 3) := by decide +kernel
theorem dX8_init_8 : decode cX8_init 8 = .ok (.dup, 1) := by decide +kernel
theorem dX8_init_9 : decode cX8_init 9 = .ok (.invokespecial 11, 3) := by decide +kernel
theorem dX8_init_12 : decode cX8_init 12 = .ok (.putfield 12, 3) := by decide +kernel
theorem dX8_init_15 : decode cX8_init 15 = .ok (.aload_n 0, 1) := by decide +kernel
theorem dX8_init_16 : decode cX8_init 16 = .ok (.new 16, 3) := by decide +kernel
theorem dX8_init_19 : decode cX8_init 19 = .ok (.dup, 1) := by decide +kernel
theorem dX8_init_20 : decode cX8_init 20 = .ok (.invokespecial 18, 3) := by decide +kernel
theorem dX8_init_23 : decode cX8_init 23 = .ok (.putfield 19, 3) := by decide +kernel
theorem dX8_init_26 : decode cX8_init 26 = .ok (.aload_n 0, 1) := by decide +kernel
theorem dX8_init_27 : decode cX8_init 27 = .ok (.new 16, 3) := by decide +kernel
theorem dX8_init_30 : decode cX8_init 30 = .ok (.dup, 1) := by decide +kernel
theorem dX8_init_31 : decode cX8_init 31 = .ok (.invokespecial 18, 3) := by decide +kernel
theorem dX8_init_34 : decode cX8_init 34 = .ok (.putfield 23, 3) := by decide +kernel
theorem dX8_init_37 : decode cX8_init 37 = .ok (.aload_n 0, 1) := by decide +kernel
theorem dX8_init_38 : decode cX8_init 38 = .ok (.new 26, 3) := by decide +kernel
theorem dX8_init_41 : decode cX8_init 41 = .ok (.dup, 1) := by decide +kernel
theorem dX8_init_42 : decode cX8_init 42 = .ok (.invokespecial 28, 3) := by decide +kernel
theorem dX8_init_45 : decode cX8_init 45 = .ok (.putfield 29, 3) := by decide +kernel
theorem dX8_init_48 : decode cX8_init 48 = .ok (.aload_n 0, 1) := by decide +kernel
theorem dX8_init_49 : decode cX8_init 49 = .ok (.new 33, 3) := by decide +kernel
theorem dX8_init_52 : decode cX8_init 52 = .ok (.dup, 1) := by decide +kernel
theorem dX8_init_53 : decode cX8_init 53 = .ok (.invokespecial 35, 3) := by decide +kernel
theorem dX8_init_56 : decode cX8_init 56 = .ok (.putfield 36, 3) := by decide +kernel
theorem dX8_init_59 : decode cX8_init 59 = .ok (.aload_n 0, 1) := by decide +kernel
theorem dX8_init_60 : decode cX8_init 60 = .ok (.new 40, 3) := by decide +kernel
theorem dX8_init_63 : decode cX8_init 63 = .ok (.dup, 1) := by decide +kernel
theorem dX8_init_64 : decode cX8_init 64 = .ok (.invokespecial 42, 3) := by decide +kernel
theorem dX8_init_67 : decode cX8_init 67 = .ok (.putfield 43, 3) := by decide +kernel
theorem dX8_init_70 : decode cX8_init 70 = .ok (.aload_n 0, 1) := by decide +kernel
theorem dX8_init_71 : decode cX8_init 71 = .ok (.new 47, 3) := by decide +kernel
theorem dX8_init_74 : decode cX8_init 74 = .ok (.dup, 1) := by decide +kernel
theorem dX8_init_75 : decode cX8_init 75 = .ok (.invokespecial 49, 3) := by decide +kernel
theorem dX8_init_78 : decode cX8_init 78 = .ok (.putfield 50, 3) := by decide +kernel
theorem dX8_init_81 : decode cX8_init 81 = .ok (.return_, 1) := by decide +kernel
theorem dX8_put_0 : decode cX8_put 0 = .ok (.iload_n 1, 1) := by decide +kernel
theorem dX8_put_1 : decode cX8_put 1 = .ok (.invokestatic 54, 3) := by decide +kernel
theorem dX8_put_4 : decode cX8_put 4 = .ok (.ifCond .ne 5, 3) := by decide +kernel
theorem dX8_put_7 : decode cX8_put 7 = .ok (.iconst (-1), 1) := by decide +kernel
theorem dX8_put_8 : decode cX8_put 8 = .ok (.ireturn, 1) := by decide +kernel
theorem dX8_put_9 : decode cX8_put 9 = .ok (.aload_n 0, 1) := by decide +kernel
theorem dX8_put_10 : decode cX8_put 10 = .ok (.getfield 12, 3) := by decide +kernel
theorem dX8_put_13 : decode cX8_put 13 = .ok (.getfield 58, 3) := by decide +kernel
theorem dX8_put_16 : decode cX8_put 16 = .ok (.ifCond .eq 6, 3) := by decide +kernel
end
section
theorem dX8_put_19 : decode cX8_put 19 = .ok (.bipush (-2), 2) := by decide +kernel
theorem dX8_put_21 : decode cX8_put 21 = .ok (.ireturn, 1) := by decide +kernel
theorem dX8_put_22 : decode cX8_put 22 = .ok (.aload_n 0, 1) := by decide +kernel
theorem dX8_put_23 : decode cX8_put 23 = .ok (.getfield 12, 3) := by decide +kernel
theorem dX8_put_26 : decode cX8_put 26 = .ok (.getfield 62, 3) := by decide +kernel
theorem dX8_put_29 : decode cX8_put 29 = .ok (.bipush 40, 2) := by decide +kernel
theorem dX8_put_31 : decode cX8_put 31 = .ok (.if_icmp .lt 6, 3) := by decide +kernel
theorem dX8_put_34 : decode cX8_put 34 = .ok (.bipush (-3), 2) := by decide +kernel
theorem dX8_put_36 : decode cX8_put 36 = .ok (.ireturn, 1) := by decide +kernel
theorem dX8_put_37 : decode cX8_put 37 = .ok (.aload_n 0, 1) := by decide +kernel
theorem dX8_put_38 : decode cX8_put 38 = .ok (.getfield 50, 3) := by decide +kernel
theorem dX8_put_41 : decode cX8_put 41 = .ok (.aload_n 0, 1) := by decide +kernel
theorem dX8_put_42 : decode cX8_put 42 = .ok (.getfield 12, 3) := by decide +kernel
theorem dX8_put_45 : decode cX8_put 45 = .ok (.invokevirtual 66, 3) := by decide +kernel
theorem dX8_put_48 : decode cX8_put 48 = .ok (.aload_n 0, 1) := by decide +kernel
theorem dX8_put_49 : decode cX8_put 49 = .ok (.getfield 12, 3) := by decide +kernel
theorem dX8_put_52 : decode cX8_put 52 = .ok (.iload_n 1, 1) := by decide +kernel
theorem dX8_put_53 : decode cX8_put 53 = .ok (.invokevirtual 70, 3) := by decide +kernel
theorem dX8_put_56 : decode cX8_put 56 = .ok (.aload_n 0, 1) := by decide +kernel
theorem dX8_put_57 : decode cX8_put 57 = .ok (.getfield 19, 3) := by decide +kernel
theorem dX8_put_60 : decode cX8_put 60 = .ok (.iload_n 1, 1) := by decide +kernel
theorem dX8_put_61 : decode cX8_put 61 = .ok (.invokevirtual 74, 3) := by decide +kernel
theorem dX8_put_64 : decode cX8_put 64 = .ok (.ireturn, 1) := by decide +kernel
theorem dX8_end_0 : decode cX8_end 0 = .ok (.aload_n 0, 1) := by decide +kernel
theorem dX8_end_1 : decode cX8_end 1 = .ok (.getfield 12, 3) := by decide +kernel
theorem dX8_end_4 : decode cX8_end 4 = .ok (.getfield 58, 3) := by decide +kernel
theorem dX8_end_7 : decode cX8_end 7 = .ok (.ifCond .eq 6, 3) := by decide +kernel
theorem dX8_end_10 : decode cX8_end 10 = .ok (.bipush (-2), 2) := by decide +kernel
theorem dX8_end_12 : decode cX8_end 12 = .ok (.ireturn, 1) := by decide +kernel
theorem dX8_end_13 : decode cX8_end 13 = .ok (.aload_n 0, 1) := by decide +kernel
theorem dX8_end_14 : decode cX8_end 14 = .ok (.getfield 50, 3) := by decide +kernel
theorem dX8_end_17 : decode cX8_end 17 = .ok (.aload_n 0, 1) := by decide +kernel
theorem dX8_end_18 : decode cX8_end 18 = .ok (.getfield 12, 3) := by decide +kernel
theorem dX8_end_21 : decode cX8_end 21 = .ok (.invokevirtual 66, 3) := by decide +kernel
theorem dX8_end_24 : decode cX8_end 24 = .ok (.aload_n 0, 1) := by decide +kernel
theorem dX8_end_25 : decode cX8_end 25 = .ok (.getfield 12, 3) := by decide +kernel
theorem dX8_end_28 : decode cX8_end 28 = .ok (.iconst 1, 1) := by decide +kernel
theorem dX8_end_29 : decode cX8_end 29 = .ok (.putfield 58, 3) := by decide +kernel
theorem dX8_end_32 : decode cX8_end 32 = .ok (.aload_n 0, 1) := by decide +kernel
theorem dX8_end_33 : decode cX8_end 33 = .ok (.getfield 19, 3) := by decide +kernel
theorem dX8_end_36 : decode cX8_end 36 = .ok (.invokevirtual 78, 3) := by decide +kernel
theorem dX8_end_39 : decode cX8_end 39 = .ok (.aload_n 0, 1) := by decide +kernel
theorem dX8_end_40 : decode cX8_end 40 = .ok (.getfield 19, 3) := by decide +kernel
theorem dX8_end_43 : decode cX8_end 43 = .ok (.getfield 81, 3) := by decide +kernel
theorem dX8_end_46 : decode cX8_end 46 = .ok (.getfield 84, 3) := by decide +kernel
theorem dX8_end_49 : decode cX8_end 49 = .ok (.ireturn, 1) := by decide +kernel
theorem dX8_begin_0 : decode cX8_begin 0 = .ok (.aload_n 0, 1) := by decide +kernel
theorem dX8_begin_1 : decode cX8_begin 1 = .ok (.getfield 12, 3) := by decide +kernel
theorem dX8_begin_4 : decode cX8_begin 4 = .ok (.getfield 62, 3) := by decide +kernel
theorem dX8_begin_7 : decode cX8_begin 7 = .ok (.istore_n 1, 1) := by decide +kernel
theorem dX8_begin_8 : decode cX8_begin 8 = .ok (.aload_n 0, 1) := by decide +kernel
theorem dX8_begin_9 : decode cX8_begin 9 = .ok (.getfield 50, 3) := by decide +kernel
theorem dX8_begin_12 : decode cX8_begin 12 = .ok (.aload_n 0, 1) := by decide +kernel
theorem dX8_begin_13 : decode cX8_begin 13 = .ok (.getfield 12, 3) := by decide +kernel
theorem dX8_begin_16 : decode cX8_begin 16 = .ok (.invokevirtual 66, 3) := by decide +kernel
theorem dX8_begin_19 : decode cX8_begin 19 = .ok (.aload_n 0, 1) := by decide +kernel
theorem dX8_begin_20 : decode cX8_begin 20 = .ok (.getfield 12, 3) := by decide +kernel
theorem dX8_begin_23 : decode cX8_begin 23 = .ok (.invokevirtual 85, 3) := by decide +kernel
theorem dX8_begin_26 : decode cX8_begin 26 = .ok (.aload_n 0, 1) := by decide +kernel
theorem dX8_begin_27 : decode cX8_begin 27 = .ok (.invokevirtual 88, 3) := by decide +kernel
theorem dX8_begin_30 : decode cX8_begin 30 = .ok (.iload_n 1, 1) := by decide +kernel
theorem dX8_begin_31 : decode cX8_begin 31 = .ok (.ireturn, 1) := by decide +kernel
theorem dX8_drop_0 : decode cX8_drop 0 = .ok (.iload_n 1, 1) := by decide +kernel
theorem dX8_drop_1 : decode cX8_drop 1 = .ok (.iconst 1, 1) := by decide +kernel
theorem dX8_drop_2 : decode cX8_drop 2 = .ok (.if_icmp .lt 9, 3) := by decide +kernel
theorem dX8_drop_5 : decode cX8_drop 5 = .ok (.iload_n 1, 1) := by decide +kernel
theorem dX8_drop_6 : decode cX8_drop 6 = .ok (.bipush 40, 2) := by decide +kernel
theorem dX8_drop_8 : decode cX8_drop 8 = .ok (.if_icmp .le 5, 3) := by decide +kernel
theorem dX8_drop_11 : decode cX8_drop 11 = .ok (.iconst (-1), 1) := by decide +kernel
theorem dX8_drop_12 : decode cX8_drop 12 = .ok (.ireturn, 1) := by decide +kernel
theorem dX8_drop_13 : decode cX8_drop 13 = .ok (.iload_n 1, 1) := by decide +kernel
theorem dX8_drop_14 : decode cX8_drop 14 = .ok (.aload_n 0, 1) := by decide +kernel
theorem dX8_drop_15 : decode cX8_drop 15 = .ok (.getfield 12, 3) := by decide +kernel
theorem dX8_drop_18 : decode cX8_drop 18 = .ok (.getfield 62, 3) := by decide +kernel
theorem dX8_drop_21 : decode cX8_drop 21 = .ok (.if_icmp .le 6, 3) := by decide +kernel
theorem dX8_drop_24 : decode cX8_drop 24 = .ok (.bipush (-2), 2) := by decide +kernel
theorem dX8_drop_26 : decode cX8_drop 26 = .ok (.ireturn, 1) := by decide +kernel
theorem dX8_drop_27 : decode cX8_drop 27 = .ok (.aload_n 0, 1) := by decide +kernel
theorem dX8_drop_28 : decode cX8_drop 28 = .ok (.getfield 50, 3) := by decide +kernel
theorem dX8_drop_31 : decode cX8_drop 31 = .ok (.aload_n 0, 1) := by decide +kernel
theorem dX8_drop_32 : decode cX8_drop 32 = .ok (.getfield 12, 3) := by decide +kernel
theorem dX8_drop_35 : decode cX8_drop 35 = .ok (.invokevirtual 66, 3) := by decide +kernel
theorem dX8_drop_38 : decode cX8_drop 38 = .ok (.aload_n 0, 1) := by decide +kernel
theorem dX8_drop_39 : decode cX8_drop 39 = .ok (.getfield 12, 3) := by decide +kernel
theorem dX8_drop_42 : decode cX8_drop 42 = .ok (.iload_n 1, 1) := by decide +kernel
theorem dX8_drop_43 : decode cX8_drop 43 = .ok (.invokevirtual 91, 3) := by decide +kernel
theorem dX8_drop_46 : decode cX8_drop 46 = .ok (.aload_n 0, 1) := by decide +kernel
theorem dX8_drop_47 : decode cX8_drop 47 = .ok (.invokevirtual 88, 3) := by decide +kernel
theorem dX8_drop_50 : decode cX8_drop 50 = .ok (.aload_n 0, 1) := by decide +kernel
theorem dX8_drop_51 : decode cX8_drop 51 = .ok (.getfield 19, 3) := by decide +kernel
theorem dX8_drop_54 : decode cX8_drop 54 = .ok (.getfield 81, 3) := by decide +kernel
theorem dX8_drop_57 : decode cX8_drop 57 = .ok (.getfield 84, 3) := by decide +kernel
theorem dX8_drop_60 : decode cX8_drop 60 = .ok (.ireturn, 1) := by decide +kernel
theorem dX8_mend_0 : decode cX8_mend 0 = .ok (.iload_n 1, 1) := by decide +kernel
theorem dX8_mend_1 : decode cX8_mend 1 = .ok (.ifCond .lt 10, 3) := by decide +kernel
theorem dX8_mend_4 : decode cX8_mend 4 = .ok (.iload_n 2, 1) := by decide +kernel
theorem dX8_mend_5 : decode cX8_mend 5 = .ok (.invokestatic 54, 3) := by decide +kernel
theorem dX8_mend_8 : decode cX8_mend 8 = .ok (.ifCond .ne 5, 3) := by decide +kernel
theorem dX8_mend_11 : decode cX8_mend 11 = .ok (.iconst (-1), 1) := by decide +kernel
theorem dX8_mend_12 : decode cX8_mend 12 = .ok (.ireturn, 1) := by decide +kernel
theorem dX8_mend_13 : decode cX8_mend 13 = .ok (.iload_n 1, 1) := by decide +kernel
theorem dX8_mend_14 : decode cX8_mend 14 = .ok (.aload_n 0, 1) := by decide +kernel
theorem dX8_mend_15 : decode cX8_mend 15 = .ok (.getfield 12, 3) := by decide +kernel
theorem dX8_mend_18 : decode cX8_mend 18 = .ok (.getfield 62, 3) := by decide +kernel
theorem dX8_mend_21 : decode cX8_mend 21 = .ok (.if_icmp .lt 6, 3) := by decide +kernel
theorem dX8_mend_24 : decode cX8_mend 24 = .ok (.bipush (-2), 2) := by decide +kernel
theorem dX8_mend_26 : decode cX8_mend 26 = .ok (.ireturn, 1) := by decide +kernel
theorem dX8_mend_27 : decode cX8_mend 27 = .ok (.aload_n 0, 1) := by decide +kernel
theorem dX8_mend_28 : decode cX8_mend 28 = .ok (.getfield 50, 3) := by decide +kernel
theorem dX8_mend_31 : decode cX8_mend 31 = .ok (.aload_n 0, 1) := by decide +kernel
theorem dX8_mend_32 : decode cX8_mend 32 = .ok (.getfield 12, 3) := by decide +kernel
theorem dX8_mend_35 : decode cX8_mend 35 = .ok (.invokevirtual 66, 3) := by decide +kernel
theorem dX8_mend_38 : decode cX8_mend 38 = .ok (.aload_n 0, 1) := by decide +kernel
theorem dX8_mend_39 : decode cX8_mend 39 = .ok (.getfield 12, 3) := by decide +kernel
theorem dX8_mend_42 : decode cX8_mend 42 = .ok (.iload_n 1, 1) := by decide +kernel
theorem dX8_mend_43 : decode cX8_mend 43 = .ok (.iload_n 2, 1) := by decide +kernel
theorem dX8_mend_44 : decode cX8_mend 44 = .ok (.invokevirtual 94, 3) := by decide +kernel
theorem dX8_mend_47 : decode cX8_mend 47 = .ok (.aload_n 0, 1) := by decide +kernel
theorem dX8_mend_48 : decode cX8_mend 48 = .ok (.invokevirtual 88, 3) := by decide +kernel
theorem dX8_mend_51 : decode cX8_mend 51 = .ok (.aload_n 0, 1) := by decide +kernel
theorem dX8_mend_52 : decode cX8_mend 52 = .ok (.getfield 19, 3) := by decide +kernel
theorem dX8_mend_55 : decode cX8_mend 55 = .ok (.getfield 81, 3) := by decide +kernel
theorem dX8_mend_58 : decode cX8_mend 58 = .ok (.getfield 84, 3) := by decide +kernel
theorem dX8_mend_61 : decode cX8_mend 61 = .ok (.ireturn, 1) := by decide +kernel
theorem dX8_set_0 : decode cX8_set 0 = .ok (.iload_n 1, 1) := by decide +kernel
theorem dX8_set_1 : decode cX8_set 1 = .ok (.iload_n 2, 1) := by decide +kernel
theorem dX8_set_2 : decode cX8_set 2 = .ok (.invokestatic 98, 3) := by decide +kernel
theorem dX8_set_5 : decode cX8_set 5 = .ok (.ifCond .ne 5, 3) := by decide +kernel
theorem dX8_set_8 : decode cX8_set 8 = .ok (.iconst (-1), 1) := by decide +kernel
theorem dX8_set_9 : decode cX8_set 9 = .ok (.ireturn, 1) := by decide +kernel
theorem dX8_set_10 : decode cX8_set 10 = .ok (.aload_n 0, 1) := by decide +kernel
theorem dX8_set_11 : decode cX8_set 11 = .ok (.getfield 50, 3) := by decide +kernel
theorem dX8_set_14 : decode cX8_set 14 = .ok (.aload_n 0, 1) := by decide +kernel
theorem dX8_set_15 : decode cX8_set 15 = .ok (.getfield 12, 3) := by decide +kernel
theorem dX8_set_18 : decode cX8_set 18 = .ok (.invokevirtual 66, 3) := by decide +kernel
theorem dX8_set_21 : decode cX8_set 21 = .ok (.iload_n 1, 1) := by decide +kernel
theorem dX8_set_22 : decode cX8_set 22 = .ok (.ifCond .ne 13, 3) := by decide +kernel
theorem dX8_set_25 : decode cX8_set 25 = .ok (.aload_n 0, 1) := by decide +kernel
theorem dX8_set_26 : decode cX8_set 26 = .ok (.getfield 12, 3) := by decide +kernel
theorem dX8_set_29 : decode cX8_set 29 = .ok (.getfield 102, 3) := by decide +kernel
theorem dX8_set_32 : decode cX8_set 32 = .ok (.goto 10, 3) := by decide +kernel
theorem dX8_set_35 : decode cX8_set 35 = .ok (.aload_n 0, 1) := by decide +kernel
theorem dX8_set_36 : decode cX8_set 36 = .ok (.getfield 12, 3) := by decide +kernel
theorem dX8_set_39 : decode cX8_set 39 = .ok (.getfield 105, 3) := by decide +kernel
theorem dX8_set_42 : decode cX8_set 42 = .ok (.istore_n 3, 1) := by decide +kernel
theorem dX8_set_43 : decode cX8_set 43 = .ok (.iload_n 1, 1) := by decide +kernel
theorem dX8_set_44 : decode cX8_set 44 = .ok (.ifCond .ne 14, 3) := by decide +kernel
theorem dX8_set_47 : decode cX8_set 47 = .ok (.aload_n 0, 1) := by decide +kernel
theorem dX8_set_48 : decode cX8_set 48 = .ok (.getfield 12, 3) := by decide +kernel
theorem dX8_set_51 : decode cX8_set 51 = .ok (.iload_n 2, 1) := by decide +kernel
theorem dX8_set_52 : decode cX8_set 52 = .ok (.putfield 102, 3) := by decide +kernel
theorem dX8_set_55 : decode cX8_set 55 = .ok (.goto 11, 3) := by decide +kernel
theorem dX8_set_58 : decode cX8_set 58 = .ok (.aload_n 0, 1) := by decide +kernel
theorem dX8_set_59 : decode cX8_set 59 = .ok (.getfield 12, 3) := by decide +kernel
theorem dX8_set_62 : decode cX8_set 62 = .ok (.iload_n 2, 1) := by decide +kernel
theorem dX8_set_63 : decode cX8_set 63 = .ok (.putfield 105, 3) := by decide +kernel
theorem dX8_set_66 : decode cX8_set 66 = .ok (.aload_n 0, 1) := by decide +kernel
theorem dX8_set_67 : decode cX8_set 67 = .ok (.getfield 12, 3) := by decide +kernel
theorem dX8_set_70 : decode cX8_set 70 = .ok (.invokevirtual 85, 3) := by decide +kernel
theorem dX8_set_73 : decode cX8_set 73 = .ok (.aload_n 0, 1) := by decide +kernel
theorem dX8_set_74 : decode cX8_set 74 = .ok (.invokevirtual 88, 3) := by decide +kernel
theorem dX8_set_77 : decode cX8_set 77 = .ok (.iload_n 3, 1) := by decide +kernel
theorem dX8_set_78 : decode cX8_set 78 = .ok (.ireturn, 1) := by decide +kernel
theorem dX8_letter_0 : decode cX8_letter 0 = .ok (.iload_n 1, 1) := by decide +kernel
theorem dX8_letter_1 : decode cX8_letter 1 = .ok (.ifCond .ge 5, 3) := by decide +kernel
theorem dX8_letter_4 : decode cX8_letter 4 = .ok (.iconst (-1), 1) := by decide +kernel
theorem dX8_letter_5 : decode cX8_letter 5 = .ok (.ireturn, 1) := by decide +kernel
theorem dX8_letter_6 : decode cX8_letter 6 = .ok (.iload_n 1, 1) := by decide +kernel
theorem dX8_letter_7 : decode cX8_letter 7 = .ok (.aload_n 0, 1) := by decide +kernel
theorem dX8_letter_8 : decode cX8_letter 8 = .ok (.getfield 12, 3) := by decide +kernel
theorem dX8_letter_11 : decode cX8_letter 11 = .ok (.getfield 62, 3) := by decide +kernel
theorem dX8_letter_14 : decode cX8_letter 14 = .ok (.if_icmp .ge 14, 3) := by decide +kernel
theorem dX8_letter_17 : decode cX8_letter 17 = .ok (.aload_n 0, 1) := by decide +kernel
theorem dX8_letter_18 : decode cX8_letter 18 = .ok (.getfield 12, 3) := by decide +kernel
theorem dX8_letter_21 : decode cX8_letter 21 = .ok (.iload_n 1, 1) := by decide +kernel
theorem dX8_letter_22 : decode cX8_letter 22 = .ok (.invokevirtual 108, 3) := by decide +kernel
theorem dX8_letter_25 : decode cX8_letter 25 = .ok (.goto 5, 3) := by decide +kernel
theorem dX8_letter_28 : decode cX8_letter 28 = .ok (.bipush (-4), 2) := by decide +kernel
theorem dX8_letter_30 : decode cX8_letter 30 = .ok (.ireturn, 1) := by decide +kernel
theorem dX8_bit_0 : decode cX8_bit 0 = .ok (.iload_n 1, 1) := by decide +kernel
theorem dX8_bit_1 : decode cX8_bit 1 = .ok (.ifCond .ge 5, 3) := by decide +kernel
theorem dX8_bit_4 : decode cX8_bit 4 = .ok (.iconst (-1), 1) := by decide +kernel
theorem dX8_bit_5 : decode cX8_bit 5 = .ok (.ireturn, 1) := by decide +kernel
theorem dX8_bit_6 : decode cX8_bit 6 = .ok (.iload_n 1, 1) := by decide +kernel
theorem dX8_bit_7 : decode cX8_bit 7 = .ok (.aload_n 0, 1) := by decide +kernel
theorem dX8_bit_8 : decode cX8_bit 8 = .ok (.getfield 19, 3) := by decide +kernel
theorem dX8_bit_11 : decode cX8_bit 11 = .ok (.getfield 81, 3) := by decide +kernel
theorem dX8_bit_14 : decode cX8_bit 14 = .ok (.getfield 84, 3) := by decide +kernel
theorem dX8_bit_17 : decode cX8_bit 17 = .ok (.if_icmp .ge 17, 3) := by decide +kernel
theorem dX8_bit_20 : decode cX8_bit 20 = .ok (.aload_n 0, 1) := by decide +kernel
theorem dX8_bit_21 : decode cX8_bit 21 = .ok (.getfield 19, 3) := by decide +kernel
theorem dX8_bit_24 : decode cX8_bit 24 = .ok (.getfield 81, 3) := by decide +kernel
theorem dX8_bit_27 : decode cX8_bit 27 = .ok (.iload_n 1, 1) := by decide +kernel
theorem dX8_bit_28 : decode cX8_bit 28 = .ok (.invokevirtual 111, 3) := by decide +kernel
theorem dX8_bit_31 : decode cX8_bit 31 = .ok (.goto 5, 3) := by decide +kernel
theorem dX8_bit_34 : decode cX8_bit 34 = .ok (.bipush (-4), 2) := by decide +kernel
theorem dX8_bit_36 : decode cX8_bit 36 = .ok (.ireturn, 1) := by decide +kernel
theorem dX8_letterOf_0 : decode cX8_letterOf 0 = .ok (.iload_n 1, 1) := by decide +kernel
theorem dX8_letterOf_1 : decode cX8_letterOf 1 = .ok (.ifCond .lt 18, 3) := by decide +kernel
theorem dX8_letterOf_4 : decode cX8_letterOf 4 = .ok (.iload_n 1, 1) := by decide +kernel
theorem dX8_letterOf_5 : decode cX8_letterOf 5 = .ok (.bipush 8, 2) := by decide +kernel
theorem dX8_letterOf_7 : decode cX8_letterOf 7 = .ok (.if_icmp .gt 12, 3) := by decide +kernel
theorem dX8_letterOf_10 : decode cX8_letterOf 10 = .ok (.iload_n 2, 1) := by decide +kernel
theorem dX8_letterOf_11 : decode cX8_letterOf 11 = .ok (.ifCond .lt 8, 3) := by decide +kernel
theorem dX8_letterOf_14 : decode cX8_letterOf 14 = .ok (.iload_n 2, 1) := by decide +kernel
theorem dX8_letterOf_15 : decode cX8_letterOf 15 = .ok (.iconst 3, 1) := by decide +kernel
theorem dX8_letterOf_16 : decode cX8_letterOf 16 = .ok (.if_icmp .le 5, 3) := by decide +kernel
theorem dX8_letterOf_19 : decode cX8_letterOf 19 = .ok (.iconst (-1), 1) := by decide +kernel
theorem dX8_letterOf_20 : decode cX8_letterOf 20 = .ok (.ireturn, 1) := by decide +kernel
theorem dX8_letterOf_21 : decode cX8_letterOf 21 = .ok (.iload_n 2, 1) := by decide +kernel
theorem dX8_letterOf_22 : decode cX8_letterOf 22 = .ok (.ifCond .ne 15, 3) := by decide +kernel
theorem dX8_letterOf_25 : decode cX8_letterOf 25 = .ok (.aload_n 0, 1) := by decide +kernel
theorem dX8_letterOf_26 : decode cX8_letterOf 26 = .ok (.getfield 19, 3) := by decide +kernel
theorem dX8_letterOf_29 : decode cX8_letterOf 29 = .ok (.getfield 114, 3) := by decide +kernel
theorem dX8_letterOf_32 : decode cX8_letterOf 32 = .ok (.iload_n 1, 1) := by decide +kernel
theorem dX8_letterOf_33 : decode cX8_letterOf 33 = .ok (.invokevirtual 118, 3) := by decide +kernel
theorem dX8_letterOf_36 : decode cX8_letterOf 36 = .ok (.ireturn, 1) := by decide +kernel
theorem dX8_letterOf_37 : decode cX8_letterOf 37 = .ok (.iload_n 2, 1) := by decide +kernel
theorem dX8_letterOf_38 : decode cX8_letterOf 38 = .ok (.iconst 1, 1) := by decide +kernel
theorem dX8_letterOf_39 : decode cX8_letterOf 39 = .ok (.if_icmp .ne 15, 3) := by decide +kernel
theorem dX8_letterOf_42 : decode cX8_letterOf 42 = .ok (.aload_n 0, 1) := by decide +kernel
theorem dX8_letterOf_43 : decode cX8_letterOf 43 = .ok (.getfield 19, 3) := by decide +kernel
theorem dX8_letterOf_46 : decode cX8_letterOf 46 = .ok (.getfield 114, 3) := by decide +kernel
theorem dX8_letterOf_49 : decode cX8_letterOf 49 = .ok (.iload_n 1, 1) := by decide +kernel
theorem dX8_letterOf_50 : decode cX8_letterOf 50 = .ok (.invokevirtual 123, 3) := by decide +kernel
theorem dX8_letterOf_53 : decode cX8_letterOf 53 = .ok (.ireturn, 1) := by decide +kernel
theorem dX8_letterOf_54 : decode cX8_letterOf 54 = .ok (.iload_n 2, 1) := by decide +kernel
theorem dX8_letterOf_55 : decode cX8_letterOf 55 = .ok (.iconst 2, 1) := by decide +kernel
theorem dX8_letterOf_56 : decode cX8_letterOf 56 = .ok (.if_icmp .ne 12, 3) := by decide +kernel
theorem dX8_letterOf_59 : decode cX8_letterOf 59 = .ok (.aload_n 0, 1) := by decide +kernel
theorem dX8_letterOf_60 : decode cX8_letterOf 60 = .ok (.getfield 12, 3) := by decide +kernel
theorem dX8_letterOf_63 : decode cX8_letterOf 63 = .ok (.iload_n 1, 1) := by decide +kernel
theorem dX8_letterOf_64 : decode cX8_letterOf 64 = .ok (.invokevirtual 126, 3) := by decide +kernel
theorem dX8_letterOf_67 : decode cX8_letterOf 67 = .ok (.ireturn, 1) := by decide +kernel
theorem dX8_letterOf_68 : decode cX8_letterOf 68 = .ok (.aload_n 0, 1) := by decide +kernel
theorem dX8_letterOf_69 : decode cX8_letterOf 69 = .ok (.getfield 12, 3) := by decide +kernel
theorem dX8_letterOf_72 : decode cX8_letterOf 72 = .ok (.getfield 58, 3) := by decide +kernel
theorem dX8_letterOf_75 : decode cX8_letterOf 75 = .ok (.ifCond .eq 8, 3) := by decide +kernel
theorem dX8_letterOf_78 : decode cX8_letterOf 78 = .ok (.bipush (-2), 2) := by decide +kernel
theorem dX8_letterOf_80 : decode cX8_letterOf 80 = .ok (.goto 8, 3) := by decide +kernel
theorem dX8_letterOf_83 : decode cX8_letterOf 83 = .ok (.aload_n 0, 1) := by decide +kernel
theorem dX8_letterOf_84 : decode cX8_letterOf 84 = .ok (.iload_n 1, 1) := by decide +kernel
theorem dX8_letterOf_85 : decode cX8_letterOf 85 = .ok (.invokevirtual 129, 3) := by decide +kernel
theorem dX8_letterOf_88 : decode cX8_letterOf 88 = .ok (.ireturn, 1) := by decide +kernel
theorem dX8_count_0 : decode cX8_count 0 = .ok (.iload_n 1, 1) := by decide +kernel
theorem dX8_count_1 : decode cX8_count 1 = .ok (.tableswitch 194 0 12 #[67, 75, 86, 94, 105, 116, 127, 138, 154, 162, 170, 178, 186], 67) := by decide +kernel
theorem dX8_count_68 : decode cX8_count 68 = .ok (.aload_n 0, 1) := by decide +kernel
theorem dX8_count_69 : decode cX8_count 69 = .ok (.getfield 12, 3) := by decide +kernel
theorem dX8_count_72 : decode cX8_count 72 = .ok (.getfield 62, 3) := by decide +kernel
theorem dX8_count_75 : decode cX8_count 75 = .ok (.ireturn, 1) := by decide +kernel
theorem dX8_count_76 : decode cX8_count 76 = .ok (.aload_n 0, 1) := by decide +kernel
theorem dX8_count_77 : decode cX8_count 77 = .ok (.getfield 19, 3) := by decide +kernel
theorem dX8_count_80 : decode cX8_count 80 = .ok (.getfield 81, 3) := by decide +kernel
theorem dX8_count_83 : decode cX8_count 83 = .ok (.getfield 84, 3) := by decide +kernel
theorem dX8_count_86 : decode cX8_count 86 = .ok (.ireturn, 1) := by decide +kernel
theorem dX8_count_87 : decode cX8_count 87 = .ok (.aload_n 0, 1) := by decide +kernel
theorem dX8_count_88 : decode cX8_count 88 = .ok (.getfield 19, 3) := by decide +kernel
theorem dX8_count_91 : decode cX8_count 91 = .ok (.getfield 132, 3) := by decide +kernel
theorem dX8_count_94 : decode cX8_count 94 = .ok (.ireturn, 1) := by decide +kernel
theorem dX8_count_95 : decode cX8_count 95 = .ok (.aload_n 0, 1) := by decide +kernel
theorem dX8_count_96 : decode cX8_count 96 = .ok (.getfield 19, 3) := by decide +kernel
theorem dX8_count_99 : decode cX8_count 99 = .ok (.getfield 135, 3) := by decide +kernel
theorem dX8_count_102 : decode cX8_count 102 = .ok (.getfield 139, 3) := by decide +kernel
theorem dX8_count_105 : decode cX8_count 105 = .ok (.ireturn, 1) := by decide +kernel
theorem dX8_count_106 : decode cX8_count 106 = .ok (.aload_n 0, 1) := by decide +kernel
theorem dX8_count_107 : decode cX8_count 107 = .ok (.getfield 19, 3) := by decide +kernel
theorem dX8_count_110 : decode cX8_count 110 = .ok (.getfield 135, 3) := by decide +kernel
theorem dX8_count_113 : decode cX8_count 113 = .ok (.getfield 144, 3) := by decide +kernel
theorem dX8_count_116 : decode cX8_count 116 = .ok (.ireturn, 1) := by decide +kernel
theorem dX8_count_117 : decode cX8_count 117 = .ok (.aload_n 0, 1) := by decide +kernel
theorem dX8_count_118 : decode cX8_count 118 = .ok (.getfield 19, 3) := by decide +kernel
theorem dX8_count_121 : decode cX8_count 121 = .ok (.getfield 114, 3) := by decide +kernel
theorem dX8_count_124 : decode cX8_count 124 = .ok (.getfield 147, 3) := by decide +kernel
theorem dX8_count_127 : decode cX8_count 127 = .ok (.ireturn, 1) := by decide +kernel
theorem dX8_count_128 : decode cX8_count 128 = .ok (.aload_n 0, 1) := by decide +kernel
theorem dX8_count_129 : decode cX8_count 129 = .ok (.getfield 19, 3) := by decide +kernel
theorem dX8_count_132 : decode cX8_count 132 = .ok (.getfield 114, 3) := by decide +kernel
theorem dX8_count_135 : decode cX8_count 135 = .ok (.getfield 150, 3) := by decide +kernel
theorem dX8_count_138 : decode cX8_count 138 = .ok (.ireturn, 1) := by decide +kernel
theorem dX8_count_139 : decode cX8_count 139 = .ok (.aload_n 0, 1) := by decide +kernel
theorem dX8_count_140 : decode cX8_count 140 = .ok (.getfield 12, 3) := by decide +kernel
theorem dX8_count_143 : decode cX8_count 143 = .ok (.getfield 58, 3) := by decide +kernel
theorem dX8_count_146 : decode cX8_count 146 = .ok (.ifCond .eq 7, 3) := by decide +kernel
theorem dX8_count_149 : decode cX8_count 149 = .ok (.iconst 1, 1) := by decide +kernel
theorem dX8_count_150 : decode cX8_count 150 = .ok (.goto 4, 3) := by decide +kernel
theorem dX8_count_153 : decode cX8_count 153 = .ok (.iconst 0, 1) := by decide +kernel
theorem dX8_count_154 : decode cX8_count 154 = .ok (.ireturn, 1) := by decide +kernel
theorem dX8_count_155 : decode cX8_count 155 = .ok (.aload_n 0, 1) := by decide +kernel
theorem dX8_count_156 : decode cX8_count 156 = .ok (.getfield 50, 3) := by decide +kernel
theorem dX8_count_159 : decode cX8_count 159 = .ok (.getfield 153, 3) := by decide +kernel
theorem dX8_count_162 : decode cX8_count 162 = .ok (.ireturn, 1) := by decide +kernel
theorem dX8_count_163 : decode cX8_count 163 = .ok (.aload_n 0, 1) := by decide +kernel
theorem dX8_count_164 : decode cX8_count 164 = .ok (.getfield 36, 3) := by decide +kernel
theorem dX8_count_167 : decode cX8_count 167 = .ok (.getfield 154, 3) := by decide +kernel
theorem dX8_count_170 : decode cX8_count 170 = .ok (.ireturn, 1) := by decide +kernel
theorem dX8_count_171 : decode cX8_count 171 = .ok (.aload_n 0, 1) := by decide +kernel
theorem dX8_count_172 : decode cX8_count 172 = .ok (.getfield 12, 3) := by decide +kernel
theorem dX8_count_175 : decode cX8_count 175 = .ok (.getfield 102, 3) := by decide +kernel
theorem dX8_count_178 : decode cX8_count 178 = .ok (.ireturn, 1) := by decide +kernel
theorem dX8_count_179 : decode cX8_count 179 = .ok (.aload_n 0, 1) := by decide +kernel
theorem dX8_count_180 : decode cX8_count 180 = .ok (.getfield 12, 3) := by decide +kernel
theorem dX8_count_183 : decode cX8_count 183 = .ok (.getfield 105, 3) := by decide +kernel
theorem dX8_count_186 : decode cX8_count 186 = .ok (.ireturn, 1) := by decide +kernel
theorem dX8_count_187 : decode cX8_count 187 = .ok (.aload_n 0, 1) := by decide +kernel
theorem dX8_count_188 : decode cX8_count 188 = .ok (.getfield 19, 3) := by decide +kernel
theorem dX8_count_191 : decode cX8_count 191 = .ok (.invokevirtual 155, 3) := by decide +kernel
theorem dX8_count_194 : decode cX8_count 194 = .ok (.ireturn, 1) := by decide +kernel
theorem dX8_count_195 : decode cX8_count 195 = .ok (.iconst (-1), 1) := by decide +kernel
theorem dX8_count_196 : decode cX8_count 196 = .ok (.ireturn, 1) := by decide +kernel
theorem dX8_cost_0 : decode cX8_cost 0 = .ok (.iload_n 1, 1) := by decide +kernel
theorem dX8_cost_1 : decode cX8_cost 1 = .ok (.ifCond .ge 5, 3) := by decide +kernel
theorem dX8_cost_4 : decode cX8_cost 4 = .ok (.iconst (-1), 1) := by decide +kernel
theorem dX8_cost_5 : decode cX8_cost 5 = .ok (.ireturn, 1) := by decide +kernel
theorem dX8_cost_6 : decode cX8_cost 6 = .ok (.iload_n 1, 1) := by decide +kernel
theorem dX8_cost_7 : decode cX8_cost 7 = .ok (.aload_n 0, 1) := by decide +kernel
theorem dX8_cost_8 : decode cX8_cost 8 = .ok (.getfield 12, 3) := by decide +kernel
theorem dX8_cost_11 : decode cX8_cost 11 = .ok (.getfield 62, 3) := by decide +kernel
theorem dX8_cost_14 : decode cX8_cost 14 = .ok (.if_icmp .ge 14, 3) := by decide +kernel
theorem dX8_cost_17 : decode cX8_cost 17 = .ok (.aload_n 0, 1) := by decide +kernel
theorem dX8_cost_18 : decode cX8_cost 18 = .ok (.getfield 19, 3) := by decide +kernel
theorem dX8_cost_21 : decode cX8_cost 21 = .ok (.iload_n 1, 1) := by decide +kernel
theorem dX8_cost_22 : decode cX8_cost 22 = .ok (.invokevirtual 159, 3) := by decide +kernel
theorem dX8_cost_25 : decode cX8_cost 25 = .ok (.goto 5, 3) := by decide +kernel
theorem dX8_cost_28 : decode cX8_cost 28 = .ok (.bipush (-4), 2) := by decide +kernel
theorem dX8_cost_30 : decode cX8_cost 30 = .ok (.ireturn, 1) := by decide +kernel
theorem dX8_bitsBy_0 : decode cX8_bitsBy 0 = .ok (.iload_n 1, 1) := by decide +kernel
theorem dX8_bitsBy_1 : decode cX8_bitsBy 1 = .ok (.invokestatic 162, 3) := by decide +kernel
theorem dX8_bitsBy_4 : decode cX8_bitsBy 4 = .ok (.ifCond .ne 5, 3) := by decide +kernel
theorem dX8_bitsBy_7 : decode cX8_bitsBy 7 = .ok (.iconst (-1), 1) := by decide +kernel
theorem dX8_bitsBy_8 : decode cX8_bitsBy 8 = .ok (.ireturn, 1) := by decide +kernel
theorem dX8_bitsBy_9 : decode cX8_bitsBy 9 = .ok (.aload_n 0, 1) := by decide +kernel
theorem dX8_bitsBy_10 : decode cX8_bitsBy 10 = .ok (.iload_n 1, 1) := by decide +kernel
theorem dX8_bitsBy_11 : decode cX8_bitsBy 11 = .ok (.invokevirtual 165, 3) := by decide +kernel
theorem dX8_bitsBy_14 : decode cX8_bitsBy 14 = .ok (.ireturn, 1) := by decide +kernel
theorem dX8_bestPace_0 : decode cX8_bestPace 0 = .ok (.iconst 1, 1) := by decide +kernel
theorem dX8_bestPace_1 : decode cX8_bestPace 1 = .ok (.istore_n 1, 1) := by decide +kernel
theorem dX8_bestPace_2 : decode cX8_bestPace 2 = .ok (.aload_n 0, 1) := by decide +kernel
theorem dX8_bestPace_3 : decode cX8_bestPace 3 = .ok (.iload_n 1, 1) := by decide +kernel
theorem dX8_bestPace_4 : decode cX8_bestPace 4 = .ok (.invokevirtual 165, 3) := by decide +kernel
theorem dX8_bestPace_7 : decode cX8_bestPace 7 = .ok (.istore_n 2, 1) := by decide +kernel
theorem dX8_bestPace_8 : decode cX8_bestPace 8 = .ok (.iconst 2, 1) := by decide +kernel
theorem dX8_bestPace_9 : decode cX8_bestPace 9 = .ok (.istore_n 3, 1) := by decide +kernel
theorem dX8_bestPace_10 : decode cX8_bestPace 10 = .ok (.iload_n 3, 1) := by decide +kernel
theorem dX8_bestPace_11 : decode cX8_bestPace 11 = .ok (.bipush 64, 2) := by decide +kernel
theorem dX8_bestPace_13 : decode cX8_bestPace 13 = .ok (.if_icmp .gt 27, 3) := by decide +kernel
theorem dX8_bestPace_16 : decode cX8_bestPace 16 = .ok (.aload_n 0, 1) := by decide +kernel
theorem dX8_bestPace_17 : decode cX8_bestPace 17 = .ok (.iload_n 3, 1) := by decide +kernel
theorem dX8_bestPace_18 : decode cX8_bestPace 18 = .ok (.invokevirtual 165, 3) := by decide +kernel
theorem dX8_bestPace_21 : decode cX8_bestPace 21 = .ok (.istore 4, 2) := by decide +kernel
theorem dX8_bestPace_23 : decode cX8_bestPace 23 = .ok (.iload 4, 2) := by decide +kernel
theorem dX8_bestPace_25 : decode cX8_bestPace 25 = .ok (.iload_n 2, 1) := by decide +kernel
theorem dX8_bestPace_26 : decode cX8_bestPace 26 = .ok (.if_icmp .ge 8, 3) := by decide +kernel
theorem dX8_bestPace_29 : decode cX8_bestPace 29 = .ok (.iload 4, 2) := by decide +kernel
theorem dX8_bestPace_31 : decode cX8_bestPace 31 = .ok (.istore_n 2, 1) := by decide +kernel
theorem dX8_bestPace_32 : decode cX8_bestPace 32 = .ok (.iload_n 3, 1) := by decide +kernel
theorem dX8_bestPace_33 : decode cX8_bestPace 33 = .ok (.istore_n 1, 1) := by decide +kernel
theorem dX8_bestPace_34 : decode cX8_bestPace 34 = .ok (.iinc 3 1, 3) := by decide +kernel
theorem dX8_bestPace_37 : decode cX8_bestPace 37 = .ok (.goto (-27), 3) := by decide +kernel
theorem dX8_bestPace_40 : decode cX8_bestPace 40 = .ok (.iload_n 1, 1) := by decide +kernel
theorem dX8_bestPace_41 : decode cX8_bestPace 41 = .ok (.ireturn, 1) := by decide +kernel
theorem dX8_readBack_0 : decode cX8_readBack 0 = .ok (.iload_n 1, 1) := by decide +kernel
theorem dX8_readBack_1 : decode cX8_readBack 1 = .ok (.ifCond .lt 8, 3) := by decide +kernel
theorem dX8_readBack_4 : decode cX8_readBack 4 = .ok (.iload_n 1, 1) := by decide +kernel
theorem dX8_readBack_5 : decode cX8_readBack 5 = .ok (.iconst 2, 1) := by decide +kernel
theorem dX8_readBack_6 : decode cX8_readBack 6 = .ok (.if_icmp .le 5, 3) := by decide +kernel
theorem dX8_readBack_9 : decode cX8_readBack 9 = .ok (.iconst (-1), 1) := by decide +kernel
theorem dX8_readBack_10 : decode cX8_readBack 10 = .ok (.ireturn, 1) := by decide +kernel
theorem dX8_readBack_11 : decode cX8_readBack 11 = .ok (.aload_n 0, 1) := by decide +kernel
theorem dX8_readBack_12 : decode cX8_readBack 12 = .ok (.getfield 29, 3) := by decide +kernel
theorem dX8_readBack_15 : decode cX8_readBack 15 = .ok (.aload_n 0, 1) := by decide +kernel
theorem dX8_readBack_16 : decode cX8_readBack 16 = .ok (.getfield 19, 3) := by decide +kernel
theorem dX8_readBack_19 : decode cX8_readBack 19 = .ok (.getfield 81, 3) := by decide +kernel
theorem dX8_readBack_22 : decode cX8_readBack 22 = .ok (.aload_n 0, 1) := by decide +kernel
theorem dX8_readBack_23 : decode cX8_readBack 23 = .ok (.getfield 12, 3) := by decide +kernel
theorem dX8_readBack_26 : decode cX8_readBack 26 = .ok (.getfield 102, 3) := by decide +kernel
theorem dX8_readBack_29 : decode cX8_readBack 29 = .ok (.aload_n 0, 1) := by decide +kernel
theorem dX8_readBack_30 : decode cX8_readBack 30 = .ok (.getfield 12, 3) := by decide +kernel
theorem dX8_readBack_33 : decode cX8_readBack 33 = .ok (.getfield 105, 3) := by decide +kernel
theorem dX8_readBack_36 : decode cX8_readBack 36 = .ok (.invokevirtual 168, 3) := by decide +kernel
theorem dX8_readBack_39 : decode cX8_readBack 39 = .ok (.iload_n 1, 1) := by decide +kernel
theorem dX8_readBack_40 : decode cX8_readBack 40 = .ok (.ifCond .ne 11, 3) := by decide +kernel
theorem dX8_readBack_43 : decode cX8_readBack 43 = .ok (.aload_n 0, 1) := by decide +kernel
theorem dX8_readBack_44 : decode cX8_readBack 44 = .ok (.getfield 29, 3) := by decide +kernel
theorem dX8_readBack_47 : decode cX8_readBack 47 = .ok (.getfield 172, 3) := by decide +kernel
theorem dX8_readBack_50 : decode cX8_readBack 50 = .ok (.ireturn, 1) := by decide +kernel
theorem dX8_readBack_51 : decode cX8_readBack 51 = .ok (.iload_n 1, 1) := by decide +kernel
theorem dX8_readBack_52 : decode cX8_readBack 52 = .ok (.iconst 1, 1) := by decide +kernel
theorem dX8_readBack_53 : decode cX8_readBack 53 = .ok (.if_icmp .ne 19, 3) := by decide +kernel
theorem dX8_readBack_56 : decode cX8_readBack 56 = .ok (.aload_n 0, 1) := by decide +kernel
theorem dX8_readBack_57 : decode cX8_readBack 57 = .ok (.getfield 29, 3) := by decide +kernel
theorem dX8_readBack_60 : decode cX8_readBack 60 = .ok (.getfield 173, 3) := by decide +kernel
theorem dX8_readBack_63 : decode cX8_readBack 63 = .ok (.ifCond .eq 7, 3) := by decide +kernel
theorem dX8_readBack_66 : decode cX8_readBack 66 = .ok (.iconst 1, 1) := by decide +kernel
theorem dX8_readBack_67 : decode cX8_readBack 67 = .ok (.goto 4, 3) := by decide +kernel
theorem dX8_readBack_70 : decode cX8_readBack 70 = .ok (.iconst 0, 1) := by decide +kernel
theorem dX8_readBack_71 : decode cX8_readBack 71 = .ok (.ireturn, 1) := by decide +kernel
theorem dX8_readBack_72 : decode cX8_readBack 72 = .ok (.aload_n 0, 1) := by decide +kernel
theorem dX8_readBack_73 : decode cX8_readBack 73 = .ok (.invokevirtual 176, 3) := by decide +kernel
theorem dX8_readBack_76 : decode cX8_readBack 76 = .ok (.ireturn, 1) := by decide +kernel
theorem dX8_undo_0 : decode cX8_undo 0 = .ok (.aload_n 0, 1) := by decide +kernel
theorem dX8_undo_1 : decode cX8_undo 1 = .ok (.getfield 50, 3) := by decide +kernel
theorem dX8_undo_4 : decode cX8_undo 4 = .ok (.getfield 153, 3) := by decide +kernel
theorem dX8_undo_7 : decode cX8_undo 7 = .ok (.ifCond .ne 6, 3) := by decide +kernel
theorem dX8_undo_10 : decode cX8_undo 10 = .ok (.bipush (-2), 2) := by decide +kernel
theorem dX8_undo_12 : decode cX8_undo 12 = .ok (.ireturn, 1) := by decide +kernel
theorem dX8_undo_13 : decode cX8_undo 13 = .ok (.aload_n 0, 1) := by decide +kernel
theorem dX8_undo_14 : decode cX8_undo 14 = .ok (.getfield 50, 3) := by decide +kernel
theorem dX8_undo_17 : decode cX8_undo 17 = .ok (.aload_n 0, 1) := by decide +kernel
theorem dX8_undo_18 : decode cX8_undo 18 = .ok (.getfield 12, 3) := by decide +kernel
theorem dX8_undo_21 : decode cX8_undo 21 = .ok (.invokevirtual 179, 3) := by decide +kernel
theorem dX8_undo_24 : decode cX8_undo 24 = .ok (.aload_n 0, 1) := by decide +kernel
theorem dX8_undo_25 : decode cX8_undo 25 = .ok (.invokevirtual 88, 3) := by decide +kernel
theorem dX8_undo_28 : decode cX8_undo 28 = .ok (.aload_n 0, 1) := by decide +kernel
theorem dX8_undo_29 : decode cX8_undo 29 = .ok (.getfield 50, 3) := by decide +kernel
theorem dX8_undo_32 : decode cX8_undo 32 = .ok (.getfield 153, 3) := by decide +kernel
theorem dX8_undo_35 : decode cX8_undo 35 = .ok (.ireturn, 1) := by decide +kernel
theorem dX8_type_0 : decode cX8_type 0 = .ok (.iload_n 1, 1) := by decide +kernel
theorem dX8_type_1 : decode cX8_type 1 = .ok (.bipush 32, 2) := by decide +kernel
theorem dX8_type_3 : decode cX8_type 3 = .ok (.if_icmp .lt 9, 3) := by decide +kernel
theorem dX8_type_6 : decode cX8_type 6 = .ok (.iload_n 1, 1) := by decide +kernel
theorem dX8_type_7 : decode cX8_type 7 = .ok (.bipush 126, 2) := by decide +kernel
theorem dX8_type_9 : decode cX8_type 9 = .ok (.if_icmp .le 5, 3) := by decide +kernel
theorem dX8_type_12 : decode cX8_type 12 = .ok (.iconst (-1), 1) := by decide +kernel
theorem dX8_type_13 : decode cX8_type 13 = .ok (.ireturn, 1) := by decide +kernel
theorem dX8_type_14 : decode cX8_type 14 = .ok (.aload_n 0, 1) := by decide +kernel
theorem dX8_type_15 : decode cX8_type 15 = .ok (.getfield 36, 3) := by decide +kernel
theorem dX8_type_18 : decode cX8_type 18 = .ok (.getfield 154, 3) := by decide +kernel
theorem dX8_type_21 : decode cX8_type 21 = .ok (.bipush 120, 2) := by decide +kernel
theorem dX8_type_23 : decode cX8_type 23 = .ok (.if_icmp .lt 6, 3) := by decide +kernel
theorem dX8_type_26 : decode cX8_type 26 = .ok (.bipush (-3), 2) := by decide +kernel
theorem dX8_type_28 : decode cX8_type 28 = .ok (.ireturn, 1) := by decide +kernel
theorem dX8_type_29 : decode cX8_type 29 = .ok (.aload_n 0, 1) := by decide +kernel
theorem dX8_type_30 : decode cX8_type 30 = .ok (.getfield 36, 3) := by decide +kernel
theorem dX8_type_33 : decode cX8_type 33 = .ok (.iload_n 1, 1) := by decide +kernel
theorem dX8_type_34 : decode cX8_type 34 = .ok (.invokevirtual 182, 3) := by decide +kernel
theorem dX8_type_37 : decode cX8_type 37 = .ok (.aload_n 0, 1) := by decide +kernel
theorem dX8_type_38 : decode cX8_type 38 = .ok (.getfield 36, 3) := by decide +kernel
theorem dX8_type_41 : decode cX8_type 41 = .ok (.getfield 154, 3) := by decide +kernel
theorem dX8_type_44 : decode cX8_type 44 = .ok (.ireturn, 1) := by decide +kernel
theorem dX8_clearText_0 : decode cX8_clearText 0 = .ok (.aload_n 0, 1) := by decide +kernel
theorem dX8_clearText_1 : decode cX8_clearText 1 = .ok (.getfield 36, 3) := by decide +kernel
theorem dX8_clearText_4 : decode cX8_clearText 4 = .ok (.getfield 154, 3) := by decide +kernel
theorem dX8_clearText_7 : decode cX8_clearText 7 = .ok (.istore_n 1, 1) := by decide +kernel
theorem dX8_clearText_8 : decode cX8_clearText 8 = .ok (.aload_n 0, 1) := by decide +kernel
theorem dX8_clearText_9 : decode cX8_clearText 9 = .ok (.getfield 36, 3) := by decide +kernel
theorem dX8_clearText_12 : decode cX8_clearText 12 = .ok (.invokevirtual 183, 3) := by decide +kernel
theorem dX8_clearText_15 : decode cX8_clearText 15 = .ok (.iload_n 1, 1) := by decide +kernel
theorem dX8_clearText_16 : decode cX8_clearText 16 = .ok (.ireturn, 1) := by decide +kernel
theorem dX8_write_0 : decode cX8_write 0 = .ok (.aload_n 0, 1) := by decide +kernel
theorem dX8_write_1 : decode cX8_write 1 = .ok (.getfield 19, 3) := by decide +kernel
theorem dX8_write_4 : decode cX8_write 4 = .ok (.getfield 81, 3) := by decide +kernel
theorem dX8_write_7 : decode cX8_write 7 = .ok (.getfield 84, 3) := by decide +kernel
theorem dX8_write_10 : decode cX8_write 10 = .ok (.bipush 120, 2) := by decide +kernel
theorem dX8_write_12 : decode cX8_write 12 = .ok (.if_icmp .le 6, 3) := by decide +kernel
theorem dX8_write_15 : decode cX8_write 15 = .ok (.bipush (-3), 2) := by decide +kernel
theorem dX8_write_17 : decode cX8_write 17 = .ok (.ireturn, 1) := by decide +kernel
theorem dX8_write_18 : decode cX8_write 18 = .ok (.aload_n 0, 1) := by decide +kernel
theorem dX8_write_19 : decode cX8_write 19 = .ok (.getfield 36, 3) := by decide +kernel
theorem dX8_write_22 : decode cX8_write 22 = .ok (.aload_n 0, 1) := by decide +kernel
theorem dX8_write_23 : decode cX8_write 23 = .ok (.getfield 19, 3) := by decide +kernel
theorem dX8_write_26 : decode cX8_write 26 = .ok (.getfield 81, 3) := by decide +kernel
theorem dX8_write_29 : decode cX8_write 29 = .ok (.invokevirtual 184, 3) := by decide +kernel
theorem dX8_write_32 : decode cX8_write 32 = .ok (.aload_n 0, 1) := by decide +kernel
theorem dX8_write_33 : decode cX8_write 33 = .ok (.getfield 36, 3) := by decide +kernel
theorem dX8_write_36 : decode cX8_write 36 = .ok (.getfield 154, 3) := by decide +kernel
theorem dX8_write_39 : decode cX8_write 39 = .ok (.ireturn, 1) := by decide +kernel
theorem dX8_fault_0 : decode cX8_fault 0 = .ok (.iload_n 1, 1) := by decide +kernel
theorem dX8_fault_1 : decode cX8_fault 1 = .ok (.ifCond .lt 8, 3) := by decide +kernel
theorem dX8_fault_4 : decode cX8_fault 4 = .ok (.iload_n 1, 1) := by decide +kernel
theorem dX8_fault_5 : decode cX8_fault 5 = .ok (.iconst 1, 1) := by decide +kernel
theorem dX8_fault_6 : decode cX8_fault 6 = .ok (.if_icmp .le 5, 3) := by decide +kernel
theorem dX8_fault_9 : decode cX8_fault 9 = .ok (.iconst (-1), 1) := by decide +kernel
theorem dX8_fault_10 : decode cX8_fault 10 = .ok (.ireturn, 1) := by decide +kernel
theorem dX8_fault_11 : decode cX8_fault 11 = .ok (.aload_n 0, 1) := by decide +kernel
theorem dX8_fault_12 : decode cX8_fault 12 = .ok (.invokevirtual 188, 3) := by decide +kernel
theorem dX8_fault_15 : decode cX8_fault 15 = .ok (.istore_n 2, 1) := by decide +kernel
theorem dX8_fault_16 : decode cX8_fault 16 = .ok (.iload_n 2, 1) := by decide +kernel
theorem dX8_fault_17 : decode cX8_fault 17 = .ok (.ifCond .ne 6, 3) := by decide +kernel
theorem dX8_fault_20 : decode cX8_fault 20 = .ok (.bipush (-4), 2) := by decide +kernel
theorem dX8_fault_22 : decode cX8_fault 22 = .ok (.ireturn, 1) := by decide +kernel
theorem dX8_fault_23 : decode cX8_fault 23 = .ok (.iload_n 1, 1) := by decide +kernel
theorem dX8_fault_24 : decode cX8_fault 24 = .ok (.ifCond .ne 11, 3) := by decide +kernel
theorem dX8_fault_27 : decode cX8_fault 27 = .ok (.aload_n 0, 1) := by decide +kernel
theorem dX8_fault_28 : decode cX8_fault 28 = .ok (.iload_n 2, 1) := by decide +kernel
theorem dX8_fault_29 : decode cX8_fault 29 = .ok (.invokevirtual 191, 3) := by decide +kernel
theorem dX8_fault_32 : decode cX8_fault 32 = .ok (.goto 4, 3) := by decide +kernel
theorem dX8_fault_35 : decode cX8_fault 35 = .ok (.iload_n 2, 1) := by decide +kernel
theorem dX8_fault_36 : decode cX8_fault 36 = .ok (.ireturn, 1) := by decide +kernel
theorem dX8_told_0 : decode cX8_told 0 = .ok (.iload_n 1, 1) := by decide +kernel
theorem dX8_told_1 : decode cX8_told 1 = .ok (.ifCond .ge 5, 3) := by decide +kernel
theorem dX8_told_4 : decode cX8_told 4 = .ok (.iconst (-1), 1) := by decide +kernel
theorem dX8_told_5 : decode cX8_told 5 = .ok (.ireturn, 1) := by decide +kernel
theorem dX8_told_6 : decode cX8_told 6 = .ok (.aload_n 0, 1) := by decide +kernel
theorem dX8_told_7 : decode cX8_told 7 = .ok (.invokevirtual 188, 3) := by decide +kernel
theorem dX8_told_10 : decode cX8_told 10 = .ok (.ifCond .eq 6, 3) := by decide +kernel
theorem dX8_told_13 : decode cX8_told 13 = .ok (.bipush (-2), 2) := by decide +kernel
theorem dX8_told_15 : decode cX8_told 15 = .ok (.ireturn, 1) := by decide +kernel
theorem dX8_told_16 : decode cX8_told 16 = .ok (.iload_n 1, 1) := by decide +kernel
theorem dX8_told_17 : decode cX8_told 17 = .ok (.aload_n 0, 1) := by decide +kernel
theorem dX8_told_18 : decode cX8_told 18 = .ok (.getfield 29, 3) := by decide +kernel
theorem dX8_told_21 : decode cX8_told 21 = .ok (.getfield 172, 3) := by decide +kernel
theorem dX8_told_24 : decode cX8_told 24 = .ok (.if_icmp .ge 14, 3) := by decide +kernel
theorem dX8_told_27 : decode cX8_told 27 = .ok (.aload_n 0, 1) := by decide +kernel
theorem dX8_told_28 : decode cX8_told 28 = .ok (.getfield 29, 3) := by decide +kernel
theorem dX8_told_31 : decode cX8_told 31 = .ok (.iload_n 1, 1) := by decide +kernel
theorem dX8_told_32 : decode cX8_told 32 = .ok (.invokevirtual 194, 3) := by decide +kernel
theorem dX8_told_35 : decode cX8_told 35 = .ok (.goto 5, 3) := by decide +kernel
theorem dX8_told_38 : decode cX8_told 38 = .ok (.bipush (-4), 2) := by decide +kernel
theorem dX8_told_40 : decode cX8_told 40 = .ok (.ireturn, 1) := by decide +kernel
theorem dX8_isLetter_0 : decode cX8_isLetter 0 = .ok (.iload_n 0, 1) := by decide +kernel
theorem dX8_isLetter_1 : decode cX8_isLetter 1 = .ok (.ifCond .lt 13, 3) := by decide +kernel
theorem dX8_isLetter_4 : decode cX8_isLetter 4 = .ok (.iload_n 0, 1) := by decide +kernel
theorem dX8_isLetter_5 : decode cX8_isLetter 5 = .ok (.bipush 8, 2) := by decide +kernel
theorem dX8_isLetter_7 : decode cX8_isLetter 7 = .ok (.if_icmp .ge 7, 3) := by decide +kernel
theorem dX8_isLetter_10 : decode cX8_isLetter 10 = .ok (.iconst 1, 1) := by decide +kernel
theorem dX8_isLetter_11 : decode cX8_isLetter 11 = .ok (.goto 4, 3) := by decide +kernel
theorem dX8_isLetter_14 : decode cX8_isLetter 14 = .ok (.iconst 0, 1) := by decide +kernel
theorem dX8_isLetter_15 : decode cX8_isLetter 15 = .ok (.ireturn, 1) := by decide +kernel
theorem dX8_isPace_0 : decode cX8_isPace 0 = .ok (.iload_n 0, 1) := by decide +kernel
theorem dX8_isPace_1 : decode cX8_isPace 1 = .ok (.iconst 1, 1) := by decide +kernel
theorem dX8_isPace_2 : decode cX8_isPace 2 = .ok (.if_icmp .lt 13, 3) := by decide +kernel
theorem dX8_isPace_5 : decode cX8_isPace 5 = .ok (.iload_n 0, 1) := by decide +kernel
theorem dX8_isPace_6 : decode cX8_isPace 6 = .ok (.bipush 64, 2) := by decide +kernel
theorem dX8_isPace_8 : decode cX8_isPace 8 = .ok (.if_icmp .gt 7, 3) := by decide +kernel
theorem dX8_isPace_11 : decode cX8_isPace 11 = .ok (.iconst 1, 1) := by decide +kernel
theorem dX8_isPace_12 : decode cX8_isPace 12 = .ok (.goto 4, 3) := by decide +kernel
theorem dX8_isPace_15 : decode cX8_isPace 15 = .ok (.iconst 0, 1) := by decide +kernel
theorem dX8_isPace_16 : decode cX8_isPace 16 = .ok (.ireturn, 1) := by decide +kernel
theorem dX8_isSetting_0 : decode cX8_isSetting 0 = .ok (.iload_n 0, 1) := by decide +kernel
theorem dX8_isSetting_1 : decode cX8_isSetting 1 = .ok (.ifCond .ne 8, 3) := by decide +kernel
theorem dX8_isSetting_4 : decode cX8_isSetting 4 = .ok (.iload_n 1, 1) := by decide +kernel
theorem dX8_isSetting_5 : decode cX8_isSetting 5 = .ok (.invokestatic 162, 3) := by decide +kernel
theorem dX8_isSetting_8 : decode cX8_isSetting 8 = .ok (.ireturn, 1) := by decide +kernel
theorem dX8_isSetting_9 : decode cX8_isSetting 9 = .ok (.iload_n 0, 1) := by decide +kernel
theorem dX8_isSetting_10 : decode cX8_isSetting 10 = .ok (.iconst 1, 1) := by decide +kernel
theorem dX8_isSetting_11 : decode cX8_isSetting 11 = .ok (.if_icmp .ne 20, 3) := by decide +kernel
theorem dX8_isSetting_14 : decode cX8_isSetting 14 = .ok (.iload_n 1, 1) := by decide +kernel
theorem dX8_isSetting_15 : decode cX8_isSetting 15 = .ok (.bipush 32, 2) := by decide +kernel
theorem dX8_isSetting_17 : decode cX8_isSetting 17 = .ok (.if_icmp .lt 14, 3) := by decide +kernel
theorem dX8_isSetting_20 : decode cX8_isSetting 20 = .ok (.iload_n 1, 1) := by decide +kernel
theorem dX8_isSetting_21 : decode cX8_isSetting 21 = .ok (.sipush 2000, 3) := by decide +kernel
theorem dX8_isSetting_24 : decode cX8_isSetting 24 = .ok (.if_icmp .gt 7, 3) := by decide +kernel
theorem dX8_isSetting_27 : decode cX8_isSetting 27 = .ok (.iconst 1, 1) := by decide +kernel
theorem dX8_isSetting_28 : decode cX8_isSetting 28 = .ok (.goto 4, 3) := by decide +kernel
theorem dX8_isSetting_31 : decode cX8_isSetting 31 = .ok (.iconst 0, 1) := by decide +kernel
theorem dX8_isSetting_32 : decode cX8_isSetting 32 = .ok (.ireturn, 1) := by decide +kernel
theorem dX8_writeAnew_0 : decode cX8_writeAnew 0 = .ok (.aload_n 0, 1) := by decide +kernel
theorem dX8_writeAnew_1 : decode cX8_writeAnew 1 = .ok (.getfield 19, 3) := by decide +kernel
theorem dX8_writeAnew_4 : decode cX8_writeAnew 4 = .ok (.aload_n 0, 1) := by decide +kernel
theorem dX8_writeAnew_5 : decode cX8_writeAnew 5 = .ok (.getfield 12, 3) := by decide +kernel
theorem dX8_writeAnew_8 : decode cX8_writeAnew 8 = .ok (.getfield 102, 3) := by decide +kernel
theorem dX8_writeAnew_11 : decode cX8_writeAnew 11 = .ok (.aload_n 0, 1) := by decide +kernel
theorem dX8_writeAnew_12 : decode cX8_writeAnew 12 = .ok (.getfield 12, 3) := by decide +kernel
theorem dX8_writeAnew_15 : decode cX8_writeAnew 15 = .ok (.getfield 105, 3) := by decide +kernel
theorem dX8_writeAnew_18 : decode cX8_writeAnew 18 = .ok (.invokevirtual 195, 3) := by decide +kernel
theorem dX8_writeAnew_21 : decode cX8_writeAnew 21 = .ok (.aload_n 0, 1) := by decide +kernel
theorem dX8_writeAnew_22 : decode cX8_writeAnew 22 = .ok (.getfield 19, 3) := by decide +kernel
theorem dX8_writeAnew_25 : decode cX8_writeAnew 25 = .ok (.aload_n 0, 1) := by decide +kernel
theorem dX8_writeAnew_26 : decode cX8_writeAnew 26 = .ok (.getfield 12, 3) := by decide +kernel
theorem dX8_writeAnew_29 : decode cX8_writeAnew 29 = .ok (.invokevirtual 198, 3) := by decide +kernel
theorem dX8_writeAnew_32 : decode cX8_writeAnew 32 = .ok (.aload_n 0, 1) := by decide +kernel
theorem dX8_writeAnew_33 : decode cX8_writeAnew 33 = .ok (.getfield 12, 3) := by decide +kernel
theorem dX8_writeAnew_36 : decode cX8_writeAnew 36 = .ok (.getfield 58, 3) := by decide +kernel
theorem dX8_writeAnew_39 : decode cX8_writeAnew 39 = .ok (.ifCond .eq 10, 3) := by decide +kernel
theorem dX8_writeAnew_42 : decode cX8_writeAnew 42 = .ok (.aload_n 0, 1) := by decide +kernel
theorem dX8_writeAnew_43 : decode cX8_writeAnew 43 = .ok (.getfield 19, 3) := by decide +kernel
theorem dX8_writeAnew_46 : decode cX8_writeAnew 46 = .ok (.invokevirtual 78, 3) := by decide +kernel
theorem dX8_writeAnew_49 : decode cX8_writeAnew 49 = .ok (.return_, 1) := by decide +kernel
theorem dX8_bitsMoreWith_0 : decode cX8_bitsMoreWith 0 = .ok (.aload_n 0, 1) := by decide +kernel
theorem dX8_bitsMoreWith_1 : decode cX8_bitsMoreWith 1 = .ok (.getfield 23, 3) := by decide +kernel
theorem dX8_bitsMoreWith_4 : decode cX8_bitsMoreWith 4 = .ok (.aload_n 0, 1) := by decide +kernel
theorem dX8_bitsMoreWith_5 : decode cX8_bitsMoreWith 5 = .ok (.getfield 12, 3) := by decide +kernel
theorem dX8_bitsMoreWith_8 : decode cX8_bitsMoreWith 8 = .ok (.getfield 102, 3) := by decide +kernel
theorem dX8_bitsMoreWith_11 : decode cX8_bitsMoreWith 11 = .ok (.aload_n 0, 1) := by decide +kernel
theorem dX8_bitsMoreWith_12 : decode cX8_bitsMoreWith 12 = .ok (.getfield 12, 3) := by decide +kernel
theorem dX8_bitsMoreWith_15 : decode cX8_bitsMoreWith 15 = .ok (.getfield 105, 3) := by decide +kernel
theorem dX8_bitsMoreWith_18 : decode cX8_bitsMoreWith 18 = .ok (.invokevirtual 195, 3) := by decide +kernel
theorem dX8_bitsMoreWith_21 : decode cX8_bitsMoreWith 21 = .ok (.aload_n 0, 1) := by decide +kernel
theorem dX8_bitsMoreWith_22 : decode cX8_bitsMoreWith 22 = .ok (.getfield 23, 3) := by decide +kernel
theorem dX8_bitsMoreWith_25 : decode cX8_bitsMoreWith 25 = .ok (.aload_n 0, 1) := by decide +kernel
theorem dX8_bitsMoreWith_26 : decode cX8_bitsMoreWith 26 = .ok (.getfield 12, 3) := by decide +kernel
theorem dX8_bitsMoreWith_29 : decode cX8_bitsMoreWith 29 = .ok (.invokevirtual 198, 3) := by decide +kernel
theorem dX8_bitsMoreWith_32 : decode cX8_bitsMoreWith 32 = .ok (.iload_n 1, 1) := by decide +kernel
theorem dX8_bitsMoreWith_33 : decode cX8_bitsMoreWith 33 = .ok (.bipush 8, 2) := by decide +kernel
theorem dX8_bitsMoreWith_35 : decode cX8_bitsMoreWith 35 = .ok (.if_icmp .eq 12, 3) := by decide +kernel
theorem dX8_bitsMoreWith_38 : decode cX8_bitsMoreWith 38 = .ok (.aload_n 0, 1) := by decide +kernel
theorem dX8_bitsMoreWith_39 : decode cX8_bitsMoreWith 39 = .ok (.getfield 23, 3) := by decide +kernel
theorem dX8_bitsMoreWith_42 : decode cX8_bitsMoreWith 42 = .ok (.iload_n 1, 1) := by decide +kernel
theorem dX8_bitsMoreWith_43 : decode cX8_bitsMoreWith 43 = .ok (.invokevirtual 74, 3) := by decide +kernel
theorem dX8_bitsMoreWith_46 : decode cX8_bitsMoreWith 46 = .ok (.ireturn, 1) := by decide +kernel
theorem dX8_bitsMoreWith_47 : decode cX8_bitsMoreWith 47 = .ok (.aload_n 0, 1) := by decide +kernel
theorem dX8_bitsMoreWith_48 : decode cX8_bitsMoreWith 48 = .ok (.getfield 23, 3) := by decide +kernel
theorem dX8_bitsMoreWith_51 : decode cX8_bitsMoreWith 51 = .ok (.getfield 81, 3) := by decide +kernel
theorem dX8_bitsMoreWith_54 : decode cX8_bitsMoreWith 54 = .ok (.getfield 84, 3) := by decide +kernel
theorem dX8_bitsMoreWith_57 : decode cX8_bitsMoreWith 57 = .ok (.istore_n 2, 1) := by decide +kernel
theorem dX8_bitsMoreWith_58 : decode cX8_bitsMoreWith 58 = .ok (.aload_n 0, 1) := by decide +kernel
theorem dX8_bitsMoreWith_59 : decode cX8_bitsMoreWith 59 = .ok (.getfield 23, 3) := by decide +kernel
theorem dX8_bitsMoreWith_62 : decode cX8_bitsMoreWith 62 = .ok (.invokevirtual 78, 3) := by decide +kernel
theorem dX8_bitsMoreWith_65 : decode cX8_bitsMoreWith 65 = .ok (.aload_n 0, 1) := by decide +kernel
theorem dX8_bitsMoreWith_66 : decode cX8_bitsMoreWith 66 = .ok (.getfield 23, 3) := by decide +kernel
theorem dX8_bitsMoreWith_69 : decode cX8_bitsMoreWith 69 = .ok (.getfield 81, 3) := by decide +kernel
theorem dX8_bitsMoreWith_72 : decode cX8_bitsMoreWith 72 = .ok (.getfield 84, 3) := by decide +kernel
theorem dX8_bitsMoreWith_75 : decode cX8_bitsMoreWith 75 = .ok (.iload_n 2, 1) := by decide +kernel
theorem dX8_bitsMoreWith_76 : decode cX8_bitsMoreWith 76 = .ok (.isub, 1) := by decide +kernel
theorem dX8_bitsMoreWith_77 : decode cX8_bitsMoreWith 77 = .ok (.ireturn, 1) := by decide +kernel
theorem dX8_bitsEnded_0 : decode cX8_bitsEnded 0 = .ok (.aload_n 0, 1) := by decide +kernel
theorem dX8_bitsEnded_1 : decode cX8_bitsEnded 1 = .ok (.getfield 23, 3) := by decide +kernel
theorem dX8_bitsEnded_4 : decode cX8_bitsEnded 4 = .ok (.iload_n 1, 1) := by decide +kernel
theorem dX8_bitsEnded_5 : decode cX8_bitsEnded 5 = .ok (.aload_n 0, 1) := by decide +kernel
theorem dX8_bitsEnded_6 : decode cX8_bitsEnded 6 = .ok (.getfield 12, 3) := by decide +kernel
theorem dX8_bitsEnded_9 : decode cX8_bitsEnded 9 = .ok (.getfield 105, 3) := by decide +kernel
theorem dX8_bitsEnded_12 : decode cX8_bitsEnded 12 = .ok (.invokevirtual 195, 3) := by decide +kernel
theorem dX8_bitsEnded_15 : decode cX8_bitsEnded 15 = .ok (.aload_n 0, 1) := by decide +kernel
theorem dX8_bitsEnded_16 : decode cX8_bitsEnded 16 = .ok (.getfield 23, 3) := by decide +kernel
theorem dX8_bitsEnded_19 : decode cX8_bitsEnded 19 = .ok (.aload_n 0, 1) := by decide +kernel
theorem dX8_bitsEnded_20 : decode cX8_bitsEnded 20 = .ok (.getfield 12, 3) := by decide +kernel
theorem dX8_bitsEnded_23 : decode cX8_bitsEnded 23 = .ok (.invokevirtual 198, 3) := by decide +kernel
theorem dX8_bitsEnded_26 : decode cX8_bitsEnded 26 = .ok (.aload_n 0, 1) := by decide +kernel
theorem dX8_bitsEnded_27 : decode cX8_bitsEnded 27 = .ok (.getfield 23, 3) := by decide +kernel
theorem dX8_bitsEnded_30 : decode cX8_bitsEnded 30 = .ok (.invokevirtual 78, 3) := by decide +kernel
theorem dX8_bitsEnded_33 : decode cX8_bitsEnded 33 = .ok (.aload_n 0, 1) := by decide +kernel
theorem dX8_bitsEnded_34 : decode cX8_bitsEnded 34 = .ok (.getfield 23, 3) := by decide +kernel
theorem dX8_bitsEnded_37 : decode cX8_bitsEnded 37 = .ok (.getfield 81, 3) := by decide +kernel
theorem dX8_bitsEnded_40 : decode cX8_bitsEnded 40 = .ok (.getfield 84, 3) := by decide +kernel
theorem dX8_bitsEnded_43 : decode cX8_bitsEnded 43 = .ok (.ireturn, 1) := by decide +kernel
theorem dX8_alikeFromFirst_0 : decode cX8_alikeFromFirst 0 = .ok (.aload_n 0, 1) := by decide +kernel
theorem dX8_alikeFromFirst_1 : decode cX8_alikeFromFirst 1 = .ok (.getfield 29, 3) := by decide +kernel
theorem dX8_alikeFromFirst_4 : decode cX8_alikeFromFirst 4 = .ok (.getfield 172, 3) := by decide +kernel
theorem dX8_alikeFromFirst_7 : decode cX8_alikeFromFirst 7 = .ok (.aload_n 0, 1) := by decide +kernel
theorem dX8_alikeFromFirst_8 : decode cX8_alikeFromFirst 8 = .ok (.getfield 12, 3) := by decide +kernel
theorem dX8_alikeFromFirst_11 : decode cX8_alikeFromFirst 11 = .ok (.getfield 62, 3) := by decide +kernel
theorem dX8_alikeFromFirst_14 : decode cX8_alikeFromFirst 14 = .ok (.invokestatic 201, 3) := by decide +kernel
theorem dX8_alikeFromFirst_17 : decode cX8_alikeFromFirst 17 = .ok (.istore_n 1, 1) := by decide +kernel
theorem dX8_alikeFromFirst_18 : decode cX8_alikeFromFirst 18 = .ok (.iconst 0, 1) := by decide +kernel
theorem dX8_alikeFromFirst_19 : decode cX8_alikeFromFirst 19 = .ok (.istore_n 2, 1) := by decide +kernel
theorem dX8_alikeFromFirst_20 : decode cX8_alikeFromFirst 20 = .ok (.iload_n 2, 1) := by decide +kernel
theorem dX8_alikeFromFirst_21 : decode cX8_alikeFromFirst 21 = .ok (.iload_n 1, 1) := by decide +kernel
theorem dX8_alikeFromFirst_22 : decode cX8_alikeFromFirst 22 = .ok (.if_icmp .ge 30, 3) := by decide +kernel
theorem dX8_alikeFromFirst_25 : decode cX8_alikeFromFirst 25 = .ok (.aload_n 0, 1) := by decide +kernel
theorem dX8_alikeFromFirst_26 : decode cX8_alikeFromFirst 26 = .ok (.getfield 29, 3) := by decide +kernel
theorem dX8_alikeFromFirst_29 : decode cX8_alikeFromFirst 29 = .ok (.iload_n 2, 1) := by decide +kernel
theorem dX8_alikeFromFirst_30 : decode cX8_alikeFromFirst 30 = .ok (.invokevirtual 194, 3) := by decide +kernel
theorem dX8_alikeFromFirst_33 : decode cX8_alikeFromFirst 33 = .ok (.aload_n 0, 1) := by decide +kernel
theorem dX8_alikeFromFirst_34 : decode cX8_alikeFromFirst 34 = .ok (.getfield 12, 3) := by decide +kernel
theorem dX8_alikeFromFirst_37 : decode cX8_alikeFromFirst 37 = .ok (.iload_n 2, 1) := by decide +kernel
theorem dX8_alikeFromFirst_38 : decode cX8_alikeFromFirst 38 = .ok (.invokevirtual 108, 3) := by decide +kernel
theorem dX8_alikeFromFirst_41 : decode cX8_alikeFromFirst 41 = .ok (.if_icmp .eq 5, 3) := by decide +kernel
theorem dX8_alikeFromFirst_44 : decode cX8_alikeFromFirst 44 = .ok (.iload_n 2, 1) := by decide +kernel
theorem dX8_alikeFromFirst_45 : decode cX8_alikeFromFirst 45 = .ok (.ireturn, 1) := by decide +kernel
theorem dX8_alikeFromFirst_46 : decode cX8_alikeFromFirst 46 = .ok (.iinc 2 1, 3) := by decide +kernel
theorem dX8_alikeFromFirst_49 : decode cX8_alikeFromFirst 49 = .ok (.goto (-29), 3) := by decide +kernel
theorem dX8_alikeFromFirst_52 : decode cX8_alikeFromFirst 52 = .ok (.iload_n 1, 1) := by decide +kernel
theorem dX8_alikeFromFirst_53 : decode cX8_alikeFromFirst 53 = .ok (.ireturn, 1) := by decide +kernel
theorem dX8_faultReason_0 : decode cX8_faultReason 0 = .ok (.aload_n 0, 1) := by decide +kernel
theorem dX8_faultReason_1 : decode cX8_faultReason 1 = .ok (.getfield 36, 3) := by decide +kernel
theorem dX8_faultReason_4 : decode cX8_faultReason 4 = .ok (.invokevirtual 207, 3) := by decide +kernel
theorem dX8_faultReason_7 : decode cX8_faultReason 7 = .ok (.aload_n 0, 1) := by decide +kernel
theorem dX8_faultReason_8 : decode cX8_faultReason 8 = .ok (.getfield 36, 3) := by decide +kernel
theorem dX8_faultReason_11 : decode cX8_faultReason 11 = .ok (.getfield 154, 3) := by decide +kernel
theorem dX8_faultReason_14 : decode cX8_faultReason 14 = .ok (.if_icmp .ge 5, 3) := by decide +kernel
theorem dX8_faultReason_17 : decode cX8_faultReason 17 = .ok (.iconst 1, 1) := by decide +kernel
theorem dX8_faultReason_18 : decode cX8_faultReason 18 = .ok (.ireturn, 1) := by decide +kernel
theorem dX8_faultReason_19 : decode cX8_faultReason 19 = .ok (.aload_n 0, 1) := by decide +kernel
theorem dX8_faultReason_20 : decode cX8_faultReason 20 = .ok (.getfield 36, 3) := by decide +kernel
theorem dX8_faultReason_23 : decode cX8_faultReason 23 = .ok (.aload_n 0, 1) := by decide +kernel
theorem dX8_faultReason_24 : decode cX8_faultReason 24 = .ok (.getfield 43, 3) := by decide +kernel
theorem dX8_faultReason_27 : decode cX8_faultReason 27 = .ok (.invokevirtual 210, 3) := by decide +kernel
theorem dX8_faultReason_30 : decode cX8_faultReason 30 = .ok (.aload_n 0, 1) := by decide +kernel
theorem dX8_faultReason_31 : decode cX8_faultReason 31 = .ok (.getfield 29, 3) := by decide +kernel
theorem dX8_faultReason_34 : decode cX8_faultReason 34 = .ok (.aload_n 0, 1) := by decide +kernel
theorem dX8_faultReason_35 : decode cX8_faultReason 35 = .ok (.getfield 43, 3) := by decide +kernel
theorem dX8_faultReason_38 : decode cX8_faultReason 38 = .ok (.aload_n 0, 1) := by decide +kernel
theorem dX8_faultReason_39 : decode cX8_faultReason 39 = .ok (.getfield 12, 3) := by decide +kernel
theorem dX8_faultReason_42 : decode cX8_faultReason 42 = .ok (.getfield 102, 3) := by decide +kernel
theorem dX8_faultReason_45 : decode cX8_faultReason 45 = .ok (.aload_n 0, 1) := by decide +kernel
theorem dX8_faultReason_46 : decode cX8_faultReason 46 = .ok (.getfield 12, 3) := by decide +kernel
theorem dX8_faultReason_49 : decode cX8_faultReason 49 = .ok (.getfield 105, 3) := by decide +kernel
theorem dX8_faultReason_52 : decode cX8_faultReason 52 = .ok (.invokevirtual 168, 3) := by decide +kernel
theorem dX8_faultReason_55 : decode cX8_faultReason 55 = .ok (.aload_n 0, 1) := by decide +kernel
theorem dX8_faultReason_56 : decode cX8_faultReason 56 = .ok (.getfield 29, 3) := by decide +kernel
theorem dX8_faultReason_59 : decode cX8_faultReason 59 = .ok (.getfield 173, 3) := by decide +kernel
theorem dX8_faultReason_62 : decode cX8_faultReason 62 = .ok (.ifCond .ne 5, 3) := by decide +kernel
theorem dX8_faultReason_65 : decode cX8_faultReason 65 = .ok (.iconst 2, 1) := by decide +kernel
theorem dX8_faultReason_66 : decode cX8_faultReason 66 = .ok (.ireturn, 1) := by decide +kernel
theorem dX8_faultReason_67 : decode cX8_faultReason 67 = .ok (.aload_n 0, 1) := by decide +kernel
theorem dX8_faultReason_68 : decode cX8_faultReason 68 = .ok (.getfield 43, 3) := by decide +kernel
theorem dX8_faultReason_71 : decode cX8_faultReason 71 = .ok (.aload_n 0, 1) := by decide +kernel
theorem dX8_faultReason_72 : decode cX8_faultReason 72 = .ok (.getfield 29, 3) := by decide +kernel
theorem dX8_faultReason_75 : decode cX8_faultReason 75 = .ok (.getfield 213, 3) := by decide +kernel
theorem dX8_faultReason_78 : decode cX8_faultReason 78 = .ok (.invokevirtual 216, 3) := by decide +kernel
theorem dX8_faultReason_81 : decode cX8_faultReason 81 = .ok (.aload_n 0, 1) := by decide +kernel
theorem dX8_faultReason_82 : decode cX8_faultReason 82 = .ok (.getfield 43, 3) := by decide +kernel
theorem dX8_faultReason_85 : decode cX8_faultReason 85 = .ok (.getfield 84, 3) := by decide +kernel
theorem dX8_faultReason_88 : decode cX8_faultReason 88 = .ok (.if_icmp .ge 7, 3) := by decide +kernel
theorem dX8_faultReason_91 : decode cX8_faultReason 91 = .ok (.iconst 3, 1) := by decide +kernel
theorem dX8_faultReason_92 : decode cX8_faultReason 92 = .ok (.goto 4, 3) := by decide +kernel
theorem dX8_faultReason_95 : decode cX8_faultReason 95 = .ok (.iconst 0, 1) := by decide +kernel
theorem dX8_faultReason_96 : decode cX8_faultReason 96 = .ok (.ireturn, 1) := by decide +kernel
theorem dX8_faultPlace_0 : decode cX8_faultPlace 0 = .ok (.iload_n 1, 1) := by decide +kernel
theorem dX8_faultPlace_1 : decode cX8_faultPlace 1 = .ok (.iconst 1, 1) := by decide +kernel
theorem dX8_faultPlace_2 : decode cX8_faultPlace 2 = .ok (.if_icmp .ne 11, 3) := by decide +kernel
theorem dX8_faultPlace_5 : decode cX8_faultPlace 5 = .ok (.aload_n 0, 1) := by decide +kernel
theorem dX8_faultPlace_6 : decode cX8_faultPlace 6 = .ok (.getfield 36, 3) := by decide +kernel
theorem dX8_faultPlace_9 : decode cX8_faultPlace 9 = .ok (.invokevirtual 207, 3) := by decide +kernel
theorem dX8_faultPlace_12 : decode cX8_faultPlace 12 = .ok (.ireturn, 1) := by decide +kernel
theorem dX8_faultPlace_13 : decode cX8_faultPlace 13 = .ok (.iload_n 1, 1) := by decide +kernel
theorem dX8_faultPlace_14 : decode cX8_faultPlace 14 = .ok (.iconst 3, 1) := by decide +kernel
theorem dX8_faultPlace_15 : decode cX8_faultPlace 15 = .ok (.if_icmp .ne 18, 3) := by decide +kernel
theorem dX8_faultPlace_18 : decode cX8_faultPlace 18 = .ok (.aload_n 0, 1) := by decide +kernel
theorem dX8_faultPlace_19 : decode cX8_faultPlace 19 = .ok (.getfield 43, 3) := by decide +kernel
theorem dX8_faultPlace_22 : decode cX8_faultPlace 22 = .ok (.aload_n 0, 1) := by decide +kernel
theorem dX8_faultPlace_23 : decode cX8_faultPlace 23 = .ok (.getfield 29, 3) := by decide +kernel
theorem dX8_faultPlace_26 : decode cX8_faultPlace 26 = .ok (.getfield 213, 3) := by decide +kernel
theorem dX8_faultPlace_29 : decode cX8_faultPlace 29 = .ok (.invokevirtual 216, 3) := by decide +kernel
theorem dX8_faultPlace_32 : decode cX8_faultPlace 32 = .ok (.ireturn, 1) := by decide +kernel
theorem dX8_faultPlace_33 : decode cX8_faultPlace 33 = .ok (.aload_n 0, 1) := by decide +kernel
theorem dX8_faultPlace_34 : decode cX8_faultPlace 34 = .ok (.getfield 36, 3) := by decide +kernel
theorem dX8_faultPlace_37 : decode cX8_faultPlace 37 = .ok (.getfield 154, 3) := by decide +kernel
theorem dX8_faultPlace_40 : decode cX8_faultPlace 40 = .ok (.ireturn, 1) := by decide +kernel
theorem dX9_init_0 : decode cX9_init 0 = .ok (.aload_n 0, 1) := by decide +kernel
theorem dX9_init_1 : decode cX9_init 1 = .ok (.invokespecial 1, 3) := by decide +kernel
theorem dX9_init_4 : decode cX9_init 4 = .ok (.aload_n 0, 1) := by decide +kernel
theorem dX9_init_5 : decode cX9_init 5 = .ok (.bipush 44, 2) := by decide +kernel
theorem dX9_init_7 : decode cX9_init 7 = .ok (.newarray .int, 2) := by decide +kernel
theorem dX9_init_9 : decode cX9_init 9 = .ok (.putfield 7, 3) := by decide +kernel
theorem dX9_init_12 : decode cX9_init 12 = .ok (.aload_n 0, 1) := by decide +kernel
theorem dX9_init_13 : decode cX9_init 13 = .ok (.sipush 176, 3) := by decide +kernel
theorem dX9_init_16 : decode cX9_init 16 = .ok (.newarray .int, 2) := by decide +kernel
theorem dX9_init_18 : decode cX9_init 18 = .ok (.putfield 13, 3) := by decide +kernel
theorem dX9_init_21 : decode cX9_init 21 = .ok (.aload_n 0, 1) := by decide +kernel
theorem dX9_init_22 : decode cX9_init 22 = .ok (.bipush 9, 2) := by decide +kernel
theorem dX9_init_24 : decode cX9_init 24 = .ok (.newarray .int, 2) := by decide +kernel
theorem dX9_init_26 : decode cX9_init 26 = .ok (.putfield 16, 3) := by decide +kernel
theorem dX9_init_29 : decode cX9_init 29 = .ok (.aload_n 0, 1) := by decide +kernel
theorem dX9_init_30 : decode cX9_init 30 = .ok (.sipush 1400, 3) := by decide +kernel
theorem dX9_init_33 : decode cX9_init 33 = .ok (.newarray .int, 2) := by decide +kernel
theorem dX9_init_35 : decode cX9_init 35 = .ok (.putfield 19, 3) := by decide +kernel
theorem dX9_init_38 : decode cX9_init 38 = .ok (.aload_n 0, 1) := by decide +kernel
theorem dX9_init_39 : decode cX9_init 39 = .ok (.bipush 40, 2) := by decide +kernel
theorem dX9_init_41 : decode cX9_init 41 = .ok (.newarray .int, 2) := by decide +kernel
theorem dX9_init_43 : decode cX9_init 43 = .ok (.putfield 22, 3) := by decide +kernel
theorem dX9_init_46 : decode cX9_init 46 = .ok (.aload_n 0, 1) := by decide +kernel
theorem dX9_init_47 : decode cX9_init 47 = .ok (.sipush 1400, 3) := by decide +kernel
theorem dX9_init_50 : decode cX9_init 50 = .ok (.newarray .int, 2) := by decide +kernel
theorem dX9_init_52 : decode cX9_init 52 = .ok (.putfield 25, 3) := by decide +kernel
theorem dX9_init_55 : decode cX9_init 55 = .ok (.aload_n 0, 1) := by decide +kernel
theorem dX9_init_56 : decode cX9_init 56 = .ok (.bipush 40, 2) := by decide +kernel
theorem dX9_init_58 : decode cX9_init 58 = .ok (.newarray .int, 2) := by decide +kernel
theorem dX9_init_60 : decode cX9_init 60 = .ok (.putfield 28, 3) := by decide +kernel
theorem dX9_init_63 : decode cX9_init 63 = .ok (.aload_n 0, 1) := by decide +kernel
theorem dX9_init_64 : decode cX9_init 64 = .ok (.bipush 120, 2) := by decide +kernel
theorem dX9_init_66 : decode cX9_init 66 = .ok (.newarray .int, 2) := by decide +kernel
theorem dX9_init_68 : decode cX9_init 68 = .ok (.putfield 31, 3) := by decide +kernel
theorem dX9_init_71 : decode cX9_init 71 = .ok (.aload_n 0, 1) := by decide +kernel
theorem dX9_init_72 : decode cX9_init 72 = .ok (.getfield 7, 3) := by decide +kernel
theorem dX9_init_75 : decode cX9_init 75 = .ok (.iconst 0, 1) := by decide +kernel
theorem dX9_init_76 : decode cX9_init 76 = .ok (.bipush 8, 2) := by decide +kernel
theorem dX9_init_78 : decode cX9_init 78 = .ok (.iastore, 1) := by decide +kernel
theorem dX9_init_79 : decode cX9_init 79 = .ok (.aload_n 0, 1) := by decide +kernel
theorem dX9_init_80 : decode cX9_init 80 = .ok (.getfield 7, 3) := by decide +kernel
theorem dX9_init_83 : decode cX9_init 83 = .ok (.iconst 1, 1) := by decide +kernel
theorem dX9_init_84 : decode cX9_init 84 = .ok (.sipush 400, 3) := by decide +kernel
theorem dX9_init_87 : decode cX9_init 87 = .ok (.iastore, 1) := by decide +kernel
theorem dX9_init_88 : decode cX9_init 88 = .ok (.return_, 1) := by decide +kernel
theorem dX9_in_0 : decode cX9_in 0 = .ok (.lload_n 0, 1) := by decide +kernel
theorem dX9_in_1 : decode cX9_in 1 = .ok (.lload_n 2, 1) := by decide +kernel
theorem dX9_in_2 : decode cX9_in 2 = .ok (.lcmp, 1) := by decide +kernel
theorem dX9_in_3 : decode cX9_in 3 = .ok (.ifCond .lt 14, 3) := by decide +kernel
theorem dX9_in_6 : decode cX9_in 6 = .ok (.lload_n 0, 1) := by decide +kernel
theorem dX9_in_7 : decode cX9_in 7 = .ok (.lload 4, 2) := by decide +kernel
theorem dX9_in_9 : decode cX9_in 9 = .ok (.lcmp, 1) := by decide +kernel
theorem dX9_in_10 : decode cX9_in 10 = .ok (.ifCond .gt 7, 3) := by decide +kernel
theorem dX9_in_13 : decode cX9_in 13 = .ok (.iconst 1, 1) := by decide +kernel
theorem dX9_in_14 : decode cX9_in 14 = .ok (.goto 4, 3) := by decide +kernel
theorem dX9_in_17 : decode cX9_in 17 = .ok (.iconst 0, 1) := by decide +kernel
theorem dX9_in_18 : decode cX9_in 18 = .ok (.ireturn, 1) := by decide +kernel
theorem dX9_record_0 : decode cX9_record 0 = .ok (.aload_n 0, 1) := by decide +kernel
theorem dX9_record_1 : decode cX9_record 1 = .ok (.getfield 34, 3) := by decide +kernel
theorem dX9_record_4 : decode cX9_record 4 = .ok (.iconst 4, 1) := by decide +kernel
theorem dX9_record_5 : decode cX9_record 5 = .ok (.if_icmp .ne 43, 3) := by decide +kernel
theorem dX9_record_8 : decode cX9_record 8 = .ok (.iconst 0, 1) := by decide +kernel
theorem dX9_record_9 : decode cX9_record 9 = .ok (.istore_n 1, 1) := by decide +kernel
theorem dX9_record_10 : decode cX9_record 10 = .ok (.iload_n 1, 1) := by decide +kernel
theorem dX9_record_11 : decode cX9_record 11 = .ok (.sipush 132, 3) := by decide +kernel
theorem dX9_record_14 : decode cX9_record 14 = .ok (.if_icmp .ge 24, 3) := by decide +kernel
theorem dX9_record_17 : decode cX9_record 17 = .ok (.aload_n 0, 1) := by decide +kernel
theorem dX9_record_18 : decode cX9_record 18 = .ok (.getfield 13, 3) := by decide +kernel
theorem dX9_record_21 : decode cX9_record 21 = .ok (.iload_n 1, 1) := by decide +kernel
theorem dX9_record_22 : decode cX9_record 22 = .ok (.aload_n 0, 1) := by decide +kernel
theorem dX9_record_23 : decode cX9_record 23 = .ok (.getfield 13, 3) := by decide +kernel
theorem dX9_record_26 : decode cX9_record 26 = .ok (.iload_n 1, 1) := by decide +kernel
theorem dX9_record_27 : decode cX9_record 27 = .ok (.bipush 44, 2) := by decide +kernel
theorem dX9_record_29 : decode cX9_record 29 = .ok (.iadd, 1) := by decide +kernel
theorem dX9_record_30 : decode cX9_record 30 = .ok (.iaload, 1) := by decide +kernel
theorem dX9_record_31 : decode cX9_record 31 = .ok (.iastore, 1) := by decide +kernel
theorem dX9_record_32 : decode cX9_record 32 = .ok (.iinc 1 1, 3) := by decide +kernel
theorem dX9_record_35 : decode cX9_record 35 = .ok (.goto (-25), 3) := by decide +kernel
theorem dX9_record_38 : decode cX9_record 38 = .ok (.aload_n 0, 1) := by decide +kernel
theorem dX9_record_39 : decode cX9_record 39 = .ok (.dup, 1) := by decide +kernel
theorem dX9_record_40 : decode cX9_record 40 = .ok (.getfield 34, 3) := by decide +kernel
theorem dX9_record_43 : decode cX9_record 43 = .ok (.iconst 1, 1) := by decide +kernel
theorem dX9_record_44 : decode cX9_record 44 = .ok (.isub, 1) := by decide +kernel
theorem dX9_record_45 : decode cX9_record 45 = .ok (.putfield 34, 3) := by decide +kernel
theorem dX9_record_48 : decode cX9_record 48 = .ok (.iconst 0, 1) := by decide +kernel
theorem dX9_record_49 : decode cX9_record 49 = .ok (.istore_n 1, 1) := by decide +kernel
theorem dX9_record_50 : decode cX9_record 50 = .ok (.iload_n 1, 1) := by decide +kernel
theorem dX9_record_51 : decode cX9_record 51 = .ok (.bipush 44, 2) := by decide +kernel
theorem dX9_record_53 : decode cX9_record 53 = .ok (.if_icmp .ge 29, 3) := by decide +kernel
theorem dX9_record_56 : decode cX9_record 56 = .ok (.aload_n 0, 1) := by decide +kernel
theorem dX9_record_57 : decode cX9_record 57 = .ok (.getfield 13, 3) := by decide +kernel
theorem dX9_record_60 : decode cX9_record 60 = .ok (.bipush 44, 2) := by decide +kernel
theorem dX9_record_62 : decode cX9_record 62 = .ok (.aload_n 0, 1) := by decide +kernel
theorem dX9_record_63 : decode cX9_record 63 = .ok (.getfield 34, 3) := by decide +kernel
theorem dX9_record_66 : decode cX9_record 66 = .ok (.imul, 1) := by decide +kernel
theorem dX9_record_67 : decode cX9_record 67 = .ok (.iload_n 1, 1) := by decide +kernel
theorem dX9_record_68 : decode cX9_record 68 = .ok (.iadd, 1) := by decide +kernel
theorem dX9_record_69 : decode cX9_record 69 = .ok (.aload_n 0, 1) := by decide +kernel
theorem dX9_record_70 : decode cX9_record 70 = .ok (.getfield 7, 3) := by decide +kernel
theorem dX9_record_73 : decode cX9_record 73 = .ok (.iload_n 1, 1) := by decide +kernel
theorem dX9_record_74 : decode cX9_record 74 = .ok (.iaload, 1) := by decide +kernel
theorem dX9_record_75 : decode cX9_record 75 = .ok (.iastore, 1) := by decide +kernel
theorem dX9_record_76 : decode cX9_record 76 = .ok (.iinc 1 1, 3) := by decide +kernel
theorem dX9_record_79 : decode cX9_record 79 = .ok (.goto (-29), 3) := by decide +kernel
theorem dX9_record_82 : decode cX9_record 82 = .ok (.aload_n 0, 1) := by decide +kernel
theorem dX9_record_83 : decode cX9_record 83 = .ok (.dup, 1) := by decide +kernel
theorem dX9_record_84 : decode cX9_record 84 = .ok (.getfield 34, 3) := by decide +kernel
theorem dX9_record_87 : decode cX9_record 87 = .ok (.iconst 1, 1) := by decide +kernel
theorem dX9_record_88 : decode cX9_record 88 = .ok (.iadd, 1) := by decide +kernel
theorem dX9_record_89 : decode cX9_record 89 = .ok (.putfield 34, 3) := by decide +kernel
theorem dX9_record_92 : decode cX9_record 92 = .ok (.return_, 1) := by decide +kernel
theorem dX9_beginsCounts_0 : decode cX9_beginsCounts 0 = .ok (.iconst 0, 1) := by decide +kernel
theorem dX9_beginsCounts_1 : decode cX9_beginsCounts 1 = .ok (.istore_n 1, 1) := by decide +kernel
theorem dX9_beginsCounts_2 : decode cX9_beginsCounts 2 = .ok (.iload_n 1, 1) := by decide +kernel
theorem dX9_beginsCounts_3 : decode cX9_beginsCounts 3 = .ok (.bipush 8, 2) := by decide +kernel
theorem dX9_beginsCounts_5 : decode cX9_beginsCounts 5 = .ok (.if_icmp .gt 16, 3) := by decide +kernel
theorem dX9_beginsCounts_8 : decode cX9_beginsCounts 8 = .ok (.aload_n 0, 1) := by decide +kernel
theorem dX9_beginsCounts_9 : decode cX9_beginsCounts 9 = .ok (.getfield 16, 3) := by decide +kernel
theorem dX9_beginsCounts_12 : decode cX9_beginsCounts 12 = .ok (.iload_n 1, 1) := by decide +kernel
theorem dX9_beginsCounts_13 : decode cX9_beginsCounts 13 = .ok (.iconst 1, 1) := by decide +kernel
theorem dX9_beginsCounts_14 : decode cX9_beginsCounts 14 = .ok (.iastore, 1) := by decide +kernel
theorem dX9_beginsCounts_15 : decode cX9_beginsCounts 15 = .ok (.iinc 1 1, 3) := by decide +kernel
theorem dX9_beginsCounts_18 : decode cX9_beginsCounts 18 = .ok (.goto (-16), 3) := by decide +kernel
theorem dX9_beginsCounts_21 : decode cX9_beginsCounts 21 = .ok (.aload_n 0, 1) := by decide +kernel
theorem dX9_beginsCounts_22 : decode cX9_beginsCounts 22 = .ok (.bipush 9, 2) := by decide +kernel
theorem dX9_beginsCounts_24 : decode cX9_beginsCounts 24 = .ok (.putfield 38, 3) := by decide +kernel
theorem dX9_beginsCounts_27 : decode cX9_beginsCounts 27 = .ok (.aload_n 0, 1) := by decide +kernel
theorem dX9_beginsCounts_28 : decode cX9_beginsCounts 28 = .ok (.iconst 0, 1) := by decide +kernel
theorem dX9_beginsCounts_29 : decode cX9_beginsCounts 29 = .ok (.putfield 41, 3) := by decide +kernel
theorem dX9_beginsCounts_32 : decode cX9_beginsCounts 32 = .ok (.return_, 1) := by decide +kernel
theorem dX9_learns_0 : decode cX9_learns 0 = .ok (.aload_n 0, 1) := by decide +kernel
theorem dX9_learns_1 : decode cX9_learns 1 = .ok (.getfield 16, 3) := by decide +kernel
theorem dX9_learns_4 : decode cX9_learns 4 = .ok (.iload_n 1, 1) := by decide +kernel
theorem dX9_learns_5 : decode cX9_learns 5 = .ok (.dup2, 1) := by decide +kernel
theorem dX9_learns_6 : decode cX9_learns 6 = .ok (.iaload, 1) := by decide +kernel
theorem dX9_learns_7 : decode cX9_learns 7 = .ok (.iload_n 2, 1) := by decide +kernel
theorem dX9_learns_8 : decode cX9_learns 8 = .ok (.iadd, 1) := by decide +kernel
theorem dX9_learns_9 : decode cX9_learns 9 = .ok (.iastore, 1) := by decide +kernel
theorem dX9_learns_10 : decode cX9_learns 10 = .ok (.aload_n 0, 1) := by decide +kernel
theorem dX9_learns_11 : decode cX9_learns 11 = .ok (.dup, 1) := by decide +kernel
theorem dX9_learns_12 : decode cX9_learns 12 = .ok (.getfield 38, 3) := by decide +kernel
theorem dX9_learns_15 : decode cX9_learns 15 = .ok (.iload_n 2, 1) := by decide +kernel
theorem dX9_learns_16 : decode cX9_learns 16 = .ok (.iadd, 1) := by decide +kernel
theorem dX9_learns_17 : decode cX9_learns 17 = .ok (.putfield 38, 3) := by decide +kernel
theorem dX9_learns_20 : decode cX9_learns 20 = .ok (.aload_n 0, 1) := by decide +kernel
theorem dX9_learns_21 : decode cX9_learns 21 = .ok (.getfield 38, 3) := by decide +kernel
theorem dX9_learns_24 : decode cX9_learns 24 = .ok (.aload_n 0, 1) := by decide +kernel
theorem dX9_learns_25 : decode cX9_learns 25 = .ok (.getfield 7, 3) := by decide +kernel
theorem dX9_learns_28 : decode cX9_learns 28 = .ok (.iconst 1, 1) := by decide +kernel
theorem dX9_learns_29 : decode cX9_learns 29 = .ok (.iaload, 1) := by decide +kernel
theorem dX9_learns_30 : decode cX9_learns 30 = .ok (.if_icmp .le 63, 3) := by decide +kernel
theorem dX9_learns_33 : decode cX9_learns 33 = .ok (.aload_n 0, 1) := by decide +kernel
theorem dX9_learns_34 : decode cX9_learns 34 = .ok (.iconst 0, 1) := by decide +kernel
theorem dX9_learns_35 : decode cX9_learns 35 = .ok (.putfield 38, 3) := by decide +kernel
theorem dX9_learns_38 : decode cX9_learns 38 = .ok (.aload_n 0, 1) := by decide +kernel
theorem dX9_learns_39 : decode cX9_learns 39 = .ok (.dup, 1) := by decide +kernel
theorem dX9_learns_40 : decode cX9_learns 40 = .ok (.getfield 41, 3) := by decide +kernel
theorem dX9_learns_43 : decode cX9_learns 43 = .ok (.iconst 1, 1) := by decide +kernel
theorem dX9_learns_44 : decode cX9_learns 44 = .ok (.iadd, 1) := by decide +kernel
theorem dX9_learns_45 : decode cX9_learns 45 = .ok (.putfield 41, 3) := by decide +kernel
theorem dX9_learns_48 : decode cX9_learns 48 = .ok (.iconst 0, 1) := by decide +kernel
theorem dX9_learns_49 : decode cX9_learns 49 = .ok (.istore_n 3, 1) := by decide +kernel
theorem dX9_learns_50 : decode cX9_learns 50 = .ok (.iload_n 3, 1) := by decide +kernel
theorem dX9_learns_51 : decode cX9_learns 51 = .ok (.bipush 8, 2) := by decide +kernel
theorem dX9_learns_53 : decode cX9_learns 53 = .ok (.if_icmp .gt 40, 3) := by decide +kernel
theorem dX9_learns_56 : decode cX9_learns 56 = .ok (.aload_n 0, 1) := by decide +kernel
theorem dX9_learns_57 : decode cX9_learns 57 = .ok (.getfield 16, 3) := by decide +kernel
theorem dX9_learns_60 : decode cX9_learns 60 = .ok (.iload_n 3, 1) := by decide +kernel
theorem dX9_learns_61 : decode cX9_learns 61 = .ok (.aload_n 0, 1) := by decide +kernel
theorem dX9_learns_62 : decode cX9_learns 62 = .ok (.getfield 16, 3) := by decide +kernel
theorem dX9_learns_65 : decode cX9_learns 65 = .ok (.iload_n 3, 1) := by decide +kernel
theorem dX9_learns_66 : decode cX9_learns 66 = .ok (.iaload, 1) := by decide +kernel
theorem dX9_learns_67 : decode cX9_learns 67 = .ok (.iconst 1, 1) := by decide +kernel
theorem dX9_learns_68 : decode cX9_learns 68 = .ok (.iadd, 1) := by decide +kernel
theorem dX9_learns_69 : decode cX9_learns 69 = .ok (.iconst 2, 1) := by decide +kernel
theorem dX9_learns_70 : decode cX9_learns 70 = .ok (.idiv, 1) := by decide +kernel
theorem dX9_learns_71 : decode cX9_learns 71 = .ok (.iastore, 1) := by decide +kernel
theorem dX9_learns_72 : decode cX9_learns 72 = .ok (.aload_n 0, 1) := by decide +kernel
theorem dX9_learns_73 : decode cX9_learns 73 = .ok (.dup, 1) := by decide +kernel
theorem dX9_learns_74 : decode cX9_learns 74 = .ok (.getfield 38, 3) := by decide +kernel
theorem dX9_learns_77 : decode cX9_learns 77 = .ok (.aload_n 0, 1) := by decide +kernel
theorem dX9_learns_78 : decode cX9_learns 78 = .ok (.getfield 16, 3) := by decide +kernel
theorem dX9_learns_81 : decode cX9_learns 81 = .ok (.iload_n 3, 1) := by decide +kernel
theorem dX9_learns_82 : decode cX9_learns 82 = .ok (.iaload, 1) := by decide +kernel
theorem dX9_learns_83 : decode cX9_learns 83 = .ok (.iadd, 1) := by decide +kernel
theorem dX9_learns_84 : decode cX9_learns 84 = .ok (.putfield 38, 3) := by decide +kernel
theorem dX9_learns_87 : decode cX9_learns 87 = .ok (.iinc 3 1, 3) := by decide +kernel
theorem dX9_learns_90 : decode cX9_learns 90 = .ok (.goto (-40), 3) := by decide +kernel
theorem dX9_learns_93 : decode cX9_learns 93 = .ok (.return_, 1) := by decide +kernel
theorem dX9_below_0 : decode cX9_below 0 = .ok (.iconst 0, 1) := by decide +kernel
theorem dX9_below_1 : decode cX9_below 1 = .ok (.istore_n 2, 1) := by decide +kernel
theorem dX9_below_2 : decode cX9_below 2 = .ok (.iconst 0, 1) := by decide +kernel
theorem dX9_below_3 : decode cX9_below 3 = .ok (.istore_n 3, 1) := by decide +kernel
theorem dX9_below_4 : decode cX9_below 4 = .ok (.iload_n 3, 1) := by decide +kernel
theorem dX9_below_5 : decode cX9_below 5 = .ok (.iload_n 1, 1) := by decide +kernel
theorem dX9_below_6 : decode cX9_below 6 = .ok (.if_icmp .ge 18, 3) := by decide +kernel
theorem dX9_below_9 : decode cX9_below 9 = .ok (.iload_n 2, 1) := by decide +kernel
theorem dX9_below_10 : decode cX9_below 10 = .ok (.aload_n 0, 1) := by decide +kernel
theorem dX9_below_11 : decode cX9_below 11 = .ok (.getfield 16, 3) := by decide +kernel
theorem dX9_below_14 : decode cX9_below 14 = .ok (.iload_n 3, 1) := by decide +kernel
theorem dX9_below_15 : decode cX9_below 15 = .ok (.iaload, 1) := by decide +kernel
theorem dX9_below_16 : decode cX9_below 16 = .ok (.iadd, 1) := by decide +kernel
theorem dX9_below_17 : decode cX9_below 17 = .ok (.istore_n 2, 1) := by decide +kernel
theorem dX9_below_18 : decode cX9_below 18 = .ok (.iinc 3 1, 3) := by decide +kernel
theorem dX9_below_21 : decode cX9_below 21 = .ok (.goto (-17), 3) := by decide +kernel
theorem dX9_below_24 : decode cX9_below 24 = .ok (.iload_n 2, 1) := by decide +kernel
theorem dX9_below_25 : decode cX9_below 25 = .ok (.ireturn, 1) := by decide +kernel
theorem dX9_writes_0 : decode cX9_writes 0 = .ok (.aload_n 0, 1) := by decide +kernel
theorem dX9_writes_1 : decode cX9_writes 1 = .ok (.getfield 19, 3) := by decide +kernel
theorem dX9_writes_4 : decode cX9_writes 4 = .ok (.aload_n 0, 1) := by decide +kernel
theorem dX9_writes_5 : decode cX9_writes 5 = .ok (.getfield 44, 3) := by decide +kernel
theorem dX9_writes_8 : decode cX9_writes 8 = .ok (.iload_n 1, 1) := by decide +kernel
theorem dX9_writes_9 : decode cX9_writes 9 = .ok (.iastore, 1) := by decide +kernel
theorem dX9_writes_10 : decode cX9_writes 10 = .ok (.aload_n 0, 1) := by decide +kernel
theorem dX9_writes_11 : decode cX9_writes 11 = .ok (.dup, 1) := by decide +kernel
theorem dX9_writes_12 : decode cX9_writes 12 = .ok (.getfield 44, 3) := by decide +kernel
theorem dX9_writes_15 : decode cX9_writes 15 = .ok (.iconst 1, 1) := by decide +kernel
theorem dX9_writes_16 : decode cX9_writes 16 = .ok (.iadd, 1) := by decide +kernel
theorem dX9_writes_17 : decode cX9_writes 17 = .ok (.putfield 44, 3) := by decide +kernel
theorem dX9_writes_20 : decode cX9_writes 20 = .ok (.aload_n 0, 1) := by decide +kernel
theorem dX9_writes_21 : decode cX9_writes 21 = .ok (.getfield 47, 3) := by decide +kernel
theorem dX9_writes_24 : decode cX9_writes 24 = .ok (.ifCond .le 38, 3) := by decide +kernel
theorem dX9_writes_27 : decode cX9_writes 27 = .ok (.aload_n 0, 1) := by decide +kernel
theorem dX9_writes_28 : decode cX9_writes 28 = .ok (.getfield 19, 3) := by decide +kernel
theorem dX9_writes_31 : decode cX9_writes 31 = .ok (.aload_n 0, 1) := by decide +kernel
theorem dX9_writes_32 : decode cX9_writes 32 = .ok (.getfield 44, 3) := by decide +kernel
theorem dX9_writes_35 : decode cX9_writes 35 = .ok (.iconst 1, 1) := by decide +kernel
theorem dX9_writes_36 : decode cX9_writes 36 = .ok (.iload_n 1, 1) := by decide +kernel
theorem dX9_writes_37 : decode cX9_writes 37 = .ok (.isub, 1) := by decide +kernel
theorem dX9_writes_38 : decode cX9_writes 38 = .ok (.iastore, 1) := by decide +kernel
theorem dX9_writes_39 : decode cX9_writes 39 = .ok (.aload_n 0, 1) := by decide +kernel
theorem dX9_writes_40 : decode cX9_writes 40 = .ok (.dup, 1) := by decide +kernel
theorem dX9_writes_41 : decode cX9_writes 41 = .ok (.getfield 44, 3) := by decide +kernel
theorem dX9_writes_44 : decode cX9_writes 44 = .ok (.iconst 1, 1) := by decide +kernel
theorem dX9_writes_45 : decode cX9_writes 45 = .ok (.iadd, 1) := by decide +kernel
theorem dX9_writes_46 : decode cX9_writes 46 = .ok (.putfield 44, 3) := by decide +kernel
theorem dX9_writes_49 : decode cX9_writes 49 = .ok (.aload_n 0, 1) := by decide +kernel
theorem dX9_writes_50 : decode cX9_writes 50 = .ok (.dup, 1) := by decide +kernel
theorem dX9_writes_51 : decode cX9_writes 51 = .ok (.getfield 47, 3) := by decide +kernel
theorem dX9_writes_54 : decode cX9_writes 54 = .ok (.iconst 1, 1) := by decide +kernel
theorem dX9_writes_55 : decode cX9_writes 55 = .ok (.isub, 1) := by decide +kernel
theorem dX9_writes_56 : decode cX9_writes 56 = .ok (.putfield 47, 3) := by decide +kernel
theorem dX9_writes_59 : decode cX9_writes 59 = .ok (.goto (-39), 3) := by decide +kernel
theorem dX9_writes_62 : decode cX9_writes 62 = .ok (.return_, 1) := by decide +kernel
theorem dX9_cuts_0 : decode cX9_cuts 0 = .ok (.aload_n 0, 1) := by decide +kernel
theorem dX9_cuts_1 : decode cX9_cuts 1 = .ok (.getfield 50, 3) := by decide +kernel
theorem dX9_cuts_4 : decode cX9_cuts 4 = .ok (.aload_n 0, 1) := by decide +kernel
theorem dX9_cuts_5 : decode cX9_cuts 5 = .ok (.getfield 53, 3) := by decide +kernel
theorem dX9_cuts_8 : decode cX9_cuts 8 = .ok (.isub, 1) := by decide +kernel
theorem dX9_cuts_9 : decode cX9_cuts 9 = .ok (.iconst 1, 1) := by decide +kernel
theorem dX9_cuts_10 : decode cX9_cuts 10 = .ok (.iadd, 1) := by decide +kernel
theorem dX9_cuts_11 : decode cX9_cuts 11 = .ok (.istore_n 2, 1) := by decide +kernel
theorem dX9_cuts_12 : decode cX9_cuts 12 = .ok (.aload_n 0, 1) := by decide +kernel
theorem dX9_cuts_13 : decode cX9_cuts 13 = .ok (.iload_n 1, 1) := by decide +kernel
theorem dX9_cuts_14 : decode cX9_cuts 14 = .ok (.invokevirtual 56, 3) := by decide +kernel
theorem dX9_cuts_17 : decode cX9_cuts 17 = .ok (.istore_n 3, 1) := by decide +kernel
theorem dX9_cuts_18 : decode cX9_cuts 18 = .ok (.aload_n 0, 1) := by decide +kernel
theorem dX9_cuts_19 : decode cX9_cuts 19 = .ok (.aload_n 0, 1) := by decide +kernel
theorem dX9_cuts_20 : decode cX9_cuts 20 = .ok (.getfield 53, 3) := by decide +kernel
theorem dX9_cuts_23 : decode cX9_cuts 23 = .ok (.iload_n 2, 1) := by decide +kernel
theorem dX9_cuts_24 : decode cX9_cuts 24 = .ok (.iload_n 3, 1) := by decide +kernel
theorem dX9_cuts_25 : decode cX9_cuts 25 = .ok (.aload_n 0, 1) := by decide +kernel
theorem dX9_cuts_26 : decode cX9_cuts 26 = .ok (.getfield 16, 3) := by decide +kernel
theorem dX9_cuts_29 : decode cX9_cuts 29 = .ok (.iload_n 1, 1) := by decide +kernel
theorem dX9_cuts_30 : decode cX9_cuts 30 = .ok (.iaload, 1) := by decide +kernel
theorem dX9_cuts_31 : decode cX9_cuts 31 = .ok (.iadd, 1) := by decide +kernel
theorem dX9_cuts_32 : decode cX9_cuts 32 = .ok (.imul, 1) := by decide +kernel
theorem dX9_cuts_33 : decode cX9_cuts 33 = .ok (.aload_n 0, 1) := by decide +kernel
theorem dX9_cuts_34 : decode cX9_cuts 34 = .ok (.getfield 38, 3) := by decide +kernel
theorem dX9_cuts_37 : decode cX9_cuts 37 = .ok (.idiv, 1) := by decide +kernel
theorem dX9_cuts_38 : decode cX9_cuts 38 = .ok (.iadd, 1) := by decide +kernel
theorem dX9_cuts_39 : decode cX9_cuts 39 = .ok (.iconst 1, 1) := by decide +kernel
theorem dX9_cuts_40 : decode cX9_cuts 40 = .ok (.isub, 1) := by decide +kernel
theorem dX9_cuts_41 : decode cX9_cuts 41 = .ok (.putfield 50, 3) := by decide +kernel
theorem dX9_cuts_44 : decode cX9_cuts 44 = .ok (.aload_n 0, 1) := by decide +kernel
theorem dX9_cuts_45 : decode cX9_cuts 45 = .ok (.aload_n 0, 1) := by decide +kernel
theorem dX9_cuts_46 : decode cX9_cuts 46 = .ok (.getfield 53, 3) := by decide +kernel
theorem dX9_cuts_49 : decode cX9_cuts 49 = .ok (.iload_n 2, 1) := by decide +kernel
theorem dX9_cuts_50 : decode cX9_cuts 50 = .ok (.iload_n 3, 1) := by decide +kernel
theorem dX9_cuts_51 : decode cX9_cuts 51 = .ok (.imul, 1) := by decide +kernel
theorem dX9_cuts_52 : decode cX9_cuts 52 = .ok (.aload_n 0, 1) := by decide +kernel
theorem dX9_cuts_53 : decode cX9_cuts 53 = .ok (.getfield 38, 3) := by decide +kernel
theorem dX9_cuts_56 : decode cX9_cuts 56 = .ok (.idiv, 1) := by decide +kernel
theorem dX9_cuts_57 : decode cX9_cuts 57 = .ok (.iadd, 1) := by decide +kernel
theorem dX9_cuts_58 : decode cX9_cuts 58 = .ok (.putfield 53, 3) := by decide +kernel
theorem dX9_cuts_61 : decode cX9_cuts 61 = .ok (.return_, 1) := by decide +kernel
theorem dX9_takenOff_0 : decode cX9_takenOff 0 = .ok (.aload_n 0, 1) := by decide +kernel
theorem dX9_takenOff_1 : decode cX9_takenOff 1 = .ok (.getfield 50, 3) := by decide +kernel
theorem dX9_takenOff_4 : decode cX9_takenOff 4 = .ok (.ldc 60, 2) := by decide +kernel
theorem dX9_takenOff_6 : decode cX9_takenOff 6 = .ok (.if_icmp .ge 7, 3) := by decide +kernel
theorem dX9_takenOff_9 : decode cX9_takenOff 9 = .ok (.iconst 0, 1) := by decide +kernel
theorem dX9_takenOff_10 : decode cX9_takenOff 10 = .ok (.goto 43, 3) := by decide +kernel
theorem dX9_takenOff_13 : decode cX9_takenOff 13 = .ok (.aload_n 0, 1) := by decide +kernel
theorem dX9_takenOff_14 : decode cX9_takenOff 14 = .ok (.getfield 53, 3) := by decide +kernel
theorem dX9_takenOff_17 : decode cX9_takenOff 17 = .ok (.ldc 60, 2) := by decide +kernel
theorem dX9_takenOff_19 : decode cX9_takenOff 19 = .ok (.if_icmp .lt 8, 3) := by decide +kernel
theorem dX9_takenOff_22 : decode cX9_takenOff 22 = .ok (.ldc 60, 2) := by decide +kernel
theorem dX9_takenOff_24 : decode cX9_takenOff 24 = .ok (.goto 29, 3) := by decide +kernel
theorem dX9_takenOff_27 : decode cX9_takenOff 27 = .ok (.aload_n 0, 1) := by decide +kernel
theorem dX9_takenOff_28 : decode cX9_takenOff 28 = .ok (.getfield 53, 3) := by decide +kernel
theorem dX9_takenOff_31 : decode cX9_takenOff 31 = .ok (.sipush 16384, 3) := by decide +kernel
theorem dX9_takenOff_34 : decode cX9_takenOff 34 = .ok (.if_icmp .lt 18, 3) := by decide +kernel
theorem dX9_takenOff_37 : decode cX9_takenOff 37 = .ok (.aload_n 0, 1) := by decide +kernel
theorem dX9_takenOff_38 : decode cX9_takenOff 38 = .ok (.getfield 50, 3) := by decide +kernel
theorem dX9_takenOff_41 : decode cX9_takenOff 41 = .ok (.ldc 61, 2) := by decide +kernel
theorem dX9_takenOff_43 : decode cX9_takenOff 43 = .ok (.if_icmp .ge 9, 3) := by decide +kernel
theorem dX9_takenOff_46 : decode cX9_takenOff 46 = .ok (.sipush 16384, 3) := by decide +kernel
theorem dX9_takenOff_49 : decode cX9_takenOff 49 = .ok (.goto 4, 3) := by decide +kernel
theorem dX9_takenOff_52 : decode cX9_takenOff 52 = .ok (.iconst (-1), 1) := by decide +kernel
theorem dX9_takenOff_53 : decode cX9_takenOff 53 = .ok (.ireturn, 1) := by decide +kernel
theorem dX9_doubles_0 : decode cX9_doubles 0 = .ok (.aload_n 0, 1) := by decide +kernel
theorem dX9_doubles_1 : decode cX9_doubles 1 = .ok (.iconst 2, 1) := by decide +kernel
theorem dX9_doubles_2 : decode cX9_doubles 2 = .ok (.aload_n 0, 1) := by decide +kernel
theorem dX9_doubles_3 : decode cX9_doubles 3 = .ok (.getfield 53, 3) := by decide +kernel
theorem dX9_doubles_6 : decode cX9_doubles 6 = .ok (.iload_n 1, 1) := by decide +kernel
theorem dX9_doubles_7 : decode cX9_doubles 7 = .ok (.isub, 1) := by decide +kernel
theorem dX9_doubles_8 : decode cX9_doubles 8 = .ok (.imul, 1) := by decide +kernel
theorem dX9_doubles_9 : decode cX9_doubles 9 = .ok (.putfield 53, 3) := by decide +kernel
theorem dX9_doubles_12 : decode cX9_doubles 12 = .ok (.aload_n 0, 1) := by decide +kernel
theorem dX9_doubles_13 : decode cX9_doubles 13 = .ok (.iconst 2, 1) := by decide +kernel
theorem dX9_doubles_14 : decode cX9_doubles 14 = .ok (.aload_n 0, 1) := by decide +kernel
theorem dX9_doubles_15 : decode cX9_doubles 15 = .ok (.getfield 50, 3) := by decide +kernel
theorem dX9_doubles_18 : decode cX9_doubles 18 = .ok (.iload_n 1, 1) := by decide +kernel
theorem dX9_doubles_19 : decode cX9_doubles 19 = .ok (.isub, 1) := by decide +kernel
theorem dX9_doubles_20 : decode cX9_doubles 20 = .ok (.imul, 1) := by decide +kernel
theorem dX9_doubles_21 : decode cX9_doubles 21 = .ok (.iconst 1, 1) := by decide +kernel
theorem dX9_doubles_22 : decode cX9_doubles 22 = .ok (.iadd, 1) := by decide +kernel
theorem dX9_doubles_23 : decode cX9_doubles 23 = .ok (.putfield 50, 3) := by decide +kernel
theorem dX9_doubles_26 : decode cX9_doubles 26 = .ok (.return_, 1) := by decide +kernel
theorem dX9_narrows_0 : decode cX9_narrows 0 = .ok (.aload_n 0, 1) := by decide +kernel
theorem dX9_narrows_1 : decode cX9_narrows 1 = .ok (.iload_n 1, 1) := by decide +kernel
theorem dX9_narrows_2 : decode cX9_narrows 2 = .ok (.invokevirtual 62, 3) := by decide +kernel
theorem dX9_narrows_5 : decode cX9_narrows 5 = .ok (.aload_n 0, 1) := by decide +kernel
theorem dX9_narrows_6 : decode cX9_narrows 6 = .ok (.invokevirtual 66, 3) := by decide +kernel
theorem dX9_narrows_9 : decode cX9_narrows 9 = .ok (.istore_n 2, 1) := by decide +kernel
theorem dX9_narrows_10 : decode cX9_narrows 10 = .ok (.iload_n 2, 1) := by decide +kernel
theorem dX9_narrows_11 : decode cX9_narrows 11 = .ok (.ifCond .lt 49, 3) := by decide +kernel
theorem dX9_narrows_14 : decode cX9_narrows 14 = .ok (.iload_n 2, 1) := by decide +kernel
theorem dX9_narrows_15 : decode cX9_narrows 15 = .ok (.sipush 16384, 3) := by decide +kernel
theorem dX9_narrows_18 : decode cX9_narrows 18 = .ok (.if_icmp .ne 16, 3) := by decide +kernel
theorem dX9_narrows_21 : decode cX9_narrows 21 = .ok (.aload_n 0, 1) := by decide +kernel
theorem dX9_narrows_22 : decode cX9_narrows 22 = .ok (.dup, 1) := by decide +kernel
theorem dX9_narrows_23 : decode cX9_narrows 23 = .ok (.getfield 47, 3) := by decide +kernel
theorem dX9_narrows_26 : decode cX9_narrows 26 = .ok (.iconst 1, 1) := by decide +kernel
theorem dX9_narrows_27 : decode cX9_narrows 27 = .ok (.iadd, 1) := by decide +kernel
theorem dX9_narrows_28 : decode cX9_narrows 28 = .ok (.putfield 47, 3) := by decide +kernel
theorem dX9_narrows_31 : decode cX9_narrows 31 = .ok (.goto 16, 3) := by decide +kernel
theorem dX9_narrows_34 : decode cX9_narrows 34 = .ok (.aload_n 0, 1) := by decide +kernel
theorem dX9_narrows_35 : decode cX9_narrows 35 = .ok (.iload_n 2, 1) := by decide +kernel
theorem dX9_narrows_36 : decode cX9_narrows 36 = .ok (.ifCond .ne 7, 3) := by decide +kernel
theorem dX9_narrows_39 : decode cX9_narrows 39 = .ok (.iconst 0, 1) := by decide +kernel
theorem dX9_narrows_40 : decode cX9_narrows 40 = .ok (.goto 4, 3) := by decide +kernel
theorem dX9_narrows_43 : decode cX9_narrows 43 = .ok (.iconst 1, 1) := by decide +kernel
theorem dX9_narrows_44 : decode cX9_narrows 44 = .ok (.invokevirtual 70, 3) := by decide +kernel
theorem dX9_narrows_47 : decode cX9_narrows 47 = .ok (.aload_n 0, 1) := by decide +kernel
theorem dX9_narrows_48 : decode cX9_narrows 48 = .ok (.iload_n 2, 1) := by decide +kernel
theorem dX9_narrows_49 : decode cX9_narrows 49 = .ok (.invokevirtual 73, 3) := by decide +kernel
theorem dX9_narrows_52 : decode cX9_narrows 52 = .ok (.aload_n 0, 1) := by decide +kernel
theorem dX9_narrows_53 : decode cX9_narrows 53 = .ok (.invokevirtual 66, 3) := by decide +kernel
theorem dX9_narrows_56 : decode cX9_narrows 56 = .ok (.istore_n 2, 1) := by decide +kernel
theorem dX9_narrows_57 : decode cX9_narrows 57 = .ok (.goto (-47), 3) := by decide +kernel
theorem dX9_narrows_60 : decode cX9_narrows 60 = .ok (.return_, 1) := by decide +kernel
theorem dX9_beginsSpan_0 : decode cX9_beginsSpan 0 = .ok (.aload_n 0, 1) := by decide +kernel
theorem dX9_beginsSpan_1 : decode cX9_beginsSpan 1 = .ok (.invokevirtual 76, 3) := by decide +kernel
theorem dX9_beginsSpan_4 : decode cX9_beginsSpan 4 = .ok (.aload_n 0, 1) := by decide +kernel
theorem dX9_beginsSpan_5 : decode cX9_beginsSpan 5 = .ok (.iconst 0, 1) := by decide +kernel
theorem dX9_beginsSpan_6 : decode cX9_beginsSpan 6 = .ok (.putfield 53, 3) := by decide +kernel
theorem dX9_beginsSpan_9 : decode cX9_beginsSpan 9 = .ok (.aload_n 0, 1) := by decide +kernel
theorem dX9_beginsSpan_10 : decode cX9_beginsSpan 10 = .ok (.ldc 79, 2) := by decide +kernel
theorem dX9_beginsSpan_12 : decode cX9_beginsSpan 12 = .ok (.putfield 50, 3) := by decide +kernel
theorem dX9_beginsSpan_15 : decode cX9_beginsSpan 15 = .ok (.return_, 1) := by decide +kernel
theorem dX9_ends_0 : decode cX9_ends 0 = .ok (.aload_n 0, 1) := by decide +kernel
theorem dX9_ends_1 : decode cX9_ends 1 = .ok (.bipush 8, 2) := by decide +kernel
theorem dX9_ends_3 : decode cX9_ends 3 = .ok (.invokevirtual 80, 3) := by decide +kernel
theorem dX9_ends_6 : decode cX9_ends 6 = .ok (.aload_n 0, 1) := by decide +kernel
theorem dX9_ends_7 : decode cX9_ends 7 = .ok (.dup, 1) := by decide +kernel
theorem dX9_ends_8 : decode cX9_ends 8 = .ok (.getfield 47, 3) := by decide +kernel
theorem dX9_ends_11 : decode cX9_ends 11 = .ok (.iconst 1, 1) := by decide +kernel
theorem dX9_ends_12 : decode cX9_ends 12 = .ok (.iadd, 1) := by decide +kernel
theorem dX9_ends_13 : decode cX9_ends 13 = .ok (.putfield 47, 3) := by decide +kernel
theorem dX9_ends_16 : decode cX9_ends 16 = .ok (.aload_n 0, 1) := by decide +kernel
theorem dX9_ends_17 : decode cX9_ends 17 = .ok (.aload_n 0, 1) := by decide +kernel
theorem dX9_ends_18 : decode cX9_ends 18 = .ok (.getfield 53, 3) := by decide +kernel
theorem dX9_ends_21 : decode cX9_ends 21 = .ok (.sipush 16384, 3) := by decide +kernel
theorem dX9_ends_24 : decode cX9_ends 24 = .ok (.if_icmp .ge 7, 3) := by decide +kernel
theorem dX9_ends_27 : decode cX9_ends 27 = .ok (.iconst 0, 1) := by decide +kernel
theorem dX9_ends_28 : decode cX9_ends 28 = .ok (.goto 4, 3) := by decide +kernel
theorem dX9_ends_31 : decode cX9_ends 31 = .ok (.iconst 1, 1) := by decide +kernel
theorem dX9_ends_32 : decode cX9_ends 32 = .ok (.invokevirtual 70, 3) := by decide +kernel
theorem dX9_ends_35 : decode cX9_ends 35 = .ok (.return_, 1) := by decide +kernel
theorem dX9_putsAll_0 : decode cX9_putsAll 0 = .ok (.aload_n 0, 1) := by decide +kernel
theorem dX9_putsAll_1 : decode cX9_putsAll 1 = .ok (.invokevirtual 83, 3) := by decide +kernel
theorem dX9_putsAll_4 : decode cX9_putsAll 4 = .ok (.aload_n 0, 1) := by decide +kernel
theorem dX9_putsAll_5 : decode cX9_putsAll 5 = .ok (.iconst 0, 1) := by decide +kernel
theorem dX9_putsAll_6 : decode cX9_putsAll 6 = .ok (.putfield 47, 3) := by decide +kernel
theorem dX9_putsAll_9 : decode cX9_putsAll 9 = .ok (.aload_n 0, 1) := by decide +kernel
theorem dX9_putsAll_10 : decode cX9_putsAll 10 = .ok (.iconst 0, 1) := by decide +kernel
theorem dX9_putsAll_11 : decode cX9_putsAll 11 = .ok (.putfield 44, 3) := by decide +kernel
theorem dX9_putsAll_14 : decode cX9_putsAll 14 = .ok (.iconst 0, 1) := by decide +kernel
theorem dX9_putsAll_15 : decode cX9_putsAll 15 = .ok (.istore_n 3, 1) := by decide +kernel
theorem dX9_putsAll_16 : decode cX9_putsAll 16 = .ok (.iload_n 3, 1) := by decide +kernel
theorem dX9_putsAll_17 : decode cX9_putsAll 17 = .ok (.aload_n 0, 1) := by decide +kernel
theorem dX9_putsAll_18 : decode cX9_putsAll 18 = .ok (.getfield 7, 3) := by decide +kernel
theorem dX9_putsAll_21 : decode cX9_putsAll 21 = .ok (.iconst 2, 1) := by decide +kernel
theorem dX9_putsAll_22 : decode cX9_putsAll 22 = .ok (.iaload, 1) := by decide +kernel
theorem dX9_putsAll_23 : decode cX9_putsAll 23 = .ok (.if_icmp .ge 53, 3) := by decide +kernel
theorem dX9_putsAll_26 : decode cX9_putsAll 26 = .ok (.aload_n 0, 1) := by decide +kernel
theorem dX9_putsAll_27 : decode cX9_putsAll 27 = .ok (.getfield 44, 3) := by decide +kernel
theorem dX9_putsAll_30 : decode cX9_putsAll 30 = .ok (.istore 4, 2) := by decide +kernel
theorem dX9_putsAll_32 : decode cX9_putsAll 32 = .ok (.aload_n 0, 1) := by decide +kernel
theorem dX9_putsAll_33 : decode cX9_putsAll 33 = .ok (.aload_n 0, 1) := by decide +kernel
theorem dX9_putsAll_34 : decode cX9_putsAll 34 = .ok (.getfield 7, 3) := by decide +kernel
theorem dX9_putsAll_37 : decode cX9_putsAll 37 = .ok (.iconst 4, 1) := by decide +kernel
theorem dX9_putsAll_38 : decode cX9_putsAll 38 = .ok (.iload_n 3, 1) := by decide +kernel
theorem dX9_putsAll_39 : decode cX9_putsAll 39 = .ok (.iadd, 1) := by decide +kernel
theorem dX9_putsAll_40 : decode cX9_putsAll 40 = .ok (.iaload, 1) := by decide +kernel
theorem dX9_putsAll_41 : decode cX9_putsAll 41 = .ok (.invokevirtual 80, 3) := by decide +kernel
theorem dX9_putsAll_44 : decode cX9_putsAll 44 = .ok (.aload_n 0, 1) := by decide +kernel
theorem dX9_putsAll_45 : decode cX9_putsAll 45 = .ok (.getfield 22, 3) := by decide +kernel
theorem dX9_putsAll_48 : decode cX9_putsAll 48 = .ok (.iload_n 3, 1) := by decide +kernel
theorem dX9_putsAll_49 : decode cX9_putsAll 49 = .ok (.aload_n 0, 1) := by decide +kernel
theorem dX9_putsAll_50 : decode cX9_putsAll 50 = .ok (.getfield 44, 3) := by decide +kernel
theorem dX9_putsAll_53 : decode cX9_putsAll 53 = .ok (.iload 4, 2) := by decide +kernel
theorem dX9_putsAll_55 : decode cX9_putsAll 55 = .ok (.isub, 1) := by decide +kernel
theorem dX9_putsAll_56 : decode cX9_putsAll 56 = .ok (.iastore, 1) := by decide +kernel
theorem dX9_putsAll_57 : decode cX9_putsAll 57 = .ok (.aload_n 0, 1) := by decide +kernel
theorem dX9_putsAll_58 : decode cX9_putsAll 58 = .ok (.aload_n 0, 1) := by decide +kernel
theorem dX9_putsAll_59 : decode cX9_putsAll 59 = .ok (.getfield 7, 3) := by decide +kernel
theorem dX9_putsAll_62 : decode cX9_putsAll 62 = .ok (.iconst 4, 1) := by decide +kernel
theorem dX9_putsAll_63 : decode cX9_putsAll 63 = .ok (.iload_n 3, 1) := by decide +kernel
theorem dX9_putsAll_64 : decode cX9_putsAll 64 = .ok (.iadd, 1) := by decide +kernel
theorem dX9_putsAll_65 : decode cX9_putsAll 65 = .ok (.iaload, 1) := by decide +kernel
theorem dX9_putsAll_66 : decode cX9_putsAll 66 = .ok (.iload_n 1, 1) := by decide +kernel
theorem dX9_putsAll_67 : decode cX9_putsAll 67 = .ok (.invokevirtual 86, 3) := by decide +kernel
theorem dX9_putsAll_70 : decode cX9_putsAll 70 = .ok (.iinc 3 1, 3) := by decide +kernel
theorem dX9_putsAll_73 : decode cX9_putsAll 73 = .ok (.goto (-57), 3) := by decide +kernel
theorem dX9_putsAll_76 : decode cX9_putsAll 76 = .ok (.iload_n 2, 1) := by decide +kernel
theorem dX9_putsAll_77 : decode cX9_putsAll 77 = .ok (.ifCond .eq 7, 3) := by decide +kernel
theorem dX9_putsAll_80 : decode cX9_putsAll 80 = .ok (.aload_n 0, 1) := by decide +kernel
theorem dX9_putsAll_81 : decode cX9_putsAll 81 = .ok (.invokevirtual 90, 3) := by decide +kernel
theorem dX9_putsAll_84 : decode cX9_putsAll 84 = .ok (.return_, 1) := by decide +kernel
theorem dX9_putsNow_0 : decode cX9_putsNow 0 = .ok (.aload_n 0, 1) := by decide +kernel
theorem dX9_putsNow_1 : decode cX9_putsNow 1 = .ok (.aload_n 0, 1) := by decide +kernel
theorem dX9_putsNow_2 : decode cX9_putsNow 2 = .ok (.getfield 7, 3) := by decide +kernel
theorem dX9_putsNow_5 : decode cX9_putsNow 5 = .ok (.iconst 0, 1) := by decide +kernel
theorem dX9_putsNow_6 : decode cX9_putsNow 6 = .ok (.iaload, 1) := by decide +kernel
theorem dX9_putsNow_7 : decode cX9_putsNow 7 = .ok (.aload_n 0, 1) := by decide +kernel
theorem dX9_putsNow_8 : decode cX9_putsNow 8 = .ok (.getfield 7, 3) := by decide +kernel
theorem dX9_putsNow_11 : decode cX9_putsNow 11 = .ok (.iconst 3, 1) := by decide +kernel
theorem dX9_putsNow_12 : decode cX9_putsNow 12 = .ok (.iaload, 1) := by decide +kernel
theorem dX9_putsNow_13 : decode cX9_putsNow 13 = .ok (.iconst 1, 1) := by decide +kernel
theorem dX9_putsNow_14 : decode cX9_putsNow 14 = .ok (.if_icmp .ne 7, 3) := by decide +kernel
theorem dX9_putsNow_17 : decode cX9_putsNow 17 = .ok (.iconst 1, 1) := by decide +kernel
theorem dX9_putsNow_18 : decode cX9_putsNow 18 = .ok (.goto 4, 3) := by decide +kernel
theorem dX9_putsNow_21 : decode cX9_putsNow 21 = .ok (.iconst 0, 1) := by decide +kernel
theorem dX9_putsNow_22 : decode cX9_putsNow 22 = .ok (.invokevirtual 93, 3) := by decide +kernel
theorem dX9_putsNow_25 : decode cX9_putsNow 25 = .ok (.return_, 1) := by decide +kernel
theorem dX9_bitsNow_0 : decode cX9_bitsNow 0 = .ok (.aload_n 0, 1) := by decide +kernel
theorem dX9_bitsNow_1 : decode cX9_bitsNow 1 = .ok (.invokevirtual 97, 3) := by decide +kernel
theorem dX9_bitsNow_4 : decode cX9_bitsNow 4 = .ok (.aload_n 0, 1) := by decide +kernel
theorem dX9_bitsNow_5 : decode cX9_bitsNow 5 = .ok (.getfield 44, 3) := by decide +kernel
theorem dX9_bitsNow_8 : decode cX9_bitsNow 8 = .ok (.ireturn, 1) := by decide +kernel
theorem dX9_put_0 : decode cX9_put 0 = .ok (.iload_n 1, 1) := by decide +kernel
theorem dX9_put_1 : decode cX9_put 1 = .ok (.i2l, 1) := by decide +kernel
theorem dX9_put_2 : decode cX9_put 2 = .ok (.lconst 0, 1) := by decide +kernel
theorem dX9_put_3 : decode cX9_put 3 = .ok (.ldc2_w 100, 3) := by decide +kernel
theorem dX9_put_6 : decode cX9_put 6 = .ok (.invokestatic 102, 3) := by decide +kernel
theorem dX9_put_9 : decode cX9_put 9 = .ok (.ifCond .ne 5, 3) := by decide +kernel
theorem dX9_put_12 : decode cX9_put 12 = .ok (.iconst (-1), 1) := by decide +kernel
theorem dX9_put_13 : decode cX9_put 13 = .ok (.ireturn, 1) := by decide +kernel
theorem dX9_put_14 : decode cX9_put 14 = .ok (.aload_n 0, 1) := by decide +kernel
theorem dX9_put_15 : decode cX9_put 15 = .ok (.getfield 7, 3) := by decide +kernel
theorem dX9_put_18 : decode cX9_put 18 = .ok (.iconst 3, 1) := by decide +kernel
theorem dX9_put_19 : decode cX9_put 19 = .ok (.iaload, 1) := by decide +kernel
theorem dX9_put_20 : decode cX9_put 20 = .ok (.iconst 1, 1) := by decide +kernel
theorem dX9_put_21 : decode cX9_put 21 = .ok (.if_icmp .ne 6, 3) := by decide +kernel
end
section
theorem dX9_put_24 : decode cX9_put 24 = .ok (.bipush (-2), 2) := by decide +kernel
theorem dX9_put_26 : decode cX9_put 26 = .ok (.ireturn, 1) := by decide +kernel
theorem dX9_put_27 : decode cX9_put 27 = .ok (.aload_n 0, 1) := by decide +kernel
theorem dX9_put_28 : decode cX9_put 28 = .ok (.getfield 7, 3) := by decide +kernel
theorem dX9_put_31 : decode cX9_put 31 = .ok (.iconst 2, 1) := by decide +kernel
theorem dX9_put_32 : decode cX9_put 32 = .ok (.iaload, 1) := by decide +kernel
theorem dX9_put_33 : decode cX9_put 33 = .ok (.bipush 40, 2) := by decide +kernel
theorem dX9_put_35 : decode cX9_put 35 = .ok (.if_icmp .ne 6, 3) := by decide +kernel
theorem dX9_put_38 : decode cX9_put 38 = .ok (.bipush (-3), 2) := by decide +kernel
theorem dX9_put_40 : decode cX9_put 40 = .ok (.ireturn, 1) := by decide +kernel
theorem dX9_put_41 : decode cX9_put 41 = .ok (.aload_n 0, 1) := by decide +kernel
theorem dX9_put_42 : decode cX9_put 42 = .ok (.invokevirtual 106, 3) := by decide +kernel
theorem dX9_put_45 : decode cX9_put 45 = .ok (.aload_n 0, 1) := by decide +kernel
theorem dX9_put_46 : decode cX9_put 46 = .ok (.getfield 7, 3) := by decide +kernel
theorem dX9_put_49 : decode cX9_put 49 = .ok (.iconst 4, 1) := by decide +kernel
theorem dX9_put_50 : decode cX9_put 50 = .ok (.aload_n 0, 1) := by decide +kernel
theorem dX9_put_51 : decode cX9_put 51 = .ok (.getfield 7, 3) := by decide +kernel
theorem dX9_put_54 : decode cX9_put 54 = .ok (.iconst 2, 1) := by decide +kernel
theorem dX9_put_55 : decode cX9_put 55 = .ok (.iaload, 1) := by decide +kernel
theorem dX9_put_56 : decode cX9_put 56 = .ok (.iadd, 1) := by decide +kernel
theorem dX9_put_57 : decode cX9_put 57 = .ok (.iload_n 1, 1) := by decide +kernel
theorem dX9_put_58 : decode cX9_put 58 = .ok (.iastore, 1) := by decide +kernel
theorem dX9_put_59 : decode cX9_put 59 = .ok (.aload_n 0, 1) := by decide +kernel
theorem dX9_put_60 : decode cX9_put 60 = .ok (.getfield 7, 3) := by decide +kernel
theorem dX9_put_63 : decode cX9_put 63 = .ok (.iconst 2, 1) := by decide +kernel
theorem dX9_put_64 : decode cX9_put 64 = .ok (.dup2, 1) := by decide +kernel
theorem dX9_put_65 : decode cX9_put 65 = .ok (.iaload, 1) := by decide +kernel
theorem dX9_put_66 : decode cX9_put 66 = .ok (.iconst 1, 1) := by decide +kernel
theorem dX9_put_67 : decode cX9_put 67 = .ok (.iadd, 1) := by decide +kernel
theorem dX9_put_68 : decode cX9_put 68 = .ok (.iastore, 1) := by decide +kernel
theorem dX9_put_69 : decode cX9_put 69 = .ok (.aload_n 0, 1) := by decide +kernel
theorem dX9_put_70 : decode cX9_put 70 = .ok (.invokevirtual 97, 3) := by decide +kernel
theorem dX9_put_73 : decode cX9_put 73 = .ok (.aload_n 0, 1) := by decide +kernel
theorem dX9_put_74 : decode cX9_put 74 = .ok (.getfield 22, 3) := by decide +kernel
theorem dX9_put_77 : decode cX9_put 77 = .ok (.aload_n 0, 1) := by decide +kernel
theorem dX9_put_78 : decode cX9_put 78 = .ok (.getfield 7, 3) := by decide +kernel
theorem dX9_put_81 : decode cX9_put 81 = .ok (.iconst 2, 1) := by decide +kernel
theorem dX9_put_82 : decode cX9_put 82 = .ok (.iaload, 1) := by decide +kernel
theorem dX9_put_83 : decode cX9_put 83 = .ok (.iconst 1, 1) := by decide +kernel
theorem dX9_put_84 : decode cX9_put 84 = .ok (.isub, 1) := by decide +kernel
theorem dX9_put_85 : decode cX9_put 85 = .ok (.iaload, 1) := by decide +kernel
theorem dX9_put_86 : decode cX9_put 86 = .ok (.ireturn, 1) := by decide +kernel
theorem dX9_end_0 : decode cX9_end 0 = .ok (.aload_n 0, 1) := by decide +kernel
theorem dX9_end_1 : decode cX9_end 1 = .ok (.getfield 7, 3) := by decide +kernel
theorem dX9_end_4 : decode cX9_end 4 = .ok (.iconst 3, 1) := by decide +kernel
theorem dX9_end_5 : decode cX9_end 5 = .ok (.iaload, 1) := by decide +kernel
theorem dX9_end_6 : decode cX9_end 6 = .ok (.iconst 1, 1) := by decide +kernel
theorem dX9_end_7 : decode cX9_end 7 = .ok (.if_icmp .ne 6, 3) := by decide +kernel
theorem dX9_end_10 : decode cX9_end 10 = .ok (.bipush (-2), 2) := by decide +kernel
theorem dX9_end_12 : decode cX9_end 12 = .ok (.ireturn, 1) := by decide +kernel
theorem dX9_end_13 : decode cX9_end 13 = .ok (.aload_n 0, 1) := by decide +kernel
theorem dX9_end_14 : decode cX9_end 14 = .ok (.invokevirtual 106, 3) := by decide +kernel
theorem dX9_end_17 : decode cX9_end 17 = .ok (.aload_n 0, 1) := by decide +kernel
theorem dX9_end_18 : decode cX9_end 18 = .ok (.getfield 7, 3) := by decide +kernel
theorem dX9_end_21 : decode cX9_end 21 = .ok (.iconst 3, 1) := by decide +kernel
theorem dX9_end_22 : decode cX9_end 22 = .ok (.iconst 1, 1) := by decide +kernel
theorem dX9_end_23 : decode cX9_end 23 = .ok (.iastore, 1) := by decide +kernel
theorem dX9_end_24 : decode cX9_end 24 = .ok (.aload_n 0, 1) := by decide +kernel
theorem dX9_end_25 : decode cX9_end 25 = .ok (.invokevirtual 109, 3) := by decide +kernel
theorem dX9_end_28 : decode cX9_end 28 = .ok (.ireturn, 1) := by decide +kernel
theorem dX9_begins_0 : decode cX9_begins 0 = .ok (.aload_n 0, 1) := by decide +kernel
theorem dX9_begins_1 : decode cX9_begins 1 = .ok (.getfield 7, 3) := by decide +kernel
theorem dX9_begins_4 : decode cX9_begins 4 = .ok (.iconst 2, 1) := by decide +kernel
theorem dX9_begins_5 : decode cX9_begins 5 = .ok (.iaload, 1) := by decide +kernel
theorem dX9_begins_6 : decode cX9_begins 6 = .ok (.istore_n 1, 1) := by decide +kernel
theorem dX9_begins_7 : decode cX9_begins 7 = .ok (.aload_n 0, 1) := by decide +kernel
theorem dX9_begins_8 : decode cX9_begins 8 = .ok (.getfield 7, 3) := by decide +kernel
theorem dX9_begins_11 : decode cX9_begins 11 = .ok (.iconst 2, 1) := by decide +kernel
theorem dX9_begins_12 : decode cX9_begins 12 = .ok (.iconst 0, 1) := by decide +kernel
theorem dX9_begins_13 : decode cX9_begins 13 = .ok (.iastore, 1) := by decide +kernel
theorem dX9_begins_14 : decode cX9_begins 14 = .ok (.aload_n 0, 1) := by decide +kernel
theorem dX9_begins_15 : decode cX9_begins 15 = .ok (.getfield 7, 3) := by decide +kernel
theorem dX9_begins_18 : decode cX9_begins 18 = .ok (.iconst 3, 1) := by decide +kernel
theorem dX9_begins_19 : decode cX9_begins 19 = .ok (.iconst 0, 1) := by decide +kernel
theorem dX9_begins_20 : decode cX9_begins 20 = .ok (.iastore, 1) := by decide +kernel
theorem dX9_begins_21 : decode cX9_begins 21 = .ok (.iload_n 1, 1) := by decide +kernel
theorem dX9_begins_22 : decode cX9_begins 22 = .ok (.ireturn, 1) := by decide +kernel
theorem dX9_begin_0 : decode cX9_begin 0 = .ok (.aload_n 0, 1) := by decide +kernel
theorem dX9_begin_1 : decode cX9_begin 1 = .ok (.invokevirtual 106, 3) := by decide +kernel
theorem dX9_begin_4 : decode cX9_begin 4 = .ok (.aload_n 0, 1) := by decide +kernel
theorem dX9_begin_5 : decode cX9_begin 5 = .ok (.invokevirtual 112, 3) := by decide +kernel
theorem dX9_begin_8 : decode cX9_begin 8 = .ok (.ireturn, 1) := by decide +kernel
theorem dX9_drop_0 : decode cX9_drop 0 = .ok (.iload_n 1, 1) := by decide +kernel
theorem dX9_drop_1 : decode cX9_drop 1 = .ok (.i2l, 1) := by decide +kernel
theorem dX9_drop_2 : decode cX9_drop 2 = .ok (.lconst 1, 1) := by decide +kernel
theorem dX9_drop_3 : decode cX9_drop 3 = .ok (.ldc2_w 115, 3) := by decide +kernel
theorem dX9_drop_6 : decode cX9_drop 6 = .ok (.invokestatic 102, 3) := by decide +kernel
theorem dX9_drop_9 : decode cX9_drop 9 = .ok (.ifCond .ne 5, 3) := by decide +kernel
theorem dX9_drop_12 : decode cX9_drop 12 = .ok (.iconst (-1), 1) := by decide +kernel
theorem dX9_drop_13 : decode cX9_drop 13 = .ok (.ireturn, 1) := by decide +kernel
theorem dX9_drop_14 : decode cX9_drop 14 = .ok (.iload_n 1, 1) := by decide +kernel
theorem dX9_drop_15 : decode cX9_drop 15 = .ok (.aload_n 0, 1) := by decide +kernel
theorem dX9_drop_16 : decode cX9_drop 16 = .ok (.getfield 7, 3) := by decide +kernel
theorem dX9_drop_19 : decode cX9_drop 19 = .ok (.iconst 2, 1) := by decide +kernel
theorem dX9_drop_20 : decode cX9_drop 20 = .ok (.iaload, 1) := by decide +kernel
theorem dX9_drop_21 : decode cX9_drop 21 = .ok (.if_icmp .le 6, 3) := by decide +kernel
theorem dX9_drop_24 : decode cX9_drop 24 = .ok (.bipush (-2), 2) := by decide +kernel
theorem dX9_drop_26 : decode cX9_drop 26 = .ok (.ireturn, 1) := by decide +kernel
theorem dX9_drop_27 : decode cX9_drop 27 = .ok (.aload_n 0, 1) := by decide +kernel
theorem dX9_drop_28 : decode cX9_drop 28 = .ok (.invokevirtual 106, 3) := by decide +kernel
theorem dX9_drop_31 : decode cX9_drop 31 = .ok (.aload_n 0, 1) := by decide +kernel
theorem dX9_drop_32 : decode cX9_drop 32 = .ok (.getfield 7, 3) := by decide +kernel
theorem dX9_drop_35 : decode cX9_drop 35 = .ok (.iconst 2, 1) := by decide +kernel
theorem dX9_drop_36 : decode cX9_drop 36 = .ok (.dup2, 1) := by decide +kernel
theorem dX9_drop_37 : decode cX9_drop 37 = .ok (.iaload, 1) := by decide +kernel
theorem dX9_drop_38 : decode cX9_drop 38 = .ok (.iload_n 1, 1) := by decide +kernel
theorem dX9_drop_39 : decode cX9_drop 39 = .ok (.isub, 1) := by decide +kernel
theorem dX9_drop_40 : decode cX9_drop 40 = .ok (.iastore, 1) := by decide +kernel
theorem dX9_drop_41 : decode cX9_drop 41 = .ok (.aload_n 0, 1) := by decide +kernel
theorem dX9_drop_42 : decode cX9_drop 42 = .ok (.getfield 7, 3) := by decide +kernel
theorem dX9_drop_45 : decode cX9_drop 45 = .ok (.iconst 3, 1) := by decide +kernel
theorem dX9_drop_46 : decode cX9_drop 46 = .ok (.iconst 0, 1) := by decide +kernel
theorem dX9_drop_47 : decode cX9_drop 47 = .ok (.iastore, 1) := by decide +kernel
theorem dX9_drop_48 : decode cX9_drop 48 = .ok (.aload_n 0, 1) := by decide +kernel
theorem dX9_drop_49 : decode cX9_drop 49 = .ok (.invokevirtual 109, 3) := by decide +kernel
theorem dX9_drop_52 : decode cX9_drop 52 = .ok (.ireturn, 1) := by decide +kernel
theorem dX9_mend_0 : decode cX9_mend 0 = .ok (.iload_n 1, 1) := by decide +kernel
theorem dX9_mend_1 : decode cX9_mend 1 = .ok (.ifCond .lt 15, 3) := by decide +kernel
theorem dX9_mend_4 : decode cX9_mend 4 = .ok (.iload_n 2, 1) := by decide +kernel
theorem dX9_mend_5 : decode cX9_mend 5 = .ok (.i2l, 1) := by decide +kernel
theorem dX9_mend_6 : decode cX9_mend 6 = .ok (.lconst 0, 1) := by decide +kernel
theorem dX9_mend_7 : decode cX9_mend 7 = .ok (.ldc2_w 100, 3) := by decide +kernel
theorem dX9_mend_10 : decode cX9_mend 10 = .ok (.invokestatic 102, 3) := by decide +kernel
theorem dX9_mend_13 : decode cX9_mend 13 = .ok (.ifCond .ne 5, 3) := by decide +kernel
theorem dX9_mend_16 : decode cX9_mend 16 = .ok (.iconst (-1), 1) := by decide +kernel
theorem dX9_mend_17 : decode cX9_mend 17 = .ok (.ireturn, 1) := by decide +kernel
theorem dX9_mend_18 : decode cX9_mend 18 = .ok (.iload_n 1, 1) := by decide +kernel
theorem dX9_mend_19 : decode cX9_mend 19 = .ok (.aload_n 0, 1) := by decide +kernel
theorem dX9_mend_20 : decode cX9_mend 20 = .ok (.getfield 7, 3) := by decide +kernel
theorem dX9_mend_23 : decode cX9_mend 23 = .ok (.iconst 2, 1) := by decide +kernel
theorem dX9_mend_24 : decode cX9_mend 24 = .ok (.iaload, 1) := by decide +kernel
theorem dX9_mend_25 : decode cX9_mend 25 = .ok (.if_icmp .lt 6, 3) := by decide +kernel
theorem dX9_mend_28 : decode cX9_mend 28 = .ok (.bipush (-2), 2) := by decide +kernel
theorem dX9_mend_30 : decode cX9_mend 30 = .ok (.ireturn, 1) := by decide +kernel
theorem dX9_mend_31 : decode cX9_mend 31 = .ok (.aload_n 0, 1) := by decide +kernel
theorem dX9_mend_32 : decode cX9_mend 32 = .ok (.invokevirtual 106, 3) := by decide +kernel
theorem dX9_mend_35 : decode cX9_mend 35 = .ok (.aload_n 0, 1) := by decide +kernel
theorem dX9_mend_36 : decode cX9_mend 36 = .ok (.getfield 7, 3) := by decide +kernel
theorem dX9_mend_39 : decode cX9_mend 39 = .ok (.iconst 4, 1) := by decide +kernel
theorem dX9_mend_40 : decode cX9_mend 40 = .ok (.iload_n 1, 1) := by decide +kernel
theorem dX9_mend_41 : decode cX9_mend 41 = .ok (.iadd, 1) := by decide +kernel
theorem dX9_mend_42 : decode cX9_mend 42 = .ok (.iload_n 2, 1) := by decide +kernel
theorem dX9_mend_43 : decode cX9_mend 43 = .ok (.iastore, 1) := by decide +kernel
theorem dX9_mend_44 : decode cX9_mend 44 = .ok (.aload_n 0, 1) := by decide +kernel
theorem dX9_mend_45 : decode cX9_mend 45 = .ok (.invokevirtual 109, 3) := by decide +kernel
theorem dX9_mend_48 : decode cX9_mend 48 = .ok (.ireturn, 1) := by decide +kernel
theorem dX9_set_0 : decode cX9_set 0 = .ok (.iload_n 1, 1) := by decide +kernel
theorem dX9_set_1 : decode cX9_set 1 = .ok (.ifCond .ne 15, 3) := by decide +kernel
theorem dX9_set_4 : decode cX9_set 4 = .ok (.iload_n 2, 1) := by decide +kernel
theorem dX9_set_5 : decode cX9_set 5 = .ok (.i2l, 1) := by decide +kernel
theorem dX9_set_6 : decode cX9_set 6 = .ok (.lconst 1, 1) := by decide +kernel
theorem dX9_set_7 : decode cX9_set 7 = .ok (.ldc2_w 117, 3) := by decide +kernel
theorem dX9_set_10 : decode cX9_set 10 = .ok (.invokestatic 102, 3) := by decide +kernel
theorem dX9_set_13 : decode cX9_set 13 = .ok (.goto 27, 3) := by decide +kernel
theorem dX9_set_16 : decode cX9_set 16 = .ok (.iload_n 1, 1) := by decide +kernel
theorem dX9_set_17 : decode cX9_set 17 = .ok (.iconst 1, 1) := by decide +kernel
theorem dX9_set_18 : decode cX9_set 18 = .ok (.if_icmp .ne 21, 3) := by decide +kernel
theorem dX9_set_21 : decode cX9_set 21 = .ok (.iload_n 2, 1) := by decide +kernel
theorem dX9_set_22 : decode cX9_set 22 = .ok (.i2l, 1) := by decide +kernel
theorem dX9_set_23 : decode cX9_set 23 = .ok (.ldc2_w 119, 3) := by decide +kernel
theorem dX9_set_26 : decode cX9_set 26 = .ok (.ldc2_w 121, 3) := by decide +kernel
theorem dX9_set_29 : decode cX9_set 29 = .ok (.invokestatic 102, 3) := by decide +kernel
theorem dX9_set_32 : decode cX9_set 32 = .ok (.ifCond .eq 7, 3) := by decide +kernel
theorem dX9_set_35 : decode cX9_set 35 = .ok (.iconst 1, 1) := by decide +kernel
theorem dX9_set_36 : decode cX9_set 36 = .ok (.goto 4, 3) := by decide +kernel
theorem dX9_set_39 : decode cX9_set 39 = .ok (.iconst 0, 1) := by decide +kernel
theorem dX9_set_40 : decode cX9_set 40 = .ok (.istore_n 3, 1) := by decide +kernel
theorem dX9_set_41 : decode cX9_set 41 = .ok (.iload_n 3, 1) := by decide +kernel
theorem dX9_set_42 : decode cX9_set 42 = .ok (.ifCond .ne 5, 3) := by decide +kernel
theorem dX9_set_45 : decode cX9_set 45 = .ok (.iconst (-1), 1) := by decide +kernel
theorem dX9_set_46 : decode cX9_set 46 = .ok (.ireturn, 1) := by decide +kernel
theorem dX9_set_47 : decode cX9_set 47 = .ok (.aload_n 0, 1) := by decide +kernel
theorem dX9_set_48 : decode cX9_set 48 = .ok (.invokevirtual 106, 3) := by decide +kernel
theorem dX9_set_51 : decode cX9_set 51 = .ok (.aload_n 0, 1) := by decide +kernel
theorem dX9_set_52 : decode cX9_set 52 = .ok (.getfield 7, 3) := by decide +kernel
theorem dX9_set_55 : decode cX9_set 55 = .ok (.iload_n 1, 1) := by decide +kernel
theorem dX9_set_56 : decode cX9_set 56 = .ok (.iaload, 1) := by decide +kernel
theorem dX9_set_57 : decode cX9_set 57 = .ok (.istore 4, 2) := by decide +kernel
theorem dX9_set_59 : decode cX9_set 59 = .ok (.aload_n 0, 1) := by decide +kernel
theorem dX9_set_60 : decode cX9_set 60 = .ok (.getfield 7, 3) := by decide +kernel
theorem dX9_set_63 : decode cX9_set 63 = .ok (.iload_n 1, 1) := by decide +kernel
theorem dX9_set_64 : decode cX9_set 64 = .ok (.iload_n 2, 1) := by decide +kernel
theorem dX9_set_65 : decode cX9_set 65 = .ok (.iastore, 1) := by decide +kernel
theorem dX9_set_66 : decode cX9_set 66 = .ok (.aload_n 0, 1) := by decide +kernel
theorem dX9_set_67 : decode cX9_set 67 = .ok (.invokevirtual 112, 3) := by decide +kernel
theorem dX9_set_70 : decode cX9_set 70 = .ok (.istore 5, 2) := by decide +kernel
theorem dX9_set_72 : decode cX9_set 72 = .ok (.iload 4, 2) := by decide +kernel
theorem dX9_set_74 : decode cX9_set 74 = .ok (.ireturn, 1) := by decide +kernel
theorem dX9_letter_0 : decode cX9_letter 0 = .ok (.iload_n 1, 1) := by decide +kernel
theorem dX9_letter_1 : decode cX9_letter 1 = .ok (.ifCond .ge 5, 3) := by decide +kernel
theorem dX9_letter_4 : decode cX9_letter 4 = .ok (.iconst (-1), 1) := by decide +kernel
theorem dX9_letter_5 : decode cX9_letter 5 = .ok (.ireturn, 1) := by decide +kernel
theorem dX9_letter_6 : decode cX9_letter 6 = .ok (.iload_n 1, 1) := by decide +kernel
theorem dX9_letter_7 : decode cX9_letter 7 = .ok (.aload_n 0, 1) := by decide +kernel
theorem dX9_letter_8 : decode cX9_letter 8 = .ok (.getfield 7, 3) := by decide +kernel
theorem dX9_letter_11 : decode cX9_letter 11 = .ok (.iconst 2, 1) := by decide +kernel
theorem dX9_letter_12 : decode cX9_letter 12 = .ok (.iaload, 1) := by decide +kernel
theorem dX9_letter_13 : decode cX9_letter 13 = .ok (.if_icmp .ge 14, 3) := by decide +kernel
theorem dX9_letter_16 : decode cX9_letter 16 = .ok (.aload_n 0, 1) := by decide +kernel
theorem dX9_letter_17 : decode cX9_letter 17 = .ok (.getfield 7, 3) := by decide +kernel
theorem dX9_letter_20 : decode cX9_letter 20 = .ok (.iconst 4, 1) := by decide +kernel
theorem dX9_letter_21 : decode cX9_letter 21 = .ok (.iload_n 1, 1) := by decide +kernel
theorem dX9_letter_22 : decode cX9_letter 22 = .ok (.iadd, 1) := by decide +kernel
theorem dX9_letter_23 : decode cX9_letter 23 = .ok (.iaload, 1) := by decide +kernel
theorem dX9_letter_24 : decode cX9_letter 24 = .ok (.goto 5, 3) := by decide +kernel
theorem dX9_letter_27 : decode cX9_letter 27 = .ok (.bipush (-4), 2) := by decide +kernel
theorem dX9_letter_29 : decode cX9_letter 29 = .ok (.ireturn, 1) := by decide +kernel
theorem dX9_bit_0 : decode cX9_bit 0 = .ok (.iload_n 1, 1) := by decide +kernel
theorem dX9_bit_1 : decode cX9_bit 1 = .ok (.ifCond .ge 5, 3) := by decide +kernel
theorem dX9_bit_4 : decode cX9_bit 4 = .ok (.iconst (-1), 1) := by decide +kernel
theorem dX9_bit_5 : decode cX9_bit 5 = .ok (.ireturn, 1) := by decide +kernel
theorem dX9_bit_6 : decode cX9_bit 6 = .ok (.iload_n 1, 1) := by decide +kernel
theorem dX9_bit_7 : decode cX9_bit 7 = .ok (.aload_n 0, 1) := by decide +kernel
theorem dX9_bit_8 : decode cX9_bit 8 = .ok (.invokevirtual 109, 3) := by decide +kernel
theorem dX9_bit_11 : decode cX9_bit 11 = .ok (.if_icmp .ge 12, 3) := by decide +kernel
theorem dX9_bit_14 : decode cX9_bit 14 = .ok (.aload_n 0, 1) := by decide +kernel
theorem dX9_bit_15 : decode cX9_bit 15 = .ok (.getfield 19, 3) := by decide +kernel
theorem dX9_bit_18 : decode cX9_bit 18 = .ok (.iload_n 1, 1) := by decide +kernel
theorem dX9_bit_19 : decode cX9_bit 19 = .ok (.iaload, 1) := by decide +kernel
theorem dX9_bit_20 : decode cX9_bit 20 = .ok (.goto 5, 3) := by decide +kernel
theorem dX9_bit_23 : decode cX9_bit 23 = .ok (.bipush (-4), 2) := by decide +kernel
theorem dX9_bit_25 : decode cX9_bit 25 = .ok (.ireturn, 1) := by decide +kernel
theorem dX9_stands_0 : decode cX9_stands 0 = .ok (.iconst 0, 1) := by decide +kernel
theorem dX9_stands_1 : decode cX9_stands 1 = .ok (.istore_n 2, 1) := by decide +kernel
theorem dX9_stands_2 : decode cX9_stands 2 = .ok (.iconst 0, 1) := by decide +kernel
theorem dX9_stands_3 : decode cX9_stands 3 = .ok (.istore_n 3, 1) := by decide +kernel
theorem dX9_stands_4 : decode cX9_stands 4 = .ok (.iload_n 3, 1) := by decide +kernel
theorem dX9_stands_5 : decode cX9_stands 5 = .ok (.aload_n 0, 1) := by decide +kernel
theorem dX9_stands_6 : decode cX9_stands 6 = .ok (.getfield 7, 3) := by decide +kernel
theorem dX9_stands_9 : decode cX9_stands 9 = .ok (.iconst 2, 1) := by decide +kernel
theorem dX9_stands_10 : decode cX9_stands 10 = .ok (.iaload, 1) := by decide +kernel
theorem dX9_stands_11 : decode cX9_stands 11 = .ok (.if_icmp .ge 29, 3) := by decide +kernel
theorem dX9_stands_14 : decode cX9_stands 14 = .ok (.iload_n 2, 1) := by decide +kernel
theorem dX9_stands_15 : decode cX9_stands 15 = .ok (.aload_n 0, 1) := by decide +kernel
theorem dX9_stands_16 : decode cX9_stands 16 = .ok (.getfield 7, 3) := by decide +kernel
theorem dX9_stands_19 : decode cX9_stands 19 = .ok (.iconst 4, 1) := by decide +kernel
theorem dX9_stands_20 : decode cX9_stands 20 = .ok (.iload_n 3, 1) := by decide +kernel
theorem dX9_stands_21 : decode cX9_stands 21 = .ok (.iadd, 1) := by decide +kernel
theorem dX9_stands_22 : decode cX9_stands 22 = .ok (.iaload, 1) := by decide +kernel
theorem dX9_stands_23 : decode cX9_stands 23 = .ok (.iload_n 1, 1) := by decide +kernel
theorem dX9_stands_24 : decode cX9_stands 24 = .ok (.if_icmp .ne 7, 3) := by decide +kernel
theorem dX9_stands_27 : decode cX9_stands 27 = .ok (.iconst 1, 1) := by decide +kernel
theorem dX9_stands_28 : decode cX9_stands 28 = .ok (.goto 4, 3) := by decide +kernel
theorem dX9_stands_31 : decode cX9_stands 31 = .ok (.iconst 0, 1) := by decide +kernel
theorem dX9_stands_32 : decode cX9_stands 32 = .ok (.iadd, 1) := by decide +kernel
theorem dX9_stands_33 : decode cX9_stands 33 = .ok (.istore_n 2, 1) := by decide +kernel
theorem dX9_stands_34 : decode cX9_stands 34 = .ok (.iinc 3 1, 3) := by decide +kernel
theorem dX9_stands_37 : decode cX9_stands 37 = .ok (.goto (-33), 3) := by decide +kernel
theorem dX9_stands_40 : decode cX9_stands 40 = .ok (.iload_n 2, 1) := by decide +kernel
theorem dX9_stands_41 : decode cX9_stands 41 = .ok (.ireturn, 1) := by decide +kernel
theorem dX9_wouldWrite_0 : decode cX9_wouldWrite 0 = .ok (.aload_n 0, 1) := by decide +kernel
theorem dX9_wouldWrite_1 : decode cX9_wouldWrite 1 = .ok (.getfield 7, 3) := by decide +kernel
theorem dX9_wouldWrite_4 : decode cX9_wouldWrite 4 = .ok (.iconst 3, 1) := by decide +kernel
theorem dX9_wouldWrite_5 : decode cX9_wouldWrite 5 = .ok (.iaload, 1) := by decide +kernel
theorem dX9_wouldWrite_6 : decode cX9_wouldWrite 6 = .ok (.iconst 1, 1) := by decide +kernel
theorem dX9_wouldWrite_7 : decode cX9_wouldWrite 7 = .ok (.if_icmp .ne 6, 3) := by decide +kernel
theorem dX9_wouldWrite_10 : decode cX9_wouldWrite 10 = .ok (.bipush (-2), 2) := by decide +kernel
theorem dX9_wouldWrite_12 : decode cX9_wouldWrite 12 = .ok (.ireturn, 1) := by decide +kernel
theorem dX9_wouldWrite_13 : decode cX9_wouldWrite 13 = .ok (.aload_n 0, 1) := by decide +kernel
theorem dX9_wouldWrite_14 : decode cX9_wouldWrite 14 = .ok (.invokevirtual 109, 3) := by decide +kernel
theorem dX9_wouldWrite_17 : decode cX9_wouldWrite 17 = .ok (.istore_n 2, 1) := by decide +kernel
theorem dX9_wouldWrite_18 : decode cX9_wouldWrite 18 = .ok (.iload_n 1, 1) := by decide +kernel
theorem dX9_wouldWrite_19 : decode cX9_wouldWrite 19 = .ok (.bipush 8, 2) := by decide +kernel
theorem dX9_wouldWrite_21 : decode cX9_wouldWrite 21 = .ok (.if_icmp .ne 10, 3) := by decide +kernel
theorem dX9_wouldWrite_24 : decode cX9_wouldWrite 24 = .ok (.aload_n 0, 1) := by decide +kernel
theorem dX9_wouldWrite_25 : decode cX9_wouldWrite 25 = .ok (.invokevirtual 90, 3) := by decide +kernel
theorem dX9_wouldWrite_28 : decode cX9_wouldWrite 28 = .ok (.goto 8, 3) := by decide +kernel
theorem dX9_wouldWrite_31 : decode cX9_wouldWrite 31 = .ok (.aload_n 0, 1) := by decide +kernel
theorem dX9_wouldWrite_32 : decode cX9_wouldWrite 32 = .ok (.iload_n 1, 1) := by decide +kernel
theorem dX9_wouldWrite_33 : decode cX9_wouldWrite 33 = .ok (.invokevirtual 80, 3) := by decide +kernel
theorem dX9_wouldWrite_36 : decode cX9_wouldWrite 36 = .ok (.aload_n 0, 1) := by decide +kernel
theorem dX9_wouldWrite_37 : decode cX9_wouldWrite 37 = .ok (.getfield 44, 3) := by decide +kernel
theorem dX9_wouldWrite_40 : decode cX9_wouldWrite 40 = .ok (.iload_n 2, 1) := by decide +kernel
theorem dX9_wouldWrite_41 : decode cX9_wouldWrite 41 = .ok (.isub, 1) := by decide +kernel
theorem dX9_wouldWrite_42 : decode cX9_wouldWrite 42 = .ok (.ireturn, 1) := by decide +kernel
theorem dX9_letterOf_0 : decode cX9_letterOf 0 = .ok (.iload_n 1, 1) := by decide +kernel
theorem dX9_letterOf_1 : decode cX9_letterOf 1 = .ok (.i2l, 1) := by decide +kernel
theorem dX9_letterOf_2 : decode cX9_letterOf 2 = .ok (.lconst 0, 1) := by decide +kernel
theorem dX9_letterOf_3 : decode cX9_letterOf 3 = .ok (.ldc2_w 123, 3) := by decide +kernel
theorem dX9_letterOf_6 : decode cX9_letterOf 6 = .ok (.invokestatic 102, 3) := by decide +kernel
theorem dX9_letterOf_9 : decode cX9_letterOf 9 = .ok (.ifCond .eq 15, 3) := by decide +kernel
theorem dX9_letterOf_12 : decode cX9_letterOf 12 = .ok (.iload_n 2, 1) := by decide +kernel
theorem dX9_letterOf_13 : decode cX9_letterOf 13 = .ok (.i2l, 1) := by decide +kernel
theorem dX9_letterOf_14 : decode cX9_letterOf 14 = .ok (.lconst 0, 1) := by decide +kernel
theorem dX9_letterOf_15 : decode cX9_letterOf 15 = .ok (.ldc2_w 125, 3) := by decide +kernel
theorem dX9_letterOf_18 : decode cX9_letterOf 18 = .ok (.invokestatic 102, 3) := by decide +kernel
theorem dX9_letterOf_21 : decode cX9_letterOf 21 = .ok (.ifCond .ne 5, 3) := by decide +kernel
theorem dX9_letterOf_24 : decode cX9_letterOf 24 = .ok (.iconst (-1), 1) := by decide +kernel
theorem dX9_letterOf_25 : decode cX9_letterOf 25 = .ok (.ireturn, 1) := by decide +kernel
theorem dX9_letterOf_26 : decode cX9_letterOf 26 = .ok (.aload_n 0, 1) := by decide +kernel
theorem dX9_letterOf_27 : decode cX9_letterOf 27 = .ok (.invokevirtual 97, 3) := by decide +kernel
theorem dX9_letterOf_30 : decode cX9_letterOf 30 = .ok (.iload_n 2, 1) := by decide +kernel
theorem dX9_letterOf_31 : decode cX9_letterOf 31 = .ok (.tableswitch 44 0 2 #[25, 32, 38], 25) := by decide +kernel
theorem dX9_letterOf_56 : decode cX9_letterOf 56 = .ok (.aload_n 0, 1) := by decide +kernel
theorem dX9_letterOf_57 : decode cX9_letterOf 57 = .ok (.getfield 16, 3) := by decide +kernel
theorem dX9_letterOf_60 : decode cX9_letterOf 60 = .ok (.iload_n 1, 1) := by decide +kernel
theorem dX9_letterOf_61 : decode cX9_letterOf 61 = .ok (.iaload, 1) := by decide +kernel
theorem dX9_letterOf_62 : decode cX9_letterOf 62 = .ok (.ireturn, 1) := by decide +kernel
theorem dX9_letterOf_63 : decode cX9_letterOf 63 = .ok (.aload_n 0, 1) := by decide +kernel
theorem dX9_letterOf_64 : decode cX9_letterOf 64 = .ok (.iload_n 1, 1) := by decide +kernel
theorem dX9_letterOf_65 : decode cX9_letterOf 65 = .ok (.invokevirtual 56, 3) := by decide +kernel
theorem dX9_letterOf_68 : decode cX9_letterOf 68 = .ok (.ireturn, 1) := by decide +kernel
theorem dX9_letterOf_69 : decode cX9_letterOf 69 = .ok (.aload_n 0, 1) := by decide +kernel
theorem dX9_letterOf_70 : decode cX9_letterOf 70 = .ok (.iload_n 1, 1) := by decide +kernel
theorem dX9_letterOf_71 : decode cX9_letterOf 71 = .ok (.invokevirtual 127, 3) := by decide +kernel
theorem dX9_letterOf_74 : decode cX9_letterOf 74 = .ok (.ireturn, 1) := by decide +kernel
theorem dX9_letterOf_75 : decode cX9_letterOf 75 = .ok (.aload_n 0, 1) := by decide +kernel
theorem dX9_letterOf_76 : decode cX9_letterOf 76 = .ok (.iload_n 1, 1) := by decide +kernel
theorem dX9_letterOf_77 : decode cX9_letterOf 77 = .ok (.invokevirtual 130, 3) := by decide +kernel
theorem dX9_letterOf_80 : decode cX9_letterOf 80 = .ok (.ireturn, 1) := by decide +kernel
theorem dX9_mostWritten_0 : decode cX9_mostWritten 0 = .ok (.iconst 0, 1) := by decide +kernel
theorem dX9_mostWritten_1 : decode cX9_mostWritten 1 = .ok (.istore_n 1, 1) := by decide +kernel
theorem dX9_mostWritten_2 : decode cX9_mostWritten 2 = .ok (.iconst 0, 1) := by decide +kernel
theorem dX9_mostWritten_3 : decode cX9_mostWritten 3 = .ok (.istore_n 2, 1) := by decide +kernel
theorem dX9_mostWritten_4 : decode cX9_mostWritten 4 = .ok (.iload_n 2, 1) := by decide +kernel
theorem dX9_mostWritten_5 : decode cX9_mostWritten 5 = .ok (.aload_n 0, 1) := by decide +kernel
theorem dX9_mostWritten_6 : decode cX9_mostWritten 6 = .ok (.getfield 7, 3) := by decide +kernel
theorem dX9_mostWritten_9 : decode cX9_mostWritten 9 = .ok (.iconst 2, 1) := by decide +kernel
theorem dX9_mostWritten_10 : decode cX9_mostWritten 10 = .ok (.iaload, 1) := by decide +kernel
theorem dX9_mostWritten_11 : decode cX9_mostWritten 11 = .ok (.if_icmp .ge 30, 3) := by decide +kernel
theorem dX9_mostWritten_14 : decode cX9_mostWritten 14 = .ok (.aload_n 0, 1) := by decide +kernel
theorem dX9_mostWritten_15 : decode cX9_mostWritten 15 = .ok (.getfield 22, 3) := by decide +kernel
theorem dX9_mostWritten_18 : decode cX9_mostWritten 18 = .ok (.iload_n 2, 1) := by decide +kernel
theorem dX9_mostWritten_19 : decode cX9_mostWritten 19 = .ok (.iaload, 1) := by decide +kernel
theorem dX9_mostWritten_20 : decode cX9_mostWritten 20 = .ok (.iload_n 1, 1) := by decide +kernel
theorem dX9_mostWritten_21 : decode cX9_mostWritten 21 = .ok (.if_icmp .le 12, 3) := by decide +kernel
theorem dX9_mostWritten_24 : decode cX9_mostWritten 24 = .ok (.aload_n 0, 1) := by decide +kernel
theorem dX9_mostWritten_25 : decode cX9_mostWritten 25 = .ok (.getfield 22, 3) := by decide +kernel
theorem dX9_mostWritten_28 : decode cX9_mostWritten 28 = .ok (.iload_n 2, 1) := by decide +kernel
theorem dX9_mostWritten_29 : decode cX9_mostWritten 29 = .ok (.iaload, 1) := by decide +kernel
theorem dX9_mostWritten_30 : decode cX9_mostWritten 30 = .ok (.goto 4, 3) := by decide +kernel
theorem dX9_mostWritten_33 : decode cX9_mostWritten 33 = .ok (.iload_n 1, 1) := by decide +kernel
theorem dX9_mostWritten_34 : decode cX9_mostWritten 34 = .ok (.istore_n 1, 1) := by decide +kernel
theorem dX9_mostWritten_35 : decode cX9_mostWritten 35 = .ok (.iinc 2 1, 3) := by decide +kernel
theorem dX9_mostWritten_38 : decode cX9_mostWritten 38 = .ok (.goto (-34), 3) := by decide +kernel
theorem dX9_mostWritten_41 : decode cX9_mostWritten 41 = .ok (.iload_n 1, 1) := by decide +kernel
theorem dX9_mostWritten_42 : decode cX9_mostWritten 42 = .ok (.ireturn, 1) := by decide +kernel
theorem dX9_count_0 : decode cX9_count 0 = .ok (.aload_n 0, 1) := by decide +kernel
theorem dX9_count_1 : decode cX9_count 1 = .ok (.invokevirtual 97, 3) := by decide +kernel
theorem dX9_count_4 : decode cX9_count 4 = .ok (.iload_n 1, 1) := by decide +kernel
theorem dX9_count_5 : decode cX9_count 5 = .ok (.tableswitch 136 0 12 #[67, 74, 79, 84, 89, 94, 99, 104, 111, 116, 121, 121, 131], 67) := by decide +kernel
theorem dX9_count_72 : decode cX9_count 72 = .ok (.aload_n 0, 1) := by decide +kernel
theorem dX9_count_73 : decode cX9_count 73 = .ok (.getfield 7, 3) := by decide +kernel
theorem dX9_count_76 : decode cX9_count 76 = .ok (.iconst 2, 1) := by decide +kernel
theorem dX9_count_77 : decode cX9_count 77 = .ok (.iaload, 1) := by decide +kernel
theorem dX9_count_78 : decode cX9_count 78 = .ok (.ireturn, 1) := by decide +kernel
theorem dX9_count_79 : decode cX9_count 79 = .ok (.aload_n 0, 1) := by decide +kernel
theorem dX9_count_80 : decode cX9_count 80 = .ok (.getfield 44, 3) := by decide +kernel
theorem dX9_count_83 : decode cX9_count 83 = .ok (.ireturn, 1) := by decide +kernel
theorem dX9_count_84 : decode cX9_count 84 = .ok (.aload_n 0, 1) := by decide +kernel
theorem dX9_count_85 : decode cX9_count 85 = .ok (.getfield 47, 3) := by decide +kernel
theorem dX9_count_88 : decode cX9_count 88 = .ok (.ireturn, 1) := by decide +kernel
theorem dX9_count_89 : decode cX9_count 89 = .ok (.aload_n 0, 1) := by decide +kernel
theorem dX9_count_90 : decode cX9_count 90 = .ok (.getfield 53, 3) := by decide +kernel
theorem dX9_count_93 : decode cX9_count 93 = .ok (.ireturn, 1) := by decide +kernel
theorem dX9_count_94 : decode cX9_count 94 = .ok (.aload_n 0, 1) := by decide +kernel
theorem dX9_count_95 : decode cX9_count 95 = .ok (.getfield 50, 3) := by decide +kernel
theorem dX9_count_98 : decode cX9_count 98 = .ok (.ireturn, 1) := by decide +kernel
theorem dX9_count_99 : decode cX9_count 99 = .ok (.aload_n 0, 1) := by decide +kernel
theorem dX9_count_100 : decode cX9_count 100 = .ok (.getfield 38, 3) := by decide +kernel
theorem dX9_count_103 : decode cX9_count 103 = .ok (.ireturn, 1) := by decide +kernel
theorem dX9_count_104 : decode cX9_count 104 = .ok (.aload_n 0, 1) := by decide +kernel
theorem dX9_count_105 : decode cX9_count 105 = .ok (.getfield 41, 3) := by decide +kernel
theorem dX9_count_108 : decode cX9_count 108 = .ok (.ireturn, 1) := by decide +kernel
theorem dX9_count_109 : decode cX9_count 109 = .ok (.aload_n 0, 1) := by decide +kernel
theorem dX9_count_110 : decode cX9_count 110 = .ok (.getfield 7, 3) := by decide +kernel
theorem dX9_count_113 : decode cX9_count 113 = .ok (.iconst 3, 1) := by decide +kernel
theorem dX9_count_114 : decode cX9_count 114 = .ok (.iaload, 1) := by decide +kernel
theorem dX9_count_115 : decode cX9_count 115 = .ok (.ireturn, 1) := by decide +kernel
theorem dX9_count_116 : decode cX9_count 116 = .ok (.aload_n 0, 1) := by decide +kernel
theorem dX9_count_117 : decode cX9_count 117 = .ok (.getfield 34, 3) := by decide +kernel
theorem dX9_count_120 : decode cX9_count 120 = .ok (.ireturn, 1) := by decide +kernel
theorem dX9_count_121 : decode cX9_count 121 = .ok (.aload_n 0, 1) := by decide +kernel
theorem dX9_count_122 : decode cX9_count 122 = .ok (.getfield 133, 3) := by decide +kernel
theorem dX9_count_125 : decode cX9_count 125 = .ok (.ireturn, 1) := by decide +kernel
theorem dX9_count_126 : decode cX9_count 126 = .ok (.aload_n 0, 1) := by decide +kernel
theorem dX9_count_127 : decode cX9_count 127 = .ok (.getfield 7, 3) := by decide +kernel
theorem dX9_count_130 : decode cX9_count 130 = .ok (.iload_n 1, 1) := by decide +kernel
theorem dX9_count_131 : decode cX9_count 131 = .ok (.bipush 10, 2) := by decide +kernel
theorem dX9_count_133 : decode cX9_count 133 = .ok (.isub, 1) := by decide +kernel
theorem dX9_count_134 : decode cX9_count 134 = .ok (.iaload, 1) := by decide +kernel
theorem dX9_count_135 : decode cX9_count 135 = .ok (.ireturn, 1) := by decide +kernel
theorem dX9_count_136 : decode cX9_count 136 = .ok (.aload_n 0, 1) := by decide +kernel
theorem dX9_count_137 : decode cX9_count 137 = .ok (.invokevirtual 136, 3) := by decide +kernel
theorem dX9_count_140 : decode cX9_count 140 = .ok (.ireturn, 1) := by decide +kernel
theorem dX9_count_141 : decode cX9_count 141 = .ok (.iconst (-1), 1) := by decide +kernel
theorem dX9_count_142 : decode cX9_count 142 = .ok (.ireturn, 1) := by decide +kernel
theorem dX9_cost_0 : decode cX9_cost 0 = .ok (.iload_n 1, 1) := by decide +kernel
theorem dX9_cost_1 : decode cX9_cost 1 = .ok (.ifCond .ge 5, 3) := by decide +kernel
theorem dX9_cost_4 : decode cX9_cost 4 = .ok (.iconst (-1), 1) := by decide +kernel
theorem dX9_cost_5 : decode cX9_cost 5 = .ok (.ireturn, 1) := by decide +kernel
theorem dX9_cost_6 : decode cX9_cost 6 = .ok (.aload_n 0, 1) := by decide +kernel
theorem dX9_cost_7 : decode cX9_cost 7 = .ok (.invokevirtual 97, 3) := by decide +kernel
theorem dX9_cost_10 : decode cX9_cost 10 = .ok (.iload_n 1, 1) := by decide +kernel
theorem dX9_cost_11 : decode cX9_cost 11 = .ok (.aload_n 0, 1) := by decide +kernel
theorem dX9_cost_12 : decode cX9_cost 12 = .ok (.getfield 7, 3) := by decide +kernel
theorem dX9_cost_15 : decode cX9_cost 15 = .ok (.iconst 2, 1) := by decide +kernel
theorem dX9_cost_16 : decode cX9_cost 16 = .ok (.iaload, 1) := by decide +kernel
theorem dX9_cost_17 : decode cX9_cost 17 = .ok (.if_icmp .ge 12, 3) := by decide +kernel
theorem dX9_cost_20 : decode cX9_cost 20 = .ok (.aload_n 0, 1) := by decide +kernel
theorem dX9_cost_21 : decode cX9_cost 21 = .ok (.getfield 22, 3) := by decide +kernel
theorem dX9_cost_24 : decode cX9_cost 24 = .ok (.iload_n 1, 1) := by decide +kernel
theorem dX9_cost_25 : decode cX9_cost 25 = .ok (.iaload, 1) := by decide +kernel
theorem dX9_cost_26 : decode cX9_cost 26 = .ok (.goto 5, 3) := by decide +kernel
theorem dX9_cost_29 : decode cX9_cost 29 = .ok (.bipush (-4), 2) := by decide +kernel
theorem dX9_cost_31 : decode cX9_cost 31 = .ok (.ireturn, 1) := by decide +kernel
theorem dX9_bitsOf_0 : decode cX9_bitsOf 0 = .ok (.aload_n 0, 1) := by decide +kernel
theorem dX9_bitsOf_1 : decode cX9_bitsOf 1 = .ok (.iload_n 1, 1) := by decide +kernel
theorem dX9_bitsOf_2 : decode cX9_bitsOf 2 = .ok (.iconst 1, 1) := by decide +kernel
theorem dX9_bitsOf_3 : decode cX9_bitsOf 3 = .ok (.invokevirtual 93, 3) := by decide +kernel
theorem dX9_bitsOf_6 : decode cX9_bitsOf 6 = .ok (.aload_n 0, 1) := by decide +kernel
theorem dX9_bitsOf_7 : decode cX9_bitsOf 7 = .ok (.getfield 44, 3) := by decide +kernel
theorem dX9_bitsOf_10 : decode cX9_bitsOf 10 = .ok (.ireturn, 1) := by decide +kernel
theorem dX9_bitsBy_0 : decode cX9_bitsBy 0 = .ok (.iload_n 1, 1) := by decide +kernel
theorem dX9_bitsBy_1 : decode cX9_bitsBy 1 = .ok (.i2l, 1) := by decide +kernel
theorem dX9_bitsBy_2 : decode cX9_bitsBy 2 = .ok (.lconst 1, 1) := by decide +kernel
theorem dX9_bitsBy_3 : decode cX9_bitsBy 3 = .ok (.ldc2_w 117, 3) := by decide +kernel
theorem dX9_bitsBy_6 : decode cX9_bitsBy 6 = .ok (.invokestatic 102, 3) := by decide +kernel
theorem dX9_bitsBy_9 : decode cX9_bitsBy 9 = .ok (.ifCond .eq 11, 3) := by decide +kernel
theorem dX9_bitsBy_12 : decode cX9_bitsBy 12 = .ok (.aload_n 0, 1) := by decide +kernel
theorem dX9_bitsBy_13 : decode cX9_bitsBy 13 = .ok (.iload_n 1, 1) := by decide +kernel
theorem dX9_bitsBy_14 : decode cX9_bitsBy 14 = .ok (.invokevirtual 139, 3) := by decide +kernel
theorem dX9_bitsBy_17 : decode cX9_bitsBy 17 = .ok (.goto 4, 3) := by decide +kernel
theorem dX9_bitsBy_20 : decode cX9_bitsBy 20 = .ok (.iconst (-1), 1) := by decide +kernel
theorem dX9_bitsBy_21 : decode cX9_bitsBy 21 = .ok (.ireturn, 1) := by decide +kernel
theorem dX9_bestPace_0 : decode cX9_bestPace 0 = .ok (.iconst 1, 1) := by decide +kernel
theorem dX9_bestPace_1 : decode cX9_bestPace 1 = .ok (.istore_n 1, 1) := by decide +kernel
theorem dX9_bestPace_2 : decode cX9_bestPace 2 = .ok (.aload_n 0, 1) := by decide +kernel
theorem dX9_bestPace_3 : decode cX9_bestPace 3 = .ok (.iconst 1, 1) := by decide +kernel
theorem dX9_bestPace_4 : decode cX9_bestPace 4 = .ok (.invokevirtual 139, 3) := by decide +kernel
theorem dX9_bestPace_7 : decode cX9_bestPace 7 = .ok (.istore_n 2, 1) := by decide +kernel
theorem dX9_bestPace_8 : decode cX9_bestPace 8 = .ok (.iconst 2, 1) := by decide +kernel
theorem dX9_bestPace_9 : decode cX9_bestPace 9 = .ok (.istore_n 3, 1) := by decide +kernel
theorem dX9_bestPace_10 : decode cX9_bestPace 10 = .ok (.iload_n 3, 1) := by decide +kernel
theorem dX9_bestPace_11 : decode cX9_bestPace 11 = .ok (.bipush 64, 2) := by decide +kernel
theorem dX9_bestPace_13 : decode cX9_bestPace 13 = .ok (.if_icmp .gt 41, 3) := by decide +kernel
theorem dX9_bestPace_16 : decode cX9_bestPace 16 = .ok (.aload_n 0, 1) := by decide +kernel
theorem dX9_bestPace_17 : decode cX9_bestPace 17 = .ok (.iload_n 3, 1) := by decide +kernel
theorem dX9_bestPace_18 : decode cX9_bestPace 18 = .ok (.invokevirtual 139, 3) := by decide +kernel
theorem dX9_bestPace_21 : decode cX9_bestPace 21 = .ok (.istore 4, 2) := by decide +kernel
theorem dX9_bestPace_23 : decode cX9_bestPace 23 = .ok (.iload 4, 2) := by decide +kernel
theorem dX9_bestPace_25 : decode cX9_bestPace 25 = .ok (.iload_n 2, 1) := by decide +kernel
theorem dX9_bestPace_26 : decode cX9_bestPace 26 = .ok (.if_icmp .ge 7, 3) := by decide +kernel
theorem dX9_bestPace_29 : decode cX9_bestPace 29 = .ok (.iload_n 3, 1) := by decide +kernel
theorem dX9_bestPace_30 : decode cX9_bestPace 30 = .ok (.goto 4, 3) := by decide +kernel
theorem dX9_bestPace_33 : decode cX9_bestPace 33 = .ok (.iload_n 1, 1) := by decide +kernel
theorem dX9_bestPace_34 : decode cX9_bestPace 34 = .ok (.istore_n 1, 1) := by decide +kernel
theorem dX9_bestPace_35 : decode cX9_bestPace 35 = .ok (.iload 4, 2) := by decide +kernel
theorem dX9_bestPace_37 : decode cX9_bestPace 37 = .ok (.iload_n 2, 1) := by decide +kernel
theorem dX9_bestPace_38 : decode cX9_bestPace 38 = .ok (.if_icmp .ge 8, 3) := by decide +kernel
theorem dX9_bestPace_41 : decode cX9_bestPace 41 = .ok (.iload 4, 2) := by decide +kernel
theorem dX9_bestPace_43 : decode cX9_bestPace 43 = .ok (.goto 4, 3) := by decide +kernel
theorem dX9_bestPace_46 : decode cX9_bestPace 46 = .ok (.iload_n 2, 1) := by decide +kernel
theorem dX9_bestPace_47 : decode cX9_bestPace 47 = .ok (.istore_n 2, 1) := by decide +kernel
theorem dX9_bestPace_48 : decode cX9_bestPace 48 = .ok (.iinc 3 1, 3) := by decide +kernel
theorem dX9_bestPace_51 : decode cX9_bestPace 51 = .ok (.goto (-41), 3) := by decide +kernel
theorem dX9_bestPace_54 : decode cX9_bestPace 54 = .ok (.iload_n 1, 1) := by decide +kernel
theorem dX9_bestPace_55 : decode cX9_bestPace 55 = .ok (.ireturn, 1) := by decide +kernel
theorem dX9_takes_0 : decode cX9_takes 0 = .ok (.aload_n 0, 1) := by decide +kernel
theorem dX9_takes_1 : decode cX9_takes 1 = .ok (.iconst 2, 1) := by decide +kernel
theorem dX9_takes_2 : decode cX9_takes 2 = .ok (.aload_n 0, 1) := by decide +kernel
theorem dX9_takes_3 : decode cX9_takes 3 = .ok (.getfield 142, 3) := by decide +kernel
theorem dX9_takes_6 : decode cX9_takes 6 = .ok (.imul, 1) := by decide +kernel
theorem dX9_takes_7 : decode cX9_takes 7 = .ok (.aload_n 0, 1) := by decide +kernel
theorem dX9_takes_8 : decode cX9_takes 8 = .ok (.getfield 145, 3) := by decide +kernel
theorem dX9_takes_11 : decode cX9_takes 11 = .ok (.aload_n 0, 1) := by decide +kernel
theorem dX9_takes_12 : decode cX9_takes 12 = .ok (.getfield 148, 3) := by decide +kernel
theorem dX9_takes_15 : decode cX9_takes 15 = .ok (.if_icmp .ge 15, 3) := by decide +kernel
theorem dX9_takes_18 : decode cX9_takes 18 = .ok (.aload_n 0, 1) := by decide +kernel
theorem dX9_takes_19 : decode cX9_takes 19 = .ok (.getfield 25, 3) := by decide +kernel
theorem dX9_takes_22 : decode cX9_takes 22 = .ok (.aload_n 0, 1) := by decide +kernel
theorem dX9_takes_23 : decode cX9_takes 23 = .ok (.getfield 145, 3) := by decide +kernel
theorem dX9_takes_26 : decode cX9_takes 26 = .ok (.iaload, 1) := by decide +kernel
theorem dX9_takes_27 : decode cX9_takes 27 = .ok (.goto 4, 3) := by decide +kernel
theorem dX9_takes_30 : decode cX9_takes 30 = .ok (.iconst 0, 1) := by decide +kernel
theorem dX9_takes_31 : decode cX9_takes 31 = .ok (.iadd, 1) := by decide +kernel
theorem dX9_takes_32 : decode cX9_takes 32 = .ok (.putfield 142, 3) := by decide +kernel
theorem dX9_takes_35 : decode cX9_takes 35 = .ok (.aload_n 0, 1) := by decide +kernel
theorem dX9_takes_36 : decode cX9_takes 36 = .ok (.dup, 1) := by decide +kernel
theorem dX9_takes_37 : decode cX9_takes 37 = .ok (.getfield 145, 3) := by decide +kernel
theorem dX9_takes_40 : decode cX9_takes 40 = .ok (.iconst 1, 1) := by decide +kernel
theorem dX9_takes_41 : decode cX9_takes 41 = .ok (.iadd, 1) := by decide +kernel
theorem dX9_takes_42 : decode cX9_takes 42 = .ok (.putfield 145, 3) := by decide +kernel
theorem dX9_takes_45 : decode cX9_takes 45 = .ok (.return_, 1) := by decide +kernel
theorem dX9_letterAt_0 : decode cX9_letterAt 0 = .ok (.aload_n 0, 1) := by decide +kernel
theorem dX9_letterAt_1 : decode cX9_letterAt 1 = .ok (.getfield 50, 3) := by decide +kernel
theorem dX9_letterAt_4 : decode cX9_letterAt 4 = .ok (.aload_n 0, 1) := by decide +kernel
theorem dX9_letterAt_5 : decode cX9_letterAt 5 = .ok (.getfield 53, 3) := by decide +kernel
theorem dX9_letterAt_8 : decode cX9_letterAt 8 = .ok (.isub, 1) := by decide +kernel
theorem dX9_letterAt_9 : decode cX9_letterAt 9 = .ok (.iconst 1, 1) := by decide +kernel
theorem dX9_letterAt_10 : decode cX9_letterAt 10 = .ok (.iadd, 1) := by decide +kernel
theorem dX9_letterAt_11 : decode cX9_letterAt 11 = .ok (.istore_n 1, 1) := by decide +kernel
theorem dX9_letterAt_12 : decode cX9_letterAt 12 = .ok (.aload_n 0, 1) := by decide +kernel
theorem dX9_letterAt_13 : decode cX9_letterAt 13 = .ok (.getfield 142, 3) := by decide +kernel
theorem dX9_letterAt_16 : decode cX9_letterAt 16 = .ok (.aload_n 0, 1) := by decide +kernel
theorem dX9_letterAt_17 : decode cX9_letterAt 17 = .ok (.getfield 53, 3) := by decide +kernel
theorem dX9_letterAt_20 : decode cX9_letterAt 20 = .ok (.isub, 1) := by decide +kernel
theorem dX9_letterAt_21 : decode cX9_letterAt 21 = .ok (.iconst 1, 1) := by decide +kernel
theorem dX9_letterAt_22 : decode cX9_letterAt 22 = .ok (.iadd, 1) := by decide +kernel
theorem dX9_letterAt_23 : decode cX9_letterAt 23 = .ok (.aload_n 0, 1) := by decide +kernel
theorem dX9_letterAt_24 : decode cX9_letterAt 24 = .ok (.getfield 38, 3) := by decide +kernel
theorem dX9_letterAt_27 : decode cX9_letterAt 27 = .ok (.imul, 1) := by decide +kernel
theorem dX9_letterAt_28 : decode cX9_letterAt 28 = .ok (.iconst 1, 1) := by decide +kernel
theorem dX9_letterAt_29 : decode cX9_letterAt 29 = .ok (.isub, 1) := by decide +kernel
theorem dX9_letterAt_30 : decode cX9_letterAt 30 = .ok (.iload_n 1, 1) := by decide +kernel
theorem dX9_letterAt_31 : decode cX9_letterAt 31 = .ok (.idiv, 1) := by decide +kernel
theorem dX9_letterAt_32 : decode cX9_letterAt 32 = .ok (.istore_n 2, 1) := by decide +kernel
theorem dX9_letterAt_33 : decode cX9_letterAt 33 = .ok (.iconst 0, 1) := by decide +kernel
theorem dX9_letterAt_34 : decode cX9_letterAt 34 = .ok (.istore_n 3, 1) := by decide +kernel
theorem dX9_letterAt_35 : decode cX9_letterAt 35 = .ok (.aload_n 0, 1) := by decide +kernel
theorem dX9_letterAt_36 : decode cX9_letterAt 36 = .ok (.getfield 16, 3) := by decide +kernel
theorem dX9_letterAt_39 : decode cX9_letterAt 39 = .ok (.iconst 0, 1) := by decide +kernel
theorem dX9_letterAt_40 : decode cX9_letterAt 40 = .ok (.iaload, 1) := by decide +kernel
theorem dX9_letterAt_41 : decode cX9_letterAt 41 = .ok (.istore 4, 2) := by decide +kernel
theorem dX9_letterAt_43 : decode cX9_letterAt 43 = .ok (.iload 4, 2) := by decide +kernel
theorem dX9_letterAt_45 : decode cX9_letterAt 45 = .ok (.iload_n 2, 1) := by decide +kernel
theorem dX9_letterAt_46 : decode cX9_letterAt 46 = .ok (.if_icmp .gt 20, 3) := by decide +kernel
theorem dX9_letterAt_49 : decode cX9_letterAt 49 = .ok (.iinc 3 1, 3) := by decide +kernel
theorem dX9_letterAt_52 : decode cX9_letterAt 52 = .ok (.iload 4, 2) := by decide +kernel
theorem dX9_letterAt_54 : decode cX9_letterAt 54 = .ok (.aload_n 0, 1) := by decide +kernel
theorem dX9_letterAt_55 : decode cX9_letterAt 55 = .ok (.getfield 16, 3) := by decide +kernel
theorem dX9_letterAt_58 : decode cX9_letterAt 58 = .ok (.iload_n 3, 1) := by decide +kernel
theorem dX9_letterAt_59 : decode cX9_letterAt 59 = .ok (.iaload, 1) := by decide +kernel
theorem dX9_letterAt_60 : decode cX9_letterAt 60 = .ok (.iadd, 1) := by decide +kernel
theorem dX9_letterAt_61 : decode cX9_letterAt 61 = .ok (.istore 4, 2) := by decide +kernel
theorem dX9_letterAt_63 : decode cX9_letterAt 63 = .ok (.goto (-20), 3) := by decide +kernel
theorem dX9_letterAt_66 : decode cX9_letterAt 66 = .ok (.iload_n 3, 1) := by decide +kernel
theorem dX9_letterAt_67 : decode cX9_letterAt 67 = .ok (.ireturn, 1) := by decide +kernel
theorem dX9_reads_0 : decode cX9_reads 0 = .ok (.aload_n 0, 1) := by decide +kernel
theorem dX9_reads_1 : decode cX9_reads 1 = .ok (.invokevirtual 83, 3) := by decide +kernel
theorem dX9_reads_4 : decode cX9_reads 4 = .ok (.aload_n 0, 1) := by decide +kernel
theorem dX9_reads_5 : decode cX9_reads 5 = .ok (.iconst 0, 1) := by decide +kernel
theorem dX9_reads_6 : decode cX9_reads 6 = .ok (.putfield 142, 3) := by decide +kernel
theorem dX9_reads_9 : decode cX9_reads 9 = .ok (.aload_n 0, 1) := by decide +kernel
theorem dX9_reads_10 : decode cX9_reads 10 = .ok (.iconst 0, 1) := by decide +kernel
theorem dX9_reads_11 : decode cX9_reads 11 = .ok (.putfield 145, 3) := by decide +kernel
theorem dX9_reads_14 : decode cX9_reads 14 = .ok (.aload_n 0, 1) := by decide +kernel
theorem dX9_reads_15 : decode cX9_reads 15 = .ok (.iconst 0, 1) := by decide +kernel
theorem dX9_reads_16 : decode cX9_reads 16 = .ok (.putfield 151, 3) := by decide +kernel
theorem dX9_reads_19 : decode cX9_reads 19 = .ok (.iconst 0, 1) := by decide +kernel
theorem dX9_reads_20 : decode cX9_reads 20 = .ok (.istore_n 1, 1) := by decide +kernel
theorem dX9_reads_21 : decode cX9_reads 21 = .ok (.iload_n 1, 1) := by decide +kernel
theorem dX9_reads_22 : decode cX9_reads 22 = .ok (.bipush 16, 2) := by decide +kernel
theorem dX9_reads_24 : decode cX9_reads 24 = .ok (.if_icmp .ge 13, 3) := by decide +kernel
theorem dX9_reads_27 : decode cX9_reads 27 = .ok (.aload_n 0, 1) := by decide +kernel
theorem dX9_reads_28 : decode cX9_reads 28 = .ok (.invokevirtual 154, 3) := by decide +kernel
theorem dX9_reads_31 : decode cX9_reads 31 = .ok (.iinc 1 1, 3) := by decide +kernel
theorem dX9_reads_34 : decode cX9_reads 34 = .ok (.goto (-13), 3) := by decide +kernel
theorem dX9_reads_37 : decode cX9_reads 37 = .ok (.aload_n 0, 1) := by decide +kernel
theorem dX9_reads_38 : decode cX9_reads 38 = .ok (.invokevirtual 157, 3) := by decide +kernel
theorem dX9_reads_41 : decode cX9_reads 41 = .ok (.istore_n 1, 1) := by decide +kernel
theorem dX9_reads_42 : decode cX9_reads 42 = .ok (.iload_n 1, 1) := by decide +kernel
theorem dX9_reads_43 : decode cX9_reads 43 = .ok (.bipush 8, 2) := by decide +kernel
theorem dX9_reads_45 : decode cX9_reads 45 = .ok (.if_icmp .eq 92, 3) := by decide +kernel
theorem dX9_reads_48 : decode cX9_reads 48 = .ok (.aload_n 0, 1) := by decide +kernel
theorem dX9_reads_49 : decode cX9_reads 49 = .ok (.getfield 151, 3) := by decide +kernel
theorem dX9_reads_52 : decode cX9_reads 52 = .ok (.bipush 40, 2) := by decide +kernel
theorem dX9_reads_54 : decode cX9_reads 54 = .ok (.if_icmp .ge 83, 3) := by decide +kernel
theorem dX9_reads_57 : decode cX9_reads 57 = .ok (.aload_n 0, 1) := by decide +kernel
theorem dX9_reads_58 : decode cX9_reads 58 = .ok (.getfield 28, 3) := by decide +kernel
theorem dX9_reads_61 : decode cX9_reads 61 = .ok (.aload_n 0, 1) := by decide +kernel
theorem dX9_reads_62 : decode cX9_reads 62 = .ok (.getfield 151, 3) := by decide +kernel
theorem dX9_reads_65 : decode cX9_reads 65 = .ok (.iload_n 1, 1) := by decide +kernel
theorem dX9_reads_66 : decode cX9_reads 66 = .ok (.iastore, 1) := by decide +kernel
theorem dX9_reads_67 : decode cX9_reads 67 = .ok (.aload_n 0, 1) := by decide +kernel
theorem dX9_reads_68 : decode cX9_reads 68 = .ok (.dup, 1) := by decide +kernel
theorem dX9_reads_69 : decode cX9_reads 69 = .ok (.getfield 151, 3) := by decide +kernel
theorem dX9_reads_72 : decode cX9_reads 72 = .ok (.iconst 1, 1) := by decide +kernel
theorem dX9_reads_73 : decode cX9_reads 73 = .ok (.iadd, 1) := by decide +kernel
theorem dX9_reads_74 : decode cX9_reads 74 = .ok (.putfield 151, 3) := by decide +kernel
theorem dX9_reads_77 : decode cX9_reads 77 = .ok (.aload_n 0, 1) := by decide +kernel
theorem dX9_reads_78 : decode cX9_reads 78 = .ok (.iload_n 1, 1) := by decide +kernel
theorem dX9_reads_79 : decode cX9_reads 79 = .ok (.invokevirtual 62, 3) := by decide +kernel
theorem dX9_reads_82 : decode cX9_reads 82 = .ok (.aload_n 0, 1) := by decide +kernel
theorem dX9_reads_83 : decode cX9_reads 83 = .ok (.invokevirtual 66, 3) := by decide +kernel
theorem dX9_reads_86 : decode cX9_reads 86 = .ok (.istore_n 2, 1) := by decide +kernel
theorem dX9_reads_87 : decode cX9_reads 87 = .ok (.iload_n 2, 1) := by decide +kernel
theorem dX9_reads_88 : decode cX9_reads 88 = .ok (.ifCond .lt 30, 3) := by decide +kernel
theorem dX9_reads_91 : decode cX9_reads 91 = .ok (.aload_n 0, 1) := by decide +kernel
theorem dX9_reads_92 : decode cX9_reads 92 = .ok (.dup, 1) := by decide +kernel
theorem dX9_reads_93 : decode cX9_reads 93 = .ok (.getfield 142, 3) := by decide +kernel
theorem dX9_reads_96 : decode cX9_reads 96 = .ok (.iload_n 2, 1) := by decide +kernel
theorem dX9_reads_97 : decode cX9_reads 97 = .ok (.isub, 1) := by decide +kernel
theorem dX9_reads_98 : decode cX9_reads 98 = .ok (.putfield 142, 3) := by decide +kernel
theorem dX9_reads_101 : decode cX9_reads 101 = .ok (.aload_n 0, 1) := by decide +kernel
theorem dX9_reads_102 : decode cX9_reads 102 = .ok (.invokevirtual 154, 3) := by decide +kernel
theorem dX9_reads_105 : decode cX9_reads 105 = .ok (.aload_n 0, 1) := by decide +kernel
theorem dX9_reads_106 : decode cX9_reads 106 = .ok (.iload_n 2, 1) := by decide +kernel
theorem dX9_reads_107 : decode cX9_reads 107 = .ok (.invokevirtual 73, 3) := by decide +kernel
theorem dX9_reads_110 : decode cX9_reads 110 = .ok (.aload_n 0, 1) := by decide +kernel
theorem dX9_reads_111 : decode cX9_reads 111 = .ok (.invokevirtual 66, 3) := by decide +kernel
theorem dX9_reads_114 : decode cX9_reads 114 = .ok (.istore_n 2, 1) := by decide +kernel
theorem dX9_reads_115 : decode cX9_reads 115 = .ok (.goto (-28), 3) := by decide +kernel
theorem dX9_reads_118 : decode cX9_reads 118 = .ok (.aload_n 0, 1) := by decide +kernel
theorem dX9_reads_119 : decode cX9_reads 119 = .ok (.iload_n 1, 1) := by decide +kernel
theorem dX9_reads_120 : decode cX9_reads 120 = .ok (.aload_n 0, 1) := by decide +kernel
theorem dX9_reads_121 : decode cX9_reads 121 = .ok (.getfield 7, 3) := by decide +kernel
theorem dX9_reads_124 : decode cX9_reads 124 = .ok (.iconst 0, 1) := by decide +kernel
theorem dX9_reads_125 : decode cX9_reads 125 = .ok (.iaload, 1) := by decide +kernel
theorem dX9_reads_126 : decode cX9_reads 126 = .ok (.invokevirtual 86, 3) := by decide +kernel
theorem dX9_reads_129 : decode cX9_reads 129 = .ok (.aload_n 0, 1) := by decide +kernel
theorem dX9_reads_130 : decode cX9_reads 130 = .ok (.invokevirtual 157, 3) := by decide +kernel
theorem dX9_reads_133 : decode cX9_reads 133 = .ok (.istore_n 1, 1) := by decide +kernel
theorem dX9_reads_134 : decode cX9_reads 134 = .ok (.goto (-92), 3) := by decide +kernel
theorem dX9_reads_137 : decode cX9_reads 137 = .ok (.iload_n 1, 1) := by decide +kernel
theorem dX9_reads_138 : decode cX9_reads 138 = .ok (.bipush 8, 2) := by decide +kernel
theorem dX9_reads_140 : decode cX9_reads 140 = .ok (.if_icmp .ne 7, 3) := by decide +kernel
theorem dX9_reads_143 : decode cX9_reads 143 = .ok (.iconst 1, 1) := by decide +kernel
theorem dX9_reads_144 : decode cX9_reads 144 = .ok (.goto 4, 3) := by decide +kernel
theorem dX9_reads_147 : decode cX9_reads 147 = .ok (.iconst 0, 1) := by decide +kernel
theorem dX9_reads_148 : decode cX9_reads 148 = .ok (.ireturn, 1) := by decide +kernel
theorem dX9_readBack_0 : decode cX9_readBack 0 = .ok (.iload_n 1, 1) := by decide +kernel
theorem dX9_readBack_1 : decode cX9_readBack 1 = .ok (.i2l, 1) := by decide +kernel
theorem dX9_readBack_2 : decode cX9_readBack 2 = .ok (.lconst 0, 1) := by decide +kernel
theorem dX9_readBack_3 : decode cX9_readBack 3 = .ok (.ldc2_w 160, 3) := by decide +kernel
theorem dX9_readBack_6 : decode cX9_readBack 6 = .ok (.invokestatic 102, 3) := by decide +kernel
theorem dX9_readBack_9 : decode cX9_readBack 9 = .ok (.ifCond .ne 5, 3) := by decide +kernel
theorem dX9_readBack_12 : decode cX9_readBack 12 = .ok (.iconst (-1), 1) := by decide +kernel
theorem dX9_readBack_13 : decode cX9_readBack 13 = .ok (.ireturn, 1) := by decide +kernel
theorem dX9_readBack_14 : decode cX9_readBack 14 = .ok (.aload_n 0, 1) := by decide +kernel
theorem dX9_readBack_15 : decode cX9_readBack 15 = .ok (.aload_n 0, 1) := by decide +kernel
theorem dX9_readBack_16 : decode cX9_readBack 16 = .ok (.invokevirtual 109, 3) := by decide +kernel
theorem dX9_readBack_19 : decode cX9_readBack 19 = .ok (.putfield 148, 3) := by decide +kernel
theorem dX9_readBack_22 : decode cX9_readBack 22 = .ok (.iconst 0, 1) := by decide +kernel
theorem dX9_readBack_23 : decode cX9_readBack 23 = .ok (.istore_n 2, 1) := by decide +kernel
theorem dX9_readBack_24 : decode cX9_readBack 24 = .ok (.iload_n 2, 1) := by decide +kernel
theorem dX9_readBack_25 : decode cX9_readBack 25 = .ok (.aload_n 0, 1) := by decide +kernel
theorem dX9_readBack_26 : decode cX9_readBack 26 = .ok (.getfield 148, 3) := by decide +kernel
theorem dX9_readBack_29 : decode cX9_readBack 29 = .ok (.if_icmp .ge 21, 3) := by decide +kernel
theorem dX9_readBack_32 : decode cX9_readBack 32 = .ok (.aload_n 0, 1) := by decide +kernel
theorem dX9_readBack_33 : decode cX9_readBack 33 = .ok (.getfield 25, 3) := by decide +kernel
theorem dX9_readBack_36 : decode cX9_readBack 36 = .ok (.iload_n 2, 1) := by decide +kernel
theorem dX9_readBack_37 : decode cX9_readBack 37 = .ok (.aload_n 0, 1) := by decide +kernel
theorem dX9_readBack_38 : decode cX9_readBack 38 = .ok (.getfield 19, 3) := by decide +kernel
theorem dX9_readBack_41 : decode cX9_readBack 41 = .ok (.iload_n 2, 1) := by decide +kernel
theorem dX9_readBack_42 : decode cX9_readBack 42 = .ok (.iaload, 1) := by decide +kernel
theorem dX9_readBack_43 : decode cX9_readBack 43 = .ok (.iastore, 1) := by decide +kernel
theorem dX9_readBack_44 : decode cX9_readBack 44 = .ok (.iinc 2 1, 3) := by decide +kernel
theorem dX9_readBack_47 : decode cX9_readBack 47 = .ok (.goto (-23), 3) := by decide +kernel
theorem dX9_readBack_50 : decode cX9_readBack 50 = .ok (.aload_n 0, 1) := by decide +kernel
theorem dX9_readBack_51 : decode cX9_readBack 51 = .ok (.invokevirtual 162, 3) := by decide +kernel
theorem dX9_readBack_54 : decode cX9_readBack 54 = .ok (.istore_n 2, 1) := by decide +kernel
theorem dX9_readBack_55 : decode cX9_readBack 55 = .ok (.iconst 0, 1) := by decide +kernel
theorem dX9_readBack_56 : decode cX9_readBack 56 = .ok (.istore_n 3, 1) := by decide +kernel
theorem dX9_readBack_57 : decode cX9_readBack 57 = .ok (.iload_n 3, 1) := by decide +kernel
theorem dX9_readBack_58 : decode cX9_readBack 58 = .ok (.aload_n 0, 1) := by decide +kernel
theorem dX9_readBack_59 : decode cX9_readBack 59 = .ok (.getfield 151, 3) := by decide +kernel
theorem dX9_readBack_62 : decode cX9_readBack 62 = .ok (.if_icmp .ge 36, 3) := by decide +kernel
theorem dX9_readBack_65 : decode cX9_readBack 65 = .ok (.iload_n 3, 1) := by decide +kernel
theorem dX9_readBack_66 : decode cX9_readBack 66 = .ok (.aload_n 0, 1) := by decide +kernel
theorem dX9_readBack_67 : decode cX9_readBack 67 = .ok (.getfield 7, 3) := by decide +kernel
theorem dX9_readBack_70 : decode cX9_readBack 70 = .ok (.iconst 2, 1) := by decide +kernel
theorem dX9_readBack_71 : decode cX9_readBack 71 = .ok (.iaload, 1) := by decide +kernel
theorem dX9_readBack_72 : decode cX9_readBack 72 = .ok (.if_icmp .ge 26, 3) := by decide +kernel
theorem dX9_readBack_75 : decode cX9_readBack 75 = .ok (.aload_n 0, 1) := by decide +kernel
theorem dX9_readBack_76 : decode cX9_readBack 76 = .ok (.getfield 28, 3) := by decide +kernel
theorem dX9_readBack_79 : decode cX9_readBack 79 = .ok (.iload_n 3, 1) := by decide +kernel
theorem dX9_readBack_80 : decode cX9_readBack 80 = .ok (.iaload, 1) := by decide +kernel
theorem dX9_readBack_81 : decode cX9_readBack 81 = .ok (.aload_n 0, 1) := by decide +kernel
theorem dX9_readBack_82 : decode cX9_readBack 82 = .ok (.getfield 7, 3) := by decide +kernel
theorem dX9_readBack_85 : decode cX9_readBack 85 = .ok (.iconst 4, 1) := by decide +kernel
theorem dX9_readBack_86 : decode cX9_readBack 86 = .ok (.iload_n 3, 1) := by decide +kernel
theorem dX9_readBack_87 : decode cX9_readBack 87 = .ok (.iadd, 1) := by decide +kernel
theorem dX9_readBack_88 : decode cX9_readBack 88 = .ok (.iaload, 1) := by decide +kernel
theorem dX9_readBack_89 : decode cX9_readBack 89 = .ok (.if_icmp .ne 9, 3) := by decide +kernel
theorem dX9_readBack_92 : decode cX9_readBack 92 = .ok (.iinc 3 1, 3) := by decide +kernel
theorem dX9_readBack_95 : decode cX9_readBack 95 = .ok (.goto (-38), 3) := by decide +kernel
theorem dX9_readBack_98 : decode cX9_readBack 98 = .ok (.iload_n 1, 1) := by decide +kernel
theorem dX9_readBack_99 : decode cX9_readBack 99 = .ok (.ifCond .ne 10, 3) := by decide +kernel
theorem dX9_readBack_102 : decode cX9_readBack 102 = .ok (.aload_n 0, 1) := by decide +kernel
theorem dX9_readBack_103 : decode cX9_readBack 103 = .ok (.getfield 151, 3) := by decide +kernel
theorem dX9_readBack_106 : decode cX9_readBack 106 = .ok (.goto 21, 3) := by decide +kernel
theorem dX9_readBack_109 : decode cX9_readBack 109 = .ok (.iload_n 1, 1) := by decide +kernel
theorem dX9_readBack_110 : decode cX9_readBack 110 = .ok (.iconst 1, 1) := by decide +kernel
theorem dX9_readBack_111 : decode cX9_readBack 111 = .ok (.if_icmp .ne 15, 3) := by decide +kernel
theorem dX9_readBack_114 : decode cX9_readBack 114 = .ok (.iload_n 2, 1) := by decide +kernel
theorem dX9_readBack_115 : decode cX9_readBack 115 = .ok (.ifCond .eq 7, 3) := by decide +kernel
theorem dX9_readBack_118 : decode cX9_readBack 118 = .ok (.iconst 1, 1) := by decide +kernel
theorem dX9_readBack_119 : decode cX9_readBack 119 = .ok (.goto 8, 3) := by decide +kernel
theorem dX9_readBack_122 : decode cX9_readBack 122 = .ok (.iconst 0, 1) := by decide +kernel
theorem dX9_readBack_123 : decode cX9_readBack 123 = .ok (.goto 4, 3) := by decide +kernel
theorem dX9_readBack_126 : decode cX9_readBack 126 = .ok (.iload_n 3, 1) := by decide +kernel
theorem dX9_readBack_127 : decode cX9_readBack 127 = .ok (.ireturn, 1) := by decide +kernel
theorem dX9_undo_0 : decode cX9_undo 0 = .ok (.aload_n 0, 1) := by decide +kernel
theorem dX9_undo_1 : decode cX9_undo 1 = .ok (.getfield 34, 3) := by decide +kernel
theorem dX9_undo_4 : decode cX9_undo 4 = .ok (.ifCond .ne 6, 3) := by decide +kernel
theorem dX9_undo_7 : decode cX9_undo 7 = .ok (.bipush (-2), 2) := by decide +kernel
theorem dX9_undo_9 : decode cX9_undo 9 = .ok (.ireturn, 1) := by decide +kernel
theorem dX9_undo_10 : decode cX9_undo 10 = .ok (.aload_n 0, 1) := by decide +kernel
theorem dX9_undo_11 : decode cX9_undo 11 = .ok (.dup, 1) := by decide +kernel
theorem dX9_undo_12 : decode cX9_undo 12 = .ok (.getfield 34, 3) := by decide +kernel
theorem dX9_undo_15 : decode cX9_undo 15 = .ok (.iconst 1, 1) := by decide +kernel
theorem dX9_undo_16 : decode cX9_undo 16 = .ok (.isub, 1) := by decide +kernel
theorem dX9_undo_17 : decode cX9_undo 17 = .ok (.putfield 34, 3) := by decide +kernel
theorem dX9_undo_20 : decode cX9_undo 20 = .ok (.iconst 0, 1) := by decide +kernel
theorem dX9_undo_21 : decode cX9_undo 21 = .ok (.istore_n 1, 1) := by decide +kernel
theorem dX9_undo_22 : decode cX9_undo 22 = .ok (.iload_n 1, 1) := by decide +kernel
theorem dX9_undo_23 : decode cX9_undo 23 = .ok (.bipush 44, 2) := by decide +kernel
theorem dX9_undo_25 : decode cX9_undo 25 = .ok (.if_icmp .ge 29, 3) := by decide +kernel
theorem dX9_undo_28 : decode cX9_undo 28 = .ok (.aload_n 0, 1) := by decide +kernel
theorem dX9_undo_29 : decode cX9_undo 29 = .ok (.getfield 7, 3) := by decide +kernel
theorem dX9_undo_32 : decode cX9_undo 32 = .ok (.iload_n 1, 1) := by decide +kernel
theorem dX9_undo_33 : decode cX9_undo 33 = .ok (.aload_n 0, 1) := by decide +kernel
theorem dX9_undo_34 : decode cX9_undo 34 = .ok (.getfield 13, 3) := by decide +kernel
theorem dX9_undo_37 : decode cX9_undo 37 = .ok (.bipush 44, 2) := by decide +kernel
theorem dX9_undo_39 : decode cX9_undo 39 = .ok (.aload_n 0, 1) := by decide +kernel
theorem dX9_undo_40 : decode cX9_undo 40 = .ok (.getfield 34, 3) := by decide +kernel
theorem dX9_undo_43 : decode cX9_undo 43 = .ok (.imul, 1) := by decide +kernel
theorem dX9_undo_44 : decode cX9_undo 44 = .ok (.iload_n 1, 1) := by decide +kernel
theorem dX9_undo_45 : decode cX9_undo 45 = .ok (.iadd, 1) := by decide +kernel
theorem dX9_undo_46 : decode cX9_undo 46 = .ok (.iaload, 1) := by decide +kernel
theorem dX9_undo_47 : decode cX9_undo 47 = .ok (.iastore, 1) := by decide +kernel
theorem dX9_undo_48 : decode cX9_undo 48 = .ok (.iinc 1 1, 3) := by decide +kernel
theorem dX9_undo_51 : decode cX9_undo 51 = .ok (.goto (-29), 3) := by decide +kernel
theorem dX9_undo_54 : decode cX9_undo 54 = .ok (.aload_n 0, 1) := by decide +kernel
theorem dX9_undo_55 : decode cX9_undo 55 = .ok (.getfield 34, 3) := by decide +kernel
theorem dX9_undo_58 : decode cX9_undo 58 = .ok (.ireturn, 1) := by decide +kernel
theorem dX9_type_0 : decode cX9_type 0 = .ok (.iload_n 1, 1) := by decide +kernel
theorem dX9_type_1 : decode cX9_type 1 = .ok (.i2l, 1) := by decide +kernel
theorem dX9_type_2 : decode cX9_type 2 = .ok (.ldc2_w 119, 3) := by decide +kernel
theorem dX9_type_5 : decode cX9_type 5 = .ok (.ldc2_w 166, 3) := by decide +kernel
theorem dX9_type_8 : decode cX9_type 8 = .ok (.invokestatic 102, 3) := by decide +kernel
theorem dX9_type_11 : decode cX9_type 11 = .ok (.ifCond .ne 5, 3) := by decide +kernel
theorem dX9_type_14 : decode cX9_type 14 = .ok (.iconst (-1), 1) := by decide +kernel
theorem dX9_type_15 : decode cX9_type 15 = .ok (.ireturn, 1) := by decide +kernel
theorem dX9_type_16 : decode cX9_type 16 = .ok (.aload_n 0, 1) := by decide +kernel
theorem dX9_type_17 : decode cX9_type 17 = .ok (.getfield 133, 3) := by decide +kernel
theorem dX9_type_20 : decode cX9_type 20 = .ok (.bipush 120, 2) := by decide +kernel
theorem dX9_type_22 : decode cX9_type 22 = .ok (.if_icmp .ne 6, 3) := by decide +kernel
theorem dX9_type_25 : decode cX9_type 25 = .ok (.bipush (-3), 2) := by decide +kernel
theorem dX9_type_27 : decode cX9_type 27 = .ok (.ireturn, 1) := by decide +kernel
theorem dX9_type_28 : decode cX9_type 28 = .ok (.aload_n 0, 1) := by decide +kernel
theorem dX9_type_29 : decode cX9_type 29 = .ok (.getfield 31, 3) := by decide +kernel
theorem dX9_type_32 : decode cX9_type 32 = .ok (.aload_n 0, 1) := by decide +kernel
theorem dX9_type_33 : decode cX9_type 33 = .ok (.getfield 133, 3) := by decide +kernel
theorem dX9_type_36 : decode cX9_type 36 = .ok (.iload_n 1, 1) := by decide +kernel
theorem dX9_type_37 : decode cX9_type 37 = .ok (.iastore, 1) := by decide +kernel
theorem dX9_type_38 : decode cX9_type 38 = .ok (.aload_n 0, 1) := by decide +kernel
theorem dX9_type_39 : decode cX9_type 39 = .ok (.dup, 1) := by decide +kernel
theorem dX9_type_40 : decode cX9_type 40 = .ok (.getfield 133, 3) := by decide +kernel
theorem dX9_type_43 : decode cX9_type 43 = .ok (.iconst 1, 1) := by decide +kernel
theorem dX9_type_44 : decode cX9_type 44 = .ok (.iadd, 1) := by decide +kernel
theorem dX9_type_45 : decode cX9_type 45 = .ok (.putfield 133, 3) := by decide +kernel
theorem dX9_type_48 : decode cX9_type 48 = .ok (.aload_n 0, 1) := by decide +kernel
theorem dX9_type_49 : decode cX9_type 49 = .ok (.getfield 133, 3) := by decide +kernel
theorem dX9_type_52 : decode cX9_type 52 = .ok (.ireturn, 1) := by decide +kernel
theorem dX9_clearText_0 : decode cX9_clearText 0 = .ok (.aload_n 0, 1) := by decide +kernel
theorem dX9_clearText_1 : decode cX9_clearText 1 = .ok (.getfield 133, 3) := by decide +kernel
theorem dX9_clearText_4 : decode cX9_clearText 4 = .ok (.istore_n 1, 1) := by decide +kernel
theorem dX9_clearText_5 : decode cX9_clearText 5 = .ok (.aload_n 0, 1) := by decide +kernel
theorem dX9_clearText_6 : decode cX9_clearText 6 = .ok (.iconst 0, 1) := by decide +kernel
theorem dX9_clearText_7 : decode cX9_clearText 7 = .ok (.putfield 133, 3) := by decide +kernel
theorem dX9_clearText_10 : decode cX9_clearText 10 = .ok (.iload_n 1, 1) := by decide +kernel
theorem dX9_clearText_11 : decode cX9_clearText 11 = .ok (.ireturn, 1) := by decide +kernel
theorem dX9_write_0 : decode cX9_write 0 = .ok (.aload_n 0, 1) := by decide +kernel
theorem dX9_write_1 : decode cX9_write 1 = .ok (.invokevirtual 109, 3) := by decide +kernel
theorem dX9_write_4 : decode cX9_write 4 = .ok (.bipush 120, 2) := by decide +kernel
theorem dX9_write_6 : decode cX9_write 6 = .ok (.if_icmp .le 6, 3) := by decide +kernel
theorem dX9_write_9 : decode cX9_write 9 = .ok (.bipush (-3), 2) := by decide +kernel
theorem dX9_write_11 : decode cX9_write 11 = .ok (.ireturn, 1) := by decide +kernel
theorem dX9_write_12 : decode cX9_write 12 = .ok (.aload_n 0, 1) := by decide +kernel
theorem dX9_write_13 : decode cX9_write 13 = .ok (.aload_n 0, 1) := by decide +kernel
theorem dX9_write_14 : decode cX9_write 14 = .ok (.getfield 44, 3) := by decide +kernel
theorem dX9_write_17 : decode cX9_write 17 = .ok (.putfield 133, 3) := by decide +kernel
theorem dX9_write_20 : decode cX9_write 20 = .ok (.iconst 0, 1) := by decide +kernel
theorem dX9_write_21 : decode cX9_write 21 = .ok (.istore_n 1, 1) := by decide +kernel
theorem dX9_write_22 : decode cX9_write 22 = .ok (.iload_n 1, 1) := by decide +kernel
theorem dX9_write_23 : decode cX9_write 23 = .ok (.aload_n 0, 1) := by decide +kernel
theorem dX9_write_24 : decode cX9_write 24 = .ok (.getfield 133, 3) := by decide +kernel
theorem dX9_write_27 : decode cX9_write 27 = .ok (.if_icmp .ge 24, 3) := by decide +kernel
theorem dX9_write_30 : decode cX9_write 30 = .ok (.aload_n 0, 1) := by decide +kernel
theorem dX9_write_31 : decode cX9_write 31 = .ok (.getfield 31, 3) := by decide +kernel
theorem dX9_write_34 : decode cX9_write 34 = .ok (.iload_n 1, 1) := by decide +kernel
theorem dX9_write_35 : decode cX9_write 35 = .ok (.bipush 48, 2) := by decide +kernel
theorem dX9_write_37 : decode cX9_write 37 = .ok (.aload_n 0, 1) := by decide +kernel
theorem dX9_write_38 : decode cX9_write 38 = .ok (.getfield 19, 3) := by decide +kernel
theorem dX9_write_41 : decode cX9_write 41 = .ok (.iload_n 1, 1) := by decide +kernel
theorem dX9_write_42 : decode cX9_write 42 = .ok (.iaload, 1) := by decide +kernel
theorem dX9_write_43 : decode cX9_write 43 = .ok (.iadd, 1) := by decide +kernel
theorem dX9_write_44 : decode cX9_write 44 = .ok (.iastore, 1) := by decide +kernel
theorem dX9_write_45 : decode cX9_write 45 = .ok (.iinc 1 1, 3) := by decide +kernel
theorem dX9_write_48 : decode cX9_write 48 = .ok (.goto (-26), 3) := by decide +kernel
theorem dX9_write_51 : decode cX9_write 51 = .ok (.aload_n 0, 1) := by decide +kernel
theorem dX9_write_52 : decode cX9_write 52 = .ok (.getfield 133, 3) := by decide +kernel
theorem dX9_write_55 : decode cX9_write 55 = .ok (.ireturn, 1) := by decide +kernel
theorem dX9_reason_0 : decode cX9_reason 0 = .ok (.aload_n 0, 1) := by decide +kernel
theorem dX9_reason_1 : decode cX9_reason 1 = .ok (.iconst 0, 1) := by decide +kernel
theorem dX9_reason_2 : decode cX9_reason 2 = .ok (.putfield 168, 3) := by decide +kernel
theorem dX9_reason_5 : decode cX9_reason 5 = .ok (.aload_n 0, 1) := by decide +kernel
theorem dX9_reason_6 : decode cX9_reason 6 = .ok (.getfield 168, 3) := by decide +kernel
theorem dX9_reason_9 : decode cX9_reason 9 = .ok (.aload_n 0, 1) := by decide +kernel
theorem dX9_reason_10 : decode cX9_reason 10 = .ok (.getfield 133, 3) := by decide +kernel
theorem dX9_reason_13 : decode cX9_reason 13 = .ok (.if_icmp .ge 61, 3) := by decide +kernel
theorem dX9_reason_16 : decode cX9_reason 16 = .ok (.aload_n 0, 1) := by decide +kernel
theorem dX9_reason_17 : decode cX9_reason 17 = .ok (.getfield 31, 3) := by decide +kernel
theorem dX9_reason_20 : decode cX9_reason 20 = .ok (.aload_n 0, 1) := by decide +kernel
theorem dX9_reason_21 : decode cX9_reason 21 = .ok (.getfield 168, 3) := by decide +kernel
theorem dX9_reason_24 : decode cX9_reason 24 = .ok (.iaload, 1) := by decide +kernel
theorem dX9_reason_25 : decode cX9_reason 25 = .ok (.i2l, 1) := by decide +kernel
theorem dX9_reason_26 : decode cX9_reason 26 = .ok (.ldc2_w 171, 3) := by decide +kernel
theorem dX9_reason_29 : decode cX9_reason 29 = .ok (.ldc2_w 173, 3) := by decide +kernel
theorem dX9_reason_32 : decode cX9_reason 32 = .ok (.invokestatic 102, 3) := by decide +kernel
theorem dX9_reason_35 : decode cX9_reason 35 = .ok (.ifCond .ne 5, 3) := by decide +kernel
theorem dX9_reason_38 : decode cX9_reason 38 = .ok (.iconst 1, 1) := by decide +kernel
theorem dX9_reason_39 : decode cX9_reason 39 = .ok (.ireturn, 1) := by decide +kernel
theorem dX9_reason_40 : decode cX9_reason 40 = .ok (.aload_n 0, 1) := by decide +kernel
theorem dX9_reason_41 : decode cX9_reason 41 = .ok (.getfield 25, 3) := by decide +kernel
theorem dX9_reason_44 : decode cX9_reason 44 = .ok (.aload_n 0, 1) := by decide +kernel
theorem dX9_reason_45 : decode cX9_reason 45 = .ok (.getfield 168, 3) := by decide +kernel
theorem dX9_reason_48 : decode cX9_reason 48 = .ok (.aload_n 0, 1) := by decide +kernel
theorem dX9_reason_49 : decode cX9_reason 49 = .ok (.getfield 31, 3) := by decide +kernel
theorem dX9_reason_52 : decode cX9_reason 52 = .ok (.aload_n 0, 1) := by decide +kernel
theorem dX9_reason_53 : decode cX9_reason 53 = .ok (.getfield 168, 3) := by decide +kernel
theorem dX9_reason_56 : decode cX9_reason 56 = .ok (.iaload, 1) := by decide +kernel
theorem dX9_reason_57 : decode cX9_reason 57 = .ok (.bipush 48, 2) := by decide +kernel
theorem dX9_reason_59 : decode cX9_reason 59 = .ok (.isub, 1) := by decide +kernel
theorem dX9_reason_60 : decode cX9_reason 60 = .ok (.iastore, 1) := by decide +kernel
theorem dX9_reason_61 : decode cX9_reason 61 = .ok (.aload_n 0, 1) := by decide +kernel
theorem dX9_reason_62 : decode cX9_reason 62 = .ok (.dup, 1) := by decide +kernel
theorem dX9_reason_63 : decode cX9_reason 63 = .ok (.getfield 168, 3) := by decide +kernel
theorem dX9_reason_66 : decode cX9_reason 66 = .ok (.iconst 1, 1) := by decide +kernel
theorem dX9_reason_67 : decode cX9_reason 67 = .ok (.iadd, 1) := by decide +kernel
theorem dX9_reason_68 : decode cX9_reason 68 = .ok (.putfield 168, 3) := by decide +kernel
theorem dX9_reason_71 : decode cX9_reason 71 = .ok (.goto (-66), 3) := by decide +kernel
theorem dX9_reason_74 : decode cX9_reason 74 = .ok (.aload_n 0, 1) := by decide +kernel
theorem dX9_reason_75 : decode cX9_reason 75 = .ok (.aload_n 0, 1) := by decide +kernel
theorem dX9_reason_76 : decode cX9_reason 76 = .ok (.getfield 133, 3) := by decide +kernel
theorem dX9_reason_79 : decode cX9_reason 79 = .ok (.putfield 148, 3) := by decide +kernel
theorem dX9_reason_82 : decode cX9_reason 82 = .ok (.aload_n 0, 1) := by decide +kernel
theorem dX9_reason_83 : decode cX9_reason 83 = .ok (.invokevirtual 162, 3) := by decide +kernel
theorem dX9_reason_86 : decode cX9_reason 86 = .ok (.ifCond .ne 5, 3) := by decide +kernel
theorem dX9_reason_89 : decode cX9_reason 89 = .ok (.iconst 2, 1) := by decide +kernel
theorem dX9_reason_90 : decode cX9_reason 90 = .ok (.ireturn, 1) := by decide +kernel
theorem dX9_reason_91 : decode cX9_reason 91 = .ok (.aload_n 0, 1) := by decide +kernel
theorem dX9_reason_92 : decode cX9_reason 92 = .ok (.aload_n 0, 1) := by decide +kernel
theorem dX9_reason_93 : decode cX9_reason 93 = .ok (.getfield 145, 3) := by decide +kernel
theorem dX9_reason_96 : decode cX9_reason 96 = .ok (.putfield 168, 3) := by decide +kernel
theorem dX9_reason_99 : decode cX9_reason 99 = .ok (.aload_n 0, 1) := by decide +kernel
theorem dX9_reason_100 : decode cX9_reason 100 = .ok (.getfield 168, 3) := by decide +kernel
theorem dX9_reason_103 : decode cX9_reason 103 = .ok (.aload_n 0, 1) := by decide +kernel
theorem dX9_reason_104 : decode cX9_reason 104 = .ok (.getfield 133, 3) := by decide +kernel
theorem dX9_reason_107 : decode cX9_reason 107 = .ok (.if_icmp .ge 31, 3) := by decide +kernel
theorem dX9_reason_110 : decode cX9_reason 110 = .ok (.aload_n 0, 1) := by decide +kernel
theorem dX9_reason_111 : decode cX9_reason 111 = .ok (.getfield 25, 3) := by decide +kernel
theorem dX9_reason_114 : decode cX9_reason 114 = .ok (.aload_n 0, 1) := by decide +kernel
theorem dX9_reason_115 : decode cX9_reason 115 = .ok (.getfield 168, 3) := by decide +kernel
theorem dX9_reason_118 : decode cX9_reason 118 = .ok (.iaload, 1) := by decide +kernel
theorem dX9_reason_119 : decode cX9_reason 119 = .ok (.iconst 1, 1) := by decide +kernel
theorem dX9_reason_120 : decode cX9_reason 120 = .ok (.if_icmp .ne 5, 3) := by decide +kernel
theorem dX9_reason_123 : decode cX9_reason 123 = .ok (.iconst 3, 1) := by decide +kernel
theorem dX9_reason_124 : decode cX9_reason 124 = .ok (.ireturn, 1) := by decide +kernel
theorem dX9_reason_125 : decode cX9_reason 125 = .ok (.aload_n 0, 1) := by decide +kernel
theorem dX9_reason_126 : decode cX9_reason 126 = .ok (.dup, 1) := by decide +kernel
theorem dX9_reason_127 : decode cX9_reason 127 = .ok (.getfield 168, 3) := by decide +kernel
theorem dX9_reason_130 : decode cX9_reason 130 = .ok (.iconst 1, 1) := by decide +kernel
theorem dX9_reason_131 : decode cX9_reason 131 = .ok (.iadd, 1) := by decide +kernel
theorem dX9_reason_132 : decode cX9_reason 132 = .ok (.putfield 168, 3) := by decide +kernel
theorem dX9_reason_135 : decode cX9_reason 135 = .ok (.goto (-36), 3) := by decide +kernel
theorem dX9_reason_138 : decode cX9_reason 138 = .ok (.iconst 0, 1) := by decide +kernel
theorem dX9_reason_139 : decode cX9_reason 139 = .ok (.ireturn, 1) := by decide +kernel
theorem dX9_fault_0 : decode cX9_fault 0 = .ok (.iload_n 1, 1) := by decide +kernel
theorem dX9_fault_1 : decode cX9_fault 1 = .ok (.i2l, 1) := by decide +kernel
theorem dX9_fault_2 : decode cX9_fault 2 = .ok (.lconst 0, 1) := by decide +kernel
theorem dX9_fault_3 : decode cX9_fault 3 = .ok (.lconst 1, 1) := by decide +kernel
theorem dX9_fault_4 : decode cX9_fault 4 = .ok (.invokestatic 102, 3) := by decide +kernel
theorem dX9_fault_7 : decode cX9_fault 7 = .ok (.ifCond .ne 5, 3) := by decide +kernel
theorem dX9_fault_10 : decode cX9_fault 10 = .ok (.iconst (-1), 1) := by decide +kernel
theorem dX9_fault_11 : decode cX9_fault 11 = .ok (.ireturn, 1) := by decide +kernel
theorem dX9_fault_12 : decode cX9_fault 12 = .ok (.aload_n 0, 1) := by decide +kernel
theorem dX9_fault_13 : decode cX9_fault 13 = .ok (.invokevirtual 175, 3) := by decide +kernel
theorem dX9_fault_16 : decode cX9_fault 16 = .ok (.istore_n 2, 1) := by decide +kernel
theorem dX9_fault_17 : decode cX9_fault 17 = .ok (.iload_n 2, 1) := by decide +kernel
theorem dX9_fault_18 : decode cX9_fault 18 = .ok (.ifCond .ne 8, 3) := by decide +kernel
theorem dX9_fault_21 : decode cX9_fault 21 = .ok (.bipush (-4), 2) := by decide +kernel
theorem dX9_fault_23 : decode cX9_fault 23 = .ok (.goto 15, 3) := by decide +kernel
theorem dX9_fault_26 : decode cX9_fault 26 = .ok (.iload_n 1, 1) := by decide +kernel
theorem dX9_fault_27 : decode cX9_fault 27 = .ok (.ifCond .ne 10, 3) := by decide +kernel
theorem dX9_fault_30 : decode cX9_fault 30 = .ok (.aload_n 0, 1) := by decide +kernel
theorem dX9_fault_31 : decode cX9_fault 31 = .ok (.getfield 168, 3) := by decide +kernel
theorem dX9_fault_34 : decode cX9_fault 34 = .ok (.goto 4, 3) := by decide +kernel
theorem dX9_fault_37 : decode cX9_fault 37 = .ok (.iload_n 2, 1) := by decide +kernel
theorem dX9_fault_38 : decode cX9_fault 38 = .ok (.ireturn, 1) := by decide +kernel
theorem dX9_told_0 : decode cX9_told 0 = .ok (.iload_n 1, 1) := by decide +kernel
theorem dX9_told_1 : decode cX9_told 1 = .ok (.ifCond .ge 5, 3) := by decide +kernel
theorem dX9_told_4 : decode cX9_told 4 = .ok (.iconst (-1), 1) := by decide +kernel
theorem dX9_told_5 : decode cX9_told 5 = .ok (.ireturn, 1) := by decide +kernel
theorem dX9_told_6 : decode cX9_told 6 = .ok (.aload_n 0, 1) := by decide +kernel
theorem dX9_told_7 : decode cX9_told 7 = .ok (.invokevirtual 175, 3) := by decide +kernel
theorem dX9_told_10 : decode cX9_told 10 = .ok (.ifCond .eq 6, 3) := by decide +kernel
theorem dX9_told_13 : decode cX9_told 13 = .ok (.bipush (-2), 2) := by decide +kernel
theorem dX9_told_15 : decode cX9_told 15 = .ok (.ireturn, 1) := by decide +kernel
theorem dX9_told_16 : decode cX9_told 16 = .ok (.iload_n 1, 1) := by decide +kernel
theorem dX9_told_17 : decode cX9_told 17 = .ok (.aload_n 0, 1) := by decide +kernel
theorem dX9_told_18 : decode cX9_told 18 = .ok (.getfield 151, 3) := by decide +kernel
theorem dX9_told_21 : decode cX9_told 21 = .ok (.if_icmp .ge 12, 3) := by decide +kernel
theorem dX9_told_24 : decode cX9_told 24 = .ok (.aload_n 0, 1) := by decide +kernel
theorem dX9_told_25 : decode cX9_told 25 = .ok (.getfield 28, 3) := by decide +kernel
theorem dX9_told_28 : decode cX9_told 28 = .ok (.iload_n 1, 1) := by decide +kernel
theorem dX9_told_29 : decode cX9_told 29 = .ok (.iaload, 1) := by decide +kernel
theorem dX9_told_30 : decode cX9_told 30 = .ok (.goto 5, 3) := by decide +kernel
theorem dX9_told_33 : decode cX9_told 33 = .ok (.bipush (-4), 2) := by decide +kernel
theorem dX9_told_35 : decode cX9_told 35 = .ok (.ireturn, 1) := by decide +kernel
theorem dL_law_0 : decode cL_law 0 = .ok (.new 7, 3) := by decide +kernel
theorem dL_law_3 : decode cL_law 3 = .ok (.dup, 1) := by decide +kernel
theorem dL_law_4 : decode cL_law 4 = .ok (.invokespecial 9, 3) := by decide +kernel
theorem dL_law_7 : decode cL_law 7 = .ok (.astore_n 1, 1) := by decide +kernel
theorem dL_law_8 : decode cL_law 8 = .ok (.new 10, 3) := by decide +kernel
theorem dL_law_11 : decode cL_law 11 = .ok (.dup, 1) := by decide +kernel
theorem dL_law_12 : decode cL_law 12 = .ok (.invokespecial 12, 3) := by decide +kernel
theorem dL_law_15 : decode cL_law 15 = .ok (.astore_n 2, 1) := by decide +kernel
theorem dL_law_16 : decode cL_law 16 = .ok (.iconst 0, 1) := by decide +kernel
theorem dL_law_17 : decode cL_law 17 = .ok (.istore_n 3, 1) := by decide +kernel
theorem dL_law_18 : decode cL_law 18 = .ok (.iload_n 3, 1) := by decide +kernel
theorem dL_law_19 : decode cL_law 19 = .ok (.aload_n 0, 1) := by decide +kernel
theorem dL_law_20 : decode cL_law 20 = .ok (.arraylength, 1) := by decide +kernel
theorem dL_law_21 : decode cL_law 21 = .ok (.iconst 3, 1) := by decide +kernel
theorem dL_law_22 : decode cL_law 22 = .ok (.isub, 1) := by decide +kernel
theorem dL_law_23 : decode cL_law 23 = .ok (.if_icmp .gt 541, 3) := by decide +kernel
theorem dL_law_26 : decode cL_law 26 = .ok (.aload_n 0, 1) := by decide +kernel
theorem dL_law_27 : decode cL_law 27 = .ok (.iload_n 3, 1) := by decide +kernel
theorem dL_law_28 : decode cL_law 28 = .ok (.iaload, 1) := by decide +kernel
theorem dL_law_29 : decode cL_law 29 = .ok (.bipush 31, 2) := by decide +kernel
theorem dL_law_31 : decode cL_law 31 = .ok (.iand, 1) := by decide +kernel
theorem dL_law_32 : decode cL_law 32 = .ok (.tableswitch 526 0 19 #[96, 119, 132, 145, 168, 201, 234, 257, 280, 313, 336, 359, 382, 395, 418, 431, 454, 467, 480, 503], 96) := by decide +kernel
theorem dL_law_128 : decode cL_law 128 = .ok (.aload_n 1, 1) := by decide +kernel
theorem dL_law_129 : decode cL_law 129 = .ok (.aload_n 0, 1) := by decide +kernel
theorem dL_law_130 : decode cL_law 130 = .ok (.iload_n 3, 1) := by decide +kernel
theorem dL_law_131 : decode cL_law 131 = .ok (.iconst 1, 1) := by decide +kernel
theorem dL_law_132 : decode cL_law 132 = .ok (.iadd, 1) := by decide +kernel
theorem dL_law_133 : decode cL_law 133 = .ok (.iaload, 1) := by decide +kernel
theorem dL_law_134 : decode cL_law 134 = .ok (.invokevirtual 13, 3) := by decide +kernel
theorem dL_law_137 : decode cL_law 137 = .ok (.aload_n 2, 1) := by decide +kernel
theorem dL_law_138 : decode cL_law 138 = .ok (.aload_n 0, 1) := by decide +kernel
theorem dL_law_139 : decode cL_law 139 = .ok (.iload_n 3, 1) := by decide +kernel
theorem dL_law_140 : decode cL_law 140 = .ok (.iconst 1, 1) := by decide +kernel
theorem dL_law_141 : decode cL_law 141 = .ok (.iadd, 1) := by decide +kernel
theorem dL_law_142 : decode cL_law 142 = .ok (.iaload, 1) := by decide +kernel
theorem dL_law_143 : decode cL_law 143 = .ok (.invokevirtual 17, 3) := by decide +kernel
theorem dL_law_146 : decode cL_law 146 = .ok (.if_icmp .eq 412, 3) := by decide +kernel
theorem dL_law_149 : decode cL_law 149 = .ok (.iconst 0, 1) := by decide +kernel
theorem dL_law_150 : decode cL_law 150 = .ok (.ireturn, 1) := by decide +kernel
theorem dL_law_151 : decode cL_law 151 = .ok (.aload_n 1, 1) := by decide +kernel
theorem dL_law_152 : decode cL_law 152 = .ok (.invokevirtual 18, 3) := by decide +kernel
theorem dL_law_155 : decode cL_law 155 = .ok (.aload_n 2, 1) := by decide +kernel
theorem dL_law_156 : decode cL_law 156 = .ok (.invokevirtual 22, 3) := by decide +kernel
theorem dL_law_159 : decode cL_law 159 = .ok (.if_icmp .eq 399, 3) := by decide +kernel
theorem dL_law_162 : decode cL_law 162 = .ok (.iconst 0, 1) := by decide +kernel
theorem dL_law_163 : decode cL_law 163 = .ok (.ireturn, 1) := by decide +kernel
theorem dL_law_164 : decode cL_law 164 = .ok (.aload_n 1, 1) := by decide +kernel
theorem dL_law_165 : decode cL_law 165 = .ok (.invokevirtual 23, 3) := by decide +kernel
theorem dL_law_168 : decode cL_law 168 = .ok (.aload_n 2, 1) := by decide +kernel
theorem dL_law_169 : decode cL_law 169 = .ok (.invokevirtual 26, 3) := by decide +kernel
theorem dL_law_172 : decode cL_law 172 = .ok (.if_icmp .eq 386, 3) := by decide +kernel
theorem dL_law_175 : decode cL_law 175 = .ok (.iconst 0, 1) := by decide +kernel
theorem dL_law_176 : decode cL_law 176 = .ok (.ireturn, 1) := by decide +kernel
theorem dL_law_177 : decode cL_law 177 = .ok (.aload_n 1, 1) := by decide +kernel
theorem dL_law_178 : decode cL_law 178 = .ok (.aload_n 0, 1) := by decide +kernel
theorem dL_law_179 : decode cL_law 179 = .ok (.iload_n 3, 1) := by decide +kernel
theorem dL_law_180 : decode cL_law 180 = .ok (.iconst 1, 1) := by decide +kernel
theorem dL_law_181 : decode cL_law 181 = .ok (.iadd, 1) := by decide +kernel
theorem dL_law_182 : decode cL_law 182 = .ok (.iaload, 1) := by decide +kernel
theorem dL_law_183 : decode cL_law 183 = .ok (.invokevirtual 27, 3) := by decide +kernel
theorem dL_law_186 : decode cL_law 186 = .ok (.aload_n 2, 1) := by decide +kernel
theorem dL_law_187 : decode cL_law 187 = .ok (.aload_n 0, 1) := by decide +kernel
theorem dL_law_188 : decode cL_law 188 = .ok (.iload_n 3, 1) := by decide +kernel
theorem dL_law_189 : decode cL_law 189 = .ok (.iconst 1, 1) := by decide +kernel
theorem dL_law_190 : decode cL_law 190 = .ok (.iadd, 1) := by decide +kernel
theorem dL_law_191 : decode cL_law 191 = .ok (.iaload, 1) := by decide +kernel
theorem dL_law_192 : decode cL_law 192 = .ok (.invokevirtual 30, 3) := by decide +kernel
theorem dL_law_195 : decode cL_law 195 = .ok (.if_icmp .eq 363, 3) := by decide +kernel
theorem dL_law_198 : decode cL_law 198 = .ok (.iconst 0, 1) := by decide +kernel
theorem dL_law_199 : decode cL_law 199 = .ok (.ireturn, 1) := by decide +kernel
theorem dL_law_200 : decode cL_law 200 = .ok (.aload_n 1, 1) := by decide +kernel
theorem dL_law_201 : decode cL_law 201 = .ok (.aload_n 0, 1) := by decide +kernel
theorem dL_law_202 : decode cL_law 202 = .ok (.iload_n 3, 1) := by decide +kernel
theorem dL_law_203 : decode cL_law 203 = .ok (.iconst 1, 1) := by decide +kernel
theorem dL_law_204 : decode cL_law 204 = .ok (.iadd, 1) := by decide +kernel
theorem dL_law_205 : decode cL_law 205 = .ok (.iaload, 1) := by decide +kernel
theorem dL_law_206 : decode cL_law 206 = .ok (.aload_n 0, 1) := by decide +kernel
theorem dL_law_207 : decode cL_law 207 = .ok (.iload_n 3, 1) := by decide +kernel
theorem dL_law_208 : decode cL_law 208 = .ok (.iconst 2, 1) := by decide +kernel
theorem dL_law_209 : decode cL_law 209 = .ok (.iadd, 1) := by decide +kernel
theorem dL_law_210 : decode cL_law 210 = .ok (.iaload, 1) := by decide +kernel
theorem dL_law_211 : decode cL_law 211 = .ok (.invokevirtual 31, 3) := by decide +kernel
theorem dL_law_214 : decode cL_law 214 = .ok (.aload_n 2, 1) := by decide +kernel
theorem dL_law_215 : decode cL_law 215 = .ok (.aload_n 0, 1) := by decide +kernel
theorem dL_law_216 : decode cL_law 216 = .ok (.iload_n 3, 1) := by decide +kernel
theorem dL_law_217 : decode cL_law 217 = .ok (.iconst 1, 1) := by decide +kernel
theorem dL_law_218 : decode cL_law 218 = .ok (.iadd, 1) := by decide +kernel
theorem dL_law_219 : decode cL_law 219 = .ok (.iaload, 1) := by decide +kernel
theorem dL_law_220 : decode cL_law 220 = .ok (.aload_n 0, 1) := by decide +kernel
theorem dL_law_221 : decode cL_law 221 = .ok (.iload_n 3, 1) := by decide +kernel
theorem dL_law_222 : decode cL_law 222 = .ok (.iconst 2, 1) := by decide +kernel
theorem dL_law_223 : decode cL_law 223 = .ok (.iadd, 1) := by decide +kernel
theorem dL_law_224 : decode cL_law 224 = .ok (.iaload, 1) := by decide +kernel
theorem dL_law_225 : decode cL_law 225 = .ok (.invokevirtual 35, 3) := by decide +kernel
theorem dL_law_228 : decode cL_law 228 = .ok (.if_icmp .eq 330, 3) := by decide +kernel
theorem dL_law_231 : decode cL_law 231 = .ok (.iconst 0, 1) := by decide +kernel
theorem dL_law_232 : decode cL_law 232 = .ok (.ireturn, 1) := by decide +kernel
theorem dL_law_233 : decode cL_law 233 = .ok (.aload_n 1, 1) := by decide +kernel
theorem dL_law_234 : decode cL_law 234 = .ok (.aload_n 0, 1) := by decide +kernel
theorem dL_law_235 : decode cL_law 235 = .ok (.iload_n 3, 1) := by decide +kernel
theorem dL_law_236 : decode cL_law 236 = .ok (.iconst 1, 1) := by decide +kernel
theorem dL_law_237 : decode cL_law 237 = .ok (.iadd, 1) := by decide +kernel
theorem dL_law_238 : decode cL_law 238 = .ok (.iaload, 1) := by decide +kernel
theorem dL_law_239 : decode cL_law 239 = .ok (.aload_n 0, 1) := by decide +kernel
theorem dL_law_240 : decode cL_law 240 = .ok (.iload_n 3, 1) := by decide +kernel
theorem dL_law_241 : decode cL_law 241 = .ok (.iconst 2, 1) := by decide +kernel
theorem dL_law_242 : decode cL_law 242 = .ok (.iadd, 1) := by decide +kernel
theorem dL_law_243 : decode cL_law 243 = .ok (.iaload, 1) := by decide +kernel
theorem dL_law_244 : decode cL_law 244 = .ok (.invokevirtual 36, 3) := by decide +kernel
theorem dL_law_247 : decode cL_law 247 = .ok (.aload_n 2, 1) := by decide +kernel
theorem dL_law_248 : decode cL_law 248 = .ok (.aload_n 0, 1) := by decide +kernel
theorem dL_law_249 : decode cL_law 249 = .ok (.iload_n 3, 1) := by decide +kernel
theorem dL_law_250 : decode cL_law 250 = .ok (.iconst 1, 1) := by decide +kernel
theorem dL_law_251 : decode cL_law 251 = .ok (.iadd, 1) := by decide +kernel
theorem dL_law_252 : decode cL_law 252 = .ok (.iaload, 1) := by decide +kernel
theorem dL_law_253 : decode cL_law 253 = .ok (.aload_n 0, 1) := by decide +kernel
theorem dL_law_254 : decode cL_law 254 = .ok (.iload_n 3, 1) := by decide +kernel
theorem dL_law_255 : decode cL_law 255 = .ok (.iconst 2, 1) := by decide +kernel
theorem dL_law_256 : decode cL_law 256 = .ok (.iadd, 1) := by decide +kernel
theorem dL_law_257 : decode cL_law 257 = .ok (.iaload, 1) := by decide +kernel
theorem dL_law_258 : decode cL_law 258 = .ok (.invokevirtual 39, 3) := by decide +kernel
theorem dL_law_261 : decode cL_law 261 = .ok (.if_icmp .eq 297, 3) := by decide +kernel
theorem dL_law_264 : decode cL_law 264 = .ok (.iconst 0, 1) := by decide +kernel
theorem dL_law_265 : decode cL_law 265 = .ok (.ireturn, 1) := by decide +kernel
theorem dL_law_266 : decode cL_law 266 = .ok (.aload_n 1, 1) := by decide +kernel
theorem dL_law_267 : decode cL_law 267 = .ok (.aload_n 0, 1) := by decide +kernel
theorem dL_law_268 : decode cL_law 268 = .ok (.iload_n 3, 1) := by decide +kernel
theorem dL_law_269 : decode cL_law 269 = .ok (.iconst 1, 1) := by decide +kernel
theorem dL_law_270 : decode cL_law 270 = .ok (.iadd, 1) := by decide +kernel
theorem dL_law_271 : decode cL_law 271 = .ok (.iaload, 1) := by decide +kernel
theorem dL_law_272 : decode cL_law 272 = .ok (.invokevirtual 40, 3) := by decide +kernel
theorem dL_law_275 : decode cL_law 275 = .ok (.aload_n 2, 1) := by decide +kernel
theorem dL_law_276 : decode cL_law 276 = .ok (.aload_n 0, 1) := by decide +kernel
theorem dL_law_277 : decode cL_law 277 = .ok (.iload_n 3, 1) := by decide +kernel
theorem dL_law_278 : decode cL_law 278 = .ok (.iconst 1, 1) := by decide +kernel
theorem dL_law_279 : decode cL_law 279 = .ok (.iadd, 1) := by decide +kernel
theorem dL_law_280 : decode cL_law 280 = .ok (.iaload, 1) := by decide +kernel
theorem dL_law_281 : decode cL_law 281 = .ok (.invokevirtual 43, 3) := by decide +kernel
theorem dL_law_284 : decode cL_law 284 = .ok (.if_icmp .eq 274, 3) := by decide +kernel
theorem dL_law_287 : decode cL_law 287 = .ok (.iconst 0, 1) := by decide +kernel
theorem dL_law_288 : decode cL_law 288 = .ok (.ireturn, 1) := by decide +kernel
theorem dL_law_289 : decode cL_law 289 = .ok (.aload_n 1, 1) := by decide +kernel
theorem dL_law_290 : decode cL_law 290 = .ok (.aload_n 0, 1) := by decide +kernel
theorem dL_law_291 : decode cL_law 291 = .ok (.iload_n 3, 1) := by decide +kernel
theorem dL_law_292 : decode cL_law 292 = .ok (.iconst 1, 1) := by decide +kernel
theorem dL_law_293 : decode cL_law 293 = .ok (.iadd, 1) := by decide +kernel
theorem dL_law_294 : decode cL_law 294 = .ok (.iaload, 1) := by decide +kernel
theorem dL_law_295 : decode cL_law 295 = .ok (.invokevirtual 44, 3) := by decide +kernel
theorem dL_law_298 : decode cL_law 298 = .ok (.aload_n 2, 1) := by decide +kernel
theorem dL_law_299 : decode cL_law 299 = .ok (.aload_n 0, 1) := by decide +kernel
theorem dL_law_300 : decode cL_law 300 = .ok (.iload_n 3, 1) := by decide +kernel
theorem dL_law_301 : decode cL_law 301 = .ok (.iconst 1, 1) := by decide +kernel
theorem dL_law_302 : decode cL_law 302 = .ok (.iadd, 1) := by decide +kernel
theorem dL_law_303 : decode cL_law 303 = .ok (.iaload, 1) := by decide +kernel
theorem dL_law_304 : decode cL_law 304 = .ok (.invokevirtual 47, 3) := by decide +kernel
theorem dL_law_307 : decode cL_law 307 = .ok (.if_icmp .eq 251, 3) := by decide +kernel
theorem dL_law_310 : decode cL_law 310 = .ok (.iconst 0, 1) := by decide +kernel
theorem dL_law_311 : decode cL_law 311 = .ok (.ireturn, 1) := by decide +kernel
theorem dL_law_312 : decode cL_law 312 = .ok (.aload_n 1, 1) := by decide +kernel
theorem dL_law_313 : decode cL_law 313 = .ok (.aload_n 0, 1) := by decide +kernel
theorem dL_law_314 : decode cL_law 314 = .ok (.iload_n 3, 1) := by decide +kernel
theorem dL_law_315 : decode cL_law 315 = .ok (.iconst 1, 1) := by decide +kernel
theorem dL_law_316 : decode cL_law 316 = .ok (.iadd, 1) := by decide +kernel
theorem dL_law_317 : decode cL_law 317 = .ok (.iaload, 1) := by decide +kernel
theorem dL_law_318 : decode cL_law 318 = .ok (.aload_n 0, 1) := by decide +kernel
theorem dL_law_319 : decode cL_law 319 = .ok (.iload_n 3, 1) := by decide +kernel
theorem dL_law_320 : decode cL_law 320 = .ok (.iconst 2, 1) := by decide +kernel
theorem dL_law_321 : decode cL_law 321 = .ok (.iadd, 1) := by decide +kernel
theorem dL_law_322 : decode cL_law 322 = .ok (.iaload, 1) := by decide +kernel
theorem dL_law_323 : decode cL_law 323 = .ok (.invokevirtual 48, 3) := by decide +kernel
theorem dL_law_326 : decode cL_law 326 = .ok (.aload_n 2, 1) := by decide +kernel
theorem dL_law_327 : decode cL_law 327 = .ok (.aload_n 0, 1) := by decide +kernel
theorem dL_law_328 : decode cL_law 328 = .ok (.iload_n 3, 1) := by decide +kernel
theorem dL_law_329 : decode cL_law 329 = .ok (.iconst 1, 1) := by decide +kernel
theorem dL_law_330 : decode cL_law 330 = .ok (.iadd, 1) := by decide +kernel
theorem dL_law_331 : decode cL_law 331 = .ok (.iaload, 1) := by decide +kernel
theorem dL_law_332 : decode cL_law 332 = .ok (.aload_n 0, 1) := by decide +kernel
theorem dL_law_333 : decode cL_law 333 = .ok (.iload_n 3, 1) := by decide +kernel
theorem dL_law_334 : decode cL_law 334 = .ok (.iconst 2, 1) := by decide +kernel
theorem dL_law_335 : decode cL_law 335 = .ok (.iadd, 1) := by decide +kernel
theorem dL_law_336 : decode cL_law 336 = .ok (.iaload, 1) := by decide +kernel
theorem dL_law_337 : decode cL_law 337 = .ok (.invokevirtual 51, 3) := by decide +kernel
theorem dL_law_340 : decode cL_law 340 = .ok (.if_icmp .eq 218, 3) := by decide +kernel
theorem dL_law_343 : decode cL_law 343 = .ok (.iconst 0, 1) := by decide +kernel
theorem dL_law_344 : decode cL_law 344 = .ok (.ireturn, 1) := by decide +kernel
theorem dL_law_345 : decode cL_law 345 = .ok (.aload_n 1, 1) := by decide +kernel
theorem dL_law_346 : decode cL_law 346 = .ok (.aload_n 0, 1) := by decide +kernel
theorem dL_law_347 : decode cL_law 347 = .ok (.iload_n 3, 1) := by decide +kernel
theorem dL_law_348 : decode cL_law 348 = .ok (.iconst 1, 1) := by decide +kernel
theorem dL_law_349 : decode cL_law 349 = .ok (.iadd, 1) := by decide +kernel
theorem dL_law_350 : decode cL_law 350 = .ok (.iaload, 1) := by decide +kernel
theorem dL_law_351 : decode cL_law 351 = .ok (.invokevirtual 52, 3) := by decide +kernel
theorem dL_law_354 : decode cL_law 354 = .ok (.aload_n 2, 1) := by decide +kernel
theorem dL_law_355 : decode cL_law 355 = .ok (.aload_n 0, 1) := by decide +kernel
theorem dL_law_356 : decode cL_law 356 = .ok (.iload_n 3, 1) := by decide +kernel
theorem dL_law_357 : decode cL_law 357 = .ok (.iconst 1, 1) := by decide +kernel
theorem dL_law_358 : decode cL_law 358 = .ok (.iadd, 1) := by decide +kernel
theorem dL_law_359 : decode cL_law 359 = .ok (.iaload, 1) := by decide +kernel
theorem dL_law_360 : decode cL_law 360 = .ok (.invokevirtual 55, 3) := by decide +kernel
theorem dL_law_363 : decode cL_law 363 = .ok (.if_icmp .eq 195, 3) := by decide +kernel
theorem dL_law_366 : decode cL_law 366 = .ok (.iconst 0, 1) := by decide +kernel
theorem dL_law_367 : decode cL_law 367 = .ok (.ireturn, 1) := by decide +kernel
theorem dL_law_368 : decode cL_law 368 = .ok (.aload_n 1, 1) := by decide +kernel
theorem dL_law_369 : decode cL_law 369 = .ok (.aload_n 0, 1) := by decide +kernel
theorem dL_law_370 : decode cL_law 370 = .ok (.iload_n 3, 1) := by decide +kernel
theorem dL_law_371 : decode cL_law 371 = .ok (.iconst 1, 1) := by decide +kernel
theorem dL_law_372 : decode cL_law 372 = .ok (.iadd, 1) := by decide +kernel
theorem dL_law_373 : decode cL_law 373 = .ok (.iaload, 1) := by decide +kernel
theorem dL_law_374 : decode cL_law 374 = .ok (.invokevirtual 56, 3) := by decide +kernel
theorem dL_law_377 : decode cL_law 377 = .ok (.aload_n 2, 1) := by decide +kernel
theorem dL_law_378 : decode cL_law 378 = .ok (.aload_n 0, 1) := by decide +kernel
theorem dL_law_379 : decode cL_law 379 = .ok (.iload_n 3, 1) := by decide +kernel
theorem dL_law_380 : decode cL_law 380 = .ok (.iconst 1, 1) := by decide +kernel
theorem dL_law_381 : decode cL_law 381 = .ok (.iadd, 1) := by decide +kernel
theorem dL_law_382 : decode cL_law 382 = .ok (.iaload, 1) := by decide +kernel
theorem dL_law_383 : decode cL_law 383 = .ok (.invokevirtual 59, 3) := by decide +kernel
theorem dL_law_386 : decode cL_law 386 = .ok (.if_icmp .eq 172, 3) := by decide +kernel
theorem dL_law_389 : decode cL_law 389 = .ok (.iconst 0, 1) := by decide +kernel
theorem dL_law_390 : decode cL_law 390 = .ok (.ireturn, 1) := by decide +kernel
theorem dL_law_391 : decode cL_law 391 = .ok (.aload_n 1, 1) := by decide +kernel
theorem dL_law_392 : decode cL_law 392 = .ok (.aload_n 0, 1) := by decide +kernel
theorem dL_law_393 : decode cL_law 393 = .ok (.iload_n 3, 1) := by decide +kernel
theorem dL_law_394 : decode cL_law 394 = .ok (.iconst 1, 1) := by decide +kernel
theorem dL_law_395 : decode cL_law 395 = .ok (.iadd, 1) := by decide +kernel
theorem dL_law_396 : decode cL_law 396 = .ok (.iaload, 1) := by decide +kernel
theorem dL_law_397 : decode cL_law 397 = .ok (.invokevirtual 60, 3) := by decide +kernel
theorem dL_law_400 : decode cL_law 400 = .ok (.aload_n 2, 1) := by decide +kernel
theorem dL_law_401 : decode cL_law 401 = .ok (.aload_n 0, 1) := by decide +kernel
theorem dL_law_402 : decode cL_law 402 = .ok (.iload_n 3, 1) := by decide +kernel
theorem dL_law_403 : decode cL_law 403 = .ok (.iconst 1, 1) := by decide +kernel
theorem dL_law_404 : decode cL_law 404 = .ok (.iadd, 1) := by decide +kernel
theorem dL_law_405 : decode cL_law 405 = .ok (.iaload, 1) := by decide +kernel
theorem dL_law_406 : decode cL_law 406 = .ok (.invokevirtual 63, 3) := by decide +kernel
theorem dL_law_409 : decode cL_law 409 = .ok (.if_icmp .eq 149, 3) := by decide +kernel
theorem dL_law_412 : decode cL_law 412 = .ok (.iconst 0, 1) := by decide +kernel
theorem dL_law_413 : decode cL_law 413 = .ok (.ireturn, 1) := by decide +kernel
theorem dL_law_414 : decode cL_law 414 = .ok (.aload_n 1, 1) := by decide +kernel
theorem dL_law_415 : decode cL_law 415 = .ok (.invokevirtual 64, 3) := by decide +kernel
theorem dL_law_418 : decode cL_law 418 = .ok (.aload_n 2, 1) := by decide +kernel
theorem dL_law_419 : decode cL_law 419 = .ok (.invokevirtual 67, 3) := by decide +kernel
theorem dL_law_422 : decode cL_law 422 = .ok (.if_icmp .eq 136, 3) := by decide +kernel
theorem dL_law_425 : decode cL_law 425 = .ok (.iconst 0, 1) := by decide +kernel
theorem dL_law_426 : decode cL_law 426 = .ok (.ireturn, 1) := by decide +kernel
theorem dL_law_427 : decode cL_law 427 = .ok (.aload_n 1, 1) := by decide +kernel
theorem dL_law_428 : decode cL_law 428 = .ok (.aload_n 0, 1) := by decide +kernel
theorem dL_law_429 : decode cL_law 429 = .ok (.iload_n 3, 1) := by decide +kernel
theorem dL_law_430 : decode cL_law 430 = .ok (.iconst 1, 1) := by decide +kernel
theorem dL_law_431 : decode cL_law 431 = .ok (.iadd, 1) := by decide +kernel
theorem dL_law_432 : decode cL_law 432 = .ok (.iaload, 1) := by decide +kernel
theorem dL_law_433 : decode cL_law 433 = .ok (.invokevirtual 68, 3) := by decide +kernel
theorem dL_law_436 : decode cL_law 436 = .ok (.aload_n 2, 1) := by decide +kernel
theorem dL_law_437 : decode cL_law 437 = .ok (.aload_n 0, 1) := by decide +kernel
theorem dL_law_438 : decode cL_law 438 = .ok (.iload_n 3, 1) := by decide +kernel
theorem dL_law_439 : decode cL_law 439 = .ok (.iconst 1, 1) := by decide +kernel
theorem dL_law_440 : decode cL_law 440 = .ok (.iadd, 1) := by decide +kernel
theorem dL_law_441 : decode cL_law 441 = .ok (.iaload, 1) := by decide +kernel
theorem dL_law_442 : decode cL_law 442 = .ok (.invokevirtual 71, 3) := by decide +kernel
theorem dL_law_445 : decode cL_law 445 = .ok (.if_icmp .eq 113, 3) := by decide +kernel
theorem dL_law_448 : decode cL_law 448 = .ok (.iconst 0, 1) := by decide +kernel
theorem dL_law_449 : decode cL_law 449 = .ok (.ireturn, 1) := by decide +kernel
theorem dL_law_450 : decode cL_law 450 = .ok (.aload_n 1, 1) := by decide +kernel
theorem dL_law_451 : decode cL_law 451 = .ok (.invokevirtual 72, 3) := by decide +kernel
theorem dL_law_454 : decode cL_law 454 = .ok (.aload_n 2, 1) := by decide +kernel
theorem dL_law_455 : decode cL_law 455 = .ok (.invokevirtual 75, 3) := by decide +kernel
theorem dL_law_458 : decode cL_law 458 = .ok (.if_icmp .eq 100, 3) := by decide +kernel
theorem dL_law_461 : decode cL_law 461 = .ok (.iconst 0, 1) := by decide +kernel
theorem dL_law_462 : decode cL_law 462 = .ok (.ireturn, 1) := by decide +kernel
theorem dL_law_463 : decode cL_law 463 = .ok (.aload_n 1, 1) := by decide +kernel
theorem dL_law_464 : decode cL_law 464 = .ok (.aload_n 0, 1) := by decide +kernel
theorem dL_law_465 : decode cL_law 465 = .ok (.iload_n 3, 1) := by decide +kernel
theorem dL_law_466 : decode cL_law 466 = .ok (.iconst 1, 1) := by decide +kernel
theorem dL_law_467 : decode cL_law 467 = .ok (.iadd, 1) := by decide +kernel
theorem dL_law_468 : decode cL_law 468 = .ok (.iaload, 1) := by decide +kernel
theorem dL_law_469 : decode cL_law 469 = .ok (.invokevirtual 76, 3) := by decide +kernel
theorem dL_law_472 : decode cL_law 472 = .ok (.aload_n 2, 1) := by decide +kernel
theorem dL_law_473 : decode cL_law 473 = .ok (.aload_n 0, 1) := by decide +kernel
theorem dL_law_474 : decode cL_law 474 = .ok (.iload_n 3, 1) := by decide +kernel
theorem dL_law_475 : decode cL_law 475 = .ok (.iconst 1, 1) := by decide +kernel
theorem dL_law_476 : decode cL_law 476 = .ok (.iadd, 1) := by decide +kernel
theorem dL_law_477 : decode cL_law 477 = .ok (.iaload, 1) := by decide +kernel
theorem dL_law_478 : decode cL_law 478 = .ok (.invokevirtual 79, 3) := by decide +kernel
theorem dL_law_481 : decode cL_law 481 = .ok (.if_icmp .eq 77, 3) := by decide +kernel
theorem dL_law_484 : decode cL_law 484 = .ok (.iconst 0, 1) := by decide +kernel
theorem dL_law_485 : decode cL_law 485 = .ok (.ireturn, 1) := by decide +kernel
theorem dL_law_486 : decode cL_law 486 = .ok (.aload_n 1, 1) := by decide +kernel
theorem dL_law_487 : decode cL_law 487 = .ok (.invokevirtual 80, 3) := by decide +kernel
theorem dL_law_490 : decode cL_law 490 = .ok (.aload_n 2, 1) := by decide +kernel
theorem dL_law_491 : decode cL_law 491 = .ok (.invokevirtual 83, 3) := by decide +kernel
theorem dL_law_494 : decode cL_law 494 = .ok (.if_icmp .eq 64, 3) := by decide +kernel
theorem dL_law_497 : decode cL_law 497 = .ok (.iconst 0, 1) := by decide +kernel
theorem dL_law_498 : decode cL_law 498 = .ok (.ireturn, 1) := by decide +kernel
theorem dL_law_499 : decode cL_law 499 = .ok (.aload_n 1, 1) := by decide +kernel
theorem dL_law_500 : decode cL_law 500 = .ok (.invokevirtual 84, 3) := by decide +kernel
theorem dL_law_503 : decode cL_law 503 = .ok (.aload_n 2, 1) := by decide +kernel
theorem dL_law_504 : decode cL_law 504 = .ok (.invokevirtual 87, 3) := by decide +kernel
theorem dL_law_507 : decode cL_law 507 = .ok (.if_icmp .eq 51, 3) := by decide +kernel
theorem dL_law_510 : decode cL_law 510 = .ok (.iconst 0, 1) := by decide +kernel
theorem dL_law_511 : decode cL_law 511 = .ok (.ireturn, 1) := by decide +kernel
theorem dL_law_512 : decode cL_law 512 = .ok (.aload_n 1, 1) := by decide +kernel
theorem dL_law_513 : decode cL_law 513 = .ok (.aload_n 0, 1) := by decide +kernel
theorem dL_law_514 : decode cL_law 514 = .ok (.iload_n 3, 1) := by decide +kernel
theorem dL_law_515 : decode cL_law 515 = .ok (.iconst 1, 1) := by decide +kernel
theorem dL_law_516 : decode cL_law 516 = .ok (.iadd, 1) := by decide +kernel
theorem dL_law_517 : decode cL_law 517 = .ok (.iaload, 1) := by decide +kernel
theorem dL_law_518 : decode cL_law 518 = .ok (.invokevirtual 88, 3) := by decide +kernel
theorem dL_law_521 : decode cL_law 521 = .ok (.aload_n 2, 1) := by decide +kernel
theorem dL_law_522 : decode cL_law 522 = .ok (.aload_n 0, 1) := by decide +kernel
theorem dL_law_523 : decode cL_law 523 = .ok (.iload_n 3, 1) := by decide +kernel
theorem dL_law_524 : decode cL_law 524 = .ok (.iconst 1, 1) := by decide +kernel
theorem dL_law_525 : decode cL_law 525 = .ok (.iadd, 1) := by decide +kernel
theorem dL_law_526 : decode cL_law 526 = .ok (.iaload, 1) := by decide +kernel
theorem dL_law_527 : decode cL_law 527 = .ok (.invokevirtual 91, 3) := by decide +kernel
theorem dL_law_530 : decode cL_law 530 = .ok (.if_icmp .eq 28, 3) := by decide +kernel
theorem dL_law_533 : decode cL_law 533 = .ok (.iconst 0, 1) := by decide +kernel
theorem dL_law_534 : decode cL_law 534 = .ok (.ireturn, 1) := by decide +kernel
theorem dL_law_535 : decode cL_law 535 = .ok (.aload_n 1, 1) := by decide +kernel
theorem dL_law_536 : decode cL_law 536 = .ok (.aload_n 0, 1) := by decide +kernel
theorem dL_law_537 : decode cL_law 537 = .ok (.iload_n 3, 1) := by decide +kernel
theorem dL_law_538 : decode cL_law 538 = .ok (.iconst 1, 1) := by decide +kernel
theorem dL_law_539 : decode cL_law 539 = .ok (.iadd, 1) := by decide +kernel
theorem dL_law_540 : decode cL_law 540 = .ok (.iaload, 1) := by decide +kernel
theorem dL_law_541 : decode cL_law 541 = .ok (.invokevirtual 92, 3) := by decide +kernel
theorem dL_law_544 : decode cL_law 544 = .ok (.aload_n 2, 1) := by decide +kernel
theorem dL_law_545 : decode cL_law 545 = .ok (.aload_n 0, 1) := by decide +kernel
theorem dL_law_546 : decode cL_law 546 = .ok (.iload_n 3, 1) := by decide +kernel
theorem dL_law_547 : decode cL_law 547 = .ok (.iconst 1, 1) := by decide +kernel
theorem dL_law_548 : decode cL_law 548 = .ok (.iadd, 1) := by decide +kernel
theorem dL_law_549 : decode cL_law 549 = .ok (.iaload, 1) := by decide +kernel
theorem dL_law_550 : decode cL_law 550 = .ok (.invokevirtual 95, 3) := by decide +kernel
theorem dL_law_553 : decode cL_law 553 = .ok (.if_icmp .eq 5, 3) := by decide +kernel
theorem dL_law_556 : decode cL_law 556 = .ok (.iconst 0, 1) := by decide +kernel
theorem dL_law_557 : decode cL_law 557 = .ok (.ireturn, 1) := by decide +kernel
theorem dL_law_558 : decode cL_law 558 = .ok (.iinc 3 3, 3) := by decide +kernel
theorem dL_law_561 : decode cL_law 561 = .ok (.goto (-543), 3) := by decide +kernel
theorem dL_law_564 : decode cL_law 564 = .ok (.iconst 1, 1) := by decide +kernel
theorem dL_law_565 : decode cL_law 565 = .ok (.ireturn, 1) := by decide +kernel
end
section
/-! the mathematical values behind both sides -/
abbrev TY (cI cQ : ClassId) : List (ClassId × FieldType) := [(cI, .int), (cQ, .object "LearningSpans$Message")]
def z0 : Nat → Nat := fun _ => 0
def one : Nat → Nat := fun _ => 1
theorem nar_bool {e : Nat} (h : e < 2) : narrow .boolean (.int (nI e)) = .int (nI e) := by
  have : e = 0 ∨ e = 1 := by omega
  rcases this with rfl | rfl <;> rfl
theorem fit_bool {e : Nat} (h : e < 2) : fits .boolean (.int (nI e)) = true := by
  have : e = 0 ∨ e = 1 := by omega
  rcases this with rfl | rfl <;> rfl
/-- what lies below a place -/
def cB (f : Nat → Nat) : Nat → Nat
  | 0 => 0
  | n + 1 => cB f n + f n
theorem cB_cong {f g : Nat → Nat} : ∀ {n : Nat}, (∀ j, j < n → f j = g j) → cB f n = cB g n
  | 0, _ => rfl
  | n + 1, h => by rw [cB, cB, cB_cong (fun j hj => h j (Nat.lt_succ_of_lt hj)), h n (Nat.lt_succ_self n)]
theorem cB_mono {f : Nat → Nat} {m n : Nat} (h : m ≤ n) : cB f m ≤ cB f n := by
  induction n with
  | zero => rw [show m = 0 by omega]; exact Nat.le_refl _
  | succ n ih =>
    rcases Nat.lt_or_ge n m with q | q
    · rw [show m = n + 1 by omega]; exact Nat.le_refl _
    · exact Nat.le_trans (ih q) (by rw [cB]; omega)
theorem cB_le {f : Nat → Nat} {k n : Nat} (h : k < n) : cB f k + f k ≤ cB f n := cB_mono (f := f) (m := k + 1) h
theorem cB_up_out {f : Nat → Nat} {k x : Nat} : ∀ {n : Nat}, n ≤ k → cB (va_up f k x) n = cB f n
  | 0, _ => rfl
  | n + 1, h => by rw [cB, cB, cB_up_out (show n ≤ k by omega), va_up_ne f x (show n ≠ k by omega)]
theorem cB_up {f : Nat → Nat} {k x : Nat} : ∀ {n : Nat}, k < n → cB (va_up f k x) n + f k = cB f n + x
  | 0, h => absurd h (by omega)
  | n + 1, h => by
    rw [cB, cB]
    rcases Nat.lt_or_ge k n with q | q
    · have := cB_up (f := f) (x := x) q
      rw [va_up_ne f x (show n ≠ k by omega)]
      omega
    · have e : k = n := by omega
      subst e
      rw [cB_up_out (Nat.le_refl _), va_up_self]
      omega
theorem cB_pos {f : Nat → Nat} : ∀ {n : Nat}, (∀ j, j < n → 1 ≤ f j) → n ≤ cB f n
  | 0, _ => Nat.le_refl _
  | n + 1, h => by
    have h1 := cB_pos (f := f) (n := n) (fun j hj => h j (by omega))
    have h2 := h n (by omega)
    rw [cB]; omega
theorem cB_half {f : Nat → Nat} : ∀ {n : Nat}, 2 * cB (fun j => (f j + 1) / 2) n ≤ cB f n + n
  | 0 => Nat.le_refl _
  | n + 1 => by
    have h1 := cB_half (f := f) (n := n)
    rw [cB, cB]
    have h2 : 2 * ((f n + 1) / 2) ≤ f n + 1 := by omega
    omega
/-- the counts once a letter has come -/
def lrF (p b : Nat) (f : Nat → Nat) (t k : Nat) : Nat → Nat := if b < t + p then fun j => (va_up f k (f k + p) j + 1) / 2 else va_up f k (f k + p)
def lrT (p b : Nat) (f : Nat → Nat) (t k : Nat) : Nat := if b < t + p then cB (fun j => (va_up f k (f k + p) j + 1) / 2) 9 else t + p
def lrH (p b t h : Nat) : Nat := if b < t + p then h + 1 else h
/-- counts that a run may hold: each 1 or more, their sum the total, not above 2000 -/
def okC (f : Nat → Nat) (t : Nat) : Prop := (∀ j, j < 9 → 1 ≤ f j) ∧ t = cB f 9 ∧ t ≤ 2000
theorem okC_one : okC one 9 := ⟨fun _ _ => Nat.le_refl _, rfl, by decide⟩
theorem okC.t9 {f : Nat → Nat} {t : Nat} (h : okC f t) : 9 ≤ t := by rw [h.2.1]; exact cB_pos h.1
theorem okC.lr {p b k t : Nat} {f : Nat → Nat} (h : okC f t) (hp : p ≤ 64) (hb : b ≤ 2000) (hk : k < 9) : okC (lrF p b f t k) (lrT p b f t k) := by
  obtain ⟨h1, h2, h3⟩ := h
  have hu := cB_up (f := f) (x := f k + p) hk
  unfold lrF lrT
  by_cases q : b < t + p
  · rw [if_pos q, if_pos q]
    have hv : ∀ j, j < 9 → 1 ≤ va_up f k (f k + p) j := fun j hj => by
      have := h1 j hj
      by_cases e : j = k
      · subst e; rw [va_up_self]; omega
      · rw [va_up_ne f _ e]; exact this
    have h4 := cB_half (f := va_up f k (f k + p)) (n := 9)
    refine ⟨fun j hj => ?_, rfl, by omega⟩
    have h5 := hv j hj
    show 1 ≤ (va_up f k (f k + p) j + 1) / 2
    omega
  · rw [if_neg q, if_neg q]
    refine ⟨fun j hj => ?_, by omega, by omega⟩
    have := h1 j hj
    by_cases e : j = k
    · subst e; rw [va_up_self]; omega
    · rw [va_up_ne f _ e]; exact this
theorem okC.le {f : Nat → Nat} {t j : Nat} (h : okC f t) (hj : j < 9) : f j ≤ 2000 := by
  have := cB_le (f := f) hj
  have := h.2.1
  have := h.2.2
  omega
theorem okC.cle {f : Nat → Nat} {t j : Nat} (h : okC f t) (hj : j ≤ 9) : cB f j ≤ t := by rw [h.2.1]; exact cB_mono hj
theorem okC.up {f : Nat → Nat} {t j : Nat} (h : okC f t) (hj : j < 9) : cB f j + f j ≤ t := by rw [h.2.1]; exact cB_le hj
/-- the span, narrowed to a letter -/
def shL (f : Nat → Nat) (t k lo hi : Nat) : Nat := lo + (hi - lo + 1) * cB f k / t
def shU (f : Nat → Nat) (t k lo hi : Nat) : Nat := lo + (hi - lo + 1) * (cB f k + f k) / t - 1
/-- what a doubling takes off: 0, 32768, 16384, or none (1) -/
def wO (lo hi : Nat) : Nat := if hi < 32768 then 0 else if 32768 ≤ lo then 32768 else if 16384 ≤ lo ∧ hi < 49152 then 16384 else 1
theorem wO_cases (lo hi : Nat) : (wO lo hi = 0 ∧ hi < 32768) ∨ (wO lo hi = 32768 ∧ 32768 ≤ hi ∧ 32768 ≤ lo) ∨ (wO lo hi = 16384 ∧ 32768 ≤ hi ∧ lo < 32768 ∧ 16384 ≤ lo ∧ hi < 49152) ∨ (wO lo hi = 1 ∧ 32768 ≤ hi ∧ lo < 32768 ∧ (lo < 16384 ∨ 49152 ≤ hi)) := by
  unfold wO
  by_cases h1 : hi < 32768
  · rw [if_pos h1]; omega
  · rw [if_neg h1]
    by_cases h2 : 32768 ≤ lo
    · rw [if_pos h2]; omega
    · rw [if_neg h2]
      by_cases h3 : 16384 ≤ lo ∧ hi < 49152
      · rw [if_pos h3]; omega
      · rw [if_neg h3]; omega
/-- a bit written, and those that wait behind it -/
def wB (bs : List Nat) (w b : Nat) : List Nat := bs ++ b :: List.replicate w (1 - b)
theorem wB_len (bs : List Nat) (w b : Nat) : (wB bs w b).length = bs.length + 1 + w := by unfold wB; simp; omega
/-- doubling, at most n times: the span, the bits that wait, the bits -/
def nr : Nat → Nat → Nat → Nat → List Nat → Nat × Nat × Nat × List Nat
  | 0, lo, hi, w, bs => (lo, hi, w, bs)
  | n + 1, lo, hi, w, bs => if wO lo hi = 1 then (lo, hi, w, bs) else if wO lo hi = 16384 then nr n ((lo - 16384) * 2) ((hi - 16384) * 2 + 1) (w + 1) bs else nr n ((lo - wO lo hi) * 2) ((hi - wO lo hi) * 2 + 1) 0 (wB bs w (if wO lo hi = 32768 then 1 else 0))
/-- a row of a heap holds a list at its head -/
def rep (f : Nat → Nat) (l : List Nat) : Prop := ∀ j, j < l.length → f j = l.getD j 0
theorem rep_nil (f : Nat → Nat) : rep f [] := fun j h => absurd h (Nat.not_lt_zero j)
theorem rep_push {f : Nat → Nat} {l : List Nat} {n x : Nat} (h : rep f l) (hn : n = l.length) : rep (va_up f n x) (l ++ [x]) := by
  subst hn
  intro j hj
  rw [List.length_append, List.length_singleton] at hj
  rcases Nat.lt_or_ge j l.length with q | q
  · rw [va_up_ne f x (show j ≠ l.length by omega), h j q, List.getD_eq_getElem?_getD, List.getD_eq_getElem?_getD, List.getElem?_append_left q]
  · have e : j = l.length := by omega
    subst e
    rw [va_up_self, List.getD_eq_getElem?_getD]
    simp
/-- the letter in whose part a number falls -/
def lwA (f : Nat → Nat) (x : Nat) : Nat → Nat → Nat
  | 0, _ => 8
  | m + 1, j => if x < cB f (j + 1) then j else lwA f x m (j + 1)
def lw (f : Nat → Nat) (x : Nat) : Nat := lwA f x 9 0
/-- the first 1 of a row of bits, from a place on, among m -/
def fOA (g : Nat → Nat) : Nat → Nat → Nat
  | 0, j => j
  | m + 1, j => if g j = 1 then j else fOA g m (j + 1)
def fO (g : Nat → Nat) (n j : Nat) : Nat := if n ≤ j then n else fOA g (n - j) j
theorem df_X0 : ∀ j, j < 2 → defaultValue (tyX0 j) = vp_V [.null, .int (nI 0)] j := by
  intro j hj
  match j, hj with
  | 0, _ => rfl
  | 1, _ => rfl
  | k + 2, h => exact absurd h (by omega)
theorem df_X1 : ∀ j, j < 6 → defaultValue (tyX1 j) = vp_V [.null, .null, .null, .null, .int (nI 0), .int (nI 0)] j := by
  intro j hj
  match j, hj with
  | 0, _ => rfl
  | 1, _ => rfl
  | 2, _ => rfl
  | 3, _ => rfl
  | 4, _ => rfl
  | 5, _ => rfl
  | k + 6, h => exact absurd h (by omega)
theorem df_X2 : ∀ j, j < 5 → defaultValue (tyX2 j) = vp_V [.null, .int (nI 0), .int (nI 0), .int (nI 0), .int (nI 0)] j := by
  intro j hj
  match j, hj with
  | 0, _ => rfl
  | 1, _ => rfl
  | 2, _ => rfl
  | 3, _ => rfl
  | 4, _ => rfl
  | k + 5, h => exact absurd h (by omega)
theorem df_X3 : ∀ j, j < 2 → defaultValue (tyX3 j) = vp_V [.null, .int (nI 0)] j := by
  intro j hj
  match j, hj with
  | 0, _ => rfl
  | 1, _ => rfl
  | k + 2, h => exact absurd h (by omega)
theorem df_X4 : ∀ j, j < 5 → defaultValue (tyX4 j) = vp_V [.null, .int (nI 0), .int (nI 0), .int (nI 0), .int (nI 0)] j := by
  intro j hj
  match j, hj with
  | 0, _ => rfl
  | 1, _ => rfl
  | 2, _ => rfl
  | 3, _ => rfl
  | 4, _ => rfl
  | k + 5, h => exact absurd h (by omega)
theorem df_X5 : ∀ j, j < 7 → defaultValue (tyX5 j) = vp_V [.null, .null, .null, .int (nI 0), .int (nI 0), .int (nI 0), .int (nI 0)] j := by
  intro j hj
  match j, hj with
  | 0, _ => rfl
  | 1, _ => rfl
  | 2, _ => rfl
  | 3, _ => rfl
  | 4, _ => rfl
  | 5, _ => rfl
  | 6, _ => rfl
  | k + 7, h => exact absurd h (by omega)
theorem df_X6 : ∀ j, j < 2 → defaultValue (tyX6 j) = vp_V [.int (nI 0), .int (nI 0)] j := by
  intro j hj
  match j, hj with
  | 0, _ => rfl
  | 1, _ => rfl
  | k + 2, h => exact absurd h (by omega)
theorem df_X7 : ∀ j, j < 2 → defaultValue (tyX7 j) = vp_V [.null, .int (nI 0)] j := by
  intro j hj
  match j, hj with
  | 0, _ => rfl
  | 1, _ => rfl
  | k + 2, h => exact absurd h (by omega)
theorem df_X8 : ∀ j, j < 7 → defaultValue (tyX8 j) = vp_V [.null, .null, .null, .null, .null, .null, .null] j := by
  intro j hj
  match j, hj with
  | 0, _ => rfl
  | 1, _ => rfl
  | 2, _ => rfl
  | 3, _ => rfl
  | 4, _ => rfl
  | 5, _ => rfl
  | 6, _ => rfl
  | k + 7, h => exact absurd h (by omega)
theorem df_X9 : ∀ j, j < 21 → defaultValue (tyX9 j) = vp_V [.null, .null, .int (nI 0), .null, .int (nI 0), .int (nI 0), .int (nI 0), .int (nI 0), .int (nI 0), .null, .int (nI 0), .null, .null, .int (nI 0), .int (nI 0), .int (nI 0), .null, .int (nI 0), .null, .int (nI 0), .int (nI 0)] j := by
  intro j hj
  match j, hj with
  | 0, _ => rfl
  | 1, _ => rfl
  | 2, _ => rfl
  | 3, _ => rfl
  | 4, _ => rfl
  | 5, _ => rfl
  | 6, _ => rfl
  | 7, _ => rfl
  | 8, _ => rfl
  | 9, _ => rfl
  | 10, _ => rfl
  | 11, _ => rfl
  | 12, _ => rfl
  | 13, _ => rfl
  | 14, _ => rfl
  | 15, _ => rfl
  | 16, _ => rfl
  | 17, _ => rfl
  | 18, _ => rfl
  | 19, _ => rfl
  | 20, _ => rfl
  | k + 21, h => exact absurd h (by omega)
theorem fO_end {g : Nat → Nat} {n i : Nat} (h : n ≤ i) : fO g n i = n := if_pos h
theorem fO_hit {g : Nat → Nat} {n i : Nat} (h : i < n) (h1 : g i = 1) : fO g n i = i := by
  unfold fO
  rw [if_neg (by omega), show n - i = (n - i - 1) + 1 by omega, fOA, if_pos h1]
theorem fO_step {g : Nat → Nat} {n i : Nat} (h : i < n) (h1 : g i ≠ 1) : fO g n i = fO g n (i + 1) := by
  unfold fO
  rw [if_neg (show ¬ n ≤ i by omega), show n - i = (n - (i + 1)) + 1 by omega, fOA, if_neg h1]
  by_cases q : n ≤ i + 1
  · rw [if_pos q, show n - (i + 1) = 0 by omega, fOA]; omega
  · rw [if_neg q]
theorem shU_ge {f : Nat → Nat} {t k lo hi : Nat} (hc : okC f t) (hk : k < 9) (hs : lo ≤ hi ∧ hi ≤ 65535) (hw : t ≤ hi - lo + 1) : 1 ≤ (hi - lo + 1) * (cB f k + f k) / t ∧ lo + (hi - lo + 1) * cB f k / t < lo + (hi - lo + 1) * (cB f k + f k) / t ∧ lo + (hi - lo + 1) * (cB f k + f k) / t ≤ hi + 1 := by
  have h1 := hc.1 k hk
  have h2 := hc.up hk
  have h9 := hc.t9
  have ht : 0 < t := by omega
  have e1 : (hi - lo + 1) * (cB f k + f k) = (hi - lo + 1) * cB f k + (hi - lo + 1) * f k := Nat.mul_add _ _ _
  have e2 : t ≤ (hi - lo + 1) * f k := Nat.le_trans hw (Nat.le_mul_of_pos_right _ h1)
  have a1 : (hi - lo + 1) * cB f k / t + 1 ≤ (hi - lo + 1) * (cB f k + f k) / t := by
    rw [← Nat.add_div_right _ ht]
    exact Nat.div_le_div_right (by omega)
  have a2 : (hi - lo + 1) * (cB f k + f k) / t ≤ hi - lo + 1 := by
    apply Nat.div_le_of_le_mul
    rw [Nat.mul_comm t]
    exact Nat.mul_le_mul_left _ h2
  generalize (hi - lo + 1) * (cB f k + f k) / t = X1 at *
  generalize (hi - lo + 1) * cB f k / t = X2 at *
  omega
theorem sh_ok {f : Nat → Nat} {t k lo hi : Nat} (hc : okC f t) (hk : k < 9) (hs : lo ≤ hi ∧ hi ≤ 65535) (hw : t ≤ hi - lo + 1) : lo ≤ shL f t k lo hi ∧ shL f t k lo hi ≤ shU f t k lo hi ∧ shU f t k lo hi ≤ hi := by
  have h := shU_ge hc hk hs hw
  unfold shL shU
  generalize (hi - lo + 1) * (cB f k + f k) / t = X1 at *
  generalize (hi - lo + 1) * cB f k / t = X2 at *
  omega
end
section
/-! narrowing, messages as runs of letters -/
theorem nr_stop {m lo hi w : Nat} {bs : List Nat} (h : wO lo hi = 1) : nr m lo hi w bs = (lo, hi, w, bs) := by
  cases m with
  | zero => rfl
  | succ m => rw [nr, if_pos h]
theorem nr_wait {m lo hi w : Nat} {bs : List Nat} (h : wO lo hi = 16384) : nr (m + 1) lo hi w bs = nr m ((lo - wO lo hi) * 2) ((hi - wO lo hi) * 2 + 1) (w + 1) bs := by
  rw [nr, if_neg (by omega), if_pos h, h]
theorem nr_bit {m lo hi w : Nat} {bs : List Nat} (h : wO lo hi ≠ 1) (h2 : wO lo hi ≠ 16384) : nr (m + 1) lo hi w bs = nr m ((lo - wO lo hi) * 2) ((hi - wO lo hi) * 2 + 1) 0 (wB bs w (if wO lo hi = 32768 then 1 else 0)) := by
  rw [nr, if_neg h, if_neg h2]
/-- behind sixteen doublings nothing is left to double -/
theorem nr_ok : ∀ (m lo hi w : Nat) (bs : List Nat), lo ≤ hi ∧ hi ≤ 65535 → 65536 ≤ (hi - lo + 1) * 2 ^ m → (nr m lo hi w bs).1 ≤ (nr m lo hi w bs).2.1 ∧ (nr m lo hi w bs).2.1 ≤ 65535 ∧ wO (nr m lo hi w bs).1 (nr m lo hi w bs).2.1 = 1
  | 0, lo, hi, w, bs, h, hm => by
    show lo ≤ hi ∧ hi ≤ 65535 ∧ wO lo hi = 1
    have := wO_cases lo hi
    omega
  | m + 1, lo, hi, w, bs, h, hm => by
    have hc := wO_cases lo hi
    have e : 2 ^ (m + 1) = 2 * 2 ^ m := by rw [Nat.pow_succ, Nat.mul_comm]
    by_cases h1 : wO lo hi = 1
    · rw [nr_stop h1]; exact ⟨h.1, h.2, h1⟩
    · have hs : (lo - wO lo hi) * 2 ≤ (hi - wO lo hi) * 2 + 1 ∧ (hi - wO lo hi) * 2 + 1 ≤ 65535 := by omega
      have hr : 65536 ≤ ((hi - wO lo hi) * 2 + 1 - (lo - wO lo hi) * 2 + 1) * 2 ^ m := by
        have e2 : (hi - wO lo hi) * 2 + 1 - (lo - wO lo hi) * 2 + 1 = (hi - lo + 1) * 2 := by omega
        rw [e2, Nat.mul_assoc, ← e]; exact hm
      by_cases h2 : wO lo hi = 16384
      · rw [nr_wait h2]; exact nr_ok m _ _ _ _ hs hr
      · rw [nr_bit h1 h2]; exact nr_ok m _ _ _ _ hs hr
theorem nr_len : ∀ (m lo hi w : Nat) (bs : List Nat), bs.length ≤ (nr m lo hi w bs).2.2.2.length ∧ (nr m lo hi w bs).2.2.2.length + (nr m lo hi w bs).2.2.1 ≤ bs.length + w + m
  | 0, lo, hi, w, bs => ⟨Nat.le_refl _, Nat.le_refl _⟩
  | m + 1, lo, hi, w, bs => by
    by_cases h1 : wO lo hi = 1
    · rw [nr_stop h1]; exact ⟨Nat.le_refl _, Nat.le_add_right _ _⟩
    · by_cases h2 : wO lo hi = 16384
      · rw [nr_wait h2]
        have := nr_len m ((lo - wO lo hi) * 2) ((hi - wO lo hi) * 2 + 1) (w + 1) bs
        omega
      · rw [nr_bit h1 h2]
        have := nr_len m ((lo - wO lo hi) * 2) ((hi - wO lo hi) * 2 + 1) 0 (wB bs w (if wO lo hi = 32768 then 1 else 0))
        rw [wB_len] at this
        omega
def bits01 (bs : List Nat) : Prop := ∀ x, x ∈ bs → x < 2
theorem bits01_nil : bits01 [] := fun x h => absurd h List.not_mem_nil
theorem bits01_wB {bs : List Nat} {w b : Nat} (h : bits01 bs) (hb : b < 2) : bits01 (wB bs w b) := by
  intro x hx
  unfold wB at hx
  rcases List.mem_append.mp hx with h1 | h1
  · exact h x h1
  · rcases List.mem_cons.mp h1 with h2 | h2
    · omega
    · have := (List.mem_replicate.mp h2).2
      omega
theorem nr_bits : ∀ (m lo hi w : Nat) (bs : List Nat), bits01 bs → bits01 (nr m lo hi w bs).2.2.2
  | 0, lo, hi, w, bs, h => h
  | m + 1, lo, hi, w, bs, h => by
    by_cases h1 : wO lo hi = 1
    · rw [nr_stop h1]; exact h
    · by_cases h2 : wO lo hi = 16384
      · rw [nr_wait h2]; exact nr_bits m _ _ _ _ h
      · rw [nr_bit h1 h2]
        exact nr_bits m _ _ _ _ (bits01_wB h (by by_cases q : wO lo hi = 32768 <;> simp [q]))
theorem bits01.getD {bs : List Nat} (h : bits01 bs) (j : Nat) : bs.getD j 0 < 2 := by
  rw [List.getD_eq_getElem?_getD]
  cases hj : bs[j]? with
  | none => exact (by decide : 0 < 2)
  | some x => exact h x (List.mem_of_getElem? hj)
theorem rep_wait {g : Nat → Nat} {bs : List Nat} {n x i : Nat} (hn : n = bs.length) (h : rep g (bs ++ x :: List.replicate i (1 - x))) : rep (va_up g (n + 1 + i) (1 - x)) (bs ++ x :: List.replicate (i + 1) (1 - x)) := by
  have e : bs ++ x :: List.replicate (i + 1) (1 - x) = (bs ++ x :: List.replicate i (1 - x)) ++ [1 - x] := by
    rw [List.append_assoc, List.cons_append, ← List.replicate_succ']
  rw [e]
  exact rep_push h (by simp; omega)
theorem rep_cong {f : Nat → Nat} {l l' : List Nat} (h : rep f l) (e : l = l') : rep f l' := e ▸ h
/-- a coder's state: counts, total, halvings, low, high, bits that wait, bits -/
abbrev CS : Type := (Nat → Nat) × Nat × Nat × Nat × Nat × Nat × List Nat
def sF (s : CS) : Nat → Nat := s.1
def sT (s : CS) : Nat := s.2.1
def sH (s : CS) : Nat := s.2.2.1
def sL (s : CS) : Nat := s.2.2.2.1
def sU (s : CS) : Nat := s.2.2.2.2.1
def sW (s : CS) : Nat := s.2.2.2.2.2.1
def sB (s : CS) : List Nat := s.2.2.2.2.2.2
def cs0 : CS := (one, 9, 0, 0, 65535, 0, [])
def nrS (s : CS) (k : Nat) : Nat × Nat × Nat × List Nat := nr 16 (shL (sF s) (sT s) k (sL s) (sU s)) (shU (sF s) (sT s) k (sL s) (sU s)) (sW s) (sB s)
def cAdd (p b : Nat) (s : CS) (k : Nat) : CS := (lrF p b (sF s) (sT s) k, lrT p b (sF s) (sT s) k, lrH p b (sT s) (sH s), (nrS s k).1, (nrS s k).2.1, (nrS s k).2.2.1, (nrS s k).2.2.2)
def cEnd (s : CS) : CS := (sF s, sT s, sH s, (nrS s 8).1, (nrS s 8).2.1, 0, wB (nrS s 8).2.2.2 ((nrS s 8).2.2.1 + 1) (if (nrS s 8).1 < 16384 then 0 else 1))
def cR (p b : Nat) (g : Nat → Nat) : Nat → CS
  | 0 => cs0
  | n + 1 => cAdd p b (cR p b g n) (g n)
def okS (s : CS) : Prop := okC (sF s) (sT s) ∧ sL s ≤ sU s ∧ sU s ≤ 65535 ∧ wO (sL s) (sU s) = 1
theorem okS.wide {s : CS} (h : okS s) : sT s ≤ sU s - sL s + 1 := by
  have := wO_cases (sL s) (sU s)
  have := h.1.2.2
  have := h.2
  omega
theorem nrS_ok {s : CS} {k : Nat} (h : okS s) (hk : k < 9) : (nrS s k).1 ≤ (nrS s k).2.1 ∧ (nrS s k).2.1 ≤ 65535 ∧ wO (nrS s k).1 (nrS s k).2.1 = 1 := by
  have h1 := sh_ok h.1 hk ⟨h.2.1, h.2.2.1⟩ h.wide
  have h2 := h.2.2.1
  exact nr_ok 16 _ _ _ _ (by omega) (by
    have : 1 * 2 ^ 16 ≤ (shU (sF s) (sT s) k (sL s) (sU s) - shL (sF s) (sT s) k (sL s) (sU s) + 1) * 2 ^ 16 := Nat.mul_le_mul_right _ (by omega)
    exact this)
theorem nrS_len (s : CS) (k : Nat) : (sB s).length ≤ (nrS s k).2.2.2.length ∧ (nrS s k).2.2.2.length + (nrS s k).2.2.1 ≤ (sB s).length + sW s + 16 := nr_len 16 _ _ _ _
theorem okS_0 : okS cs0 := ⟨okC_one, by decide, by decide, by decide⟩
theorem okS.add {p b k : Nat} {s : CS} (h : okS s) (hp : p ≤ 64) (hb : b ≤ 2000) (hk : k < 9) : okS (cAdd p b s k) := ⟨h.1.lr hp hb hk, nrS_ok h hk⟩
theorem cR_ok {p b : Nat} {g : Nat → Nat} (hp : p ≤ 64) (hb : b ≤ 2000) : ∀ {n : Nat}, (∀ j, j < n → g j < 8) → okS (cR p b g n)
  | 0, _ => okS_0
  | n + 1, h => (cR_ok hp hb (fun j hj => h j (by omega))).add hp hb (by have := h n (by omega); omega)
theorem cR_len (p b : Nat) (g : Nat → Nat) : ∀ n : Nat, (sB (cR p b g n)).length + sW (cR p b g n) ≤ 16 * n
  | 0 => Nat.le_refl _
  | n + 1 => by
    have h1 := cR_len p b g n
    have h2 := nrS_len (cR p b g n) (g n)
    show (nrS (cR p b g n) (g n)).2.2.2.length + (nrS (cR p b g n) (g n)).2.2.1 ≤ 16 * (n + 1)
    omega
theorem cR_bits (p b : Nat) (g : Nat → Nat) : ∀ n : Nat, bits01 (sB (cR p b g n))
  | 0 => bits01_nil
  | n + 1 => nr_bits 16 _ _ _ _ (cR_bits p b g n)
theorem cR_cong {p b : Nat} {g g' : Nat → Nat} : ∀ {n : Nat}, (∀ j, j < n → g j = g' j) → cR p b g n = cR p b g' n
  | 0, _ => rfl
  | n + 1, h => by rw [cR, cR, cR_cong (fun j hj => h j (by omega)), h n (by omega)]
theorem cEnd_len (s : CS) : (sB (cEnd s)).length ≤ (sB s).length + sW s + 18 ∧ (sB s).length ≤ (sB (cEnd s)).length := by
  have h := nrS_len s 8
  show (wB _ _ _).length ≤ _ ∧ _ ≤ (wB _ _ _).length
  rw [wB_len]
  omega
theorem cEnd_bits {s : CS} (h : bits01 (sB s)) : bits01 (sB (cEnd s)) := bits01_wB (nr_bits 16 _ _ _ _ h) (by by_cases q : (nrS s 8).1 < 16384 <;> simp [q])
/-- how many bits a letter of a message wrote -/
def cost (p b : Nat) (g : Nat → Nat) (j : Nat) : Nat := (sB (cR p b g (j + 1))).length - (sB (cR p b g j)).length
/-- a message's coder: ended or not -/
def cM (p b : Nat) (g : Nat → Nat) (n e : Nat) : CS := if e = 1 then cEnd (cR p b g n) else cR p b g n
/-- the most of a row's first n -/
def mxF (f : Nat → Nat) : Nat → Nat
  | 0 => 0
  | n + 1 => max (mxF f n) (f n)
end
section
abbrev rm_X0_empty : Room := { frames := 0, cells := 0, slots := 0, locals := 0 }
set_option maxHeartbeats 4000000 in
set_option maxRecDepth 100000 in
theorem c_X0_empty (l : Launch) (D : va_G) (cI cQ : ClassId) (a r n : Nat)  : MV l yX0_empty cX0_empty 1 none rm_X0_empty D (TY cI cQ) [.ref a] [(a, .inr (0, [.ref r, .int (nI n)]))] (fun (u : Unit) => True) (fun (u : Unit) => [(a, .inr (0, [.ref r, .int (nI 0)]))]) 0 0 := by
  refine MV.start (by decide) (Nat.le_of_ble_eq_true rfl) (lv0 := [(0, .ref a)]) rfl ?_
  intro pp9 ee9 ss9 mm9 args9 below9 meth9 co9 A9 Q9 hQ hC hr hlk hnm
  refine V_aload_n hC dX0_empty_0 rfl 0 rfl ?_
  refine V_iconst (v := nI 0) hC dX0_empty_1 (by decide) ?_
  refine V_put (ci := 0) (v := .int (nI 0)) hC tyX0 tyX0_ok nmX0 in_X0 0 rfl cls_X0 1 (by decide) fl_X0_15 rfl rfl rfl (Nat.le_of_ble_eq_true rfl) dX0_empty_2 (ws2 := [(a, .inr (0, [.ref r, .int (nI 0)]))]) rfl ?_
  subst hQ
  exact V_vret hC hr hlk (by decide) (by decide) dX0_empty_5 (()) [0] rfl (by decide) (trivial)
abbrev rm_X0_append : Room := { frames := 0, cells := 0, slots := 0, locals := 0 }
set_option maxHeartbeats 4000000 in
set_option maxRecDepth 100000 in
theorem c_X0_append (l : Launch) (D : va_G) (cI cQ : ClassId) (a r n x : Nat) (g : Nat → Nat) (hn : n < 658) : MV l yX0_append cX0_append 2 none rm_X0_append D (TY cI cQ) [.ref a, .int (nI x)] [(a, .inr (0, [.ref r, .int (nI n)])), (r, .inl (cI, 658, .inl (fun j => nI (g j))))] (fun (u : Unit) => True) (fun (u : Unit) => [(a, .inr (0, [.ref r, .int (nI (n + 1))])), (r, .inl (cI, 658, .inl (fun j => nI ((va_up g n x) j))))]) 0 0 := by
  refine MV.start (by decide) (Nat.le_of_ble_eq_true rfl) (lv0 := [(0, .ref a), (1, .int (nI x))]) rfl ?_
  intro pp9 ee9 ss9 mm9 args9 below9 meth9 co9 A9 Q9 hQ hC hr hlk hnm
  refine V_aload_n hC dX0_append_0 rfl 0 rfl ?_
  refine V_get (ci := 0) (v := .int (nI n)) hC in_X0 0 rfl cls_X0 1 (by decide) fl_X0_15 rfl dX0_append_1 ?_
  refine V_if_lt_F (tgt := 39) hC dX0_append_4 (by decide) (nI_pos (by omega)) ?_
  refine V_aload_n hC dX0_append_7 rfl 0 rfl ?_
  refine V_get (ci := 0) (v := .int (nI n)) hC in_X0 0 rfl cls_X0 1 (by decide) fl_X0_15 rfl dX0_append_8 ?_
  refine V_aload_n hC dX0_append_11 rfl 0 rfl ?_
  refine V_get (ci := 0) (v := .ref r) hC in_X0 0 rfl cls_X0 0 (by decide) fl_X0_9 rfl dX0_append_12 ?_
  refine V_alen (v := (nI 658)) hC 1 0 rfl rfl rfl dX0_append_15 ?_
  refine V_icmp_ge_F (tgt := 39) hC dX0_append_16 (by decide) (nI_ge (by omega) (by omega)) ?_
  refine V_aload_n hC dX0_append_19 rfl 0 rfl ?_
  refine V_get (ci := 0) (v := .ref r) hC in_X0 0 rfl cls_X0 0 (by decide) fl_X0_9 rfl dX0_append_20 ?_
  refine V_aload_n hC dX0_append_23 rfl 0 rfl ?_
  refine V_get (ci := 0) (v := .int (nI n)) hC in_X0 0 rfl cls_X0 1 (by decide) fl_X0_15 rfl dX0_append_24 ?_
  refine V_iload_n hC dX0_append_27 rfl 1 rfl ?_
  refine V_iast hC 1 0 rfl rfl (by omega) (by decide) dX0_append_28 (ws2 := [(a, .inr (0, [.ref r, .int (nI n)])), (r, .inl (cI, 658, .inl (fun j => nI ((va_up g n x) j))))]) rfl ?_
  refine V_aload_n hC dX0_append_29 rfl 0 rfl ?_
  refine V_dup hC dX0_append_30 rfl ?_
  refine V_get (ci := 0) (v := .int (nI n)) hC in_X0 0 rfl cls_X0 1 (by decide) fl_X0_15 rfl dX0_append_31 ?_
  refine V_iconst (v := nI 1) hC dX0_append_34 (by decide) ?_
  refine V_iadd hC dX0_append_35 ?_
  refine V_put (ci := 0) (v := .int (nI (n + 1))) hC tyX0 tyX0_ok nmX0 in_X0 0 rfl cls_X0 1 (by decide) fl_X0_15 rfl rfl rfl (Nat.le_of_ble_eq_true rfl) dX0_append_36 (ws2 := [(a, .inr (0, [.ref r, .int (nI (n + 1))])), (r, .inl (cI, 658, .inl (fun j => nI ((va_up g n x) j))))]) rfl ?_
  subst hQ
  exact V_vret hC hr hlk (by decide) (by decide) dX0_append_39 (()) [0, 1] rfl (by decide) (trivial)
abbrev rm_X0_bitAt : Room := { frames := 0, cells := 0, slots := 0, locals := 0 }
set_option maxHeartbeats 4000000 in
set_option maxRecDepth 100000 in
theorem c_X0_bitAt (l : Launch) (D : va_G) (cI cQ : ClassId) (a r n i : Nat) (g : Nat → Nat) (hn : n ≤ 658) (hi : i < 2147483648) : MI l yX0_bitAt cX0_bitAt 2 (some .int) rm_X0_bitAt D (TY cI cQ) [.ref a, .int (nI i)] [(a, .inr (0, [.ref r, .int (nI n)])), (r, .inl (cI, 658, .inl (fun j => nI (g j))))] (fun (r9 : Int32) (u : Unit) => r9 = (nI (if i < n then g i else 0)) ∧ True) (fun (u : Unit) => [(a, .inr (0, [.ref r, .int (nI n)])), (r, .inl (cI, 658, .inl (fun j => nI (g j))))]) 0 0 := by
  refine MI.start (by decide) (Nat.le_of_ble_eq_true rfl) (lv0 := [(0, .ref a), (1, .int (nI i))]) rfl ?_
  intro pp9 ee9 ss9 mm9 args9 below9 meth9 co9 A9 Q9 hQ hC hr hlk hnm
  refine V_iload_n hC dX0_bitAt_0 rfl 1 rfl ?_
  refine V_if_lt_F (tgt := 30) hC dX0_bitAt_1 (by decide) (nI_pos (by omega)) ?_
  refine V_iload_n hC dX0_bitAt_4 rfl 1 rfl ?_
  refine V_aload_n hC dX0_bitAt_5 rfl 0 rfl ?_
  refine V_get (ci := 0) (v := .int (nI n)) hC in_X0 0 rfl cls_X0 1 (by decide) fl_X0_15 rfl dX0_bitAt_6 ?_
  refine V_icmp_ge (tgt := 30) hC (by omega) (by omega) dX0_bitAt_9 (by decide) (fun c9 => ?_) (fun c9 => ?_)
  · refine V_iconst (v := nI 0) hC dX0_bitAt_30 (by decide) ?_
    subst hQ
    exact V_iret hC hr hlk rfl (by decide) (by decide) dX0_bitAt_31 (()) [0, 1] rfl (by decide) (⟨by rw [if_neg (show ¬ i < n by omega)], trivial⟩)
  · refine V_iload_n hC dX0_bitAt_12 rfl 1 rfl ?_
    refine V_aload_n hC dX0_bitAt_13 rfl 0 rfl ?_
    refine V_get (ci := 0) (v := .ref r) hC in_X0 0 rfl cls_X0 0 (by decide) fl_X0_9 rfl dX0_bitAt_14 ?_
    refine V_alen (v := (nI 658)) hC 1 0 rfl rfl rfl dX0_bitAt_17 ?_
    refine V_icmp_ge_F (tgt := 30) hC dX0_bitAt_18 (by decide) (nI_ge (by omega) (by omega)) ?_
    refine V_aload_n hC dX0_bitAt_21 rfl 0 rfl ?_
    refine V_get (ci := 0) (v := .ref r) hC in_X0 0 rfl cls_X0 0 (by decide) fl_X0_9 rfl dX0_bitAt_22 ?_
    refine V_iload_n hC dX0_bitAt_25 rfl 1 rfl ?_
    refine V_iald hC 1 0 rfl rfl (by omega) (by decide) dX0_bitAt_26 ?_
    refine V_goto (tgt := 31) hC dX0_bitAt_27 (by decide) ?_
    subst hQ
    exact V_iret hC hr hlk rfl (by decide) (by decide) dX0_bitAt_31 (()) [0, 1] rfl (by decide) (⟨by rw [if_pos (show i < n by omega)], trivial⟩)
abbrev rm_X0_firstOne : Room := { frames := 1, cells := 0, slots := 0, locals := 21 }
set_option maxHeartbeats 4000000 in
set_option maxRecDepth 100000 in
theorem c_X0_firstOne (l : Launch) (D : va_G) (cI cQ : ClassId) (a r n j : Nat) (g : Nat → Nat) (hn : n ≤ 658) (hj : j < 2147483648) (hg : ∀ i, i < n → g i < 2) : MI l yX0_firstOne cX0_firstOne 3 (some .int) rm_X0_firstOne D (TY cI cQ) [.ref a, .int (nI j)] [(a, .inr (0, [.ref r, .int (nI n)])), (r, .inl (cI, 658, .inl (fun j => nI (g j))))] (fun (r9 : Int32) (u : Unit) => r9 = (nI (fO g n j)) ∧ True) (fun (u : Unit) => [(a, .inr (0, [.ref r, .int (nI n)])), (r, .inl (cI, 658, .inl (fun j => nI (g j))))]) 0 0 := by
  refine MI.start (by decide) (Nat.le_of_ble_eq_true rfl) (lv0 := [(0, .ref a), (1, .int (nI j))]) rfl ?_
  intro pp9 ee9 ss9 mm9 args9 below9 meth9 co9 A9 Q9 hQ hC hr hlk hnm
  refine V_iconst (v := nI 0) hC dX0_firstOne_0 (by decide) ?_
  refine V_iload_n hC dX0_firstOne_1 rfl 1 rfl ?_
  refine V_mmax hC ml_X0_19 stt_max ini_Math cd_max (by omega) (by omega) (by decide) (Nat.le_of_ble_eq_true rfl) (by decide) (by decide) dX0_firstOne_2 ?_
  refine V_istore_n (lv2 := [(0, .ref a), (1, .int (nI j)), (2, .int (nI (max 0 j)))]) hC dX0_firstOne_5 rfl (by decide) [1, 2, 0] rfl ?_
  have L6 : ∀ (n9 : Nat) (i : Nat), (i < 2147483648) → (j ≤ i) → (fO g n j = fO g n i) → n - i < n9 → V pp9 l ee9 rm_X0_firstOne ss9 mm9 args9 below9 meth9 co9 D A9 ss9.heap 3 Q9 [(a, .inr (0, [.ref r, .int (nI n)])), (r, .inl (cI, 658, .inl (fun j => nI (g j))))] [(0, .ref a), (1, .int (nI j)), (2, .int (nI i))] 0 0 6 [] := by
    intro n9
    induction n9 with
    | zero => intro i h1 h2 h3 h9; exact absurd h9 (Nat.not_lt_zero _)
    | succ n9 ih =>
      intro i h1 h2 h3 h9
      refine V_iload_n hC dX0_firstOne_6 rfl 2 rfl ?_
      refine V_aload_n hC dX0_firstOne_7 rfl 0 rfl ?_
      refine V_get (ci := 0) (v := .int (nI n)) hC in_X0 0 rfl cls_X0 1 (by decide) fl_X0_15 rfl dX0_firstOne_8 ?_
      refine V_icmp_ge (tgt := 31) hC (by omega) (by omega) dX0_firstOne_11 (by decide) (fun c11 => ?_) (fun c11 => ?_)
      · refine V_aload_n hC dX0_firstOne_31 rfl 0 rfl ?_
        refine V_get (ci := 0) (v := .int (nI n)) hC in_X0 0 rfl cls_X0 1 (by decide) fl_X0_15 rfl dX0_firstOne_32 ?_
        subst hQ
        exact V_iret hC hr hlk rfl (by decide) (by decide) dX0_firstOne_35 (()) [0, 1] rfl (by decide) (⟨by rw [h3, fO_end (show n ≤ i by omega)], trivial⟩)
      · refine V_aload_n hC dX0_firstOne_14 rfl 0 rfl ?_
        refine V_iload_n hC dX0_firstOne_15 rfl 2 rfl ?_
        refine V_calliV (As := [.int (nI i)]) (rest := []) (wr := []) hC (c_X0_bitAt l D cI cQ a r n i g (by omega) (by omega)) mok_X0_bitAt ml_X0_25 (q1 := 0) rfl cls_X0 rfl rfl rfl (by decide) (by decide) (by decide) (Nat.le_of_ble_eq_true rfl) [0, 1] [] rfl (by decide) rfl (by decide) (by decide) dX0_firstOne_16 rfl (fun r9 u9 h16 => ?_)
        obtain ⟨rfl, h16⟩ := h16
        clear h16
        refine V_perm (ws2 := [(a, .inr (0, [.ref r, .int (nI n)])), (r, .inl (cI, 658, .inl (fun j => nI (g j))))]) [0, 1] rfl (by decide) ?_
        refine V_st (st2 := [.int (nI (g i))]) (by rw [show (if i < n then g i else 0) = (g i) from if_pos (show i < n by omega)]) ?_
        have hg1 := hg i (by omega)
        refine V_iconst (v := nI 1) hC dX0_firstOne_19 (by decide) ?_
        refine V_icmp_ne (tgt := 25) hC (by omega) (by omega) dX0_firstOne_20 (by decide) (fun c20 => ?_) (fun c20 => ?_)
        · refine V_iinc (v := (nI (i + 1))) (lv2 := [(0, .ref a), (1, .int (nI j)), (2, .int (nI (i + 1)))]) (q := 2) hC dX0_firstOne_25 rfl (nI_add _ _) (by decide) [1, 2, 0] rfl ?_
          refine V_goto (tgt := 6) hC dX0_firstOne_28 (by decide) ?_
          exact ih (i + 1) (by omega) (by omega) (by rw [h3, fO_step (show i < n by omega) c20]) (by omega)
        · refine V_iload_n hC dX0_firstOne_23 rfl 2 rfl ?_
          subst hQ
          exact V_iret hC hr hlk rfl (by decide) (by decide) dX0_firstOne_24 (()) [0, 1] rfl (by decide) (⟨by rw [h3, fO_hit (show i < n by omega) c20], trivial⟩)
  exact L6 _ (max 0 j) (by omega) (by omega) (by rw [show max 0 j = j by omega]) (Nat.lt_succ_self _)
abbrev rm_X2_start : Room := { frames := 0, cells := 0, slots := 0, locals := 0 }
set_option maxHeartbeats 4000000 in
set_option maxRecDepth 100000 in
theorem c_X2_start (l : Launch) (D : va_G) (cI cQ : ClassId) (a r t h p b p2 b2 : Nat) (f : Nat → Nat)  : MV l yX2_start cX2_start 4 none rm_X2_start D (TY cI cQ) [.ref a, .int (nI p2), .int (nI b2)] [(a, .inr (2, [.ref r, .int (nI t), .int (nI h), .int (nI p), .int (nI b)])), (r, .inl (cI, 9, .inl (fun j => nI (f j))))] (fun (u : Unit) => True) (fun (u : Unit) => [(a, .inr (2, [.ref r, .int (nI 9), .int (nI 0), .int (nI p2), .int (nI b2)])), (r, .inl (cI, 9, .inl (fun j => nI (one j))))]) 0 0 := by
  refine MV.start (by decide) (Nat.le_of_ble_eq_true rfl) (lv0 := [(0, .ref a), (1, .int (nI p2)), (2, .int (nI b2))]) rfl ?_
  intro pp9 ee9 ss9 mm9 args9 below9 meth9 co9 A9 Q9 hQ hC hr hlk hnm
  refine V_iconst (v := nI 0) hC dX2_start_0 (by decide) ?_
  refine V_istore_n (lv2 := [(0, .ref a), (1, .int (nI p2)), (2, .int (nI b2)), (3, .int (nI 0))]) hC dX2_start_1 rfl (by decide) [1, 2, 3, 0] rfl ?_
  have L2 : ∀ (n9 : Nat) (i : Nat) (f2 : Nat → Nat), (i ≤ 9) → (∀ j, j < i → f2 j = 1) → 9 - i < n9 → V pp9 l ee9 rm_X2_start ss9 mm9 args9 below9 meth9 co9 D A9 ss9.heap 4 Q9 [(a, .inr (2, [.ref r, .int (nI t), .int (nI h), .int (nI p), .int (nI b)])), (r, .inl (cI, 9, .inl (fun j => nI (f2 j))))] [(0, .ref a), (1, .int (nI p2)), (2, .int (nI b2)), (3, .int (nI i))] 0 0 2 [] := by
    intro n9
    induction n9 with
    | zero => intro i f2 h1 h2 h9; exact absurd h9 (Nat.not_lt_zero _)
    | succ n9 ih =>
      intro i f2 h1 h2 h9
      refine V_iload_n hC dX2_start_2 rfl 3 rfl ?_
      refine V_aload_n hC dX2_start_3 rfl 0 rfl ?_
      refine V_get (ci := 2) (v := .ref r) hC in_X2 0 rfl cls_X2 0 (by decide) fl_X2_9 rfl dX2_start_4 ?_
      refine V_alen (v := (nI 9)) hC 1 0 rfl rfl rfl dX2_start_7 ?_
      refine V_icmp_ge (tgt := 24) hC (by omega) (by omega) dX2_start_8 (by decide) (fun c8 => ?_) (fun c8 => ?_)
      · have hcg : ∀ j, j < 9 → f2 j = one j := fun j hj => by rw [h2 j (by omega)]; rfl
        refine V_cong (k := 1) (g := fun j => nI (one j)) rfl (fun j hj => congrArg nI (hcg j hj)) (ws2 := [(a, .inr (2, [.ref r, .int (nI t), .int (nI h), .int (nI p), .int (nI b)])), (r, .inl (cI, 9, .inl (fun j => nI (one j))))]) rfl ?_
        clear hcg
        refine V_aload_n hC dX2_start_24 rfl 0 rfl ?_
        refine V_aload_n hC dX2_start_25 rfl 0 rfl ?_
        refine V_get (ci := 2) (v := .ref r) hC in_X2 0 rfl cls_X2 0 (by decide) fl_X2_9 rfl dX2_start_26 ?_
        refine V_alen (v := (nI 9)) hC 1 0 rfl rfl rfl dX2_start_29 ?_
        refine V_put (ci := 2) (v := .int (nI 9)) hC tyX2 tyX2_ok nmX2 in_X2 0 rfl cls_X2 1 (by decide) fl_X2_15 rfl rfl rfl (Nat.le_of_ble_eq_true rfl) dX2_start_30 (ws2 := [(a, .inr (2, [.ref r, .int (nI 9), .int (nI h), .int (nI p), .int (nI b)])), (r, .inl (cI, 9, .inl (fun j => nI (one j))))]) rfl ?_
        refine V_aload_n hC dX2_start_33 rfl 0 rfl ?_
        refine V_iconst (v := nI 0) hC dX2_start_34 (by decide) ?_
        refine V_put (ci := 2) (v := .int (nI 0)) hC tyX2 tyX2_ok nmX2 in_X2 0 rfl cls_X2 2 (by decide) fl_X2_19 rfl rfl rfl (Nat.le_of_ble_eq_true rfl) dX2_start_35 (ws2 := [(a, .inr (2, [.ref r, .int (nI 9), .int (nI 0), .int (nI p), .int (nI b)])), (r, .inl (cI, 9, .inl (fun j => nI (one j))))]) rfl ?_
        refine V_aload_n hC dX2_start_38 rfl 0 rfl ?_
        refine V_iload_n hC dX2_start_39 rfl 1 rfl ?_
        refine V_put (ci := 2) (v := .int (nI p2)) hC tyX2 tyX2_ok nmX2 in_X2 0 rfl cls_X2 3 (by decide) fl_X2_22 rfl rfl rfl (Nat.le_of_ble_eq_true rfl) dX2_start_40 (ws2 := [(a, .inr (2, [.ref r, .int (nI 9), .int (nI 0), .int (nI p2), .int (nI b)])), (r, .inl (cI, 9, .inl (fun j => nI (one j))))]) rfl ?_
        refine V_aload_n hC dX2_start_43 rfl 0 rfl ?_
        refine V_iload_n hC dX2_start_44 rfl 2 rfl ?_
        refine V_put (ci := 2) (v := .int (nI b2)) hC tyX2 tyX2_ok nmX2 in_X2 0 rfl cls_X2 4 (by decide) fl_X2_25 rfl rfl rfl (Nat.le_of_ble_eq_true rfl) dX2_start_45 (ws2 := [(a, .inr (2, [.ref r, .int (nI 9), .int (nI 0), .int (nI p2), .int (nI b2)])), (r, .inl (cI, 9, .inl (fun j => nI (one j))))]) rfl ?_
        subst hQ
        exact V_vret hC hr hlk (by decide) (by decide) dX2_start_48 (()) [0, 1] rfl (by decide) (trivial)
      · refine V_aload_n hC dX2_start_11 rfl 0 rfl ?_
        refine V_get (ci := 2) (v := .ref r) hC in_X2 0 rfl cls_X2 0 (by decide) fl_X2_9 rfl dX2_start_12 ?_
        refine V_iload_n hC dX2_start_15 rfl 3 rfl ?_
        refine V_iconst (v := nI 1) hC dX2_start_16 (by decide) ?_
        refine V_iast hC 1 0 rfl rfl (by omega) (by decide) dX2_start_17 (ws2 := [(a, .inr (2, [.ref r, .int (nI t), .int (nI h), .int (nI p), .int (nI b)])), (r, .inl (cI, 9, .inl (fun j => nI ((va_up f2 i 1) j))))]) rfl ?_
        refine V_iinc (v := (nI (i + 1))) (lv2 := [(0, .ref a), (1, .int (nI p2)), (2, .int (nI b2)), (3, .int (nI (i + 1)))]) (q := 3) hC dX2_start_18 rfl (nI_add _ _) (by decide) [1, 2, 3, 0] rfl ?_
        refine V_goto (tgt := 2) hC dX2_start_21 (by decide) ?_
        exact ih (i + 1) (va_up f2 i 1) (by omega) (lt_s (fun j hj => by rw [va_up_ne f2 1 (show j ≠ i by omega)]; exact h2 j hj) (va_up_self f2 i 1)) (by omega)
  exact L2 _ 0 f (by omega) (fun j hj => absurd hj (Nat.not_lt_zero j)) (Nat.lt_succ_self _)
abbrev rm_X2_countAt : Room := { frames := 0, cells := 0, slots := 0, locals := 0 }
set_option maxHeartbeats 4000000 in
set_option maxRecDepth 100000 in
theorem c_X2_countAt (l : Launch) (D : va_G) (cI cQ : ClassId) (a r t h p b k : Nat) (f : Nat → Nat) (hk : k < 9) : MI l yX2_countAt cX2_countAt 2 (some .int) rm_X2_countAt D (TY cI cQ) [.ref a, .int (nI k)] [(a, .inr (2, [.ref r, .int (nI t), .int (nI h), .int (nI p), .int (nI b)])), (r, .inl (cI, 9, .inl (fun j => nI (f j))))] (fun (r9 : Int32) (u : Unit) => r9 = (nI (f k)) ∧ True) (fun (u : Unit) => [(a, .inr (2, [.ref r, .int (nI t), .int (nI h), .int (nI p), .int (nI b)])), (r, .inl (cI, 9, .inl (fun j => nI (f j))))]) 0 0 := by
  refine MI.start (by decide) (Nat.le_of_ble_eq_true rfl) (lv0 := [(0, .ref a), (1, .int (nI k))]) rfl ?_
  intro pp9 ee9 ss9 mm9 args9 below9 meth9 co9 A9 Q9 hQ hC hr hlk hnm
  refine V_iload_n hC dX2_countAt_0 rfl 1 rfl ?_
  refine V_if_lt_F (tgt := 22) hC dX2_countAt_1 (by decide) (nI_pos (by omega)) ?_
  refine V_iload_n hC dX2_countAt_4 rfl 1 rfl ?_
  refine V_aload_n hC dX2_countAt_5 rfl 0 rfl ?_
  refine V_get (ci := 2) (v := .ref r) hC in_X2 0 rfl cls_X2 0 (by decide) fl_X2_9 rfl dX2_countAt_6 ?_
  refine V_alen (v := (nI 9)) hC 1 0 rfl rfl rfl dX2_countAt_9 ?_
  refine V_icmp_ge_F (tgt := 22) hC dX2_countAt_10 (by decide) (nI_ge (by omega) (by omega)) ?_
  refine V_aload_n hC dX2_countAt_13 rfl 0 rfl ?_
  refine V_get (ci := 2) (v := .ref r) hC in_X2 0 rfl cls_X2 0 (by decide) fl_X2_9 rfl dX2_countAt_14 ?_
  refine V_iload_n hC dX2_countAt_17 rfl 1 rfl ?_
  refine V_iald hC 1 0 rfl rfl (by omega) (by decide) dX2_countAt_18 ?_
  refine V_goto (tgt := 23) hC dX2_countAt_19 (by decide) ?_
  subst hQ
  exact V_iret hC hr hlk rfl (by decide) (by decide) dX2_countAt_23 (()) [0, 1] rfl (by decide) (⟨rfl, trivial⟩)
abbrev rm_X2_below : Room := { frames := 0, cells := 0, slots := 0, locals := 0 }
set_option maxHeartbeats 4000000 in
set_option maxRecDepth 100000 in
theorem c_X2_below (l : Launch) (D : va_G) (cI cQ : ClassId) (a r t h p b k : Nat) (f : Nat → Nat) (hk : k ≤ 9) : MI l yX2_below cX2_below 4 (some .int) rm_X2_below D (TY cI cQ) [.ref a, .int (nI k)] [(a, .inr (2, [.ref r, .int (nI t), .int (nI h), .int (nI p), .int (nI b)])), (r, .inl (cI, 9, .inl (fun j => nI (f j))))] (fun (r9 : Int32) (u : Unit) => r9 = (nI (cB f k)) ∧ True) (fun (u : Unit) => [(a, .inr (2, [.ref r, .int (nI t), .int (nI h), .int (nI p), .int (nI b)])), (r, .inl (cI, 9, .inl (fun j => nI (f j))))]) 0 0 := by
  refine MI.start (by decide) (Nat.le_of_ble_eq_true rfl) (lv0 := [(0, .ref a), (1, .int (nI k))]) rfl ?_
  intro pp9 ee9 ss9 mm9 args9 below9 meth9 co9 A9 Q9 hQ hC hr hlk hnm
  refine V_iconst (v := nI 0) hC dX2_below_0 (by decide) ?_
  refine V_istore_n (lv2 := [(0, .ref a), (1, .int (nI k)), (2, .int (nI 0))]) hC dX2_below_1 rfl (by decide) [1, 2, 0] rfl ?_
  refine V_iconst (v := nI 0) hC dX2_below_2 (by decide) ?_
  refine V_istore_n (lv2 := [(0, .ref a), (1, .int (nI k)), (2, .int (nI 0)), (3, .int (nI 0))]) hC dX2_below_3 rfl (by decide) [1, 2, 3, 0] rfl ?_
  have L4 : ∀ (n9 : Nat) (i : Nat) (s2 : Nat), (i ≤ k) → (s2 = cB f i) → k - i < n9 → V pp9 l ee9 rm_X2_below ss9 mm9 args9 below9 meth9 co9 D A9 ss9.heap 4 Q9 [(a, .inr (2, [.ref r, .int (nI t), .int (nI h), .int (nI p), .int (nI b)])), (r, .inl (cI, 9, .inl (fun j => nI (f j))))] [(0, .ref a), (1, .int (nI k)), (2, .int (nI s2)), (3, .int (nI i))] 0 0 4 [] := by
    intro n9
    induction n9 with
    | zero => intro i s2 h1 h2 h9; exact absurd h9 (Nat.not_lt_zero _)
    | succ n9 ih =>
      intro i s2 h1 h2 h9
      refine V_iload_n hC dX2_below_4 rfl 3 rfl ?_
      refine V_iload_n hC dX2_below_5 rfl 1 rfl ?_
      refine V_icmp_ge (tgt := 33) hC (by omega) (by omega) dX2_below_6 (by decide) (fun c6 => ?_) (fun c6 => ?_)
      · refine V_iload_n hC dX2_below_33 rfl 2 rfl ?_
        subst hQ
        exact V_iret hC hr hlk rfl (by decide) (by decide) dX2_below_34 (()) [0, 1] rfl (by decide) (⟨by rw [h2, show i = k by omega], trivial⟩)
      · refine V_iload_n hC dX2_below_9 rfl 3 rfl ?_
        refine V_aload_n hC dX2_below_10 rfl 0 rfl ?_
        refine V_get (ci := 2) (v := .ref r) hC in_X2 0 rfl cls_X2 0 (by decide) fl_X2_9 rfl dX2_below_11 ?_
        refine V_alen (v := (nI 9)) hC 1 0 rfl rfl rfl dX2_below_14 ?_
        refine V_icmp_ge_F (tgt := 33) hC dX2_below_15 (by decide) (nI_ge (by omega) (by omega)) ?_
        refine V_iload_n hC dX2_below_18 rfl 2 rfl ?_
        refine V_aload_n hC dX2_below_19 rfl 0 rfl ?_
        refine V_get (ci := 2) (v := .ref r) hC in_X2 0 rfl cls_X2 0 (by decide) fl_X2_9 rfl dX2_below_20 ?_
        refine V_iload_n hC dX2_below_23 rfl 3 rfl ?_
        refine V_iald hC 1 0 rfl rfl (by omega) (by decide) dX2_below_24 ?_
        refine V_iadd hC dX2_below_25 ?_
        refine V_istore_n (lv2 := [(0, .ref a), (1, .int (nI k)), (2, .int (nI (s2 + (f i)))), (3, .int (nI i))]) hC dX2_below_26 rfl (by decide) [1, 2, 0, 3] rfl ?_
        refine V_iinc (v := (nI (i + 1))) (lv2 := [(0, .ref a), (1, .int (nI k)), (2, .int (nI (s2 + (f i)))), (3, .int (nI (i + 1)))]) (q := 3) hC dX2_below_27 rfl (nI_add _ _) (by decide) [1, 2, 3, 0] rfl ?_
        refine V_goto (tgt := 4) hC dX2_below_30 (by decide) ?_
        exact ih (i + 1) (s2 + (f i)) (by omega) (by rw [h2, cB]) (by omega)
  exact L4 _ 0 0 (by omega) (rfl) (Nat.lt_succ_self _)
abbrev rm_X2_letterWith : Room := { frames := 0, cells := 0, slots := 0, locals := 0 }
set_option maxHeartbeats 4000000 in
set_option maxRecDepth 100000 in
theorem c_X2_letterWith (l : Launch) (D : va_G) (cI cQ : ClassId) (a r t h p b x : Nat) (f : Nat → Nat) (hx : x < 2147483648) (hb : ∀ j, j ≤ 9 → cB f j < 2147483648) : MI l yX2_letterWith cX2_letterWith 4 (some .int) rm_X2_letterWith D (TY cI cQ) [.ref a, .int (nI x)] [(a, .inr (2, [.ref r, .int (nI t), .int (nI h), .int (nI p), .int (nI b)])), (r, .inl (cI, 9, .inl (fun j => nI (f j))))] (fun (r9 : Int32) (u : Unit) => r9 = (nI (lw f x)) ∧ True) (fun (u : Unit) => [(a, .inr (2, [.ref r, .int (nI t), .int (nI h), .int (nI p), .int (nI b)])), (r, .inl (cI, 9, .inl (fun j => nI (f j))))]) 0 0 := by
  refine MI.start (by decide) (Nat.le_of_ble_eq_true rfl) (lv0 := [(0, .ref a), (1, .int (nI x))]) rfl ?_
  intro pp9 ee9 ss9 mm9 args9 below9 meth9 co9 A9 Q9 hQ hC hr hlk hnm
  refine V_iconst (v := nI 0) hC dX2_letterWith_0 (by decide) ?_
  refine V_istore_n (lv2 := [(0, .ref a), (1, .int (nI x)), (2, .int (nI 0))]) hC dX2_letterWith_1 rfl (by decide) [1, 2, 0] rfl ?_
  refine V_iconst (v := nI 0) hC dX2_letterWith_2 (by decide) ?_
  refine V_istore_n (lv2 := [(0, .ref a), (1, .int (nI x)), (2, .int (nI 0)), (3, .int (nI 0))]) hC dX2_letterWith_3 rfl (by decide) [1, 2, 3, 0] rfl ?_
  have L4 : ∀ (n9 : Nat) (i : Nat) (s2 : Nat), (i ≤ 9) → (s2 = cB f i) → (lwA f x (9 - i) i = lw f x) → 9 - i < n9 → V pp9 l ee9 rm_X2_letterWith ss9 mm9 args9 below9 meth9 co9 D A9 ss9.heap 4 Q9 [(a, .inr (2, [.ref r, .int (nI t), .int (nI h), .int (nI p), .int (nI b)])), (r, .inl (cI, 9, .inl (fun j => nI (f j))))] [(0, .ref a), (1, .int (nI x)), (2, .int (nI s2)), (3, .int (nI i))] 0 0 4 [] := by
    intro n9
    induction n9 with
    | zero => intro i s2 h1 h2 h3 h9; exact absurd h9 (Nat.not_lt_zero _)
    | succ n9 ih =>
      intro i s2 h1 h2 h3 h9
      refine V_iload_n hC dX2_letterWith_4 rfl 3 rfl ?_
      refine V_aload_n hC dX2_letterWith_5 rfl 0 rfl ?_
      refine V_get (ci := 2) (v := .ref r) hC in_X2 0 rfl cls_X2 0 (by decide) fl_X2_9 rfl dX2_letterWith_6 ?_
      refine V_alen (v := (nI 9)) hC 1 0 rfl rfl rfl dX2_letterWith_9 ?_
      refine V_icmp_ge (tgt := 35) hC (by omega) (by omega) dX2_letterWith_10 (by decide) (fun c10 => ?_) (fun c10 => ?_)
      · refine V_bipush (v := nI 8) hC dX2_letterWith_35 (by decide) ?_
        subst hQ
        exact V_iret hC hr hlk rfl (by decide) (by decide) dX2_letterWith_37 (()) [0, 1] rfl (by decide) (⟨by rw [← h3, show i = 9 by omega]; rfl, trivial⟩)
      · refine V_iload_n hC dX2_letterWith_13 rfl 2 rfl ?_
        refine V_aload_n hC dX2_letterWith_14 rfl 0 rfl ?_
        refine V_get (ci := 2) (v := .ref r) hC in_X2 0 rfl cls_X2 0 (by decide) fl_X2_9 rfl dX2_letterWith_15 ?_
        refine V_iload_n hC dX2_letterWith_18 rfl 3 rfl ?_
        refine V_iald hC 1 0 rfl rfl (by omega) (by decide) dX2_letterWith_19 ?_
        refine V_iadd hC dX2_letterWith_20 ?_
        refine V_istore_n (lv2 := [(0, .ref a), (1, .int (nI x)), (2, .int (nI (s2 + (f i)))), (3, .int (nI i))]) hC dX2_letterWith_21 rfl (by decide) [1, 2, 0, 3] rfl ?_
        refine V_iload_n hC dX2_letterWith_22 rfl 2 rfl ?_
        have h8 := hb (i + 1) (by omega)
        rw [cB] at h8
        refine V_iload_n hC dX2_letterWith_23 rfl 1 rfl ?_
        refine V_icmp_le (tgt := 29) hC (by omega) (by omega) dX2_letterWith_24 (by decide) (fun c24 => ?_) (fun c24 => ?_)
        · refine V_iinc (v := (nI (i + 1))) (lv2 := [(0, .ref a), (1, .int (nI x)), (2, .int (nI (s2 + (f i)))), (3, .int (nI (i + 1)))]) (q := 3) hC dX2_letterWith_29 rfl (nI_add _ _) (by decide) [1, 2, 3, 0] rfl ?_
          refine V_goto (tgt := 4) hC dX2_letterWith_32 (by decide) ?_
          exact ih (i + 1) (s2 + (f i)) (by omega) (by rw [h2, cB]) (by rw [← h3, show 9 - i = (9 - (i + 1)) + 1 by omega, lwA, if_neg (by rw [cB, ← h2]; omega)]) (by omega)
        · refine V_iload_n hC dX2_letterWith_27 rfl 3 rfl ?_
          subst hQ
          exact V_iret hC hr hlk rfl (by decide) (by decide) dX2_letterWith_28 (()) [0, 1] rfl (by decide) (⟨by rw [← h3, show 9 - i = (9 - (i + 1)) + 1 by omega, lwA, if_pos (by rw [cB, ← h2]; omega)], trivial⟩)
  exact L4 _ 0 0 (by omega) (rfl) (rfl) (Nat.lt_succ_self _)
abbrev rm_X2_halve : Room := { frames := 0, cells := 0, slots := 0, locals := 0 }
set_option maxHeartbeats 4000000 in
set_option maxRecDepth 100000 in
theorem c_X2_halve (l : Launch) (D : va_G) (cI cQ : ClassId) (a r t h p b : Nat) (f : Nat → Nat) (hf : ∀ j, j < 9 → f j < 100000) : MV l yX2_halve cX2_halve 2 none rm_X2_halve D (TY cI cQ) [.ref a] [(a, .inr (2, [.ref r, .int (nI t), .int (nI h), .int (nI p), .int (nI b)])), (r, .inl (cI, 9, .inl (fun j => nI (f j))))] (fun (u : Unit) => True) (fun (u : Unit) => [(a, .inr (2, [.ref r, .int (nI (cB (fun j => (f j + 1) / 2) 9)), .int (nI (h + 1)), .int (nI p), .int (nI b)])), (r, .inl (cI, 9, .inl (fun j => nI ((fun j => (f j + 1) / 2) j))))]) 0 0 := by
  refine MV.start (by decide) (Nat.le_of_ble_eq_true rfl) (lv0 := [(0, .ref a)]) rfl ?_
  intro pp9 ee9 ss9 mm9 args9 below9 meth9 co9 A9 Q9 hQ hC hr hlk hnm
  refine V_aload_n hC dX2_halve_0 rfl 0 rfl ?_
  refine V_iconst (v := nI 0) hC dX2_halve_1 (by decide) ?_
  refine V_put (ci := 2) (v := .int (nI 0)) hC tyX2 tyX2_ok nmX2 in_X2 0 rfl cls_X2 1 (by decide) fl_X2_15 rfl rfl rfl (Nat.le_of_ble_eq_true rfl) dX2_halve_2 (ws2 := [(a, .inr (2, [.ref r, .int (nI 0), .int (nI h), .int (nI p), .int (nI b)])), (r, .inl (cI, 9, .inl (fun j => nI (f j))))]) rfl ?_
  refine V_iconst (v := nI 0) hC dX2_halve_5 (by decide) ?_
  refine V_istore_n (lv2 := [(0, .ref a), (1, .int (nI 0))]) hC dX2_halve_6 rfl (by decide) [1, 0] rfl ?_
  have L7 : ∀ (n9 : Nat) (i : Nat) (t2 : Nat) (f2 : Nat → Nat), (i ≤ 9) → (t2 = cB (fun j => (f j + 1) / 2) i) → (∀ j, j < 9 → f2 j = if j < i then (f j + 1) / 2 else f j) → 9 - i < n9 → V pp9 l ee9 rm_X2_halve ss9 mm9 args9 below9 meth9 co9 D A9 ss9.heap 2 Q9 [(a, .inr (2, [.ref r, .int (nI t2), .int (nI h), .int (nI p), .int (nI b)])), (r, .inl (cI, 9, .inl (fun j => nI (f2 j))))] [(0, .ref a), (1, .int (nI i))] 0 0 7 [] := by
    intro n9
    induction n9 with
    | zero => intro i t2 f2 h1 h2 h3 h9; exact absurd h9 (Nat.not_lt_zero _)
    | succ n9 ih =>
      intro i t2 f2 h1 h2 h3 h9
      refine V_iload_n hC dX2_halve_7 rfl 1 rfl ?_
      refine V_aload_n hC dX2_halve_8 rfl 0 rfl ?_
      refine V_get (ci := 2) (v := .ref r) hC in_X2 0 rfl cls_X2 0 (by decide) fl_X2_9 rfl dX2_halve_9 ?_
      refine V_alen (v := (nI 9)) hC 1 0 rfl rfl rfl dX2_halve_12 ?_
      refine V_icmp_ge (tgt := 53) hC (by omega) (by omega) dX2_halve_13 (by decide) (fun c13 => ?_) (fun c13 => ?_)
      · have ei9 : i = 9 := by omega
        subst ei9
        have hcg : ∀ j, j < 9 → f2 j = (fun j => (f j + 1) / 2) j := fun j hj => by rw [h3 j hj, if_pos hj]
        refine V_cong (k := 1) (g := fun j => nI ((fun j => (f j + 1) / 2) j)) rfl (fun j hj => congrArg nI (hcg j hj)) (ws2 := [(a, .inr (2, [.ref r, .int (nI t2), .int (nI h), .int (nI p), .int (nI b)])), (r, .inl (cI, 9, .inl (fun j => nI ((fun j => (f j + 1) / 2) j))))]) rfl ?_
        clear hcg
        subst h2
        refine V_aload_n hC dX2_halve_53 rfl 0 rfl ?_
        refine V_dup hC dX2_halve_54 rfl ?_
        refine V_get (ci := 2) (v := .int (nI h)) hC in_X2 0 rfl cls_X2 2 (by decide) fl_X2_19 rfl dX2_halve_55 ?_
        refine V_iconst (v := nI 1) hC dX2_halve_58 (by decide) ?_
        refine V_iadd hC dX2_halve_59 ?_
        refine V_put (ci := 2) (v := .int (nI (h + 1))) hC tyX2 tyX2_ok nmX2 in_X2 0 rfl cls_X2 2 (by decide) fl_X2_19 rfl rfl rfl (Nat.le_of_ble_eq_true rfl) dX2_halve_60 (ws2 := [(a, .inr (2, [.ref r, .int (nI ((cB (fun j => (f j + 1) / 2) 9))), .int (nI (h + 1)), .int (nI p), .int (nI b)])), (r, .inl (cI, 9, .inl (fun j => nI ((fun j => (f j + 1) / 2) j))))]) rfl ?_
        subst hQ
        exact V_vret hC hr hlk (by decide) (by decide) dX2_halve_63 (()) [0, 1] rfl (by decide) (trivial)
      · have hfi : f2 i = f i := by rw [h3 i (by omega), if_neg (Nat.lt_irrefl i)]
        have hfl := hf i (by omega)
        rw [← hfi] at hfl
        refine V_aload_n hC dX2_halve_16 rfl 0 rfl ?_
        refine V_get (ci := 2) (v := .ref r) hC in_X2 0 rfl cls_X2 0 (by decide) fl_X2_9 rfl dX2_halve_17 ?_
        refine V_iload_n hC dX2_halve_20 rfl 1 rfl ?_
        refine V_aload_n hC dX2_halve_21 rfl 0 rfl ?_
        refine V_get (ci := 2) (v := .ref r) hC in_X2 0 rfl cls_X2 0 (by decide) fl_X2_9 rfl dX2_halve_22 ?_
        refine V_iload_n hC dX2_halve_25 rfl 1 rfl ?_
        refine V_iald hC 1 0 rfl rfl (by omega) (by decide) dX2_halve_26 ?_
        refine V_iconst (v := nI 1) hC dX2_halve_27 (by decide) ?_
        refine V_iadd hC dX2_halve_28 ?_
        refine V_iconst (v := nI 2) hC dX2_halve_29 (by decide) ?_
        refine V_idiv hC dX2_halve_30 (by omega) (by omega) (by omega) ?_
        refine V_iast hC 1 0 rfl rfl (by omega) (by decide) dX2_halve_31 (ws2 := [(a, .inr (2, [.ref r, .int (nI t2), .int (nI h), .int (nI p), .int (nI b)])), (r, .inl (cI, 9, .inl (fun j => nI ((va_up f2 i (((f2 i) + 1) / 2)) j))))]) rfl ?_
        refine V_aload_n hC dX2_halve_32 rfl 0 rfl ?_
        refine V_dup hC dX2_halve_33 rfl ?_
        refine V_get (ci := 2) (v := .int (nI t2)) hC in_X2 0 rfl cls_X2 1 (by decide) fl_X2_15 rfl dX2_halve_34 ?_
        refine V_aload_n hC dX2_halve_37 rfl 0 rfl ?_
        refine V_get (ci := 2) (v := .ref r) hC in_X2 0 rfl cls_X2 0 (by decide) fl_X2_9 rfl dX2_halve_38 ?_
        refine V_iload_n hC dX2_halve_41 rfl 1 rfl ?_
        refine V_iald hC 1 0 rfl rfl (by omega) (by decide) dX2_halve_42 ?_
        refine V_iadd hC dX2_halve_43 ?_
        refine V_put (ci := 2) (v := .int (nI (t2 + ((va_up f2 i (((f2 i) + 1) / 2)) i)))) hC tyX2 tyX2_ok nmX2 in_X2 0 rfl cls_X2 1 (by decide) fl_X2_15 rfl rfl rfl (Nat.le_of_ble_eq_true rfl) dX2_halve_44 (ws2 := [(a, .inr (2, [.ref r, .int (nI (t2 + ((va_up f2 i (((f2 i) + 1) / 2)) i))), .int (nI h), .int (nI p), .int (nI b)])), (r, .inl (cI, 9, .inl (fun j => nI ((va_up f2 i (((f2 i) + 1) / 2)) j))))]) rfl ?_
        refine V_iinc (v := (nI (i + 1))) (lv2 := [(0, .ref a), (1, .int (nI (i + 1)))]) (q := 1) hC dX2_halve_47 rfl (nI_add _ _) (by decide) [1, 0] rfl ?_
        refine V_goto (tgt := 7) hC dX2_halve_50 (by decide) ?_
        exact ih (i + 1) (t2 + ((va_up f2 i (((f2 i) + 1) / 2)) i)) (va_up f2 i (((f2 i) + 1) / 2)) (by omega) (by rw [h2, cB, va_up_self, hfi]) (fun j hj => by
  by_cases e : j = i
  · subst e; rw [va_up_self, if_pos (Nat.lt_succ_self _), hfi]
  · rw [va_up_ne _ _ e, h3 j hj]; by_cases q : j < i
    · rw [if_pos q, if_pos (by omega)]
    · rw [if_neg q, if_neg (by omega)]) (by omega)
  exact L7 _ 0 0 f (by omega) (rfl) (fun j _ => by rw [if_neg (Nat.not_lt_zero j)]) (Nat.lt_succ_self _)
abbrev rm_X2_learn : Room := { frames := 1, cells := 0, slots := 0, locals := 21 }
set_option maxHeartbeats 4000000 in
set_option maxRecDepth 100000 in
theorem c_X2_learn (l : Launch) (D : va_G) (cI cQ : ClassId) (a r t h p b k : Nat) (f : Nat → Nat) (hk : k < 9) (hf : ∀ j, j < 9 → f j ≤ 2000) (ht : t ≤ 2000) (hp : p ≤ 64) (hb : b ≤ 2000) : MV l yX2_learn cX2_learn 2 none rm_X2_learn D (TY cI cQ) [.ref a, .int (nI k)] [(a, .inr (2, [.ref r, .int (nI t), .int (nI h), .int (nI p), .int (nI b)])), (r, .inl (cI, 9, .inl (fun j => nI (f j))))] (fun (u : Unit) => True) (fun (u : Unit) => [(a, .inr (2, [.ref r, .int (nI (lrT p b f t k)), .int (nI (lrH p b t h)), .int (nI p), .int (nI b)])), (r, .inl (cI, 9, .inl (fun j => nI ((lrF p b f t k) j))))]) 0 0 := by
  refine MV.start (by decide) (Nat.le_of_ble_eq_true rfl) (lv0 := [(0, .ref a), (1, .int (nI k))]) rfl ?_
  intro pp9 ee9 ss9 mm9 args9 below9 meth9 co9 A9 Q9 hQ hC hr hlk hnm
  refine V_iload_n hC dX2_learn_0 rfl 1 rfl ?_
  refine V_if_lt_F (tgt := 13) hC dX2_learn_1 (by decide) (nI_pos (by omega)) ?_
  refine V_iload_n hC dX2_learn_4 rfl 1 rfl ?_
  refine V_aload_n hC dX2_learn_5 rfl 0 rfl ?_
  refine V_get (ci := 2) (v := .ref r) hC in_X2 0 rfl cls_X2 0 (by decide) fl_X2_9 rfl dX2_learn_6 ?_
  refine V_alen (v := (nI 9)) hC 1 0 rfl rfl rfl dX2_learn_9 ?_
  refine V_icmp_lt_T (tgt := 14) hC dX2_learn_10 (by decide) (nI_lt (by omega) (by omega)) ?_
  refine V_aload_n hC dX2_learn_14 rfl 0 rfl ?_
  refine V_get (ci := 2) (v := .ref r) hC in_X2 0 rfl cls_X2 0 (by decide) fl_X2_9 rfl dX2_learn_15 ?_
  refine V_iload_n hC dX2_learn_18 rfl 1 rfl ?_
  refine V_dup2 hC dX2_learn_19 rfl rfl ?_
  refine V_iald hC 1 0 rfl rfl (by omega) (by decide) dX2_learn_20 ?_
  refine V_aload_n hC dX2_learn_21 rfl 0 rfl ?_
  refine V_get (ci := 2) (v := .int (nI p)) hC in_X2 0 rfl cls_X2 3 (by decide) fl_X2_22 rfl dX2_learn_22 ?_
  refine V_iadd hC dX2_learn_25 ?_
  refine V_iast hC 1 0 rfl rfl (by omega) (by decide) dX2_learn_26 (ws2 := [(a, .inr (2, [.ref r, .int (nI t), .int (nI h), .int (nI p), .int (nI b)])), (r, .inl (cI, 9, .inl (fun j => nI ((va_up f k ((f k) + p)) j))))]) rfl ?_
  refine V_aload_n hC dX2_learn_27 rfl 0 rfl ?_
  refine V_dup hC dX2_learn_28 rfl ?_
  refine V_get (ci := 2) (v := .int (nI t)) hC in_X2 0 rfl cls_X2 1 (by decide) fl_X2_15 rfl dX2_learn_29 ?_
  refine V_aload_n hC dX2_learn_32 rfl 0 rfl ?_
  refine V_get (ci := 2) (v := .int (nI p)) hC in_X2 0 rfl cls_X2 3 (by decide) fl_X2_22 rfl dX2_learn_33 ?_
  refine V_iadd hC dX2_learn_36 ?_
  refine V_put (ci := 2) (v := .int (nI (t + p))) hC tyX2 tyX2_ok nmX2 in_X2 0 rfl cls_X2 1 (by decide) fl_X2_15 rfl rfl rfl (Nat.le_of_ble_eq_true rfl) dX2_learn_37 (ws2 := [(a, .inr (2, [.ref r, .int (nI (t + p)), .int (nI h), .int (nI p), .int (nI b)])), (r, .inl (cI, 9, .inl (fun j => nI ((va_up f k ((f k) + p)) j))))]) rfl ?_
  refine V_aload_n hC dX2_learn_40 rfl 0 rfl ?_
  refine V_get (ci := 2) (v := .int (nI (t + p))) hC in_X2 0 rfl cls_X2 1 (by decide) fl_X2_15 rfl dX2_learn_41 ?_
  refine V_aload_n hC dX2_learn_44 rfl 0 rfl ?_
  refine V_get (ci := 2) (v := .int (nI b)) hC in_X2 0 rfl cls_X2 4 (by decide) fl_X2_25 rfl dX2_learn_45 ?_
  refine V_icmp_le (tgt := 55) hC (by omega) (by omega) dX2_learn_48 (by decide) (fun c48 => ?_) (fun c48 => ?_)
  · refine V_ws (ws2 := [(a, .inr (2, [.ref r, .int (nI (lrT p b f t k)), .int (nI (lrH p b t h)), .int (nI p), .int (nI b)])), (r, .inl (cI, 9, .inl (fun j => nI ((lrF p b f t k) j))))]) (by simp only [lrF, lrT, lrH, if_neg (show ¬ b < t + p by omega)]) ?_
    subst hQ
    exact V_vret hC hr hlk (by decide) (by decide) dX2_learn_55 (()) [0, 1] rfl (by decide) (trivial)
  · refine V_aload_n hC dX2_learn_51 rfl 0 rfl ?_
    refine V_callvV (As := []) (rest := []) (wr := []) hC (c_X2_halve l D cI cQ a r (t + p) h p b (va_up f k ((f k) + p)) (fun j hj => by
  have h1 := hf j hj
  have h2 := hf k hk
  by_cases e : j = k
  · subst e; rw [va_up_self]; omega
  · rw [va_up_ne _ _ e]; omega)) mok_X2_halve ml_X2_28 (q1 := 0) rfl cls_X2 rfl rfl rfl (by decide) (by decide) (by decide) (Nat.le_of_ble_eq_true rfl) [0, 1] [] rfl (by decide) rfl (by decide) (by decide) dX2_learn_52 rfl (fun u9 h52 => ?_)
    clear h52
    refine V_perm (ws2 := [(a, .inr (2, [.ref r, .int (nI (cB (fun j => ((va_up f k ((f k) + p)) j + 1) / 2) 9)), .int (nI (h + 1)), .int (nI p), .int (nI b)])), (r, .inl (cI, 9, .inl (fun j => nI ((fun j => ((va_up f k ((f k) + p)) j + 1) / 2) j))))]) [0, 1] rfl (by decide) ?_
    refine V_ws (ws2 := [(a, .inr (2, [.ref r, .int (nI (lrT p b f t k)), .int (nI (lrH p b t h)), .int (nI p), .int (nI b)])), (r, .inl (cI, 9, .inl (fun j => nI ((lrF p b f t k) j))))]) (by simp only [lrF, lrT, lrH, if_pos (show b < t + p by omega)]) ?_
    subst hQ
    exact V_vret hC hr hlk (by decide) (by decide) dX2_learn_55 (()) [0, 1] rfl (by decide) (trivial)
abbrev rm_X6_start : Room := { frames := 0, cells := 0, slots := 0, locals := 0 }
set_option maxHeartbeats 4000000 in
set_option maxRecDepth 100000 in
theorem c_X6_start (l : Launch) (D : va_G) (cI cQ : ClassId) (a lo hi : Nat)  : MV l yX6_start cX6_start 1 none rm_X6_start D (TY cI cQ) [.ref a] [(a, .inr (6, [.int (nI lo), .int (nI hi)]))] (fun (u : Unit) => True) (fun (u : Unit) => [(a, .inr (6, [.int (nI 0), .int (nI 65535)]))]) 0 0 := by
  refine MV.start (by decide) (Nat.le_of_ble_eq_true rfl) (lv0 := [(0, .ref a)]) rfl ?_
  intro pp9 ee9 ss9 mm9 args9 below9 meth9 co9 A9 Q9 hQ hC hr hlk hnm
  refine V_aload_n hC dX6_start_0 rfl 0 rfl ?_
  refine V_iconst (v := nI 0) hC dX6_start_1 (by decide) ?_
  refine V_put (ci := 6) (v := .int (nI 0)) hC tyX6 tyX6_ok nmX6 in_X6 0 rfl cls_X6 0 (by decide) fl_X6_9 rfl rfl rfl (Nat.le_of_ble_eq_true rfl) dX6_start_2 (ws2 := [(a, .inr (6, [.int (nI 0), .int (nI hi)]))]) rfl ?_
  refine V_aload_n hC dX6_start_5 rfl 0 rfl ?_
  refine V_ldc (v2 := nI 65535) hC dX6_start_6 cst_X6_15 rfl ?_
  refine V_put (ci := 6) (v := .int (nI 65535)) hC tyX6 tyX6_ok nmX6 in_X6 0 rfl cls_X6 1 (by decide) fl_X6_16 rfl rfl rfl (Nat.le_of_ble_eq_true rfl) dX6_start_8 (ws2 := [(a, .inr (6, [.int (nI 0), .int (nI 65535)]))]) rfl ?_
  subst hQ
  exact V_vret hC hr hlk (by decide) (by decide) dX6_start_11 (()) [0] rfl (by decide) (trivial)
abbrev rm_X6_shrink : Room := { frames := 1, cells := 0, slots := 0, locals := 23 }
set_option maxHeartbeats 4000000 in
set_option maxRecDepth 100000 in
theorem c_X6_shrink (l : Launch) (D : va_G) (cI cQ : ClassId) (a lo hi o r t h p b k : Nat) (f : Nat → Nat) (hk : k < 9) (hc : okC f t) (hs : lo ≤ hi ∧ hi ≤ 65535) (hw : t ≤ hi - lo + 1) : MV l yX6_shrink cX6_shrink 7 none rm_X6_shrink D (TY cI cQ) [.ref a, .ref o, .int (nI k)] [(a, .inr (6, [.int (nI lo), .int (nI hi)])), (o, .inr (2, [.ref r, .int (nI t), .int (nI h), .int (nI p), .int (nI b)])), (r, .inl (cI, 9, .inl (fun j => nI (f j))))] (fun (u : Unit) => True) (fun (u : Unit) => [(a, .inr (6, [.int (nI (shL f t k lo hi)), .int (nI (shU f t k lo hi))])), (o, .inr (2, [.ref r, .int (nI t), .int (nI h), .int (nI p), .int (nI b)])), (r, .inl (cI, 9, .inl (fun j => nI (f j))))]) 0 0 := by
  refine MV.start (by decide) (Nat.le_of_ble_eq_true rfl) (lv0 := [(0, .ref a), (1, .ref o), (2, .int (nI k))]) rfl ?_
  intro pp9 ee9 ss9 mm9 args9 below9 meth9 co9 A9 Q9 hQ hC hr hlk hnm
  have ht9 := hc.t9
  have htm := hc.2.2
  have hup := hc.up hk
  have hr1 : (hi - lo + 1) * (cB f k + f k) ≤ 65536 * 2000 := Nat.mul_le_mul (by omega) (by omega)
  have hr2 : (hi - lo + 1) * cB f k ≤ 65536 * 2000 := Nat.mul_le_mul (by omega) (by omega)
  have hr3 := shU_ge hc hk hs hw
  refine V_aload_n hC dX6_shrink_0 rfl 1 rfl ?_
  refine V_getN (ci := 2) (v := .int (nI t)) hC in_X2 1 rfl cls_X2 1 (by decide) fn_X6_19 rfl dX6_shrink_1 ?_
  refine V_istore_n (lv2 := [(0, .ref a), (1, .ref o), (2, .int (nI k)), (3, .int (nI t))]) hC dX6_shrink_4 rfl (by decide) [1, 2, 3, 0] rfl ?_
  refine V_iload_n hC dX6_shrink_5 rfl 3 rfl ?_
  refine V_iconst (v := nI 1) hC dX6_shrink_6 (by decide) ?_
  refine V_icmp_ge_T (tgt := 11) hC dX6_shrink_7 (by decide) (nI_le (by omega) (by omega)) ?_
  refine V_aload_n hC dX6_shrink_11 rfl 0 rfl ?_
  refine V_get (ci := 6) (v := .int (nI hi)) hC in_X6 0 rfl cls_X6 1 (by decide) fl_X6_16 rfl dX6_shrink_12 ?_
  refine V_aload_n hC dX6_shrink_15 rfl 0 rfl ?_
  refine V_get (ci := 6) (v := .int (nI lo)) hC in_X6 0 rfl cls_X6 0 (by decide) fl_X6_9 rfl dX6_shrink_16 ?_
  refine V_isub hC dX6_shrink_19 (by omega) ?_
  refine V_iconst (v := nI 1) hC dX6_shrink_20 (by decide) ?_
  refine V_iadd hC dX6_shrink_21 ?_
  refine V_istore (lv2 := [(0, .ref a), (1, .ref o), (2, .int (nI k)), (3, .int (nI t)), (4, .int (nI ((hi - lo) + 1)))]) hC dX6_shrink_22 (by decide) [1, 2, 3, 4, 0] rfl ?_
  refine V_aload_n hC dX6_shrink_24 rfl 1 rfl ?_
  refine V_iload_n hC dX6_shrink_25 rfl 2 rfl ?_
  refine V_calliV (As := [.int (nI k)]) (rest := []) (wr := [(a, .inr (6, [.int (nI lo), .int (nI hi)]))]) hC (c_X2_below l D cI cQ o r t h p b k f (by omega)) mok_X2_below ml_X6_24 (q1 := 0) rfl cls_X2 rfl rfl rfl (by decide) (by decide) (by decide) (Nat.le_of_ble_eq_true rfl) [1, 2] [0] rfl (by decide) rfl (by decide) (by decide) dX6_shrink_26 rfl (fun r9 u9 h26 => ?_)
  obtain ⟨rfl, h26⟩ := h26
  clear h26
  refine V_perm (ws2 := [(a, .inr (6, [.int (nI lo), .int (nI hi)])), (o, .inr (2, [.ref r, .int (nI t), .int (nI h), .int (nI p), .int (nI b)])), (r, .inl (cI, 9, .inl (fun j => nI (f j))))]) [0, 1, 2] rfl (by decide) ?_
  refine V_istore (lv2 := [(0, .ref a), (1, .ref o), (2, .int (nI k)), (3, .int (nI t)), (4, .int (nI ((hi - lo) + 1))), (5, .int (nI (cB f k)))]) hC dX6_shrink_29 (by decide) [1, 2, 3, 4, 5, 0] rfl ?_
  refine V_iload hC dX6_shrink_31 5 rfl ?_
  refine V_aload_n hC dX6_shrink_33 rfl 1 rfl ?_
  refine V_iload_n hC dX6_shrink_34 rfl 2 rfl ?_
  refine V_calliV (As := [.int (nI k)]) (rest := [.int (nI (cB f k))]) (wr := [(a, .inr (6, [.int (nI lo), .int (nI hi)]))]) hC (c_X2_countAt l D cI cQ o r t h p b k f (by omega)) mok_X2_countAt ml_X6_28 (q1 := 0) rfl cls_X2 rfl rfl rfl (by decide) (by decide) (by decide) (Nat.le_of_ble_eq_true rfl) [1, 2] [0] rfl (by decide) rfl (by decide) (by decide) dX6_shrink_35 rfl (fun r9 u9 h35 => ?_)
  obtain ⟨rfl, h35⟩ := h35
  clear h35
  refine V_perm (ws2 := [(a, .inr (6, [.int (nI lo), .int (nI hi)])), (o, .inr (2, [.ref r, .int (nI t), .int (nI h), .int (nI p), .int (nI b)])), (r, .inl (cI, 9, .inl (fun j => nI (f j))))]) [0, 1, 2] rfl (by decide) ?_
  refine V_iadd hC dX6_shrink_38 ?_
  refine V_istore (lv2 := [(0, .ref a), (1, .ref o), (2, .int (nI k)), (3, .int (nI t)), (4, .int (nI ((hi - lo) + 1))), (5, .int (nI (cB f k))), (6, .int (nI ((cB f k) + (f k))))]) hC dX6_shrink_39 (by decide) [1, 2, 3, 4, 5, 6, 0] rfl ?_
  refine V_aload_n hC dX6_shrink_41 rfl 0 rfl ?_
  refine V_aload_n hC dX6_shrink_42 rfl 0 rfl ?_
  refine V_get (ci := 6) (v := .int (nI lo)) hC in_X6 0 rfl cls_X6 0 (by decide) fl_X6_9 rfl dX6_shrink_43 ?_
  refine V_iload hC dX6_shrink_46 4 rfl ?_
  refine V_iload hC dX6_shrink_48 6 rfl ?_
  refine V_imul hC dX6_shrink_50 ?_
  refine V_iload_n hC dX6_shrink_51 rfl 3 rfl ?_
  refine V_idiv hC dX6_shrink_52 (by omega) (by omega) (by omega) ?_
  refine V_iadd hC dX6_shrink_53 ?_
  refine V_iconst (v := nI 1) hC dX6_shrink_54 (by decide) ?_
  refine V_isub hC dX6_shrink_55 (by omega) ?_
  refine V_put (ci := 6) (v := .int (nI ((lo + ((((hi - lo) + 1) * ((cB f k) + (f k))) / t)) - 1))) hC tyX6 tyX6_ok nmX6 in_X6 0 rfl cls_X6 1 (by decide) fl_X6_16 rfl rfl rfl (Nat.le_of_ble_eq_true rfl) dX6_shrink_56 (ws2 := [(a, .inr (6, [.int (nI lo), .int (nI ((lo + ((((hi - lo) + 1) * ((cB f k) + (f k))) / t)) - 1))])), (o, .inr (2, [.ref r, .int (nI t), .int (nI h), .int (nI p), .int (nI b)])), (r, .inl (cI, 9, .inl (fun j => nI (f j))))]) rfl ?_
  refine V_aload_n hC dX6_shrink_59 rfl 0 rfl ?_
  refine V_aload_n hC dX6_shrink_60 rfl 0 rfl ?_
  refine V_get (ci := 6) (v := .int (nI lo)) hC in_X6 0 rfl cls_X6 0 (by decide) fl_X6_9 rfl dX6_shrink_61 ?_
  refine V_iload hC dX6_shrink_64 4 rfl ?_
  refine V_iload hC dX6_shrink_66 5 rfl ?_
  refine V_imul hC dX6_shrink_68 ?_
  refine V_iload_n hC dX6_shrink_69 rfl 3 rfl ?_
  refine V_idiv hC dX6_shrink_70 (by omega) (by omega) (by omega) ?_
  refine V_iadd hC dX6_shrink_71 ?_
  refine V_put (ci := 6) (v := .int (nI (lo + ((((hi - lo) + 1) * (cB f k)) / t)))) hC tyX6 tyX6_ok nmX6 in_X6 0 rfl cls_X6 0 (by decide) fl_X6_9 rfl rfl rfl (Nat.le_of_ble_eq_true rfl) dX6_shrink_72 (ws2 := [(a, .inr (6, [.int (nI (lo + ((((hi - lo) + 1) * (cB f k)) / t))), .int (nI ((lo + ((((hi - lo) + 1) * ((cB f k) + (f k))) / t)) - 1))])), (o, .inr (2, [.ref r, .int (nI t), .int (nI h), .int (nI p), .int (nI b)])), (r, .inl (cI, 9, .inl (fun j => nI (f j))))]) rfl ?_
  subst hQ
  exact V_vret hC hr hlk (by decide) (by decide) dX6_shrink_75 (()) [0, 1, 2] rfl (by decide) (trivial)
abbrev rm_X6_widen_go : Room := { frames := 0, cells := 0, slots := 0, locals := 0 }
set_option maxHeartbeats 4000000 in
set_option maxRecDepth 100000 in
theorem c_X6_widen_go (l : Launch) (D : va_G) (cI cQ : ClassId) (a lo hi : Nat) (hs : lo ≤ hi ∧ hi ≤ 65535) (hw : wO lo hi ≠ 1) : MI l yX6_widen cX6_widen 2 (some .int) rm_X6_widen_go D (TY cI cQ) [.ref a] [(a, .inr (6, [.int (nI lo), .int (nI hi)]))] (fun (r9 : Int32) (u : Unit) => r9 = (nI (wO lo hi)) ∧ True) (fun (u : Unit) => [(a, .inr (6, [.int (nI ((lo - wO lo hi) * 2)), .int (nI ((hi - wO lo hi) * 2 + 1))]))]) 0 0 := by
  refine MI.start (by decide) (Nat.le_of_ble_eq_true rfl) (lv0 := [(0, .ref a)]) rfl ?_
  intro pp9 ee9 ss9 mm9 args9 below9 meth9 co9 A9 Q9 hQ hC hr hlk hnm
  have hwc := wO_cases lo hi
  refine V_aload_n hC dX6_widen_0 rfl 0 rfl ?_
  refine V_get (ci := 6) (v := .int (nI hi)) hC in_X6 0 rfl cls_X6 1 (by decide) fl_X6_16 rfl dX6_widen_1 ?_
  refine V_ldc (v2 := nI 32768) hC dX6_widen_4 cst_X6_31 rfl ?_
  refine V_icmp_ge (tgt := 14) hC (by omega) (by omega) dX6_widen_6 (by decide) (fun c6 => ?_) (fun c6 => ?_)
  · refine V_aload_n hC dX6_widen_14 rfl 0 rfl ?_
    refine V_get (ci := 6) (v := .int (nI lo)) hC in_X6 0 rfl cls_X6 0 (by decide) fl_X6_9 rfl dX6_widen_15 ?_
    refine V_ldc (v2 := nI 32768) hC dX6_widen_18 cst_X6_31 rfl ?_
    refine V_icmp_lt (tgt := 29) hC (by omega) (by omega) dX6_widen_20 (by decide) (fun c20 => ?_) (fun c20 => ?_)
    · refine V_aload_n hC dX6_widen_29 rfl 0 rfl ?_
      refine V_get (ci := 6) (v := .int (nI lo)) hC in_X6 0 rfl cls_X6 0 (by decide) fl_X6_9 rfl dX6_widen_30 ?_
      refine V_sipush (v := nI 16384) hC dX6_widen_33 (by decide) ?_
      refine V_icmp_lt (tgt := 55) hC (by omega) (by omega) dX6_widen_36 (by decide) (fun c36 => ?_) (fun c36 => ?_)
      · exact False.elim (by omega)
      · refine V_aload_n hC dX6_widen_39 rfl 0 rfl ?_
        refine V_get (ci := 6) (v := .int (nI hi)) hC in_X6 0 rfl cls_X6 1 (by decide) fl_X6_16 rfl dX6_widen_40 ?_
        refine V_ldc (v2 := nI 49152) hC dX6_widen_43 cst_X6_32 rfl ?_
        refine V_icmp_ge_F (tgt := 55) hC dX6_widen_45 (by decide) (nI_ge (by omega) (by omega)) ?_
        refine V_sipush (v := nI 16384) hC dX6_widen_48 (by decide) ?_
        refine V_istore_n (lv2 := [(0, .ref a), (1, .int (nI 16384))]) hC dX6_widen_51 rfl (by decide) [1, 0] rfl ?_
        refine V_goto (tgt := 57) hC dX6_widen_52 (by decide) ?_
        refine V_lv (lv2 := [(0, .ref a), (1, .int (nI (wO lo hi)))]) (by rw [show (16384) = (wO lo hi) from (by omega)]) ?_
        refine V_aload_n hC dX6_widen_57 rfl 0 rfl ?_
        refine V_aload_n hC dX6_widen_58 rfl 0 rfl ?_
        refine V_get (ci := 6) (v := .int (nI lo)) hC in_X6 0 rfl cls_X6 0 (by decide) fl_X6_9 rfl dX6_widen_59 ?_
        refine V_iload_n hC dX6_widen_62 rfl 1 rfl ?_
        refine V_isub hC dX6_widen_63 (by omega) ?_
        refine V_iconst (v := nI 2) hC dX6_widen_64 (by decide) ?_
        refine V_imul hC dX6_widen_65 ?_
        refine V_put (ci := 6) (v := .int (nI ((lo - (wO lo hi)) * 2))) hC tyX6 tyX6_ok nmX6 in_X6 0 rfl cls_X6 0 (by decide) fl_X6_9 rfl rfl rfl (Nat.le_of_ble_eq_true rfl) dX6_widen_66 (ws2 := [(a, .inr (6, [.int (nI ((lo - (wO lo hi)) * 2)), .int (nI hi)]))]) rfl ?_
        refine V_aload_n hC dX6_widen_69 rfl 0 rfl ?_
        refine V_aload_n hC dX6_widen_70 rfl 0 rfl ?_
        refine V_get (ci := 6) (v := .int (nI hi)) hC in_X6 0 rfl cls_X6 1 (by decide) fl_X6_16 rfl dX6_widen_71 ?_
        refine V_iload_n hC dX6_widen_74 rfl 1 rfl ?_
        refine V_isub hC dX6_widen_75 (by omega) ?_
        refine V_iconst (v := nI 2) hC dX6_widen_76 (by decide) ?_
        refine V_imul hC dX6_widen_77 ?_
        refine V_iconst (v := nI 1) hC dX6_widen_78 (by decide) ?_
        refine V_iadd hC dX6_widen_79 ?_
        refine V_put (ci := 6) (v := .int (nI (((hi - (wO lo hi)) * 2) + 1))) hC tyX6 tyX6_ok nmX6 in_X6 0 rfl cls_X6 1 (by decide) fl_X6_16 rfl rfl rfl (Nat.le_of_ble_eq_true rfl) dX6_widen_80 (ws2 := [(a, .inr (6, [.int (nI ((lo - (wO lo hi)) * 2)), .int (nI (((hi - (wO lo hi)) * 2) + 1))]))]) rfl ?_
        refine V_iload_n hC dX6_widen_83 rfl 1 rfl ?_
        subst hQ
        exact V_iret hC hr hlk rfl (by decide) (by decide) dX6_widen_84 (()) [0] rfl (by decide) (⟨rfl, trivial⟩)
    · refine V_ldc (v2 := nI 32768) hC dX6_widen_23 cst_X6_31 rfl ?_
      refine V_istore_n (lv2 := [(0, .ref a), (1, .int (nI 32768))]) hC dX6_widen_25 rfl (by decide) [1, 0] rfl ?_
      refine V_goto (tgt := 57) hC dX6_widen_26 (by decide) ?_
      refine V_lv (lv2 := [(0, .ref a), (1, .int (nI (wO lo hi)))]) (by rw [show (32768) = (wO lo hi) from (by omega)]) ?_
      refine V_aload_n hC dX6_widen_57 rfl 0 rfl ?_
      refine V_aload_n hC dX6_widen_58 rfl 0 rfl ?_
      refine V_get (ci := 6) (v := .int (nI lo)) hC in_X6 0 rfl cls_X6 0 (by decide) fl_X6_9 rfl dX6_widen_59 ?_
      refine V_iload_n hC dX6_widen_62 rfl 1 rfl ?_
      refine V_isub hC dX6_widen_63 (by omega) ?_
      refine V_iconst (v := nI 2) hC dX6_widen_64 (by decide) ?_
      refine V_imul hC dX6_widen_65 ?_
      refine V_put (ci := 6) (v := .int (nI ((lo - (wO lo hi)) * 2))) hC tyX6 tyX6_ok nmX6 in_X6 0 rfl cls_X6 0 (by decide) fl_X6_9 rfl rfl rfl (Nat.le_of_ble_eq_true rfl) dX6_widen_66 (ws2 := [(a, .inr (6, [.int (nI ((lo - (wO lo hi)) * 2)), .int (nI hi)]))]) rfl ?_
      refine V_aload_n hC dX6_widen_69 rfl 0 rfl ?_
      refine V_aload_n hC dX6_widen_70 rfl 0 rfl ?_
      refine V_get (ci := 6) (v := .int (nI hi)) hC in_X6 0 rfl cls_X6 1 (by decide) fl_X6_16 rfl dX6_widen_71 ?_
      refine V_iload_n hC dX6_widen_74 rfl 1 rfl ?_
      refine V_isub hC dX6_widen_75 (by omega) ?_
      refine V_iconst (v := nI 2) hC dX6_widen_76 (by decide) ?_
      refine V_imul hC dX6_widen_77 ?_
      refine V_iconst (v := nI 1) hC dX6_widen_78 (by decide) ?_
      refine V_iadd hC dX6_widen_79 ?_
      refine V_put (ci := 6) (v := .int (nI (((hi - (wO lo hi)) * 2) + 1))) hC tyX6 tyX6_ok nmX6 in_X6 0 rfl cls_X6 1 (by decide) fl_X6_16 rfl rfl rfl (Nat.le_of_ble_eq_true rfl) dX6_widen_80 (ws2 := [(a, .inr (6, [.int (nI ((lo - (wO lo hi)) * 2)), .int (nI (((hi - (wO lo hi)) * 2) + 1))]))]) rfl ?_
      refine V_iload_n hC dX6_widen_83 rfl 1 rfl ?_
      subst hQ
      exact V_iret hC hr hlk rfl (by decide) (by decide) dX6_widen_84 (()) [0] rfl (by decide) (⟨rfl, trivial⟩)
  · refine V_iconst (v := nI 0) hC dX6_widen_9 (by decide) ?_
    refine V_istore_n (lv2 := [(0, .ref a), (1, .int (nI 0))]) hC dX6_widen_10 rfl (by decide) [1, 0] rfl ?_
    refine V_goto (tgt := 57) hC dX6_widen_11 (by decide) ?_
    refine V_lv (lv2 := [(0, .ref a), (1, .int (nI (wO lo hi)))]) (by rw [show (0) = (wO lo hi) from (by omega)]) ?_
    refine V_aload_n hC dX6_widen_57 rfl 0 rfl ?_
    refine V_aload_n hC dX6_widen_58 rfl 0 rfl ?_
    refine V_get (ci := 6) (v := .int (nI lo)) hC in_X6 0 rfl cls_X6 0 (by decide) fl_X6_9 rfl dX6_widen_59 ?_
    refine V_iload_n hC dX6_widen_62 rfl 1 rfl ?_
    refine V_isub hC dX6_widen_63 (by omega) ?_
    refine V_iconst (v := nI 2) hC dX6_widen_64 (by decide) ?_
    refine V_imul hC dX6_widen_65 ?_
    refine V_put (ci := 6) (v := .int (nI ((lo - (wO lo hi)) * 2))) hC tyX6 tyX6_ok nmX6 in_X6 0 rfl cls_X6 0 (by decide) fl_X6_9 rfl rfl rfl (Nat.le_of_ble_eq_true rfl) dX6_widen_66 (ws2 := [(a, .inr (6, [.int (nI ((lo - (wO lo hi)) * 2)), .int (nI hi)]))]) rfl ?_
    refine V_aload_n hC dX6_widen_69 rfl 0 rfl ?_
    refine V_aload_n hC dX6_widen_70 rfl 0 rfl ?_
    refine V_get (ci := 6) (v := .int (nI hi)) hC in_X6 0 rfl cls_X6 1 (by decide) fl_X6_16 rfl dX6_widen_71 ?_
    refine V_iload_n hC dX6_widen_74 rfl 1 rfl ?_
    refine V_isub hC dX6_widen_75 (by omega) ?_
    refine V_iconst (v := nI 2) hC dX6_widen_76 (by decide) ?_
    refine V_imul hC dX6_widen_77 ?_
    refine V_iconst (v := nI 1) hC dX6_widen_78 (by decide) ?_
    refine V_iadd hC dX6_widen_79 ?_
    refine V_put (ci := 6) (v := .int (nI (((hi - (wO lo hi)) * 2) + 1))) hC tyX6 tyX6_ok nmX6 in_X6 0 rfl cls_X6 1 (by decide) fl_X6_16 rfl rfl rfl (Nat.le_of_ble_eq_true rfl) dX6_widen_80 (ws2 := [(a, .inr (6, [.int (nI ((lo - (wO lo hi)) * 2)), .int (nI (((hi - (wO lo hi)) * 2) + 1))]))]) rfl ?_
    refine V_iload_n hC dX6_widen_83 rfl 1 rfl ?_
    subst hQ
    exact V_iret hC hr hlk rfl (by decide) (by decide) dX6_widen_84 (()) [0] rfl (by decide) (⟨rfl, trivial⟩)
abbrev rm_X6_widen_stop : Room := { frames := 0, cells := 0, slots := 0, locals := 0 }
set_option maxHeartbeats 4000000 in
set_option maxRecDepth 100000 in
theorem c_X6_widen_stop (l : Launch) (D : va_G) (cI cQ : ClassId) (a lo hi : Nat) (hs : lo ≤ hi ∧ hi ≤ 65535) (hw : wO lo hi = 1) : MI l yX6_widen cX6_widen 2 (some .int) rm_X6_widen_stop D (TY cI cQ) [.ref a] [(a, .inr (6, [.int (nI lo), .int (nI hi)]))] (fun (r9 : Int32) (u : Unit) => r9 = (-1) ∧ True) (fun (u : Unit) => [(a, .inr (6, [.int (nI lo), .int (nI hi)]))]) 0 0 := by
  refine MI.start (by decide) (Nat.le_of_ble_eq_true rfl) (lv0 := [(0, .ref a)]) rfl ?_
  intro pp9 ee9 ss9 mm9 args9 below9 meth9 co9 A9 Q9 hQ hC hr hlk hnm
  have hwc := wO_cases lo hi
  refine V_aload_n hC dX6_widen_0 rfl 0 rfl ?_
  refine V_get (ci := 6) (v := .int (nI hi)) hC in_X6 0 rfl cls_X6 1 (by decide) fl_X6_16 rfl dX6_widen_1 ?_
  refine V_ldc (v2 := nI 32768) hC dX6_widen_4 cst_X6_31 rfl ?_
  refine V_icmp_ge_T (tgt := 14) hC dX6_widen_6 (by decide) (nI_le (by omega) (by omega)) ?_
  refine V_aload_n hC dX6_widen_14 rfl 0 rfl ?_
  refine V_get (ci := 6) (v := .int (nI lo)) hC in_X6 0 rfl cls_X6 0 (by decide) fl_X6_9 rfl dX6_widen_15 ?_
  refine V_ldc (v2 := nI 32768) hC dX6_widen_18 cst_X6_31 rfl ?_
  refine V_icmp_lt_T (tgt := 29) hC dX6_widen_20 (by decide) (nI_lt (by omega) (by omega)) ?_
  refine V_aload_n hC dX6_widen_29 rfl 0 rfl ?_
  refine V_get (ci := 6) (v := .int (nI lo)) hC in_X6 0 rfl cls_X6 0 (by decide) fl_X6_9 rfl dX6_widen_30 ?_
  refine V_sipush (v := nI 16384) hC dX6_widen_33 (by decide) ?_
  refine V_icmp_lt (tgt := 55) hC (by omega) (by omega) dX6_widen_36 (by decide) (fun c36 => ?_) (fun c36 => ?_)
  · refine V_iconst (v := -1) hC dX6_widen_55 (by decide) ?_
    subst hQ
    exact V_iret hC hr hlk rfl (by decide) (by decide) dX6_widen_56 (()) [0] rfl (by decide) (⟨rfl, trivial⟩)
  · refine V_aload_n hC dX6_widen_39 rfl 0 rfl ?_
    refine V_get (ci := 6) (v := .int (nI hi)) hC in_X6 0 rfl cls_X6 1 (by decide) fl_X6_16 rfl dX6_widen_40 ?_
    refine V_ldc (v2 := nI 49152) hC dX6_widen_43 cst_X6_32 rfl ?_
    refine V_icmp_ge_T (tgt := 55) hC dX6_widen_45 (by decide) (nI_le (by omega) (by omega)) ?_
    refine V_iconst (v := -1) hC dX6_widen_55 (by decide) ?_
    subst hQ
    exact V_iret hC hr hlk rfl (by decide) (by decide) dX6_widen_56 (()) [0] rfl (by decide) (⟨rfl, trivial⟩)
end
section
abbrev rm_X1_writeBit : Room := { frames := 1, cells := 0, slots := 0, locals := 21 }
set_option maxHeartbeats 4000000 in
set_option maxRecDepth 100000 in
theorem c_X1_writeBit (l : Launch) (D : va_G) (cI cQ : ClassId) (a co sp bi cs siz w r n x : Nat) (g : Nat → Nat) (bs : List Nat) (hn : n = bs.length) (hr9 : rep g bs) (hx : x ≤ 1) (hw : n + 1 + w ≤ 658) : MV l yX1_writeBit cX1_writeBit 3 none rm_X1_writeBit D (TY cI cQ) [.ref a, .int (nI x)] [(a, .inr (1, [.ref co, .ref sp, .ref bi, .ref cs, .int (nI siz), .int (nI w)])), (bi, .inr (0, [.ref r, .int (nI n)])), (r, .inl (cI, 658, .inl (fun j => nI (g j))))] (fun (u : (Nat → Nat)) => rep u (wB bs w x)) (fun (u : (Nat → Nat)) => [(a, .inr (1, [.ref co, .ref sp, .ref bi, .ref cs, .int (nI siz), .int (nI 0)])), (bi, .inr (0, [.ref r, .int (nI (n + 1 + w))])), (r, .inl (cI, 658, .inl (fun j => nI (u j))))]) 0 0 := by
  refine MV.start (by decide) (Nat.le_of_ble_eq_true rfl) (lv0 := [(0, .ref a), (1, .int (nI x))]) rfl ?_
  intro pp9 ee9 ss9 mm9 args9 below9 meth9 co9 A9 Q9 hQ hC hr hlk hnm
  refine V_aload_n hC dX1_writeBit_0 rfl 0 rfl ?_
  refine V_get (ci := 1) (v := .ref bi) hC in_X1 0 rfl cls_X1 2 (by decide) fl_X1_28 rfl dX1_writeBit_1 ?_
  refine V_iload_n hC dX1_writeBit_4 rfl 1 rfl ?_
  refine V_callvV (As := [.int (nI x)]) (rest := []) (wr := [(a, .inr (1, [.ref co, .ref sp, .ref bi, .ref cs, .int (nI siz), .int (nI w)]))]) hC (c_X0_append l D cI cQ bi r n x g (by omega)) mok_X0_append ml_X1_95 (q1 := 0) rfl cls_X0 rfl rfl rfl (by decide) (by decide) (by decide) (Nat.le_of_ble_eq_true rfl) [1, 2] [0] rfl (by decide) rfl (by decide) (by decide) dX1_writeBit_5 rfl (fun u9 h5 => ?_)
  clear h5
  refine V_perm (ws2 := [(a, .inr (1, [.ref co, .ref sp, .ref bi, .ref cs, .int (nI siz), .int (nI w)])), (bi, .inr (0, [.ref r, .int (nI (n + 1))])), (r, .inl (cI, 658, .inl (fun j => nI ((va_up g n x) j))))]) [0, 1, 2] rfl (by decide) ?_
  refine V_iconst (v := nI 0) hC dX1_writeBit_8 (by decide) ?_
  refine V_istore_n (lv2 := [(0, .ref a), (1, .int (nI x)), (2, .int (nI 0))]) hC dX1_writeBit_9 rfl (by decide) [1, 2, 0] rfl ?_
  have L10 : ∀ (n9 : Nat) (i : Nat) (g2 : Nat → Nat), (i ≤ w) → (rep g2 (bs ++ x :: List.replicate i (1 - x))) → w - i < n9 → V pp9 l ee9 rm_X1_writeBit ss9 mm9 args9 below9 meth9 co9 D A9 ss9.heap 3 Q9 [(a, .inr (1, [.ref co, .ref sp, .ref bi, .ref cs, .int (nI siz), .int (nI w)])), (bi, .inr (0, [.ref r, .int (nI (n + 1 + i))])), (r, .inl (cI, 658, .inl (fun j => nI (g2 j))))] [(0, .ref a), (1, .int (nI x)), (2, .int (nI i))] 0 0 10 [] := by
    intro n9
    induction n9 with
    | zero => intro i g2 h1 h2 h9; exact absurd h9 (Nat.not_lt_zero _)
    | succ n9 ih =>
      intro i g2 h1 h2 h9
      refine V_iload_n hC dX1_writeBit_10 rfl 2 rfl ?_
      refine V_aload_n hC dX1_writeBit_11 rfl 0 rfl ?_
      refine V_get (ci := 1) (v := .int (nI w)) hC in_X1 0 rfl cls_X1 5 (by decide) fl_X1_40 rfl dX1_writeBit_12 ?_
      refine V_icmp_ge (tgt := 34) hC (by omega) (by omega) dX1_writeBit_15 (by decide) (fun c15 => ?_) (fun c15 => ?_)
      · have ei9 : i = w := by omega
        rw [ei9] at h2
        refine V_ws (ws2 := [(a, .inr (1, [.ref co, .ref sp, .ref bi, .ref cs, .int (nI siz), .int (nI w)])), (bi, .inr (0, [.ref r, .int (nI (n + 1 + w))])), (r, .inl (cI, 658, .inl (fun j => nI (g2 j))))]) (by rw [ei9]) ?_
        refine V_aload_n hC dX1_writeBit_34 rfl 0 rfl ?_
        refine V_iconst (v := nI 0) hC dX1_writeBit_35 (by decide) ?_
        refine V_put (ci := 1) (v := .int (nI 0)) hC tyX1 tyX1_ok nmX1 in_X1 0 rfl cls_X1 5 (by decide) fl_X1_40 rfl rfl rfl (Nat.le_of_ble_eq_true rfl) dX1_writeBit_36 (ws2 := [(a, .inr (1, [.ref co, .ref sp, .ref bi, .ref cs, .int (nI siz), .int (nI 0)])), (bi, .inr (0, [.ref r, .int (nI (n + 1 + w))])), (r, .inl (cI, 658, .inl (fun j => nI (g2 j))))]) rfl ?_
        subst hQ
        exact V_vret hC hr hlk (by decide) (by decide) dX1_writeBit_39 (g2) [0, 1, 2] rfl (by decide) (h2)
      · refine V_aload_n hC dX1_writeBit_18 rfl 0 rfl ?_
        refine V_get (ci := 1) (v := .ref bi) hC in_X1 0 rfl cls_X1 2 (by decide) fl_X1_28 rfl dX1_writeBit_19 ?_
        refine V_iconst (v := nI 1) hC dX1_writeBit_22 (by decide) ?_
        refine V_iload_n hC dX1_writeBit_23 rfl 1 rfl ?_
        refine V_isub hC dX1_writeBit_24 (by omega) ?_
        refine V_callvV (As := [.int (nI (1 - x))]) (rest := []) (wr := [(a, .inr (1, [.ref co, .ref sp, .ref bi, .ref cs, .int (nI siz), .int (nI w)]))]) hC (c_X0_append l D cI cQ bi r (n + 1 + i) (1 - x) g2 (by omega)) mok_X0_append ml_X1_95 (q1 := 0) rfl cls_X0 rfl rfl rfl (by decide) (by decide) (by decide) (Nat.le_of_ble_eq_true rfl) [1, 2] [0] rfl (by decide) rfl (by decide) (by decide) dX1_writeBit_25 rfl (fun u9 h25 => ?_)
        clear h25
        refine V_perm (ws2 := [(a, .inr (1, [.ref co, .ref sp, .ref bi, .ref cs, .int (nI siz), .int (nI w)])), (bi, .inr (0, [.ref r, .int (nI ((n + 1 + i) + 1))])), (r, .inl (cI, 658, .inl (fun j => nI ((va_up g2 (n + 1 + i) (1 - x)) j))))]) [0, 1, 2] rfl (by decide) ?_
        refine V_iinc (v := (nI (i + 1))) (lv2 := [(0, .ref a), (1, .int (nI x)), (2, .int (nI (i + 1)))]) (q := 2) hC dX1_writeBit_28 rfl (nI_add _ _) (by decide) [1, 2, 0] rfl ?_
        refine V_goto (tgt := 10) hC dX1_writeBit_31 (by decide) ?_
        exact ih (i + 1) (va_up g2 (n + 1 + i) (1 - x)) (by omega) (rep_wait hn h2) (by omega)
  exact L10 _ 0 (va_up g n x) (by omega) (rep_push hr9 hn) (Nat.lt_succ_self _)
abbrev rm_X1_narrow : Room := { frames := 2, cells := 0, slots := 0, locals := 49 }
set_option maxHeartbeats 4000000 in
set_option maxRecDepth 100000 in
theorem c_X1_narrow (l : Launch) (D : va_G) (cI cQ : ClassId) (a co sp bi cs siz w cr t h p b lo hi r n k : Nat) (f g : Nat → Nat) (bs : List Nat) (hk : k < 9) (hc : okC f t) (hs : lo ≤ hi ∧ hi ≤ 65535) (hw : t ≤ hi - lo + 1) (hn : n = bs.length) (hr9 : rep g bs) (hl : bs.length + w + 16 ≤ 658) : MV l yX1_narrow cX1_narrow 4 none rm_X1_narrow D (TY cI cQ) [.ref a, .int (nI k)] [(a, .inr (1, [.ref co, .ref sp, .ref bi, .ref cs, .int (nI siz), .int (nI w)])), (co, .inr (2, [.ref cr, .int (nI t), .int (nI h), .int (nI p), .int (nI b)])), (cr, .inl (cI, 9, .inl (fun j => nI (f j)))), (sp, .inr (6, [.int (nI lo), .int (nI hi)])), (bi, .inr (0, [.ref r, .int (nI n)])), (r, .inl (cI, 658, .inl (fun j => nI (g j))))] (fun (u : (Nat → Nat)) => rep u (nr 16 (shL f t k lo hi) (shU f t k lo hi) w bs).2.2.2) (fun (u : (Nat → Nat)) => [(a, .inr (1, [.ref co, .ref sp, .ref bi, .ref cs, .int (nI siz), .int (nI ((nr 16 (shL f t k lo hi) (shU f t k lo hi) w bs).2.2.1))])), (co, .inr (2, [.ref cr, .int (nI t), .int (nI h), .int (nI p), .int (nI b)])), (cr, .inl (cI, 9, .inl (fun j => nI (f j)))), (sp, .inr (6, [.int (nI ((nr 16 (shL f t k lo hi) (shU f t k lo hi) w bs).1)), .int (nI ((nr 16 (shL f t k lo hi) (shU f t k lo hi) w bs).2.1))])), (bi, .inr (0, [.ref r, .int (nI ((nr 16 (shL f t k lo hi) (shU f t k lo hi) w bs).2.2.2.length))])), (r, .inl (cI, 658, .inl (fun j => nI (u j))))]) 0 0 := by
  refine MV.start (by decide) (Nat.le_of_ble_eq_true rfl) (lv0 := [(0, .ref a), (1, .int (nI k))]) rfl ?_
  intro pp9 ee9 ss9 mm9 args9 below9 meth9 co9 A9 Q9 hQ hC hr hlk hnm
  have hsh := sh_ok hc hk hs hw
  subst hn
  refine V_aload_n hC dX1_narrow_0 rfl 0 rfl ?_
  refine V_get (ci := 1) (v := .ref sp) hC in_X1 0 rfl cls_X1 1 (by decide) fl_X1_21 rfl dX1_narrow_1 ?_
  refine V_aload_n hC dX1_narrow_4 rfl 0 rfl ?_
  refine V_get (ci := 1) (v := .ref co) hC in_X1 0 rfl cls_X1 0 (by decide) fl_X1_12 rfl dX1_narrow_5 ?_
  refine V_iload_n hC dX1_narrow_8 rfl 1 rfl ?_
  refine V_callvV (As := [.ref co, .int (nI k)]) (rest := []) (wr := [(a, .inr (1, [.ref co, .ref sp, .ref bi, .ref cs, .int (nI siz), .int (nI w)])), (bi, .inr (0, [.ref r, .int (nI (bs.length))])), (r, .inl (cI, 658, .inl (fun j => nI (g j))))]) hC (c_X6_shrink l D cI cQ sp lo hi co cr t h p b k f (by first | assumption | omega) (by first | assumption | omega) (by first | assumption | omega) (by first | assumption | omega)) mok_X6_shrink ml_X1_86 (q1 := 0) rfl cls_X6 rfl rfl rfl (by decide) (by decide) (by decide) (Nat.le_of_ble_eq_true rfl) [3, 1, 2] [0, 4, 5] rfl (by decide) rfl (by decide) (by decide) dX1_narrow_9 rfl (fun u9 h9 => ?_)
  clear h9
  refine V_perm (ws2 := [(a, .inr (1, [.ref co, .ref sp, .ref bi, .ref cs, .int (nI siz), .int (nI w)])), (co, .inr (2, [.ref cr, .int (nI t), .int (nI h), .int (nI p), .int (nI b)])), (cr, .inl (cI, 9, .inl (fun j => nI (f j)))), (sp, .inr (6, [.int (nI (shL f t k lo hi)), .int (nI (shU f t k lo hi))])), (bi, .inr (0, [.ref r, .int (nI (bs.length))])), (r, .inl (cI, 658, .inl (fun j => nI (g j))))]) [0, 4, 5, 3, 1, 2] rfl (by decide) ?_
  refine V_iconst (v := nI 0) hC dX1_narrow_12 (by decide) ?_
  refine V_istore_n (lv2 := [(0, .ref a), (1, .int (nI k)), (2, .int (nI 0))]) hC dX1_narrow_13 rfl (by decide) [1, 2, 0] rfl ?_
  have L14 : ∀ (n9 : Nat) (i : Nat) (lo2 : Nat) (hi2 : Nat) (w2 : Nat) (bs2 : List Nat) (g2 : Nat → Nat), (i ≤ 16) → (lo2 ≤ hi2 ∧ hi2 ≤ 65535) → (nr (16 - i) lo2 hi2 w2 bs2 = nr 16 (shL f t k lo hi) (shU f t k lo hi) w bs) → (rep g2 bs2) → (bs2.length + w2 + (16 - i) ≤ 658) → 16 - i < n9 → V pp9 l ee9 rm_X1_narrow ss9 mm9 args9 below9 meth9 co9 D A9 ss9.heap 4 Q9 [(a, .inr (1, [.ref co, .ref sp, .ref bi, .ref cs, .int (nI siz), .int (nI w2)])), (co, .inr (2, [.ref cr, .int (nI t), .int (nI h), .int (nI p), .int (nI b)])), (cr, .inl (cI, 9, .inl (fun j => nI (f j)))), (sp, .inr (6, [.int (nI lo2), .int (nI hi2)])), (bi, .inr (0, [.ref r, .int (nI (bs2.length))])), (r, .inl (cI, 658, .inl (fun j => nI (g2 j))))] [(0, .ref a), (1, .int (nI k)), (2, .int (nI i))] 0 0 14 [] := by
    intro n9
    induction n9 with
    | zero => intro i lo2 hi2 w2 bs2 g2 h1 h2 h3 h4 h5 h9; exact absurd h9 (Nat.not_lt_zero _)
    | succ n9 ih =>
      intro i lo2 hi2 w2 bs2 g2 h1 h2 h3 h4 h5 h9
      refine V_iload_n hC dX1_narrow_14 rfl 2 rfl ?_
      refine V_bipush (v := nI 16) hC dX1_narrow_15 (by decide) ?_
      refine V_icmp_ge (tgt := 75) hC (by omega) (by omega) dX1_narrow_17 (by decide) (fun c17 => ?_) (fun c17 => ?_)
      · subst hQ
        rw [show 16 - i = 0 by omega] at h3
        rw [← h3]
        simp only [nr]
        exact V_vret hC hr hlk (by decide) (by decide) dX1_narrow_75 (g2) [0, 1, 2, 3, 4, 5] rfl (by decide) (h4)
      · refine V_aload_n hC dX1_narrow_20 rfl 0 rfl ?_
        refine V_get (ci := 1) (v := .ref sp) hC in_X1 0 rfl cls_X1 1 (by decide) fl_X1_21 rfl dX1_narrow_21 ?_
        by_cases hw1 : wO lo2 hi2 = 1
        · refine V_calliV (As := []) (rest := []) (wr := [(a, .inr (1, [.ref co, .ref sp, .ref bi, .ref cs, .int (nI siz), .int (nI w2)])), (co, .inr (2, [.ref cr, .int (nI t), .int (nI h), .int (nI p), .int (nI b)])), (cr, .inl (cI, 9, .inl (fun j => nI (f j)))), (bi, .inr (0, [.ref r, .int (nI (bs2.length))])), (r, .inl (cI, 658, .inl (fun j => nI (g2 j))))]) hC (c_X6_widen_stop l D cI cQ sp lo2 hi2 (by omega) (hw1)) mok_X6_widen ml_X1_90 (q1 := 0) rfl cls_X6 rfl rfl rfl (by decide) (by decide) (by decide) (Nat.le_of_ble_eq_true rfl) [3] [0, 1, 2, 4, 5] rfl (by decide) rfl (by decide) (by decide) dX1_narrow_24 rfl (fun r9 u9 h24 => ?_)
          obtain ⟨rfl, h24⟩ := h24
          clear h24
          refine V_perm (ws2 := [(a, .inr (1, [.ref co, .ref sp, .ref bi, .ref cs, .int (nI siz), .int (nI w2)])), (co, .inr (2, [.ref cr, .int (nI t), .int (nI h), .int (nI p), .int (nI b)])), (cr, .inl (cI, 9, .inl (fun j => nI (f j)))), (sp, .inr (6, [.int (nI lo2), .int (nI hi2)])), (bi, .inr (0, [.ref r, .int (nI (bs2.length))])), (r, .inl (cI, 658, .inl (fun j => nI (g2 j))))]) [0, 1, 2, 5, 3, 4] rfl (by decide) ?_
          refine V_istore_n (lv2 := [(0, .ref a), (1, .int (nI k)), (2, .int (nI i)), (3, .int (-1))]) hC dX1_narrow_27 rfl (by decide) [1, 2, 3, 0] rfl ?_
          have hwc := wO_cases lo2 hi2
          refine V_iload_n hC dX1_narrow_28 rfl 3 rfl ?_
          refine V_iconst (v := -1) hC dX1_narrow_29 (by decide) ?_
          refine V_icmp_ne_F (tgt := 34) hC dX1_narrow_30 (by decide) rfl ?_
          subst hQ
          rw [nr_stop hw1] at h3
          rw [← h3]
          exact V_vret hC hr hlk (by decide) (by decide) dX1_narrow_33 (g2) [0, 1, 2, 3, 4, 5] rfl (by decide) (h4)
        · refine V_calliV (As := []) (rest := []) (wr := [(a, .inr (1, [.ref co, .ref sp, .ref bi, .ref cs, .int (nI siz), .int (nI w2)])), (co, .inr (2, [.ref cr, .int (nI t), .int (nI h), .int (nI p), .int (nI b)])), (cr, .inl (cI, 9, .inl (fun j => nI (f j)))), (bi, .inr (0, [.ref r, .int (nI (bs2.length))])), (r, .inl (cI, 658, .inl (fun j => nI (g2 j))))]) hC (c_X6_widen_go l D cI cQ sp lo2 hi2 (by omega) (hw1)) mok_X6_widen ml_X1_90 (q1 := 0) rfl cls_X6 rfl rfl rfl (by decide) (by decide) (by decide) (Nat.le_of_ble_eq_true rfl) [3] [0, 1, 2, 4, 5] rfl (by decide) rfl (by decide) (by decide) dX1_narrow_24 rfl (fun r9 u9 h24 => ?_)
          obtain ⟨rfl, h24⟩ := h24
          clear h24
          refine V_perm (ws2 := [(a, .inr (1, [.ref co, .ref sp, .ref bi, .ref cs, .int (nI siz), .int (nI w2)])), (co, .inr (2, [.ref cr, .int (nI t), .int (nI h), .int (nI p), .int (nI b)])), (cr, .inl (cI, 9, .inl (fun j => nI (f j)))), (sp, .inr (6, [.int (nI ((lo2 - wO lo2 hi2) * 2)), .int (nI ((hi2 - wO lo2 hi2) * 2 + 1))])), (bi, .inr (0, [.ref r, .int (nI (bs2.length))])), (r, .inl (cI, 658, .inl (fun j => nI (g2 j))))]) [0, 1, 2, 5, 3, 4] rfl (by decide) ?_
          refine V_istore_n (lv2 := [(0, .ref a), (1, .int (nI k)), (2, .int (nI i)), (3, .int (nI (wO lo2 hi2)))]) hC dX1_narrow_27 rfl (by decide) [1, 2, 3, 0] rfl ?_
          have hwc := wO_cases lo2 hi2
          refine V_iload_n hC dX1_narrow_28 rfl 3 rfl ?_
          refine V_iconst (v := -1) hC dX1_narrow_29 (by decide) ?_
          refine V_icmp_ne_T (tgt := 34) hC dX1_narrow_30 (by decide) (neg_ne' (by decide) (by omega)) ?_
          refine V_iload_n hC dX1_narrow_34 rfl 3 rfl ?_
          refine V_sipush (v := nI 16384) hC dX1_narrow_35 (by decide) ?_
          refine V_icmp_ne (tgt := 54) hC (by omega) (by omega) dX1_narrow_38 (by decide) (fun c38 => ?_) (fun c38 => ?_)
          · refine V_aload_n hC dX1_narrow_54 rfl 0 rfl ?_
            refine V_iload_n hC dX1_narrow_55 rfl 3 rfl ?_
            refine V_ldc (v2 := nI 32768) hC dX1_narrow_56 cst_X1_94 rfl ?_
            refine V_icmp_ne (tgt := 65) hC (by omega) (by omega) dX1_narrow_58 (by decide) (fun c58 => ?_) (fun c58 => ?_)
            · refine V_iconst (v := nI 0) hC dX1_narrow_65 (by decide) ?_
              refine V_callvV (As := [.int (nI 0)]) (rest := []) (wr := [(co, .inr (2, [.ref cr, .int (nI t), .int (nI h), .int (nI p), .int (nI b)])), (cr, .inl (cI, 9, .inl (fun j => nI (f j)))), (sp, .inr (6, [.int (nI ((lo2 - wO lo2 hi2) * 2)), .int (nI ((hi2 - wO lo2 hi2) * 2 + 1))]))]) hC (c_X1_writeBit l D cI cQ a co sp bi cs siz w2 r bs2.length 0 g2 bs2 (rfl) (h4) (by omega) (by omega)) mok_X1_writeBit ml_X1_74 (q1 := 0) rfl cls_X1 rfl rfl rfl (by decide) (by decide) (by decide) (Nat.le_of_ble_eq_true rfl) [0, 4, 5] [1, 2, 3] rfl (by decide) rfl (by decide) (by decide) dX1_narrow_66 rfl (fun u9 h66 => ?_)
              obtain ⟨g2_1, rfl⟩ : ∃ z, z = u9 := ⟨_, rfl⟩
              have h66 : rep g2_1 (wB bs2 w2 0) := h66
              refine V_perm (ws2 := [(a, .inr (1, [.ref co, .ref sp, .ref bi, .ref cs, .int (nI siz), .int (nI 0)])), (co, .inr (2, [.ref cr, .int (nI t), .int (nI h), .int (nI p), .int (nI b)])), (cr, .inl (cI, 9, .inl (fun j => nI (f j)))), (sp, .inr (6, [.int (nI ((lo2 - wO lo2 hi2) * 2)), .int (nI ((hi2 - wO lo2 hi2) * 2 + 1))])), (bi, .inr (0, [.ref r, .int (nI (bs2.length + 1 + w2))])), (r, .inl (cI, 658, .inl (fun j => nI (g2_1 j))))]) [3, 0, 1, 2, 4, 5] rfl (by decide) ?_
              refine V_iinc (v := (nI (i + 1))) (lv2 := [(0, .ref a), (1, .int (nI k)), (2, .int (nI (i + 1))), (3, .int (nI (wO lo2 hi2)))]) (q := 2) hC dX1_narrow_69 rfl (nI_add _ _) (by decide) [1, 2, 0, 3] rfl ?_
              refine V_goto (tgt := 14) hC dX1_narrow_72 (by decide) ?_
              refine V_ws (ws2 := [(a, .inr (1, [.ref co, .ref sp, .ref bi, .ref cs, .int (nI siz), .int (nI 0)])), (co, .inr (2, [.ref cr, .int (nI t), .int (nI h), .int (nI p), .int (nI b)])), (cr, .inl (cI, 9, .inl (fun j => nI (f j)))), (sp, .inr (6, [.int (nI ((lo2 - wO lo2 hi2) * 2)), .int (nI ((hi2 - wO lo2 hi2) * 2 + 1))])), (bi, .inr (0, [.ref r, .int (nI ((wB bs2 w2 0).length))])), (r, .inl (cI, 658, .inl (fun j => nI (g2_1 j))))]) (by rw [wB_len]) ?_
              refine V_pick (lv2 := [(0, .ref a), (1, .int (nI k)), (2, .int (nI ((i + 1))))]) [0, 1, 2] rfl ?_
              exact ih (i + 1) ((lo2 - wO lo2 hi2) * 2) ((hi2 - wO lo2 hi2) * 2 + 1) 0 (wB bs2 w2 0) g2_1 (by first | assumption | omega) (by first | assumption | omega) (by rw [← h3, show 16 - i = (16 - (i + 1)) + 1 by omega, nr_bit hw1 c38, if_neg c58]) (by first | assumption | omega) (by rw [wB_len]; omega) (by omega)
            · refine V_iconst (v := nI 1) hC dX1_narrow_61 (by decide) ?_
              refine V_goto (tgt := 66) hC dX1_narrow_62 (by decide) ?_
              refine V_callvV (As := [.int (nI 1)]) (rest := []) (wr := [(co, .inr (2, [.ref cr, .int (nI t), .int (nI h), .int (nI p), .int (nI b)])), (cr, .inl (cI, 9, .inl (fun j => nI (f j)))), (sp, .inr (6, [.int (nI ((lo2 - wO lo2 hi2) * 2)), .int (nI ((hi2 - wO lo2 hi2) * 2 + 1))]))]) hC (c_X1_writeBit l D cI cQ a co sp bi cs siz w2 r bs2.length 1 g2 bs2 (rfl) (h4) (by omega) (by omega)) mok_X1_writeBit ml_X1_74 (q1 := 0) rfl cls_X1 rfl rfl rfl (by decide) (by decide) (by decide) (Nat.le_of_ble_eq_true rfl) [0, 4, 5] [1, 2, 3] rfl (by decide) rfl (by decide) (by decide) dX1_narrow_66 rfl (fun u9 h66 => ?_)
              obtain ⟨g2_2, rfl⟩ : ∃ z, z = u9 := ⟨_, rfl⟩
              have h66 : rep g2_2 (wB bs2 w2 1) := h66
              refine V_perm (ws2 := [(a, .inr (1, [.ref co, .ref sp, .ref bi, .ref cs, .int (nI siz), .int (nI 0)])), (co, .inr (2, [.ref cr, .int (nI t), .int (nI h), .int (nI p), .int (nI b)])), (cr, .inl (cI, 9, .inl (fun j => nI (f j)))), (sp, .inr (6, [.int (nI ((lo2 - wO lo2 hi2) * 2)), .int (nI ((hi2 - wO lo2 hi2) * 2 + 1))])), (bi, .inr (0, [.ref r, .int (nI (bs2.length + 1 + w2))])), (r, .inl (cI, 658, .inl (fun j => nI (g2_2 j))))]) [3, 0, 1, 2, 4, 5] rfl (by decide) ?_
              refine V_iinc (v := (nI (i + 1))) (lv2 := [(0, .ref a), (1, .int (nI k)), (2, .int (nI (i + 1))), (3, .int (nI (wO lo2 hi2)))]) (q := 2) hC dX1_narrow_69 rfl (nI_add _ _) (by decide) [1, 2, 0, 3] rfl ?_
              refine V_goto (tgt := 14) hC dX1_narrow_72 (by decide) ?_
              refine V_ws (ws2 := [(a, .inr (1, [.ref co, .ref sp, .ref bi, .ref cs, .int (nI siz), .int (nI 0)])), (co, .inr (2, [.ref cr, .int (nI t), .int (nI h), .int (nI p), .int (nI b)])), (cr, .inl (cI, 9, .inl (fun j => nI (f j)))), (sp, .inr (6, [.int (nI ((lo2 - wO lo2 hi2) * 2)), .int (nI ((hi2 - wO lo2 hi2) * 2 + 1))])), (bi, .inr (0, [.ref r, .int (nI ((wB bs2 w2 1).length))])), (r, .inl (cI, 658, .inl (fun j => nI (g2_2 j))))]) (by rw [wB_len]) ?_
              refine V_pick (lv2 := [(0, .ref a), (1, .int (nI k)), (2, .int (nI ((i + 1))))]) [0, 1, 2] rfl ?_
              exact ih (i + 1) ((lo2 - wO lo2 hi2) * 2) ((hi2 - wO lo2 hi2) * 2 + 1) 0 (wB bs2 w2 1) g2_2 (by first | assumption | omega) (by first | assumption | omega) (by rw [← h3, show 16 - i = (16 - (i + 1)) + 1 by omega, nr_bit hw1 c38, if_pos c58]) (by first | assumption | omega) (by rw [wB_len]; omega) (by omega)
          · refine V_aload_n hC dX1_narrow_41 rfl 0 rfl ?_
            refine V_dup hC dX1_narrow_42 rfl ?_
            refine V_get (ci := 1) (v := .int (nI w2)) hC in_X1 0 rfl cls_X1 5 (by decide) fl_X1_40 rfl dX1_narrow_43 ?_
            refine V_iconst (v := nI 1) hC dX1_narrow_46 (by decide) ?_
            refine V_iadd hC dX1_narrow_47 ?_
            refine V_put (ci := 1) (v := .int (nI (w2 + 1))) hC tyX1 tyX1_ok nmX1 in_X1 0 rfl cls_X1 5 (by decide) fl_X1_40 rfl rfl rfl (Nat.le_of_ble_eq_true rfl) dX1_narrow_48 (ws2 := [(a, .inr (1, [.ref co, .ref sp, .ref bi, .ref cs, .int (nI siz), .int (nI (w2 + 1))])), (co, .inr (2, [.ref cr, .int (nI t), .int (nI h), .int (nI p), .int (nI b)])), (cr, .inl (cI, 9, .inl (fun j => nI (f j)))), (sp, .inr (6, [.int (nI ((lo2 - wO lo2 hi2) * 2)), .int (nI ((hi2 - wO lo2 hi2) * 2 + 1))])), (bi, .inr (0, [.ref r, .int (nI (bs2.length))])), (r, .inl (cI, 658, .inl (fun j => nI (g2 j))))]) rfl ?_
            refine V_goto (tgt := 69) hC dX1_narrow_51 (by decide) ?_
            refine V_iinc (v := (nI (i + 1))) (lv2 := [(0, .ref a), (1, .int (nI k)), (2, .int (nI (i + 1))), (3, .int (nI (wO lo2 hi2)))]) (q := 2) hC dX1_narrow_69 rfl (nI_add _ _) (by decide) [1, 2, 0, 3] rfl ?_
            refine V_goto (tgt := 14) hC dX1_narrow_72 (by decide) ?_
            refine V_pick (lv2 := [(0, .ref a), (1, .int (nI k)), (2, .int (nI ((i + 1))))]) [0, 1, 2] rfl ?_
            exact ih (i + 1) ((lo2 - wO lo2 hi2) * 2) ((hi2 - wO lo2 hi2) * 2 + 1) (w2 + 1) bs2 g2 (by first | assumption | omega) (by first | assumption | omega) (by rw [← h3, show 16 - i = (16 - (i + 1)) + 1 by omega, nr_wait c38]) (by first | assumption | omega) (by first | assumption | omega) (by omega)
  exact L14 _ 0 (shL f t k lo hi) (shU f t k lo hi) w bs g (by omega) (by omega) (rfl) (hr9) (by omega) (Nat.lt_succ_self _)
abbrev rm_X1_start : Room := { frames := 1, cells := 0, slots := 0, locals := 23 }
set_option maxHeartbeats 4000000 in
set_option maxRecDepth 100000 in
theorem c_X1_start (l : Launch) (D : va_G) (cI cQ : ClassId) (a co sp bi cs siz w cr t h p b lo hi r n p2 b2 : Nat) (f : Nat → Nat)  : MV l yX1_start cX1_start 3 none rm_X1_start D (TY cI cQ) [.ref a, .int (nI p2), .int (nI b2)] [(a, .inr (1, [.ref co, .ref sp, .ref bi, .ref cs, .int (nI siz), .int (nI w)])), (co, .inr (2, [.ref cr, .int (nI t), .int (nI h), .int (nI p), .int (nI b)])), (cr, .inl (cI, 9, .inl (fun j => nI (f j)))), (sp, .inr (6, [.int (nI lo), .int (nI hi)])), (bi, .inr (0, [.ref r, .int (nI n)]))] (fun (u : Unit) => True) (fun (u : Unit) => [(a, .inr (1, [.ref co, .ref sp, .ref bi, .ref cs, .int (nI 0), .int (nI 0)])), (co, .inr (2, [.ref cr, .int (nI 9), .int (nI 0), .int (nI p2), .int (nI b2)])), (cr, .inl (cI, 9, .inl (fun j => nI (one j)))), (sp, .inr (6, [.int (nI 0), .int (nI 65535)])), (bi, .inr (0, [.ref r, .int (nI 0)]))]) 0 0 := by
  refine MV.start (by decide) (Nat.le_of_ble_eq_true rfl) (lv0 := [(0, .ref a), (1, .int (nI p2)), (2, .int (nI b2))]) rfl ?_
  intro pp9 ee9 ss9 mm9 args9 below9 meth9 co9 A9 Q9 hQ hC hr hlk hnm
  refine V_aload_n hC dX1_start_0 rfl 0 rfl ?_
  refine V_get (ci := 1) (v := .ref co) hC in_X1 0 rfl cls_X1 0 (by decide) fl_X1_12 rfl dX1_start_1 ?_
  refine V_iload_n hC dX1_start_4 rfl 1 rfl ?_
  refine V_iload_n hC dX1_start_5 rfl 2 rfl ?_
  refine V_callvV (As := [.int (nI p2), .int (nI b2)]) (rest := []) (wr := [(a, .inr (1, [.ref co, .ref sp, .ref bi, .ref cs, .int (nI siz), .int (nI w)])), (sp, .inr (6, [.int (nI lo), .int (nI hi)])), (bi, .inr (0, [.ref r, .int (nI n)]))]) hC (c_X2_start l D cI cQ co cr t h p b p2 b2 f ) mok_X2_start ml_X1_47 (q1 := 0) rfl cls_X2 rfl rfl rfl (by decide) (by decide) (by decide) (Nat.le_of_ble_eq_true rfl) [1, 2] [0, 3, 4] rfl (by decide) rfl (by decide) (by decide) dX1_start_6 rfl (fun u9 h6 => ?_)
  clear h6
  refine V_perm (ws2 := [(a, .inr (1, [.ref co, .ref sp, .ref bi, .ref cs, .int (nI siz), .int (nI w)])), (co, .inr (2, [.ref cr, .int (nI 9), .int (nI 0), .int (nI p2), .int (nI b2)])), (cr, .inl (cI, 9, .inl (fun j => nI (one j)))), (sp, .inr (6, [.int (nI lo), .int (nI hi)])), (bi, .inr (0, [.ref r, .int (nI n)]))]) [0, 3, 4, 1, 2] rfl (by decide) ?_
  refine V_aload_n hC dX1_start_9 rfl 0 rfl ?_
  refine V_get (ci := 1) (v := .ref sp) hC in_X1 0 rfl cls_X1 1 (by decide) fl_X1_21 rfl dX1_start_10 ?_
  refine V_callvV (As := []) (rest := []) (wr := [(a, .inr (1, [.ref co, .ref sp, .ref bi, .ref cs, .int (nI siz), .int (nI w)])), (co, .inr (2, [.ref cr, .int (nI 9), .int (nI 0), .int (nI p2), .int (nI b2)])), (cr, .inl (cI, 9, .inl (fun j => nI (one j)))), (bi, .inr (0, [.ref r, .int (nI n)]))]) hC (c_X6_start l D cI cQ sp lo hi ) mok_X6_start ml_X1_48 (q1 := 0) rfl cls_X6 rfl rfl rfl (by decide) (by decide) (by decide) (Nat.le_of_ble_eq_true rfl) [3] [0, 1, 2, 4] rfl (by decide) rfl (by decide) (by decide) dX1_start_13 rfl (fun u9 h13 => ?_)
  clear h13
  refine V_perm (ws2 := [(a, .inr (1, [.ref co, .ref sp, .ref bi, .ref cs, .int (nI siz), .int (nI w)])), (co, .inr (2, [.ref cr, .int (nI 9), .int (nI 0), .int (nI p2), .int (nI b2)])), (cr, .inl (cI, 9, .inl (fun j => nI (one j)))), (sp, .inr (6, [.int (nI 0), .int (nI 65535)])), (bi, .inr (0, [.ref r, .int (nI n)]))]) [0, 1, 2, 4, 3] rfl (by decide) ?_
  refine V_aload_n hC dX1_start_16 rfl 0 rfl ?_
  refine V_get (ci := 1) (v := .ref bi) hC in_X1 0 rfl cls_X1 2 (by decide) fl_X1_28 rfl dX1_start_17 ?_
  refine V_callvV (As := []) (rest := []) (wr := [(a, .inr (1, [.ref co, .ref sp, .ref bi, .ref cs, .int (nI siz), .int (nI w)])), (co, .inr (2, [.ref cr, .int (nI 9), .int (nI 0), .int (nI p2), .int (nI b2)])), (cr, .inl (cI, 9, .inl (fun j => nI (one j)))), (sp, .inr (6, [.int (nI 0), .int (nI 65535)]))]) hC (c_X0_empty l D cI cQ bi r n ) mok_X0_empty ml_X1_50 (q1 := 0) rfl cls_X0 rfl rfl rfl (by decide) (by decide) (by decide) (Nat.le_of_ble_eq_true rfl) [4] [0, 1, 2, 3] rfl (by decide) rfl (by decide) (by decide) dX1_start_20 rfl (fun u9 h20 => ?_)
  clear h20
  refine V_perm (ws2 := [(a, .inr (1, [.ref co, .ref sp, .ref bi, .ref cs, .int (nI siz), .int (nI w)])), (co, .inr (2, [.ref cr, .int (nI 9), .int (nI 0), .int (nI p2), .int (nI b2)])), (cr, .inl (cI, 9, .inl (fun j => nI (one j)))), (sp, .inr (6, [.int (nI 0), .int (nI 65535)])), (bi, .inr (0, [.ref r, .int (nI 0)]))]) [0, 1, 2, 3, 4] rfl (by decide) ?_
  refine V_aload_n hC dX1_start_23 rfl 0 rfl ?_
  refine V_iconst (v := nI 0) hC dX1_start_24 (by decide) ?_
  refine V_put (ci := 1) (v := .int (nI 0)) hC tyX1 tyX1_ok nmX1 in_X1 0 rfl cls_X1 4 (by decide) fl_X1_36 rfl rfl rfl (Nat.le_of_ble_eq_true rfl) dX1_start_25 (ws2 := [(a, .inr (1, [.ref co, .ref sp, .ref bi, .ref cs, .int (nI 0), .int (nI w)])), (co, .inr (2, [.ref cr, .int (nI 9), .int (nI 0), .int (nI p2), .int (nI b2)])), (cr, .inl (cI, 9, .inl (fun j => nI (one j)))), (sp, .inr (6, [.int (nI 0), .int (nI 65535)])), (bi, .inr (0, [.ref r, .int (nI 0)]))]) rfl ?_
  refine V_aload_n hC dX1_start_28 rfl 0 rfl ?_
  refine V_iconst (v := nI 0) hC dX1_start_29 (by decide) ?_
  refine V_put (ci := 1) (v := .int (nI 0)) hC tyX1 tyX1_ok nmX1 in_X1 0 rfl cls_X1 5 (by decide) fl_X1_40 rfl rfl rfl (Nat.le_of_ble_eq_true rfl) dX1_start_30 (ws2 := [(a, .inr (1, [.ref co, .ref sp, .ref bi, .ref cs, .int (nI 0), .int (nI 0)])), (co, .inr (2, [.ref cr, .int (nI 9), .int (nI 0), .int (nI p2), .int (nI b2)])), (cr, .inl (cI, 9, .inl (fun j => nI (one j)))), (sp, .inr (6, [.int (nI 0), .int (nI 65535)])), (bi, .inr (0, [.ref r, .int (nI 0)]))]) rfl ?_
  subst hQ
  exact V_vret hC hr hlk (by decide) (by decide) dX1_start_33 (()) [0, 1, 2, 3, 4] rfl (by decide) (trivial)
abbrev rm_X1_add : Room := { frames := 3, cells := 0, slots := 0, locals := 72 }
set_option maxHeartbeats 4000000 in
set_option maxRecDepth 100000 in
theorem c_X1_add (l : Launch) (D : va_G) (cI cQ : ClassId) (a co sp bi cs siz cr r p b k : Nat) (s9 : CS) (g cf : Nat → Nat) (hk : k < 9) (hS : okS s9) (hp : p ≤ 64) (hb : b ≤ 2000) (hr9 : rep g (sB s9)) (hl : (sB s9).length + sW s9 + 16 ≤ 658) (hz : siz < 40) : MI l yX1_add cX1_add 4 (some .int) rm_X1_add D (TY cI cQ) [.ref a, .int (nI k)] [(a, .inr (1, [.ref co, .ref sp, .ref bi, .ref cs, .int (nI siz), .int (nI (sW (s9)))])), (co, .inr (2, [.ref cr, .int (nI (sT (s9))), .int (nI (sH (s9))), .int (nI p), .int (nI b)])), (cr, .inl (cI, 9, .inl (fun j => nI ((sF (s9)) j)))), (sp, .inr (6, [.int (nI (sL (s9))), .int (nI (sU (s9)))])), (bi, .inr (0, [.ref r, .int (nI ((sB (s9)).length))])), (r, .inl (cI, 658, .inl (fun j => nI (g j)))), (cs, .inl (cI, 40, .inl (fun j => nI (cf j))))] (fun (r9 : Int32) (u : (Nat → Nat)) => r9 = (nI ((sB (cAdd p b s9 k)).length - (sB s9).length)) ∧ rep u (sB (cAdd p b s9 k))) (fun (u : (Nat → Nat)) => [(a, .inr (1, [.ref co, .ref sp, .ref bi, .ref cs, .int (nI (siz + 1)), .int (nI (sW (cAdd p b s9 k)))])), (co, .inr (2, [.ref cr, .int (nI (sT (cAdd p b s9 k))), .int (nI (sH (cAdd p b s9 k))), .int (nI p), .int (nI b)])), (cr, .inl (cI, 9, .inl (fun j => nI ((sF (cAdd p b s9 k)) j)))), (sp, .inr (6, [.int (nI (sL (cAdd p b s9 k))), .int (nI (sU (cAdd p b s9 k)))])), (bi, .inr (0, [.ref r, .int (nI ((sB (cAdd p b s9 k)).length))])), (r, .inl (cI, 658, .inl (fun j => nI (u j)))), (cs, .inl (cI, 40, .inl (fun j => nI ((va_up cf siz ((sB (cAdd p b s9 k)).length - (sB s9).length)) j))))]) 0 0 := by
  refine MI.start (by decide) (Nat.le_of_ble_eq_true rfl) (lv0 := [(0, .ref a), (1, .int (nI k))]) rfl ?_
  intro pp9 ee9 ss9 mm9 args9 below9 meth9 co9 A9 Q9 hQ hC hr hlk hnm
  have hle := nrS_len s9 k
  have hlr : (sB s9).length ≤ (sB (cAdd p b s9 k)).length := hle.1
  refine V_aload_n hC dX1_add_0 rfl 0 rfl ?_
  refine V_get (ci := 1) (v := .ref bi) hC in_X1 0 rfl cls_X1 2 (by decide) fl_X1_28 rfl dX1_add_1 ?_
  refine V_getN (ci := 0) (v := .int (nI ((sB (s9)).length))) hC in_X0 4 rfl cls_X0 1 (by decide) fn_X1_53 rfl dX1_add_4 ?_
  refine V_istore_n (lv2 := [(0, .ref a), (1, .int (nI k)), (2, .int (nI ((sB (s9)).length)))]) hC dX1_add_7 rfl (by decide) [1, 2, 0] rfl ?_
  refine V_aload_n hC dX1_add_8 rfl 0 rfl ?_
  refine V_iload_n hC dX1_add_9 rfl 1 rfl ?_
  refine V_callvV (As := [.int (nI k)]) (rest := []) (wr := [(cs, .inl (cI, 40, .inl (fun j => nI (cf j))))]) hC (c_X1_narrow l D cI cQ a co sp bi cs siz (sW (s9)) cr (sT (s9)) (sH (s9)) p b (sL (s9)) (sU (s9)) r ((sB (s9)).length) k (sF (s9)) g (sB s9) (hk) (hS.1) (⟨hS.2.1, hS.2.2.1⟩) (hS.wide) (rfl) (hr9) (hl)) mok_X1_narrow ml_X1_54 (q1 := 0) rfl cls_X1 rfl rfl rfl (by decide) (by decide) (by decide) (Nat.le_of_ble_eq_true rfl) [0, 1, 2, 3, 4, 5] [6] rfl (by decide) rfl (by decide) (by decide) dX1_add_10 rfl (fun u9 h10 => ?_)
  obtain ⟨g2_1, rfl⟩ : ∃ z, z = u9 := ⟨_, rfl⟩
  have h10 : rep g2_1 (nr 16 (shL (sF (s9)) (sT (s9)) k (sL (s9)) (sU (s9))) (shU (sF (s9)) (sT (s9)) k (sL (s9)) (sU (s9))) (sW (s9)) (sB s9)).2.2.2 := h10
  refine V_perm (ws2 := [(a, .inr (1, [.ref co, .ref sp, .ref bi, .ref cs, .int (nI siz), .int (nI ((nr 16 (shL (sF (s9)) (sT (s9)) k (sL (s9)) (sU (s9))) (shU (sF (s9)) (sT (s9)) k (sL (s9)) (sU (s9))) (sW (s9)) (sB s9)).2.2.1))])), (co, .inr (2, [.ref cr, .int (nI ((sT (s9)))), .int (nI ((sH (s9)))), .int (nI p), .int (nI b)])), (cr, .inl (cI, 9, .inl (fun j => nI (((sF (s9))) j)))), (sp, .inr (6, [.int (nI ((nr 16 (shL (sF (s9)) (sT (s9)) k (sL (s9)) (sU (s9))) (shU (sF (s9)) (sT (s9)) k (sL (s9)) (sU (s9))) (sW (s9)) (sB s9)).1)), .int (nI ((nr 16 (shL (sF (s9)) (sT (s9)) k (sL (s9)) (sU (s9))) (shU (sF (s9)) (sT (s9)) k (sL (s9)) (sU (s9))) (sW (s9)) (sB s9)).2.1))])), (bi, .inr (0, [.ref r, .int (nI ((nr 16 (shL (sF (s9)) (sT (s9)) k (sL (s9)) (sU (s9))) (shU (sF (s9)) (sT (s9)) k (sL (s9)) (sU (s9))) (sW (s9)) (sB s9)).2.2.2.length))])), (r, .inl (cI, 658, .inl (fun j => nI (g2_1 j)))), (cs, .inl (cI, 40, .inl (fun j => nI (cf j))))]) [1, 2, 3, 4, 5, 6, 0] rfl (by decide) ?_
  refine V_ws (ws2 := [(a, .inr (1, [.ref co, .ref sp, .ref bi, .ref cs, .int (nI siz), .int (nI (sW (cAdd p b s9 k)))])), (co, .inr (2, [.ref cr, .int (nI (sT s9)), .int (nI (sH s9)), .int (nI p), .int (nI b)])), (cr, .inl (cI, 9, .inl (fun j => nI ((sF s9) j)))), (sp, .inr (6, [.int (nI (sL (cAdd p b s9 k))), .int (nI (sU (cAdd p b s9 k)))])), (bi, .inr (0, [.ref r, .int (nI ((sB (cAdd p b s9 k)).length))])), (r, .inl (cI, 658, .inl (fun j => nI (g2_1 j)))), (cs, .inl (cI, 40, .inl (fun j => nI (cf j))))]) (rfl) ?_
  refine V_aload_n hC dX1_add_13 rfl 0 rfl ?_
  refine V_get (ci := 1) (v := .ref co) hC in_X1 0 rfl cls_X1 0 (by decide) fl_X1_12 rfl dX1_add_14 ?_
  refine V_iload_n hC dX1_add_17 rfl 1 rfl ?_
  refine V_callvV (As := [.int (nI k)]) (rest := []) (wr := [(a, .inr (1, [.ref co, .ref sp, .ref bi, .ref cs, .int (nI siz), .int (nI (sW (cAdd p b s9 k)))])), (sp, .inr (6, [.int (nI (sL (cAdd p b s9 k))), .int (nI (sU (cAdd p b s9 k)))])), (bi, .inr (0, [.ref r, .int (nI ((sB (cAdd p b s9 k)).length))])), (r, .inl (cI, 658, .inl (fun j => nI (g2_1 j)))), (cs, .inl (cI, 40, .inl (fun j => nI (cf j))))]) hC (c_X2_learn l D cI cQ co cr (sT s9) (sH s9) p b k (sF s9) (hk) (fun j hj => hS.1.le hj) (hS.1.2.2) (hp) (hb)) mok_X2_learn ml_X1_58 (q1 := 0) rfl cls_X2 rfl rfl rfl (by decide) (by decide) (by decide) (Nat.le_of_ble_eq_true rfl) [1, 2] [0, 3, 4, 5, 6] rfl (by decide) rfl (by decide) (by decide) dX1_add_18 rfl (fun u9 h18 => ?_)
  clear h18
  refine V_perm (ws2 := [(a, .inr (1, [.ref co, .ref sp, .ref bi, .ref cs, .int (nI siz), .int (nI (sW (cAdd p b s9 k)))])), (co, .inr (2, [.ref cr, .int (nI (lrT p b (sF s9) (sT s9) k)), .int (nI (lrH p b (sT s9) (sH s9))), .int (nI p), .int (nI b)])), (cr, .inl (cI, 9, .inl (fun j => nI ((lrF p b (sF s9) (sT s9) k) j)))), (sp, .inr (6, [.int (nI (sL (cAdd p b s9 k))), .int (nI (sU (cAdd p b s9 k)))])), (bi, .inr (0, [.ref r, .int (nI ((sB (cAdd p b s9 k)).length))])), (r, .inl (cI, 658, .inl (fun j => nI (g2_1 j)))), (cs, .inl (cI, 40, .inl (fun j => nI (cf j))))]) [0, 5, 6, 1, 2, 3, 4] rfl (by decide) ?_
  refine V_ws (ws2 := [(a, .inr (1, [.ref co, .ref sp, .ref bi, .ref cs, .int (nI siz), .int (nI (sW (cAdd p b s9 k)))])), (co, .inr (2, [.ref cr, .int (nI (sT (cAdd p b s9 k))), .int (nI (sH (cAdd p b s9 k))), .int (nI p), .int (nI b)])), (cr, .inl (cI, 9, .inl (fun j => nI ((sF (cAdd p b s9 k)) j)))), (sp, .inr (6, [.int (nI (sL (cAdd p b s9 k))), .int (nI (sU (cAdd p b s9 k)))])), (bi, .inr (0, [.ref r, .int (nI ((sB (cAdd p b s9 k)).length))])), (r, .inl (cI, 658, .inl (fun j => nI (g2_1 j)))), (cs, .inl (cI, 40, .inl (fun j => nI (cf j))))]) (rfl) ?_
  refine V_aload_n hC dX1_add_21 rfl 0 rfl ?_
  refine V_get (ci := 1) (v := .ref bi) hC in_X1 0 rfl cls_X1 2 (by decide) fl_X1_28 rfl dX1_add_22 ?_
  refine V_getN (ci := 0) (v := .int (nI ((sB (cAdd p b s9 k)).length))) hC in_X0 4 rfl cls_X0 1 (by decide) fn_X1_53 rfl dX1_add_25 ?_
  refine V_iload_n hC dX1_add_28 rfl 2 rfl ?_
  refine V_isub hC dX1_add_29 (by omega) ?_
  refine V_istore_n (lv2 := [(0, .ref a), (1, .int (nI k)), (2, .int (nI ((sB (s9)).length))), (3, .int (nI (((sB (cAdd p b s9 k)).length) - ((sB (s9)).length))))]) hC dX1_add_30 rfl (by decide) [1, 2, 3, 0] rfl ?_
  refine V_aload_n hC dX1_add_31 rfl 0 rfl ?_
  refine V_get (ci := 1) (v := .int (nI siz)) hC in_X1 0 rfl cls_X1 4 (by decide) fl_X1_36 rfl dX1_add_32 ?_
  refine V_if_lt_F (tgt := 70) hC dX1_add_35 (by decide) (nI_pos (by omega)) ?_
  refine V_aload_n hC dX1_add_38 rfl 0 rfl ?_
  refine V_get (ci := 1) (v := .int (nI siz)) hC in_X1 0 rfl cls_X1 4 (by decide) fl_X1_36 rfl dX1_add_39 ?_
  refine V_aload_n hC dX1_add_42 rfl 0 rfl ?_
  refine V_get (ci := 1) (v := .ref cs) hC in_X1 0 rfl cls_X1 3 (by decide) fl_X1_32 rfl dX1_add_43 ?_
  refine V_alen (v := (nI 40)) hC 6 0 rfl rfl rfl dX1_add_46 ?_
  refine V_icmp_ge_F (tgt := 70) hC dX1_add_47 (by decide) (nI_ge (by omega) (by omega)) ?_
  refine V_aload_n hC dX1_add_50 rfl 0 rfl ?_
  refine V_get (ci := 1) (v := .ref cs) hC in_X1 0 rfl cls_X1 3 (by decide) fl_X1_32 rfl dX1_add_51 ?_
  refine V_aload_n hC dX1_add_54 rfl 0 rfl ?_
  refine V_get (ci := 1) (v := .int (nI siz)) hC in_X1 0 rfl cls_X1 4 (by decide) fl_X1_36 rfl dX1_add_55 ?_
  refine V_iload_n hC dX1_add_58 rfl 3 rfl ?_
  refine V_iast hC 6 0 rfl rfl (by omega) (by decide) dX1_add_59 (ws2 := [(a, .inr (1, [.ref co, .ref sp, .ref bi, .ref cs, .int (nI siz), .int (nI (sW (cAdd p b s9 k)))])), (co, .inr (2, [.ref cr, .int (nI (sT (cAdd p b s9 k))), .int (nI (sH (cAdd p b s9 k))), .int (nI p), .int (nI b)])), (cr, .inl (cI, 9, .inl (fun j => nI ((sF (cAdd p b s9 k)) j)))), (sp, .inr (6, [.int (nI (sL (cAdd p b s9 k))), .int (nI (sU (cAdd p b s9 k)))])), (bi, .inr (0, [.ref r, .int (nI ((sB (cAdd p b s9 k)).length))])), (r, .inl (cI, 658, .inl (fun j => nI (g2_1 j)))), (cs, .inl (cI, 40, .inl (fun j => nI ((va_up cf siz (((sB (cAdd p b s9 k)).length) - ((sB (s9)).length))) j))))]) rfl ?_
  refine V_aload_n hC dX1_add_60 rfl 0 rfl ?_
  refine V_dup hC dX1_add_61 rfl ?_
  refine V_get (ci := 1) (v := .int (nI siz)) hC in_X1 0 rfl cls_X1 4 (by decide) fl_X1_36 rfl dX1_add_62 ?_
  refine V_iconst (v := nI 1) hC dX1_add_65 (by decide) ?_
  refine V_iadd hC dX1_add_66 ?_
  refine V_put (ci := 1) (v := .int (nI (siz + 1))) hC tyX1 tyX1_ok nmX1 in_X1 0 rfl cls_X1 4 (by decide) fl_X1_36 rfl rfl rfl (Nat.le_of_ble_eq_true rfl) dX1_add_67 (ws2 := [(a, .inr (1, [.ref co, .ref sp, .ref bi, .ref cs, .int (nI (siz + 1)), .int (nI (sW (cAdd p b s9 k)))])), (co, .inr (2, [.ref cr, .int (nI (sT (cAdd p b s9 k))), .int (nI (sH (cAdd p b s9 k))), .int (nI p), .int (nI b)])), (cr, .inl (cI, 9, .inl (fun j => nI ((sF (cAdd p b s9 k)) j)))), (sp, .inr (6, [.int (nI (sL (cAdd p b s9 k))), .int (nI (sU (cAdd p b s9 k)))])), (bi, .inr (0, [.ref r, .int (nI ((sB (cAdd p b s9 k)).length))])), (r, .inl (cI, 658, .inl (fun j => nI (g2_1 j)))), (cs, .inl (cI, 40, .inl (fun j => nI ((va_up cf siz (((sB (cAdd p b s9 k)).length) - ((sB (s9)).length))) j))))]) rfl ?_
  refine V_iload_n hC dX1_add_70 rfl 3 rfl ?_
  subst hQ
  exact V_iret hC hr hlk rfl (by decide) (by decide) dX1_add_71 (g2_1) [0, 1, 2, 3, 4, 5, 6] rfl (by decide) (⟨rfl, h10⟩)
abbrev rm_X1_add_full : Room := { frames := 3, cells := 0, slots := 0, locals := 72 }
set_option maxHeartbeats 4000000 in
set_option maxRecDepth 100000 in
theorem c_X1_add_full (l : Launch) (D : va_G) (cI cQ : ClassId) (a co sp bi cs siz cr r p b k : Nat) (s9 : CS) (g cf : Nat → Nat) (hk : k < 9) (hS : okS s9) (hp : p ≤ 64) (hb : b ≤ 2000) (hr9 : rep g (sB s9)) (hl : (sB s9).length + sW s9 + 16 ≤ 658) (hz : 40 ≤ siz ∧ siz < 2147483648) : MI l yX1_add cX1_add 4 (some .int) rm_X1_add_full D (TY cI cQ) [.ref a, .int (nI k)] [(a, .inr (1, [.ref co, .ref sp, .ref bi, .ref cs, .int (nI siz), .int (nI (sW (s9)))])), (co, .inr (2, [.ref cr, .int (nI (sT (s9))), .int (nI (sH (s9))), .int (nI p), .int (nI b)])), (cr, .inl (cI, 9, .inl (fun j => nI ((sF (s9)) j)))), (sp, .inr (6, [.int (nI (sL (s9))), .int (nI (sU (s9)))])), (bi, .inr (0, [.ref r, .int (nI ((sB (s9)).length))])), (r, .inl (cI, 658, .inl (fun j => nI (g j)))), (cs, .inl (cI, 40, .inl (fun j => nI (cf j))))] (fun (r9 : Int32) (u : (Nat → Nat)) => r9 = (nI ((sB (cAdd p b s9 k)).length - (sB s9).length)) ∧ rep u (sB (cAdd p b s9 k))) (fun (u : (Nat → Nat)) => [(a, .inr (1, [.ref co, .ref sp, .ref bi, .ref cs, .int (nI siz), .int (nI (sW (cAdd p b s9 k)))])), (co, .inr (2, [.ref cr, .int (nI (sT (cAdd p b s9 k))), .int (nI (sH (cAdd p b s9 k))), .int (nI p), .int (nI b)])), (cr, .inl (cI, 9, .inl (fun j => nI ((sF (cAdd p b s9 k)) j)))), (sp, .inr (6, [.int (nI (sL (cAdd p b s9 k))), .int (nI (sU (cAdd p b s9 k)))])), (bi, .inr (0, [.ref r, .int (nI ((sB (cAdd p b s9 k)).length))])), (r, .inl (cI, 658, .inl (fun j => nI (u j)))), (cs, .inl (cI, 40, .inl (fun j => nI (cf j))))]) 0 0 := by
  refine MI.start (by decide) (Nat.le_of_ble_eq_true rfl) (lv0 := [(0, .ref a), (1, .int (nI k))]) rfl ?_
  intro pp9 ee9 ss9 mm9 args9 below9 meth9 co9 A9 Q9 hQ hC hr hlk hnm
  have hle := nrS_len s9 k
  have hlr : (sB s9).length ≤ (sB (cAdd p b s9 k)).length := hle.1
  refine V_aload_n hC dX1_add_0 rfl 0 rfl ?_
  refine V_get (ci := 1) (v := .ref bi) hC in_X1 0 rfl cls_X1 2 (by decide) fl_X1_28 rfl dX1_add_1 ?_
  refine V_getN (ci := 0) (v := .int (nI ((sB (s9)).length))) hC in_X0 4 rfl cls_X0 1 (by decide) fn_X1_53 rfl dX1_add_4 ?_
  refine V_istore_n (lv2 := [(0, .ref a), (1, .int (nI k)), (2, .int (nI ((sB (s9)).length)))]) hC dX1_add_7 rfl (by decide) [1, 2, 0] rfl ?_
  refine V_aload_n hC dX1_add_8 rfl 0 rfl ?_
  refine V_iload_n hC dX1_add_9 rfl 1 rfl ?_
  refine V_callvV (As := [.int (nI k)]) (rest := []) (wr := [(cs, .inl (cI, 40, .inl (fun j => nI (cf j))))]) hC (c_X1_narrow l D cI cQ a co sp bi cs siz (sW (s9)) cr (sT (s9)) (sH (s9)) p b (sL (s9)) (sU (s9)) r ((sB (s9)).length) k (sF (s9)) g (sB s9) (hk) (hS.1) (⟨hS.2.1, hS.2.2.1⟩) (hS.wide) (rfl) (hr9) (hl)) mok_X1_narrow ml_X1_54 (q1 := 0) rfl cls_X1 rfl rfl rfl (by decide) (by decide) (by decide) (Nat.le_of_ble_eq_true rfl) [0, 1, 2, 3, 4, 5] [6] rfl (by decide) rfl (by decide) (by decide) dX1_add_10 rfl (fun u9 h10 => ?_)
  obtain ⟨g2_1, rfl⟩ : ∃ z, z = u9 := ⟨_, rfl⟩
  have h10 : rep g2_1 (nr 16 (shL (sF (s9)) (sT (s9)) k (sL (s9)) (sU (s9))) (shU (sF (s9)) (sT (s9)) k (sL (s9)) (sU (s9))) (sW (s9)) (sB s9)).2.2.2 := h10
  refine V_perm (ws2 := [(a, .inr (1, [.ref co, .ref sp, .ref bi, .ref cs, .int (nI siz), .int (nI ((nr 16 (shL (sF (s9)) (sT (s9)) k (sL (s9)) (sU (s9))) (shU (sF (s9)) (sT (s9)) k (sL (s9)) (sU (s9))) (sW (s9)) (sB s9)).2.2.1))])), (co, .inr (2, [.ref cr, .int (nI ((sT (s9)))), .int (nI ((sH (s9)))), .int (nI p), .int (nI b)])), (cr, .inl (cI, 9, .inl (fun j => nI (((sF (s9))) j)))), (sp, .inr (6, [.int (nI ((nr 16 (shL (sF (s9)) (sT (s9)) k (sL (s9)) (sU (s9))) (shU (sF (s9)) (sT (s9)) k (sL (s9)) (sU (s9))) (sW (s9)) (sB s9)).1)), .int (nI ((nr 16 (shL (sF (s9)) (sT (s9)) k (sL (s9)) (sU (s9))) (shU (sF (s9)) (sT (s9)) k (sL (s9)) (sU (s9))) (sW (s9)) (sB s9)).2.1))])), (bi, .inr (0, [.ref r, .int (nI ((nr 16 (shL (sF (s9)) (sT (s9)) k (sL (s9)) (sU (s9))) (shU (sF (s9)) (sT (s9)) k (sL (s9)) (sU (s9))) (sW (s9)) (sB s9)).2.2.2.length))])), (r, .inl (cI, 658, .inl (fun j => nI (g2_1 j)))), (cs, .inl (cI, 40, .inl (fun j => nI (cf j))))]) [1, 2, 3, 4, 5, 6, 0] rfl (by decide) ?_
  refine V_ws (ws2 := [(a, .inr (1, [.ref co, .ref sp, .ref bi, .ref cs, .int (nI siz), .int (nI (sW (cAdd p b s9 k)))])), (co, .inr (2, [.ref cr, .int (nI (sT s9)), .int (nI (sH s9)), .int (nI p), .int (nI b)])), (cr, .inl (cI, 9, .inl (fun j => nI ((sF s9) j)))), (sp, .inr (6, [.int (nI (sL (cAdd p b s9 k))), .int (nI (sU (cAdd p b s9 k)))])), (bi, .inr (0, [.ref r, .int (nI ((sB (cAdd p b s9 k)).length))])), (r, .inl (cI, 658, .inl (fun j => nI (g2_1 j)))), (cs, .inl (cI, 40, .inl (fun j => nI (cf j))))]) (rfl) ?_
  refine V_aload_n hC dX1_add_13 rfl 0 rfl ?_
  refine V_get (ci := 1) (v := .ref co) hC in_X1 0 rfl cls_X1 0 (by decide) fl_X1_12 rfl dX1_add_14 ?_
  refine V_iload_n hC dX1_add_17 rfl 1 rfl ?_
  refine V_callvV (As := [.int (nI k)]) (rest := []) (wr := [(a, .inr (1, [.ref co, .ref sp, .ref bi, .ref cs, .int (nI siz), .int (nI (sW (cAdd p b s9 k)))])), (sp, .inr (6, [.int (nI (sL (cAdd p b s9 k))), .int (nI (sU (cAdd p b s9 k)))])), (bi, .inr (0, [.ref r, .int (nI ((sB (cAdd p b s9 k)).length))])), (r, .inl (cI, 658, .inl (fun j => nI (g2_1 j)))), (cs, .inl (cI, 40, .inl (fun j => nI (cf j))))]) hC (c_X2_learn l D cI cQ co cr (sT s9) (sH s9) p b k (sF s9) (hk) (fun j hj => hS.1.le hj) (hS.1.2.2) (hp) (hb)) mok_X2_learn ml_X1_58 (q1 := 0) rfl cls_X2 rfl rfl rfl (by decide) (by decide) (by decide) (Nat.le_of_ble_eq_true rfl) [1, 2] [0, 3, 4, 5, 6] rfl (by decide) rfl (by decide) (by decide) dX1_add_18 rfl (fun u9 h18 => ?_)
  clear h18
  refine V_perm (ws2 := [(a, .inr (1, [.ref co, .ref sp, .ref bi, .ref cs, .int (nI siz), .int (nI (sW (cAdd p b s9 k)))])), (co, .inr (2, [.ref cr, .int (nI (lrT p b (sF s9) (sT s9) k)), .int (nI (lrH p b (sT s9) (sH s9))), .int (nI p), .int (nI b)])), (cr, .inl (cI, 9, .inl (fun j => nI ((lrF p b (sF s9) (sT s9) k) j)))), (sp, .inr (6, [.int (nI (sL (cAdd p b s9 k))), .int (nI (sU (cAdd p b s9 k)))])), (bi, .inr (0, [.ref r, .int (nI ((sB (cAdd p b s9 k)).length))])), (r, .inl (cI, 658, .inl (fun j => nI (g2_1 j)))), (cs, .inl (cI, 40, .inl (fun j => nI (cf j))))]) [0, 5, 6, 1, 2, 3, 4] rfl (by decide) ?_
  refine V_ws (ws2 := [(a, .inr (1, [.ref co, .ref sp, .ref bi, .ref cs, .int (nI siz), .int (nI (sW (cAdd p b s9 k)))])), (co, .inr (2, [.ref cr, .int (nI (sT (cAdd p b s9 k))), .int (nI (sH (cAdd p b s9 k))), .int (nI p), .int (nI b)])), (cr, .inl (cI, 9, .inl (fun j => nI ((sF (cAdd p b s9 k)) j)))), (sp, .inr (6, [.int (nI (sL (cAdd p b s9 k))), .int (nI (sU (cAdd p b s9 k)))])), (bi, .inr (0, [.ref r, .int (nI ((sB (cAdd p b s9 k)).length))])), (r, .inl (cI, 658, .inl (fun j => nI (g2_1 j)))), (cs, .inl (cI, 40, .inl (fun j => nI (cf j))))]) (rfl) ?_
  refine V_aload_n hC dX1_add_21 rfl 0 rfl ?_
  refine V_get (ci := 1) (v := .ref bi) hC in_X1 0 rfl cls_X1 2 (by decide) fl_X1_28 rfl dX1_add_22 ?_
  refine V_getN (ci := 0) (v := .int (nI ((sB (cAdd p b s9 k)).length))) hC in_X0 4 rfl cls_X0 1 (by decide) fn_X1_53 rfl dX1_add_25 ?_
  refine V_iload_n hC dX1_add_28 rfl 2 rfl ?_
  refine V_isub hC dX1_add_29 (by omega) ?_
  refine V_istore_n (lv2 := [(0, .ref a), (1, .int (nI k)), (2, .int (nI ((sB (s9)).length))), (3, .int (nI (((sB (cAdd p b s9 k)).length) - ((sB (s9)).length))))]) hC dX1_add_30 rfl (by decide) [1, 2, 3, 0] rfl ?_
  refine V_aload_n hC dX1_add_31 rfl 0 rfl ?_
  refine V_get (ci := 1) (v := .int (nI siz)) hC in_X1 0 rfl cls_X1 4 (by decide) fl_X1_36 rfl dX1_add_32 ?_
  refine V_if_lt_F (tgt := 70) hC dX1_add_35 (by decide) (nI_pos (by omega)) ?_
  refine V_aload_n hC dX1_add_38 rfl 0 rfl ?_
  refine V_get (ci := 1) (v := .int (nI siz)) hC in_X1 0 rfl cls_X1 4 (by decide) fl_X1_36 rfl dX1_add_39 ?_
  refine V_aload_n hC dX1_add_42 rfl 0 rfl ?_
  refine V_get (ci := 1) (v := .ref cs) hC in_X1 0 rfl cls_X1 3 (by decide) fl_X1_32 rfl dX1_add_43 ?_
  refine V_alen (v := (nI 40)) hC 6 0 rfl rfl rfl dX1_add_46 ?_
  refine V_icmp_ge_T (tgt := 70) hC dX1_add_47 (by decide) (nI_le (by omega) (by omega)) ?_
  refine V_iload_n hC dX1_add_70 rfl 3 rfl ?_
  subst hQ
  exact V_iret hC hr hlk rfl (by decide) (by decide) dX1_add_71 (g2_1) [0, 1, 2, 3, 4, 5, 6] rfl (by decide) (⟨rfl, h10⟩)
abbrev rm_X4_letterAt : Room := { frames := 0, cells := 0, slots := 0, locals := 0 }
set_option maxHeartbeats 4000000 in
set_option maxRecDepth 100000 in
theorem c_X4_letterAt (l : Launch) (D : va_G) (cI cQ : ClassId) (a r n e p b i : Nat) (g : Nat → Nat) (hi : i < 40) : MI l yX4_letterAt cX4_letterAt 2 (some .int) rm_X4_letterAt D (TY cI cQ) [.ref a, .int (nI i)] [(a, .inr (4, [.ref r, .int (nI n), .int (nI e), .int (nI p), .int (nI b)])), (r, .inl (cI, 40, .inl (fun j => nI (g j))))] (fun (r9 : Int32) (u : Unit) => r9 = (nI (g i)) ∧ True) (fun (u : Unit) => [(a, .inr (4, [.ref r, .int (nI n), .int (nI e), .int (nI p), .int (nI b)])), (r, .inl (cI, 40, .inl (fun j => nI (g j))))]) 0 0 := by
  refine MI.start (by decide) (Nat.le_of_ble_eq_true rfl) (lv0 := [(0, .ref a), (1, .int (nI i))]) rfl ?_
  intro pp9 ee9 ss9 mm9 args9 below9 meth9 co9 A9 Q9 hQ hC hr hlk hnm
  refine V_iload_n hC dX4_letterAt_0 rfl 1 rfl ?_
  refine V_if_lt_F (tgt := 22) hC dX4_letterAt_1 (by decide) (nI_pos (by omega)) ?_
  refine V_iload_n hC dX4_letterAt_4 rfl 1 rfl ?_
  refine V_aload_n hC dX4_letterAt_5 rfl 0 rfl ?_
  refine V_get (ci := 4) (v := .ref r) hC in_X4 0 rfl cls_X4 0 (by decide) fl_X4_9 rfl dX4_letterAt_6 ?_
  refine V_alen (v := (nI 40)) hC 1 0 rfl rfl rfl dX4_letterAt_9 ?_
  refine V_icmp_ge_F (tgt := 22) hC dX4_letterAt_10 (by decide) (nI_ge (by omega) (by omega)) ?_
  refine V_aload_n hC dX4_letterAt_13 rfl 0 rfl ?_
  refine V_get (ci := 4) (v := .ref r) hC in_X4 0 rfl cls_X4 0 (by decide) fl_X4_9 rfl dX4_letterAt_14 ?_
  refine V_iload_n hC dX4_letterAt_17 rfl 1 rfl ?_
  refine V_iald hC 1 0 rfl rfl (by omega) (by decide) dX4_letterAt_18 ?_
  refine V_goto (tgt := 23) hC dX4_letterAt_19 (by decide) ?_
  subst hQ
  exact V_iret hC hr hlk rfl (by decide) (by decide) dX4_letterAt_23 (()) [0, 1] rfl (by decide) (⟨rfl, trivial⟩)
abbrev rm_X1_addAll : Room := { frames := 4, cells := 0, slots := 0, locals := 95 }
set_option maxHeartbeats 4000000 in
set_option maxRecDepth 100000 in
theorem c_X1_addAll (l : Launch) (D : va_G) (cI cQ : ClassId) (a co sp bi cs cr r p b o or n e p3 b3 : Nat) (g cf gl : Nat → Nat) (hn : n ≤ 40) (hg : ∀ j, j < n → gl j < 8) (hp : p ≤ 64) (hb : b ≤ 2000) : MV l yX1_addAll cX1_addAll 3 none rm_X1_addAll D (TY cI cQ) [.ref a, .ref o] [(a, .inr (1, [.ref co, .ref sp, .ref bi, .ref cs, .int (nI 0), .int (nI 0)])), (co, .inr (2, [.ref cr, .int (nI 9), .int (nI 0), .int (nI p), .int (nI b)])), (cr, .inl (cI, 9, .inl (fun j => nI (one j)))), (sp, .inr (6, [.int (nI 0), .int (nI 65535)])), (bi, .inr (0, [.ref r, .int (nI 0)])), (r, .inl (cI, 658, .inl (fun j => nI (g j)))), (cs, .inl (cI, 40, .inl (fun j => nI (cf j)))), (o, .inr (4, [.ref or, .int (nI n), .int (nI e), .int (nI p3), .int (nI b3)])), (or, .inl (cI, 40, .inl (fun j => nI (gl j))))] (fun (u : (Nat → Nat) × (Nat → Nat)) => rep u.1 (sB (cR p b gl n)) ∧ ∀ j, j < n → u.2 j = cost p b gl j) (fun (u : (Nat → Nat) × (Nat → Nat)) => [(a, .inr (1, [.ref co, .ref sp, .ref bi, .ref cs, .int (nI n), .int (nI (sW (cR p b gl n)))])), (co, .inr (2, [.ref cr, .int (nI (sT (cR p b gl n))), .int (nI (sH (cR p b gl n))), .int (nI p), .int (nI b)])), (cr, .inl (cI, 9, .inl (fun j => nI ((sF (cR p b gl n)) j)))), (sp, .inr (6, [.int (nI (sL (cR p b gl n))), .int (nI (sU (cR p b gl n)))])), (bi, .inr (0, [.ref r, .int (nI ((sB (cR p b gl n)).length))])), (r, .inl (cI, 658, .inl (fun j => nI (u.1 j)))), (cs, .inl (cI, 40, .inl (fun j => nI (u.2 j)))), (o, .inr (4, [.ref or, .int (nI n), .int (nI e), .int (nI p3), .int (nI b3)])), (or, .inl (cI, 40, .inl (fun j => nI (gl j))))]) 0 0 := by
  refine MV.start (by decide) (Nat.le_of_ble_eq_true rfl) (lv0 := [(0, .ref a), (1, .ref o)]) rfl ?_
  intro pp9 ee9 ss9 mm9 args9 below9 meth9 co9 A9 Q9 hQ hC hr hlk hnm
  refine V_iconst (v := nI 0) hC dX1_addAll_0 (by decide) ?_
  refine V_istore_n (lv2 := [(0, .ref a), (1, .ref o), (2, .int (nI 0))]) hC dX1_addAll_1 rfl (by decide) [1, 2, 0] rfl ?_
  have L2 : ∀ (n9 : Nat) (i : Nat) (g2 : Nat → Nat) (cf2 : Nat → Nat), (i ≤ n) → (rep g2 (sB (cR p b gl i))) → (∀ j, j < i → cf2 j = cost p b gl j) → n - i < n9 → V pp9 l ee9 rm_X1_addAll ss9 mm9 args9 below9 meth9 co9 D A9 ss9.heap 3 Q9 [(a, .inr (1, [.ref co, .ref sp, .ref bi, .ref cs, .int (nI i), .int (nI (sW (cR p b gl i)))])), (co, .inr (2, [.ref cr, .int (nI (sT (cR p b gl i))), .int (nI (sH (cR p b gl i))), .int (nI p), .int (nI b)])), (cr, .inl (cI, 9, .inl (fun j => nI ((sF (cR p b gl i)) j)))), (sp, .inr (6, [.int (nI (sL (cR p b gl i))), .int (nI (sU (cR p b gl i)))])), (bi, .inr (0, [.ref r, .int (nI ((sB (cR p b gl i)).length))])), (r, .inl (cI, 658, .inl (fun j => nI (g2 j)))), (cs, .inl (cI, 40, .inl (fun j => nI (cf2 j)))), (o, .inr (4, [.ref or, .int (nI n), .int (nI e), .int (nI p3), .int (nI b3)])), (or, .inl (cI, 40, .inl (fun j => nI (gl j))))] [(0, .ref a), (1, .ref o), (2, .int (nI i))] 0 0 2 [] := by
    intro n9
    induction n9 with
    | zero => intro i g2 cf2 h1 h2 h3 h9; exact absurd h9 (Nat.not_lt_zero _)
    | succ n9 ih =>
      intro i g2 cf2 h1 h2 h3 h9
      refine V_iload_n hC dX1_addAll_2 rfl 2 rfl ?_
      refine V_aload_n hC dX1_addAll_3 rfl 1 rfl ?_
      refine V_getN (ci := 4) (v := .int (nI n)) hC in_X4 7 rfl cls_X4 1 (by decide) fn_X1_61 rfl dX1_addAll_4 ?_
      refine V_icmp_ge (tgt := 26) hC (by omega) (by omega) dX1_addAll_7 (by decide) (fun c7 => ?_) (fun c7 => ?_)
      · have ei9 : i = n := by omega
        subst ei9
        subst hQ
        exact V_vret hC hr hlk (by decide) (by decide) dX1_addAll_26 ((g2, cf2)) [0, 1, 2, 3, 4, 5, 6, 7, 8] rfl (by decide) (⟨h2, h3⟩)
      · refine V_aload_n hC dX1_addAll_10 rfl 0 rfl ?_
        refine V_aload_n hC dX1_addAll_11 rfl 1 rfl ?_
        refine V_iload_n hC dX1_addAll_12 rfl 2 rfl ?_
        refine V_calliV (As := [.int (nI i)]) (rest := [.ref a]) (wr := [(a, .inr (1, [.ref co, .ref sp, .ref bi, .ref cs, .int (nI i), .int (nI (sW (cR p b gl i)))])), (co, .inr (2, [.ref cr, .int (nI (sT (cR p b gl i))), .int (nI (sH (cR p b gl i))), .int (nI p), .int (nI b)])), (cr, .inl (cI, 9, .inl (fun j => nI ((sF (cR p b gl i)) j)))), (sp, .inr (6, [.int (nI (sL (cR p b gl i))), .int (nI (sU (cR p b gl i)))])), (bi, .inr (0, [.ref r, .int (nI ((sB (cR p b gl i)).length))])), (r, .inl (cI, 658, .inl (fun j => nI (g2 j)))), (cs, .inl (cI, 40, .inl (fun j => nI (cf2 j))))]) hC (c_X4_letterAt l D cI cQ o or n e p3 b3 i gl (by omega)) mok_X4_letterAt ml_X1_64 (q1 := 0) rfl cls_X4 rfl rfl rfl (by decide) (by decide) (by decide) (Nat.le_of_ble_eq_true rfl) [7, 8] [0, 1, 2, 3, 4, 5, 6] rfl (by decide) rfl (by decide) (by decide) dX1_addAll_13 rfl (fun r9 u9 h13 => ?_)
        obtain ⟨rfl, h13⟩ := h13
        clear h13
        refine V_perm (ws2 := [(a, .inr (1, [.ref co, .ref sp, .ref bi, .ref cs, .int (nI i), .int (nI (sW (cR p b gl i)))])), (co, .inr (2, [.ref cr, .int (nI (sT (cR p b gl i))), .int (nI (sH (cR p b gl i))), .int (nI p), .int (nI b)])), (cr, .inl (cI, 9, .inl (fun j => nI ((sF (cR p b gl i)) j)))), (sp, .inr (6, [.int (nI (sL (cR p b gl i))), .int (nI (sU (cR p b gl i)))])), (bi, .inr (0, [.ref r, .int (nI ((sB (cR p b gl i)).length))])), (r, .inl (cI, 658, .inl (fun j => nI (g2 j)))), (cs, .inl (cI, 40, .inl (fun j => nI (cf2 j)))), (o, .inr (4, [.ref or, .int (nI n), .int (nI e), .int (nI p3), .int (nI b3)])), (or, .inl (cI, 40, .inl (fun j => nI (gl j))))]) [0, 1, 2, 3, 4, 5, 6, 7, 8] rfl (by decide) ?_
        refine V_calliV (As := [.int (nI (gl i))]) (rest := []) (wr := [(o, .inr (4, [.ref or, .int (nI n), .int (nI e), .int (nI p3), .int (nI b3)])), (or, .inl (cI, 40, .inl (fun j => nI (gl j))))]) hC (c_X1_add l D cI cQ a co sp bi cs i cr r p b (gl i) (cR p b gl i) g2 cf2 (by have := hg i c7; omega) (cR_ok hp hb (fun j hj => hg j (by omega))) (hp) (hb) (h2) (by have := cR_len p b gl i; omega) (by omega)) mok_X1_add ml_X1_68 (q1 := 0) rfl cls_X1 rfl rfl rfl (by decide) (by decide) (by decide) (Nat.le_of_ble_eq_true rfl) [0, 1, 2, 3, 4, 5, 6] [7, 8] rfl (by decide) rfl (by decide) (by decide) dX1_addAll_16 rfl (fun r9 u9 h16 => ?_)
        obtain ⟨g2_1, rfl⟩ : ∃ z, z = u9 := ⟨_, rfl⟩
        obtain ⟨rfl, h16⟩ := h16
        have h16 : rep g2_1 (sB (cAdd p b (cR p b gl i) (gl i))) := h16
        refine V_perm (ws2 := [(a, .inr (1, [.ref co, .ref sp, .ref bi, .ref cs, .int (nI (i + 1)), .int (nI (sW (cAdd p b (cR p b gl i) (gl i))))])), (co, .inr (2, [.ref cr, .int (nI (sT (cAdd p b (cR p b gl i) (gl i)))), .int (nI (sH (cAdd p b (cR p b gl i) (gl i)))), .int (nI p), .int (nI b)])), (cr, .inl (cI, 9, .inl (fun j => nI ((sF (cAdd p b (cR p b gl i) (gl i))) j)))), (sp, .inr (6, [.int (nI (sL (cAdd p b (cR p b gl i) (gl i)))), .int (nI (sU (cAdd p b (cR p b gl i) (gl i))))])), (bi, .inr (0, [.ref r, .int (nI ((sB (cAdd p b (cR p b gl i) (gl i))).length))])), (r, .inl (cI, 658, .inl (fun j => nI (g2_1 j)))), (cs, .inl (cI, 40, .inl (fun j => nI ((va_up cf2 i ((sB (cAdd p b (cR p b gl i) (gl i))).length - (sB (cR p b gl i)).length)) j)))), (o, .inr (4, [.ref or, .int (nI n), .int (nI e), .int (nI p3), .int (nI b3)])), (or, .inl (cI, 40, .inl (fun j => nI (gl j))))]) [2, 3, 4, 5, 6, 7, 8, 0, 1] rfl (by decide) ?_
        refine V_pop hC dX1_addAll_19 rfl ?_
        refine V_iinc (v := (nI (i + 1))) (lv2 := [(0, .ref a), (1, .ref o), (2, .int (nI (i + 1)))]) (q := 2) hC dX1_addAll_20 rfl (nI_add _ _) (by decide) [1, 2, 0] rfl ?_
        refine V_goto (tgt := 2) hC dX1_addAll_23 (by decide) ?_
        refine V_ws (ws2 := [(a, .inr (1, [.ref co, .ref sp, .ref bi, .ref cs, .int (nI (i + 1)), .int (nI (sW (cR p b gl (i + 1))))])), (co, .inr (2, [.ref cr, .int (nI (sT (cR p b gl (i + 1)))), .int (nI (sH (cR p b gl (i + 1)))), .int (nI p), .int (nI b)])), (cr, .inl (cI, 9, .inl (fun j => nI ((sF (cR p b gl (i + 1))) j)))), (sp, .inr (6, [.int (nI (sL (cR p b gl (i + 1)))), .int (nI (sU (cR p b gl (i + 1))))])), (bi, .inr (0, [.ref r, .int (nI ((sB (cR p b gl (i + 1))).length))])), (r, .inl (cI, 658, .inl (fun j => nI (g2_1 j)))), (cs, .inl (cI, 40, .inl (fun j => nI ((va_up cf2 i (cost p b gl i)) j)))), (o, .inr (4, [.ref or, .int (nI n), .int (nI e), .int (nI p3), .int (nI b3)])), (or, .inl (cI, 40, .inl (fun j => nI (gl j))))]) (rfl) ?_
        exact ih (i + 1) g2_1 (va_up cf2 i (cost p b gl i)) (by first | assumption | omega) (by first | assumption | omega) (lt_s (fun j hj => by rw [va_up_ne cf2 _ (show j ≠ i by omega)]; exact h3 j hj) (va_up_self cf2 i _)) (by omega)
  exact L2 _ 0 g cf (by omega) (rep_nil _) (fun j hj => absurd hj (Nat.not_lt_zero j)) (Nat.lt_succ_self _)
abbrev rm_X1_close : Room := { frames := 3, cells := 0, slots := 0, locals := 72 }
set_option maxHeartbeats 4000000 in
set_option maxRecDepth 100000 in
theorem c_X1_close (l : Launch) (D : va_G) (cI cQ : ClassId) (a co sp bi cs siz cr r p b : Nat) (s9 : CS) (g : Nat → Nat) (hS : okS s9) (hr9 : rep g (sB s9)) (hl : (sB s9).length + sW s9 + 18 ≤ 658) : MV l yX1_close cX1_close 1 none rm_X1_close D (TY cI cQ) [.ref a] [(a, .inr (1, [.ref co, .ref sp, .ref bi, .ref cs, .int (nI siz), .int (nI (sW (s9)))])), (co, .inr (2, [.ref cr, .int (nI (sT (s9))), .int (nI (sH (s9))), .int (nI p), .int (nI b)])), (cr, .inl (cI, 9, .inl (fun j => nI ((sF (s9)) j)))), (sp, .inr (6, [.int (nI (sL (s9))), .int (nI (sU (s9)))])), (bi, .inr (0, [.ref r, .int (nI ((sB (s9)).length))])), (r, .inl (cI, 658, .inl (fun j => nI (g j))))] (fun (u : (Nat → Nat)) => rep u (sB (cEnd s9))) (fun (u : (Nat → Nat)) => [(a, .inr (1, [.ref co, .ref sp, .ref bi, .ref cs, .int (nI siz), .int (nI (sW (cEnd s9)))])), (co, .inr (2, [.ref cr, .int (nI (sT (cEnd s9))), .int (nI (sH (cEnd s9))), .int (nI p), .int (nI b)])), (cr, .inl (cI, 9, .inl (fun j => nI ((sF (cEnd s9)) j)))), (sp, .inr (6, [.int (nI (sL (cEnd s9))), .int (nI (sU (cEnd s9)))])), (bi, .inr (0, [.ref r, .int (nI ((sB (cEnd s9)).length))])), (r, .inl (cI, 658, .inl (fun j => nI (u j))))]) 0 0 := by
  refine MV.start (by decide) (Nat.le_of_ble_eq_true rfl) (lv0 := [(0, .ref a)]) rfl ?_
  intro pp9 ee9 ss9 mm9 args9 below9 meth9 co9 A9 Q9 hQ hC hr hlk hnm
  have hle := nrS_len s9 8
  have hnk := nrS_ok hS (by decide : 8 < 9)
  refine V_aload_n hC dX1_close_0 rfl 0 rfl ?_
  refine V_bipush (v := nI 8) hC dX1_close_1 (by decide) ?_
  refine V_callvV (As := [.int (nI 8)]) (rest := []) (wr := []) hC (c_X1_narrow l D cI cQ a co sp bi cs siz (sW (s9)) cr (sT (s9)) (sH (s9)) p b (sL (s9)) (sU (s9)) r ((sB (s9)).length) 8 (sF (s9)) g (sB s9) (by decide) (hS.1) (⟨hS.2.1, hS.2.2.1⟩) (hS.wide) (rfl) (hr9) (by omega)) mok_X1_narrow ml_X1_54 (q1 := 0) rfl cls_X1 rfl rfl rfl (by decide) (by decide) (by decide) (Nat.le_of_ble_eq_true rfl) [0, 1, 2, 3, 4, 5] [] rfl (by decide) rfl (by decide) (by decide) dX1_close_3 rfl (fun u9 h3 => ?_)
  obtain ⟨g2_1, rfl⟩ : ∃ z, z = u9 := ⟨_, rfl⟩
  have h3 : rep g2_1 (nr 16 (shL (sF (s9)) (sT (s9)) 8 (sL (s9)) (sU (s9))) (shU (sF (s9)) (sT (s9)) 8 (sL (s9)) (sU (s9))) (sW (s9)) (sB s9)).2.2.2 := h3
  refine V_perm (ws2 := [(a, .inr (1, [.ref co, .ref sp, .ref bi, .ref cs, .int (nI siz), .int (nI ((nr 16 (shL (sF (s9)) (sT (s9)) 8 (sL (s9)) (sU (s9))) (shU (sF (s9)) (sT (s9)) 8 (sL (s9)) (sU (s9))) (sW (s9)) (sB s9)).2.2.1))])), (co, .inr (2, [.ref cr, .int (nI ((sT (s9)))), .int (nI ((sH (s9)))), .int (nI p), .int (nI b)])), (cr, .inl (cI, 9, .inl (fun j => nI (((sF (s9))) j)))), (sp, .inr (6, [.int (nI ((nr 16 (shL (sF (s9)) (sT (s9)) 8 (sL (s9)) (sU (s9))) (shU (sF (s9)) (sT (s9)) 8 (sL (s9)) (sU (s9))) (sW (s9)) (sB s9)).1)), .int (nI ((nr 16 (shL (sF (s9)) (sT (s9)) 8 (sL (s9)) (sU (s9))) (shU (sF (s9)) (sT (s9)) 8 (sL (s9)) (sU (s9))) (sW (s9)) (sB s9)).2.1))])), (bi, .inr (0, [.ref r, .int (nI ((nr 16 (shL (sF (s9)) (sT (s9)) 8 (sL (s9)) (sU (s9))) (shU (sF (s9)) (sT (s9)) 8 (sL (s9)) (sU (s9))) (sW (s9)) (sB s9)).2.2.2.length))])), (r, .inl (cI, 658, .inl (fun j => nI (g2_1 j))))]) [0, 1, 2, 3, 4, 5] rfl (by decide) ?_
  refine V_ws (ws2 := [(a, .inr (1, [.ref co, .ref sp, .ref bi, .ref cs, .int (nI siz), .int (nI ((nrS s9 8).2.2.1))])), (co, .inr (2, [.ref cr, .int (nI (sT s9)), .int (nI (sH s9)), .int (nI p), .int (nI b)])), (cr, .inl (cI, 9, .inl (fun j => nI ((sF s9) j)))), (sp, .inr (6, [.int (nI ((nrS s9 8).1)), .int (nI ((nrS s9 8).2.1))])), (bi, .inr (0, [.ref r, .int (nI ((nrS s9 8).2.2.2.length))])), (r, .inl (cI, 658, .inl (fun j => nI (g2_1 j))))]) (rfl) ?_
  refine V_aload_n hC dX1_close_6 rfl 0 rfl ?_
  refine V_dup hC dX1_close_7 rfl ?_
  refine V_get (ci := 1) (v := .int (nI ((nrS s9 8).2.2.1))) hC in_X1 0 rfl cls_X1 5 (by decide) fl_X1_40 rfl dX1_close_8 ?_
  refine V_iconst (v := nI 1) hC dX1_close_11 (by decide) ?_
  refine V_iadd hC dX1_close_12 ?_
  refine V_put (ci := 1) (v := .int (nI (((nrS s9 8).2.2.1) + 1))) hC tyX1 tyX1_ok nmX1 in_X1 0 rfl cls_X1 5 (by decide) fl_X1_40 rfl rfl rfl (Nat.le_of_ble_eq_true rfl) dX1_close_13 (ws2 := [(a, .inr (1, [.ref co, .ref sp, .ref bi, .ref cs, .int (nI siz), .int (nI (((nrS s9 8).2.2.1) + 1))])), (co, .inr (2, [.ref cr, .int (nI (sT s9)), .int (nI (sH s9)), .int (nI p), .int (nI b)])), (cr, .inl (cI, 9, .inl (fun j => nI ((sF s9) j)))), (sp, .inr (6, [.int (nI ((nrS s9 8).1)), .int (nI ((nrS s9 8).2.1))])), (bi, .inr (0, [.ref r, .int (nI ((nrS s9 8).2.2.2.length))])), (r, .inl (cI, 658, .inl (fun j => nI (g2_1 j))))]) rfl ?_
  refine V_aload_n hC dX1_close_16 rfl 0 rfl ?_
  refine V_aload_n hC dX1_close_17 rfl 0 rfl ?_
  refine V_get (ci := 1) (v := .ref sp) hC in_X1 0 rfl cls_X1 1 (by decide) fl_X1_21 rfl dX1_close_18 ?_
  refine V_getN (ci := 6) (v := .int (nI ((nrS s9 8).1))) hC in_X6 3 rfl cls_X6 0 (by decide) fn_X1_71 rfl dX1_close_21 ?_
  refine V_sipush (v := nI 16384) hC dX1_close_24 (by decide) ?_
  refine V_icmp_ge (tgt := 34) hC (by omega) (by omega) dX1_close_27 (by decide) (fun c27 => ?_) (fun c27 => ?_)
  · refine V_iconst (v := nI 1) hC dX1_close_34 (by decide) ?_
    refine V_callvV (As := [.int (nI 1)]) (rest := []) (wr := [(co, .inr (2, [.ref cr, .int (nI (sT s9)), .int (nI (sH s9)), .int (nI p), .int (nI b)])), (cr, .inl (cI, 9, .inl (fun j => nI ((sF s9) j)))), (sp, .inr (6, [.int (nI ((nrS s9 8).1)), .int (nI ((nrS s9 8).2.1))]))]) hC (c_X1_writeBit l D cI cQ a co sp bi cs siz (((nrS s9 8).2.2.1) + 1) r ((nrS s9 8).2.2.2.length) 1 g2_1 ((nrS s9 8).2.2.2) (rfl) (h3) (by omega) (by omega)) mok_X1_writeBit ml_X1_74 (q1 := 0) rfl cls_X1 rfl rfl rfl (by decide) (by decide) (by decide) (Nat.le_of_ble_eq_true rfl) [0, 4, 5] [1, 2, 3] rfl (by decide) rfl (by decide) (by decide) dX1_close_35 rfl (fun u9 h35 => ?_)
    obtain ⟨g2_2, rfl⟩ : ∃ z, z = u9 := ⟨_, rfl⟩
    have h35 : rep g2_2 (wB ((nrS s9 8).2.2.2) (((nrS s9 8).2.2.1) + 1) 1) := h35
    refine V_perm (ws2 := [(a, .inr (1, [.ref co, .ref sp, .ref bi, .ref cs, .int (nI siz), .int (nI 0)])), (co, .inr (2, [.ref cr, .int (nI (sT s9)), .int (nI (sH s9)), .int (nI p), .int (nI b)])), (cr, .inl (cI, 9, .inl (fun j => nI ((sF s9) j)))), (sp, .inr (6, [.int (nI ((nrS s9 8).1)), .int (nI ((nrS s9 8).2.1))])), (bi, .inr (0, [.ref r, .int (nI (((nrS s9 8).2.2.2.length) + 1 + (((nrS s9 8).2.2.1) + 1)))])), (r, .inl (cI, 658, .inl (fun j => nI (g2_2 j))))]) [3, 0, 1, 2, 4, 5] rfl (by decide) ?_
    have ece : sB (cEnd s9) = wB (nrS s9 8).2.2.2 ((nrS s9 8).2.2.1 + 1) 1 := by show wB _ _ (if (nrS s9 8).1 < 16384 then 0 else 1) = _; rw [if_neg (show ¬ (nrS s9 8).1 < 16384 by omega)]
    rw [← ece] at h35
    refine V_ws (ws2 := [(a, .inr (1, [.ref co, .ref sp, .ref bi, .ref cs, .int (nI siz), .int (nI (sW (cEnd s9)))])), (co, .inr (2, [.ref cr, .int (nI (sT (cEnd s9))), .int (nI (sH (cEnd s9))), .int (nI p), .int (nI b)])), (cr, .inl (cI, 9, .inl (fun j => nI ((sF (cEnd s9)) j)))), (sp, .inr (6, [.int (nI (sL (cEnd s9))), .int (nI (sU (cEnd s9)))])), (bi, .inr (0, [.ref r, .int (nI ((sB (cEnd s9)).length))])), (r, .inl (cI, 658, .inl (fun j => nI (g2_2 j))))]) (by rw [show (sB (cEnd s9)).length = (nrS s9 8).2.2.2.length + 1 + ((nrS s9 8).2.2.1 + 1) by rw [ece, wB_len]]; rfl) ?_
    subst hQ
    exact V_vret hC hr hlk (by decide) (by decide) dX1_close_38 (g2_2) [0, 1, 2, 3, 4, 5] rfl (by decide) (h35)
  · refine V_iconst (v := nI 0) hC dX1_close_30 (by decide) ?_
    refine V_goto (tgt := 35) hC dX1_close_31 (by decide) ?_
    refine V_callvV (As := [.int (nI 0)]) (rest := []) (wr := [(co, .inr (2, [.ref cr, .int (nI (sT s9)), .int (nI (sH s9)), .int (nI p), .int (nI b)])), (cr, .inl (cI, 9, .inl (fun j => nI ((sF s9) j)))), (sp, .inr (6, [.int (nI ((nrS s9 8).1)), .int (nI ((nrS s9 8).2.1))]))]) hC (c_X1_writeBit l D cI cQ a co sp bi cs siz (((nrS s9 8).2.2.1) + 1) r ((nrS s9 8).2.2.2.length) 0 g2_1 ((nrS s9 8).2.2.2) (rfl) (h3) (by omega) (by omega)) mok_X1_writeBit ml_X1_74 (q1 := 0) rfl cls_X1 rfl rfl rfl (by decide) (by decide) (by decide) (Nat.le_of_ble_eq_true rfl) [0, 4, 5] [1, 2, 3] rfl (by decide) rfl (by decide) (by decide) dX1_close_35 rfl (fun u9 h35 => ?_)
    obtain ⟨g2_3, rfl⟩ : ∃ z, z = u9 := ⟨_, rfl⟩
    have h35 : rep g2_3 (wB ((nrS s9 8).2.2.2) (((nrS s9 8).2.2.1) + 1) 0) := h35
    refine V_perm (ws2 := [(a, .inr (1, [.ref co, .ref sp, .ref bi, .ref cs, .int (nI siz), .int (nI 0)])), (co, .inr (2, [.ref cr, .int (nI (sT s9)), .int (nI (sH s9)), .int (nI p), .int (nI b)])), (cr, .inl (cI, 9, .inl (fun j => nI ((sF s9) j)))), (sp, .inr (6, [.int (nI ((nrS s9 8).1)), .int (nI ((nrS s9 8).2.1))])), (bi, .inr (0, [.ref r, .int (nI (((nrS s9 8).2.2.2.length) + 1 + (((nrS s9 8).2.2.1) + 1)))])), (r, .inl (cI, 658, .inl (fun j => nI (g2_3 j))))]) [3, 0, 1, 2, 4, 5] rfl (by decide) ?_
    have ece : sB (cEnd s9) = wB (nrS s9 8).2.2.2 ((nrS s9 8).2.2.1 + 1) 0 := by show wB _ _ (if (nrS s9 8).1 < 16384 then 0 else 1) = _; rw [if_pos (show (nrS s9 8).1 < 16384 by omega)]
    rw [← ece] at h35
    refine V_ws (ws2 := [(a, .inr (1, [.ref co, .ref sp, .ref bi, .ref cs, .int (nI siz), .int (nI (sW (cEnd s9)))])), (co, .inr (2, [.ref cr, .int (nI (sT (cEnd s9))), .int (nI (sH (cEnd s9))), .int (nI p), .int (nI b)])), (cr, .inl (cI, 9, .inl (fun j => nI ((sF (cEnd s9)) j)))), (sp, .inr (6, [.int (nI (sL (cEnd s9))), .int (nI (sU (cEnd s9)))])), (bi, .inr (0, [.ref r, .int (nI ((sB (cEnd s9)).length))])), (r, .inl (cI, 658, .inl (fun j => nI (g2_3 j))))]) (by rw [show (sB (cEnd s9)).length = (nrS s9 8).2.2.2.length + 1 + ((nrS s9 8).2.2.1 + 1) by rw [ece, wB_len]]; rfl) ?_
    subst hQ
    exact V_vret hC hr hlk (by decide) (by decide) dX1_close_38 (g2_3) [0, 1, 2, 3, 4, 5] rfl (by decide) (h35)
abbrev rm_X1_costAt : Room := { frames := 0, cells := 0, slots := 0, locals := 0 }
set_option maxHeartbeats 4000000 in
set_option maxRecDepth 100000 in
theorem c_X1_costAt (l : Launch) (D : va_G) (cI cQ : ClassId) (a co sp bi cs siz w i : Nat) (cf : Nat → Nat) (hi : i < 40) : MI l yX1_costAt cX1_costAt 2 (some .int) rm_X1_costAt D (TY cI cQ) [.ref a, .int (nI i)] [(a, .inr (1, [.ref co, .ref sp, .ref bi, .ref cs, .int (nI siz), .int (nI w)])), (cs, .inl (cI, 40, .inl (fun j => nI (cf j))))] (fun (r9 : Int32) (u : Unit) => r9 = (nI (cf i)) ∧ True) (fun (u : Unit) => [(a, .inr (1, [.ref co, .ref sp, .ref bi, .ref cs, .int (nI siz), .int (nI w)])), (cs, .inl (cI, 40, .inl (fun j => nI (cf j))))]) 0 0 := by
  refine MI.start (by decide) (Nat.le_of_ble_eq_true rfl) (lv0 := [(0, .ref a), (1, .int (nI i))]) rfl ?_
  intro pp9 ee9 ss9 mm9 args9 below9 meth9 co9 A9 Q9 hQ hC hr hlk hnm
  refine V_iload_n hC dX1_costAt_0 rfl 1 rfl ?_
  refine V_if_lt_F (tgt := 22) hC dX1_costAt_1 (by decide) (nI_pos (by omega)) ?_
  refine V_iload_n hC dX1_costAt_4 rfl 1 rfl ?_
  refine V_aload_n hC dX1_costAt_5 rfl 0 rfl ?_
  refine V_get (ci := 1) (v := .ref cs) hC in_X1 0 rfl cls_X1 3 (by decide) fl_X1_32 rfl dX1_costAt_6 ?_
  refine V_alen (v := (nI 40)) hC 1 0 rfl rfl rfl dX1_costAt_9 ?_
  refine V_icmp_ge_F (tgt := 22) hC dX1_costAt_10 (by decide) (nI_ge (by omega) (by omega)) ?_
  refine V_aload_n hC dX1_costAt_13 rfl 0 rfl ?_
  refine V_get (ci := 1) (v := .ref cs) hC in_X1 0 rfl cls_X1 3 (by decide) fl_X1_32 rfl dX1_costAt_14 ?_
  refine V_iload_n hC dX1_costAt_17 rfl 1 rfl ?_
  refine V_iald hC 1 0 rfl rfl (by omega) (by decide) dX1_costAt_18 ?_
  refine V_goto (tgt := 23) hC dX1_costAt_19 (by decide) ?_
  subst hQ
  exact V_iret hC hr hlk rfl (by decide) (by decide) dX1_costAt_23 (()) [0, 1] rfl (by decide) (⟨rfl, trivial⟩)
abbrev rm_X1_dearest : Room := { frames := 1, cells := 0, slots := 0, locals := 21 }
set_option maxHeartbeats 4000000 in
set_option maxRecDepth 100000 in
theorem c_X1_dearest (l : Launch) (D : va_G) (cI cQ : ClassId) (a co sp bi cs siz w : Nat) (cf : Nat → Nat) (hz : siz ≤ 40) (hcf : ∀ j, j < siz → cf j < 100000) : MI l yX1_dearest cX1_dearest 3 (some .int) rm_X1_dearest D (TY cI cQ) [.ref a] [(a, .inr (1, [.ref co, .ref sp, .ref bi, .ref cs, .int (nI siz), .int (nI w)])), (cs, .inl (cI, 40, .inl (fun j => nI (cf j))))] (fun (r9 : Int32) (u : Unit) => r9 = (nI (mxF cf siz)) ∧ True) (fun (u : Unit) => [(a, .inr (1, [.ref co, .ref sp, .ref bi, .ref cs, .int (nI siz), .int (nI w)])), (cs, .inl (cI, 40, .inl (fun j => nI (cf j))))]) 0 0 := by
  refine MI.start (by decide) (Nat.le_of_ble_eq_true rfl) (lv0 := [(0, .ref a)]) rfl ?_
  intro pp9 ee9 ss9 mm9 args9 below9 meth9 co9 A9 Q9 hQ hC hr hlk hnm
  refine V_iconst (v := nI 0) hC dX1_dearest_0 (by decide) ?_
  refine V_istore_n (lv2 := [(0, .ref a), (1, .int (nI 0))]) hC dX1_dearest_1 rfl (by decide) [1, 0] rfl ?_
  refine V_iconst (v := nI 0) hC dX1_dearest_2 (by decide) ?_
  refine V_istore_n (lv2 := [(0, .ref a), (1, .int (nI 0)), (2, .int (nI 0))]) hC dX1_dearest_3 rfl (by decide) [1, 2, 0] rfl ?_
  have L4 : ∀ (n9 : Nat) (i : Nat) (mx : Nat), (i ≤ siz) → (mx = mxF cf i) → (mx < 100000) → siz - i < n9 → V pp9 l ee9 rm_X1_dearest ss9 mm9 args9 below9 meth9 co9 D A9 ss9.heap 3 Q9 [(a, .inr (1, [.ref co, .ref sp, .ref bi, .ref cs, .int (nI siz), .int (nI w)])), (cs, .inl (cI, 40, .inl (fun j => nI (cf j))))] [(0, .ref a), (1, .int (nI mx)), (2, .int (nI i))] 0 0 4 [] := by
    intro n9
    induction n9 with
    | zero => intro i mx h1 h2 h3 h9; exact absurd h9 (Nat.not_lt_zero _)
    | succ n9 ih =>
      intro i mx h1 h2 h3 h9
      refine V_iload_n hC dX1_dearest_4 rfl 2 rfl ?_
      refine V_aload_n hC dX1_dearest_5 rfl 0 rfl ?_
      refine V_get (ci := 1) (v := .int (nI siz)) hC in_X1 0 rfl cls_X1 4 (by decide) fl_X1_36 rfl dX1_dearest_6 ?_
      refine V_icmp_ge (tgt := 28) hC (by omega) (by omega) dX1_dearest_9 (by decide) (fun c9 => ?_) (fun c9 => ?_)
      · refine V_iload_n hC dX1_dearest_28 rfl 1 rfl ?_
        subst hQ
        exact V_iret hC hr hlk rfl (by decide) (by decide) dX1_dearest_29 (()) [0, 1] rfl (by decide) (⟨by rw [h2, show i = siz by omega], trivial⟩)
      · refine V_iload_n hC dX1_dearest_12 rfl 1 rfl ?_
        refine V_aload_n hC dX1_dearest_13 rfl 0 rfl ?_
        refine V_iload_n hC dX1_dearest_14 rfl 2 rfl ?_
        refine V_calliV (As := [.int (nI i)]) (rest := [.int (nI mx)]) (wr := []) hC (c_X1_costAt l D cI cQ a co sp bi cs siz w i cf (by omega)) mok_X1_costAt ml_X1_77 (q1 := 0) rfl cls_X1 rfl rfl rfl (by decide) (by decide) (by decide) (Nat.le_of_ble_eq_true rfl) [0, 1] [] rfl (by decide) rfl (by decide) (by decide) dX1_dearest_15 rfl (fun r9 u9 h15 => ?_)
        obtain ⟨rfl, h15⟩ := h15
        clear h15
        refine V_perm (ws2 := [(a, .inr (1, [.ref co, .ref sp, .ref bi, .ref cs, .int (nI siz), .int (nI w)])), (cs, .inl (cI, 40, .inl (fun j => nI (cf j))))]) [0, 1] rfl (by decide) ?_
        have hci := hcf i c9
        refine V_mmax hC ml_X1_80 stt_max ini_Math cd_max (by omega) (by omega) (by decide) (Nat.le_of_ble_eq_true rfl) (by decide) (by decide) dX1_dearest_18 ?_
        refine V_istore_n (lv2 := [(0, .ref a), (1, .int (nI (max mx (cf i)))), (2, .int (nI i))]) hC dX1_dearest_21 rfl (by decide) [1, 0, 2] rfl ?_
        refine V_iinc (v := (nI (i + 1))) (lv2 := [(0, .ref a), (1, .int (nI (max mx (cf i)))), (2, .int (nI (i + 1)))]) (q := 2) hC dX1_dearest_22 rfl (nI_add _ _) (by decide) [1, 2, 0] rfl ?_
        refine V_goto (tgt := 4) hC dX1_dearest_25 (by decide) ?_
        exact ih (i + 1) (max mx (cf i)) (by omega) (by rw [h2, mxF]) (by have := hcf i c9; omega) (by omega)
  exact L4 _ 0 0 (by omega) (rfl) (by omega) (Nat.lt_succ_self _)
end
section
/-! reading -/
theorem lwA_spec {f : Nat → Nat} {x : Nat} : ∀ (m j : Nat), m + j = 9 → x < cB f 9 → cB f j ≤ x → lwA f x m j < 9 ∧ cB f (lwA f x m j) ≤ x ∧ x < cB f (lwA f x m j + 1)
  | 0, j, h, h1, h2 => by rw [show j = 9 by omega] at h2; omega
  | m + 1, j, h, h1, h2 => by
    rw [lwA]
    by_cases q : x < cB f (j + 1)
    · rw [if_pos q]; exact ⟨by omega, h2, q⟩
    · rw [if_neg q]; exact lwA_spec m (j + 1) (by omega) h1 (by omega)
theorem lw_spec {f : Nat → Nat} {x : Nat} (h : x < cB f 9) : lw f x < 9 ∧ cB f (lw f x) ≤ x ∧ x < cB f (lw f x + 1) := lwA_spec 9 0 rfl h (Nat.zero_le _)
def lwX (f : Nat → Nat) (t lo hi v : Nat) : Nat := lw f (((v - lo + 1) * t - 1) / (hi - lo + 1))
theorem lwX_lt {f : Nat → Nat} {t lo hi v : Nat} (hc : okC f t) (hv : lo ≤ v ∧ v ≤ hi) : ((v - lo + 1) * t - 1) / (hi - lo + 1) < cB f 9 := by
  rw [← hc.2.1]
  apply (Nat.div_lt_iff_lt_mul (by omega)).mpr
  have h9 := hc.t9
  have h1 : (v - lo + 1) * t ≤ (hi - lo + 1) * t := Nat.mul_le_mul_right _ (by omega)
  have h2 : 1 ≤ (v - lo + 1) * t := Nat.mul_pos (by omega) (by omega)
  rw [Nat.mul_comm t]
  omega
/-- the number stays within the span of the letter that it tells -/
theorem lwX_in {f : Nat → Nat} {t lo hi v : Nat} (hc : okC f t) (hv : lo ≤ v ∧ v ≤ hi) : lwX f t lo hi v < 9 ∧ shL f t (lwX f t lo hi v) lo hi ≤ v ∧ v ≤ shU f t (lwX f t lo hi v) lo hi := by
  have h := lw_spec (lwX_lt hc hv)
  have h9 := hc.t9
  refine ⟨h.1, ?_⟩
  show shL f t (lw f (((v - lo + 1) * t - 1) / (hi - lo + 1))) lo hi ≤ v ∧ v ≤ shU f t (lw f (((v - lo + 1) * t - 1) / (hi - lo + 1))) lo hi
  generalize lw f (((v - lo + 1) * t - 1) / (hi - lo + 1)) = k at *
  obtain ⟨hk, h1, h2⟩ := h
  have h3 : cB f k * (hi - lo + 1) ≤ (v - lo + 1) * t - 1 := (Nat.le_div_iff_mul_le (by omega)).mp h1
  have h4 : (v - lo + 1) * t - 1 < cB f (k + 1) * (hi - lo + 1) := (Nat.div_lt_iff_lt_mul (by omega)).mp h2
  have h5 : 1 ≤ (v - lo + 1) * t := Nat.mul_pos (by omega) (by omega)
  have a1 : (hi - lo + 1) * cB f k / t < v - lo + 1 := (Nat.div_lt_iff_lt_mul (by omega)).mpr (by rw [Nat.mul_comm (hi - lo + 1)]; omega)
  have a2 : v - lo + 1 ≤ (hi - lo + 1) * (cB f k + f k) / t := (Nat.le_div_iff_mul_le (by omega)).mpr (by rw [Nat.mul_comm (hi - lo + 1)]; rw [cB] at h4; omega)
  unfold shL shU
  generalize (hi - lo + 1) * (cB f k + f k) / t = X1 at *
  generalize (hi - lo + 1) * cB f k / t = X2 at *
  omega
/-- the number of the first n bits -/
def v16 (β : Nat → Nat) : Nat → Nat
  | 0 => 0
  | n + 1 => v16 β n * 2 + β n
theorem v16_lt {β : Nat → Nat} (h : ∀ j, β j < 2) : ∀ n : Nat, v16 β n < 2 ^ n
  | 0 => (by decide : 0 < 2 ^ 0)
  | n + 1 => by
    have h1 := v16_lt h n
    have h2 := h n
    have e : 2 ^ (n + 1) = 2 * 2 ^ n := by rw [Nat.pow_succ, Nat.mul_comm]
    rw [v16, e]
    omega
/-- doubling while reading: the span, the number, how many bits are taken -/
def nv (β : Nat → Nat) : Nat → Nat → Nat → Nat → Nat → Nat × Nat × Nat × Nat
  | 0, lo, hi, v, tk => (lo, hi, v, tk)
  | n + 1, lo, hi, v, tk => if wO lo hi = 1 then (lo, hi, v, tk) else nv β n ((lo - wO lo hi) * 2) ((hi - wO lo hi) * 2 + 1) ((v - wO lo hi) * 2 + β tk) (tk + 1)
theorem nv_stop {β : Nat → Nat} {m lo hi v tk : Nat} (h : wO lo hi = 1) : nv β m lo hi v tk = (lo, hi, v, tk) := by
  cases m with
  | zero => rfl
  | succ m => rw [nv, if_pos h]
theorem nv_go {β : Nat → Nat} {m lo hi v tk : Nat} (h : wO lo hi ≠ 1) : nv β (m + 1) lo hi v tk = nv β m ((lo - wO lo hi) * 2) ((hi - wO lo hi) * 2 + 1) ((v - wO lo hi) * 2 + β tk) (tk + 1) := by rw [nv, if_neg h]
theorem nv_ok {β : Nat → Nat} (hβ : ∀ j, β j < 2) : ∀ (m lo hi v tk : Nat), lo ≤ v ∧ v ≤ hi ∧ hi ≤ 65535 → 65536 ≤ (hi - lo + 1) * 2 ^ m → (nv β m lo hi v tk).1 ≤ (nv β m lo hi v tk).2.2.1 ∧ (nv β m lo hi v tk).2.2.1 ≤ (nv β m lo hi v tk).2.1 ∧ (nv β m lo hi v tk).2.1 ≤ 65535 ∧ wO (nv β m lo hi v tk).1 (nv β m lo hi v tk).2.1 = 1 ∧ (nv β m lo hi v tk).2.2.2 ≤ tk + m
  | 0, lo, hi, v, tk, h, hm => by
    show lo ≤ v ∧ v ≤ hi ∧ hi ≤ 65535 ∧ wO lo hi = 1 ∧ tk ≤ tk + 0
    have := wO_cases lo hi
    omega
  | m + 1, lo, hi, v, tk, h, hm => by
    have hc := wO_cases lo hi
    have e : 2 ^ (m + 1) = 2 * 2 ^ m := by rw [Nat.pow_succ, Nat.mul_comm]
    by_cases h1 : wO lo hi = 1
    · rw [nv_stop h1]; exact ⟨h.1, h.2.1, h.2.2, h1, Nat.le_add_right _ _⟩
    · have hb := hβ tk
      have hr : 65536 ≤ ((hi - wO lo hi) * 2 + 1 - (lo - wO lo hi) * 2 + 1) * 2 ^ m := by
        have e2 : (hi - wO lo hi) * 2 + 1 - (lo - wO lo hi) * 2 + 1 = (hi - lo + 1) * 2 := by omega
        rw [e2, Nat.mul_assoc, ← e]; exact hm
      rw [nv_go h1]
      have := nv_ok hβ m ((lo - wO lo hi) * 2) ((hi - wO lo hi) * 2 + 1) ((v - wO lo hi) * 2 + β tk) (tk + 1) (by omega) hr
      omega
/-- a reader's state: counts, total, halvings, low, high, number, taken, letters -/
abbrev RS : Type := (Nat → Nat) × Nat × Nat × Nat × Nat × Nat × Nat × List Nat
def qF (s : RS) : Nat → Nat := s.1
def qT (s : RS) : Nat := s.2.1
def qH (s : RS) : Nat := s.2.2.1
def qL (s : RS) : Nat := s.2.2.2.1
def qU (s : RS) : Nat := s.2.2.2.2.1
def qV (s : RS) : Nat := s.2.2.2.2.2.1
def qK (s : RS) : Nat := s.2.2.2.2.2.2.1
def qR (s : RS) : List Nat := s.2.2.2.2.2.2.2
def rd0 (β : Nat → Nat) : RS := (one, 9, 0, 0, 65535, v16 β 16, 16, [])
def lwS (s : RS) : Nat := lwX (qF s) (qT s) (qL s) (qU s) (qV s)
def nvS (β : Nat → Nat) (s : RS) (k : Nat) : Nat × Nat × Nat × Nat := nv β 16 (shL (qF s) (qT s) k (qL s) (qU s)) (shU (qF s) (qT s) k (qL s) (qU s)) (qV s) (qK s)
def rStep (p b : Nat) (β : Nat → Nat) (s : RS) : RS := (lrF p b (qF s) (qT s) (lwS s), lrT p b (qF s) (qT s) (lwS s), lrH p b (qT s) (qH s), (nvS β s (lwS s)).1, (nvS β s (lwS s)).2.1, (nvS β s (lwS s)).2.2.1, (nvS β s (lwS s)).2.2.2, qR s ++ [lwS s])
def rdd (p b : Nat) (β : Nat → Nat) : Nat → RS → Nat × RS
  | 0, s => (0, s)
  | m + 1, s => if lwS s = 8 then (1, s) else if (qR s).length < 40 then rdd p b β m (rStep p b β s) else (0, s)
def okR (s : RS) : Prop := okC (qF s) (qT s) ∧ qL s ≤ qV s ∧ qV s ≤ qU s ∧ qU s ≤ 65535 ∧ wO (qL s) (qU s) = 1 ∧ qK s ≤ 16 + 16 * (qR s).length ∧ (qR s).length ≤ 40
theorem okR.wide {s : RS} (h : okR s) : qT s ≤ qU s - qL s + 1 := by
  have := wO_cases (qL s) (qU s)
  have := h.1.2.2
  have := h.2
  omega
theorem okR_0 {β : Nat → Nat} (h : ∀ j, β j < 2) : okR (rd0 β) := by
  have h1 := v16_lt h 16
  refine ⟨okC_one, Nat.zero_le _, ?_, (by decide : 65535 ≤ 65535), (by decide : wO 0 65535 = 1), Nat.le_refl _, (by decide : 0 ≤ 40)⟩
  show v16 β 16 ≤ 65535
  omega
theorem okR.lw {s : RS} (h : okR s) : lwS s < 9 ∧ shL (qF s) (qT s) (lwS s) (qL s) (qU s) ≤ qV s ∧ qV s ≤ shU (qF s) (qT s) (lwS s) (qL s) (qU s) := lwX_in h.1 ⟨h.2.1, h.2.2.1⟩
theorem okR.step {p b : Nat} {β : Nat → Nat} {s : RS} (hβ : ∀ j, β j < 2) (h : okR s) (hp : p ≤ 64) (hb : b ≤ 2000) (hn : (qR s).length < 40) : okR (rStep p b β s) := by
  have hl := h.lw
  have h1 := sh_ok h.1 hl.1 ⟨Nat.le_trans h.2.1 h.2.2.1, h.2.2.2.1⟩ h.wide
  have h2 := h.2.2.2.1
  have h3 := nv_ok hβ 16 (shL (qF s) (qT s) (lwS s) (qL s) (qU s)) (shU (qF s) (qT s) (lwS s) (qL s) (qU s)) (qV s) (qK s) (by omega) (by
    have : 1 * 2 ^ 16 ≤ (shU (qF s) (qT s) (lwS s) (qL s) (qU s) - shL (qF s) (qT s) (lwS s) (qL s) (qU s) + 1) * 2 ^ 16 := Nat.mul_le_mul_right _ (by omega)
    exact this)
  refine ⟨h.1.lr hp hb hl.1, h3.1, h3.2.1, h3.2.2.1, h3.2.2.2.1, ?_, ?_⟩
  · have e1 : (qR (rStep p b β s)).length = (qR s).length + 1 := by show (qR s ++ [lwS s]).length = _; rw [List.length_append, List.length_singleton]
    have h4 := h.2.2.2.2.2.1
    have h5 := h3.2.2.2.2
    rw [e1]
    show (nvS β s (lwS s)).2.2.2 ≤ _
    unfold nvS
    omega
  · show (qR s ++ [lwS s]).length ≤ 40
    rw [List.length_append, List.length_singleton]
    omega
theorem rdd_end {p b m : Nat} {β : Nat → Nat} {s : RS} (h : lwS s = 8) : rdd p b β (m + 1) s = (1, s) := by rw [rdd, if_pos h]
theorem rdd_go {p b m : Nat} {β : Nat → Nat} {s : RS} (h : lwS s ≠ 8) (h2 : (qR s).length < 40) : rdd p b β (m + 1) s = rdd p b β m (rStep p b β s) := by rw [rdd, if_neg h, if_pos h2]
theorem rdd_full {p b m : Nat} {β : Nat → Nat} {s : RS} (h : lwS s ≠ 8) (h2 : ¬ (qR s).length < 40) : rdd p b β m s = (0, s) := by
  cases m with
  | zero => rfl
  | succ m => rw [rdd, if_neg h, if_neg h2]
theorem rdd_ok {p b : Nat} {β : Nat → Nat} (hβ : ∀ j, β j < 2) (hp : p ≤ 64) (hb : b ≤ 2000) : ∀ (m : Nat) (s : RS), okR s → okR (rdd p b β m s).2 ∧ (rdd p b β m s).1 < 2
  | 0, s, h => ⟨h, (by decide : 0 < 2)⟩
  | m + 1, s, h => by
    by_cases h1 : lwS s = 8
    · rw [rdd_end h1]; exact ⟨h, (by decide : 1 < 2)⟩
    · by_cases h2 : (qR s).length < 40
      · rw [rdd_go h1 h2]; exact rdd_ok hβ hp hb m _ (h.step hβ hp hb h2)
      · rw [rdd_full h1 h2]; exact ⟨h, (by decide : 0 < 2)⟩
theorem rdd_lt {p b : Nat} {β : Nat → Nat} (hβ : ∀ j, β j < 2) (hp : p ≤ 64) (hb : b ≤ 2000) : ∀ (m : Nat) (s : RS), okR s → (∀ x, x ∈ qR s → x < 9) → ∀ x, x ∈ qR (rdd p b β m s).2 → x < 9
  | 0, s, h, hx => hx
  | m + 1, s, h, hx => by
    by_cases h1 : lwS s = 8
    · rw [rdd_end h1]; exact hx
    · by_cases h2 : (qR s).length < 40
      · rw [rdd_go h1 h2]
        refine rdd_lt hβ hp hb m _ (h.step hβ hp hb h2) (fun x hm => ?_)
        rcases List.mem_append.mp (show x ∈ qR s ++ [lwS s] from hm) with q | q
        · exact hx x q
        · rw [List.mem_singleton.mp q]; exact h.lw.1
      · rw [rdd_full h1 h2]; exact hx
/-- what reading tells: over or not, and the reader behind it -/
def rdF (p b : Nat) (β : Nat → Nat) : Nat × RS := rdd p b β 41 (rd0 β)
/-- how often a letter stands among the first n -/
def hO (g : Nat → Nat) (k : Nat) : Nat → Nat
  | 0 => 0
  | n + 1 => hO g k n + if g n = k then 1 else 0
theorem hO_le (g : Nat → Nat) (k : Nat) : ∀ n : Nat, hO g k n ≤ n
  | 0 => Nat.le_refl _
  | n + 1 => by
    have := hO_le g k n
    rw [hO]
    by_cases q : g n = k <;> simp [q] <;> omega
/-- the first character that tells no bit, or the length -/
def stA (f : Nat → Nat) : Nat → Nat → Nat
  | 0, j => j
  | m + 1, j => if f j = 48 ∨ f j = 49 then stA f m (j + 1) else j
def st (f : Nat → Nat) (n : Nat) : Nat := stA f n 0
/-- the history's rows, one state more -/
def hup {α : Type} (F : Nat → α) (sz : Nat) (x : α) : Nat → α := if sz < 4 then va_up F sz x else va_up (fun j => F (j + 1)) 3 x
def hsz (sz : Nat) : Nat := if sz < 4 then sz + 1 else 4
def hq (m0 m1 m2 m3 : Nat) : Nat → Option Nat := va_up (va_up (va_up (va_up (fun _ => none) 0 (some m0)) 1 (some m1)) 2 (some m2)) 3 (some m3)
end
section
abbrev rm_X4_append : Room := { frames := 0, cells := 0, slots := 0, locals := 0 }
set_option maxHeartbeats 4000000 in
set_option maxRecDepth 100000 in
theorem c_X4_append (l : Launch) (D : va_G) (cI cQ : ClassId) (a r n e p b x : Nat) (g : Nat → Nat) (hn : n < 40) : MV l yX4_append cX4_append 2 none rm_X4_append D (TY cI cQ) [.ref a, .int (nI x)] [(a, .inr (4, [.ref r, .int (nI n), .int (nI e), .int (nI p), .int (nI b)])), (r, .inl (cI, 40, .inl (fun j => nI (g j))))] (fun (u : Unit) => True) (fun (u : Unit) => [(a, .inr (4, [.ref r, .int (nI (n + 1)), .int (nI e), .int (nI p), .int (nI b)])), (r, .inl (cI, 40, .inl (fun j => nI ((va_up g n x) j))))]) 0 0 := by
  refine MV.start (by decide) (Nat.le_of_ble_eq_true rfl) (lv0 := [(0, .ref a), (1, .int (nI x))]) rfl ?_
  intro pp9 ee9 ss9 mm9 args9 below9 meth9 co9 A9 Q9 hQ hC hr hlk hnm
  refine V_aload_n hC dX4_append_0 rfl 0 rfl ?_
  refine V_get (ci := 4) (v := .int (nI n)) hC in_X4 0 rfl cls_X4 1 (by decide) fl_X4_15 rfl dX4_append_1 ?_
  refine V_if_lt_F (tgt := 39) hC dX4_append_4 (by decide) (nI_pos (by omega)) ?_
  refine V_aload_n hC dX4_append_7 rfl 0 rfl ?_
  refine V_get (ci := 4) (v := .int (nI n)) hC in_X4 0 rfl cls_X4 1 (by decide) fl_X4_15 rfl dX4_append_8 ?_
  refine V_aload_n hC dX4_append_11 rfl 0 rfl ?_
  refine V_get (ci := 4) (v := .ref r) hC in_X4 0 rfl cls_X4 0 (by decide) fl_X4_9 rfl dX4_append_12 ?_
  refine V_alen (v := (nI 40)) hC 1 0 rfl rfl rfl dX4_append_15 ?_
  refine V_icmp_ge_F (tgt := 39) hC dX4_append_16 (by decide) (nI_ge (by omega) (by omega)) ?_
  refine V_aload_n hC dX4_append_19 rfl 0 rfl ?_
  refine V_get (ci := 4) (v := .ref r) hC in_X4 0 rfl cls_X4 0 (by decide) fl_X4_9 rfl dX4_append_20 ?_
  refine V_aload_n hC dX4_append_23 rfl 0 rfl ?_
  refine V_get (ci := 4) (v := .int (nI n)) hC in_X4 0 rfl cls_X4 1 (by decide) fl_X4_15 rfl dX4_append_24 ?_
  refine V_iload_n hC dX4_append_27 rfl 1 rfl ?_
  refine V_iast hC 1 0 rfl rfl (by omega) (by decide) dX4_append_28 (ws2 := [(a, .inr (4, [.ref r, .int (nI n), .int (nI e), .int (nI p), .int (nI b)])), (r, .inl (cI, 40, .inl (fun j => nI ((va_up g n x) j))))]) rfl ?_
  refine V_aload_n hC dX4_append_29 rfl 0 rfl ?_
  refine V_dup hC dX4_append_30 rfl ?_
  refine V_get (ci := 4) (v := .int (nI n)) hC in_X4 0 rfl cls_X4 1 (by decide) fl_X4_15 rfl dX4_append_31 ?_
  refine V_iconst (v := nI 1) hC dX4_append_34 (by decide) ?_
  refine V_iadd hC dX4_append_35 ?_
  refine V_put (ci := 4) (v := .int (nI (n + 1))) hC tyX4 tyX4_ok nmX4 in_X4 0 rfl cls_X4 1 (by decide) fl_X4_15 rfl rfl rfl (Nat.le_of_ble_eq_true rfl) dX4_append_36 (ws2 := [(a, .inr (4, [.ref r, .int (nI (n + 1)), .int (nI e), .int (nI p), .int (nI b)])), (r, .inl (cI, 40, .inl (fun j => nI ((va_up g n x) j))))]) rfl ?_
  subst hQ
  exact V_vret hC hr hlk (by decide) (by decide) dX4_append_39 (()) [0, 1] rfl (by decide) (trivial)
abbrev rm_X4_replace : Room := { frames := 0, cells := 0, slots := 0, locals := 0 }
set_option maxHeartbeats 4000000 in
set_option maxRecDepth 100000 in
theorem c_X4_replace (l : Launch) (D : va_G) (cI cQ : ClassId) (a r n e p b i x : Nat) (g : Nat → Nat) (hi : i < 40) : MV l yX4_replace cX4_replace 3 none rm_X4_replace D (TY cI cQ) [.ref a, .int (nI i), .int (nI x)] [(a, .inr (4, [.ref r, .int (nI n), .int (nI e), .int (nI p), .int (nI b)])), (r, .inl (cI, 40, .inl (fun j => nI (g j))))] (fun (u : Unit) => True) (fun (u : Unit) => [(a, .inr (4, [.ref r, .int (nI n), .int (nI e), .int (nI p), .int (nI b)])), (r, .inl (cI, 40, .inl (fun j => nI ((va_up g i x) j))))]) 0 0 := by
  refine MV.start (by decide) (Nat.le_of_ble_eq_true rfl) (lv0 := [(0, .ref a), (1, .int (nI i)), (2, .int (nI x))]) rfl ?_
  intro pp9 ee9 ss9 mm9 args9 below9 meth9 co9 A9 Q9 hQ hC hr hlk hnm
  refine V_iload_n hC dX4_replace_0 rfl 1 rfl ?_
  refine V_if_lt_F (tgt := 20) hC dX4_replace_1 (by decide) (nI_pos (by omega)) ?_
  refine V_iload_n hC dX4_replace_4 rfl 1 rfl ?_
  refine V_aload_n hC dX4_replace_5 rfl 0 rfl ?_
  refine V_get (ci := 4) (v := .ref r) hC in_X4 0 rfl cls_X4 0 (by decide) fl_X4_9 rfl dX4_replace_6 ?_
  refine V_alen (v := (nI 40)) hC 1 0 rfl rfl rfl dX4_replace_9 ?_
  refine V_icmp_ge_F (tgt := 20) hC dX4_replace_10 (by decide) (nI_ge (by omega) (by omega)) ?_
  refine V_aload_n hC dX4_replace_13 rfl 0 rfl ?_
  refine V_get (ci := 4) (v := .ref r) hC in_X4 0 rfl cls_X4 0 (by decide) fl_X4_9 rfl dX4_replace_14 ?_
  refine V_iload_n hC dX4_replace_17 rfl 1 rfl ?_
  refine V_iload_n hC dX4_replace_18 rfl 2 rfl ?_
  refine V_iast hC 1 0 rfl rfl (by omega) (by decide) dX4_replace_19 (ws2 := [(a, .inr (4, [.ref r, .int (nI n), .int (nI e), .int (nI p), .int (nI b)])), (r, .inl (cI, 40, .inl (fun j => nI ((va_up g i x) j))))]) rfl ?_
  subst hQ
  exact V_vret hC hr hlk (by decide) (by decide) dX4_replace_20 (()) [0, 1] rfl (by decide) (trivial)
abbrev rm_X4_shorten : Room := { frames := 1, cells := 0, slots := 0, locals := 21 }
set_option maxHeartbeats 4000000 in
set_option maxRecDepth 100000 in
theorem c_X4_shorten (l : Launch) (D : va_G) (cI cQ : ClassId) (a r n e p b k : Nat) (hn : n ≤ 40) (hk : k ≤ n) : MV l yX4_shorten cX4_shorten 2 none rm_X4_shorten D (TY cI cQ) [.ref a, .int (nI k)] [(a, .inr (4, [.ref r, .int (nI n), .int (nI e), .int (nI p), .int (nI b)]))] (fun (u : Unit) => True) (fun (u : Unit) => [(a, .inr (4, [.ref r, .int (nI (n - k)), .int (nI 0), .int (nI p), .int (nI b)]))]) 0 0 := by
  refine MV.start (by decide) (Nat.le_of_ble_eq_true rfl) (lv0 := [(0, .ref a), (1, .int (nI k))]) rfl ?_
  intro pp9 ee9 ss9 mm9 args9 below9 meth9 co9 A9 Q9 hQ hC hr hlk hnm
  refine V_aload_n hC dX4_shorten_0 rfl 0 rfl ?_
  refine V_iconst (v := nI 0) hC dX4_shorten_1 (by decide) ?_
  refine V_aload_n hC dX4_shorten_2 rfl 0 rfl ?_
  refine V_get (ci := 4) (v := .int (nI n)) hC in_X4 0 rfl cls_X4 1 (by decide) fl_X4_15 rfl dX4_shorten_3 ?_
  refine V_iload_n hC dX4_shorten_6 rfl 1 rfl ?_
  refine V_isub hC dX4_shorten_7 (by omega) ?_
  refine V_mmax hC ml_X4_29 stt_max ini_Math cd_max (by omega) (by omega) (by decide) (Nat.le_of_ble_eq_true rfl) (by decide) (by decide) dX4_shorten_8 ?_
  refine V_st (st2 := [.int (nI (n - k)), .ref a]) (by rw [show (max 0 (n - k)) = (n - k) from (by omega)]) ?_
  refine V_put (ci := 4) (v := .int (nI (n - k))) hC tyX4 tyX4_ok nmX4 in_X4 0 rfl cls_X4 1 (by decide) fl_X4_15 rfl rfl rfl (Nat.le_of_ble_eq_true rfl) dX4_shorten_11 (ws2 := [(a, .inr (4, [.ref r, .int (nI (n - k)), .int (nI e), .int (nI p), .int (nI b)]))]) rfl ?_
  refine V_aload_n hC dX4_shorten_14 rfl 0 rfl ?_
  refine V_iconst (v := nI 0) hC dX4_shorten_15 (by decide) ?_
  refine V_put (ci := 4) (v := .int (nI 0)) hC tyX4 tyX4_ok nmX4 in_X4 0 rfl cls_X4 2 (by decide) fl_X4_19 rfl rfl rfl (Nat.le_of_ble_eq_true rfl) dX4_shorten_16 (ws2 := [(a, .inr (4, [.ref r, .int (nI (n - k)), .int (nI 0), .int (nI p), .int (nI b)]))]) rfl ?_
  subst hQ
  exact V_vret hC hr hlk (by decide) (by decide) dX4_shorten_19 (()) [0] rfl (by decide) (trivial)
abbrev rm_X4_empty : Room := { frames := 0, cells := 0, slots := 0, locals := 0 }
set_option maxHeartbeats 4000000 in
set_option maxRecDepth 100000 in
theorem c_X4_empty (l : Launch) (D : va_G) (cI cQ : ClassId) (a r n e p b : Nat)  : MV l yX4_empty cX4_empty 1 none rm_X4_empty D (TY cI cQ) [.ref a] [(a, .inr (4, [.ref r, .int (nI n), .int (nI e), .int (nI p), .int (nI b)]))] (fun (u : Unit) => True) (fun (u : Unit) => [(a, .inr (4, [.ref r, .int (nI 0), .int (nI 0), .int (nI p), .int (nI b)]))]) 0 0 := by
  refine MV.start (by decide) (Nat.le_of_ble_eq_true rfl) (lv0 := [(0, .ref a)]) rfl ?_
  intro pp9 ee9 ss9 mm9 args9 below9 meth9 co9 A9 Q9 hQ hC hr hlk hnm
  refine V_aload_n hC dX4_empty_0 rfl 0 rfl ?_
  refine V_iconst (v := nI 0) hC dX4_empty_1 (by decide) ?_
  refine V_put (ci := 4) (v := .int (nI 0)) hC tyX4 tyX4_ok nmX4 in_X4 0 rfl cls_X4 1 (by decide) fl_X4_15 rfl rfl rfl (Nat.le_of_ble_eq_true rfl) dX4_empty_2 (ws2 := [(a, .inr (4, [.ref r, .int (nI 0), .int (nI e), .int (nI p), .int (nI b)]))]) rfl ?_
  refine V_aload_n hC dX4_empty_5 rfl 0 rfl ?_
  refine V_iconst (v := nI 0) hC dX4_empty_6 (by decide) ?_
  refine V_put (ci := 4) (v := .int (nI 0)) hC tyX4 tyX4_ok nmX4 in_X4 0 rfl cls_X4 2 (by decide) fl_X4_19 rfl rfl rfl (Nat.le_of_ble_eq_true rfl) dX4_empty_7 (ws2 := [(a, .inr (4, [.ref r, .int (nI 0), .int (nI 0), .int (nI p), .int (nI b)]))]) rfl ?_
  subst hQ
  exact V_vret hC hr hlk (by decide) (by decide) dX4_empty_10 (()) [0] rfl (by decide) (trivial)
abbrev rm_X4_howOften : Room := { frames := 1, cells := 0, slots := 0, locals := 21 }
set_option maxHeartbeats 4000000 in
set_option maxRecDepth 100000 in
theorem c_X4_howOften (l : Launch) (D : va_G) (cI cQ : ClassId) (a r n e p b k : Nat) (g : Nat → Nat) (hn : n ≤ 40) (hk : k < 2147483648) (hg : ∀ j, j < n → g j < 2147483648) : MI l yX4_howOften cX4_howOften 4 (some .int) rm_X4_howOften D (TY cI cQ) [.ref a, .int (nI k)] [(a, .inr (4, [.ref r, .int (nI n), .int (nI e), .int (nI p), .int (nI b)])), (r, .inl (cI, 40, .inl (fun j => nI (g j))))] (fun (r9 : Int32) (u : Unit) => r9 = (nI (hO g k n)) ∧ True) (fun (u : Unit) => [(a, .inr (4, [.ref r, .int (nI n), .int (nI e), .int (nI p), .int (nI b)])), (r, .inl (cI, 40, .inl (fun j => nI (g j))))]) 0 0 := by
  refine MI.start (by decide) (Nat.le_of_ble_eq_true rfl) (lv0 := [(0, .ref a), (1, .int (nI k))]) rfl ?_
  intro pp9 ee9 ss9 mm9 args9 below9 meth9 co9 A9 Q9 hQ hC hr hlk hnm
  refine V_iconst (v := nI 0) hC dX4_howOften_0 (by decide) ?_
  refine V_istore_n (lv2 := [(0, .ref a), (1, .int (nI k)), (2, .int (nI 0))]) hC dX4_howOften_1 rfl (by decide) [1, 2, 0] rfl ?_
  refine V_iconst (v := nI 0) hC dX4_howOften_2 (by decide) ?_
  refine V_istore_n (lv2 := [(0, .ref a), (1, .int (nI k)), (2, .int (nI 0)), (3, .int (nI 0))]) hC dX4_howOften_3 rfl (by decide) [1, 2, 3, 0] rfl ?_
  have L4 : ∀ (n9 : Nat) (i : Nat) (c2 : Nat), (i ≤ n) → (c2 = hO g k i) → n - i < n9 → V pp9 l ee9 rm_X4_howOften ss9 mm9 args9 below9 meth9 co9 D A9 ss9.heap 4 Q9 [(a, .inr (4, [.ref r, .int (nI n), .int (nI e), .int (nI p), .int (nI b)])), (r, .inl (cI, 40, .inl (fun j => nI (g j))))] [(0, .ref a), (1, .int (nI k)), (2, .int (nI c2)), (3, .int (nI i))] 0 0 4 [] := by
    intro n9
    induction n9 with
    | zero => intro i c2 h1 h2 h9; exact absurd h9 (Nat.not_lt_zero _)
    | succ n9 ih =>
      intro i c2 h1 h2 h9
      refine V_iload_n hC dX4_howOften_4 rfl 3 rfl ?_
      refine V_aload_n hC dX4_howOften_5 rfl 0 rfl ?_
      refine V_get (ci := 4) (v := .int (nI n)) hC in_X4 0 rfl cls_X4 1 (by decide) fl_X4_15 rfl dX4_howOften_6 ?_
      refine V_icmp_ge (tgt := 30) hC (by omega) (by omega) dX4_howOften_9 (by decide) (fun c9 => ?_) (fun c9 => ?_)
      · refine V_iload_n hC dX4_howOften_30 rfl 2 rfl ?_
        subst hQ
        exact V_iret hC hr hlk rfl (by decide) (by decide) dX4_howOften_31 (()) [0, 1] rfl (by decide) (⟨by rw [h2, show i = n by omega], trivial⟩)
      · refine V_aload_n hC dX4_howOften_12 rfl 0 rfl ?_
        refine V_iload_n hC dX4_howOften_13 rfl 3 rfl ?_
        refine V_calliV (As := [.int (nI i)]) (rest := []) (wr := []) hC (c_X4_letterAt l D cI cQ a r n e p b i g (by omega)) mok_X4_letterAt ml_X4_35 (q1 := 0) rfl cls_X4 rfl rfl rfl (by decide) (by decide) (by decide) (Nat.le_of_ble_eq_true rfl) [0, 1] [] rfl (by decide) rfl (by decide) (by decide) dX4_howOften_14 rfl (fun r9 u9 h14 => ?_)
        obtain ⟨rfl, h14⟩ := h14
        clear h14
        refine V_perm (ws2 := [(a, .inr (4, [.ref r, .int (nI n), .int (nI e), .int (nI p), .int (nI b)])), (r, .inl (cI, 40, .inl (fun j => nI (g j))))]) [0, 1] rfl (by decide) ?_
        have hgi := hg i c9
        refine V_iload_n hC dX4_howOften_17 rfl 1 rfl ?_
        refine V_icmp_ne (tgt := 24) hC (by omega) (by omega) dX4_howOften_18 (by decide) (fun c18 => ?_) (fun c18 => ?_)
        · refine V_iinc (v := (nI (i + 1))) (lv2 := [(0, .ref a), (1, .int (nI k)), (2, .int (nI c2)), (3, .int (nI (i + 1)))]) (q := 3) hC dX4_howOften_24 rfl (nI_add _ _) (by decide) [1, 2, 3, 0] rfl ?_
          refine V_goto (tgt := 4) hC dX4_howOften_27 (by decide) ?_
          exact ih (i + 1) c2 (by omega) (by rw [h2, hO, if_neg c18]; rfl) (by omega)
        · refine V_iinc (v := (nI (c2 + 1))) (lv2 := [(0, .ref a), (1, .int (nI k)), (2, .int (nI (c2 + 1))), (3, .int (nI i))]) (q := 2) hC dX4_howOften_21 rfl (nI_add _ _) (by decide) [1, 2, 0, 3] rfl ?_
          refine V_iinc (v := (nI (i + 1))) (lv2 := [(0, .ref a), (1, .int (nI k)), (2, .int (nI (c2 + 1))), (3, .int (nI (i + 1)))]) (q := 3) hC dX4_howOften_24 rfl (nI_add _ _) (by decide) [1, 2, 3, 0] rfl ?_
          refine V_goto (tgt := 4) hC dX4_howOften_27 (by decide) ?_
          exact ih (i + 1) (c2 + 1) (by omega) (by rw [h2, hO, if_pos c18]) (by omega)
  exact L4 _ 0 0 (by omega) (rfl) (Nat.lt_succ_self _)
abbrev rm_X4_copyFrom : Room := { frames := 1, cells := 0, slots := 0, locals := 21 }
set_option maxHeartbeats 4000000 in
set_option maxRecDepth 100000 in
theorem c_X4_copyFrom (l : Launch) (D : va_G) (cI cQ : ClassId) (a r n e p b a2 r2 n2 e2 p2 b2 : Nat) (g g2 : Nat → Nat) (he : e2 < 2) : MV l yX4_copyFrom cX4_copyFrom 3 none rm_X4_copyFrom D (TY cI cQ) [.ref a, .ref a2] [(a, .inr (4, [.ref r, .int (nI n), .int (nI e), .int (nI p), .int (nI b)])), (r, .inl (cI, 40, .inl (fun j => nI (g j)))), (a2, .inr (4, [.ref r2, .int (nI n2), .int (nI e2), .int (nI p2), .int (nI b2)])), (r2, .inl (cI, 40, .inl (fun j => nI (g2 j))))] (fun (u : Unit) => True) (fun (u : Unit) => [(a, .inr (4, [.ref r, .int (nI n2), .int (nI e2), .int (nI p2), .int (nI b2)])), (r, .inl (cI, 40, .inl (fun j => nI (g2 j)))), (a2, .inr (4, [.ref r2, .int (nI n2), .int (nI e2), .int (nI p2), .int (nI b2)])), (r2, .inl (cI, 40, .inl (fun j => nI (g2 j))))]) 0 0 := by
  refine MV.start (by decide) (Nat.le_of_ble_eq_true rfl) (lv0 := [(0, .ref a), (1, .ref a2)]) rfl ?_
  intro pp9 ee9 ss9 mm9 args9 below9 meth9 co9 A9 Q9 hQ hC hr hlk hnm
  refine V_iconst (v := nI 0) hC dX4_copyFrom_0 (by decide) ?_
  refine V_istore_n (lv2 := [(0, .ref a), (1, .ref a2), (2, .int (nI 0))]) hC dX4_copyFrom_1 rfl (by decide) [1, 2, 0] rfl ?_
  have L2 : ∀ (n9 : Nat) (i : Nat) (g3 : Nat → Nat), (i ≤ 40) → (∀ j, j < i → g3 j = g2 j) → 40 - i < n9 → V pp9 l ee9 rm_X4_copyFrom ss9 mm9 args9 below9 meth9 co9 D A9 ss9.heap 3 Q9 [(a, .inr (4, [.ref r, .int (nI n), .int (nI e), .int (nI p), .int (nI b)])), (r, .inl (cI, 40, .inl (fun j => nI (g3 j)))), (a2, .inr (4, [.ref r2, .int (nI n2), .int (nI e2), .int (nI p2), .int (nI b2)])), (r2, .inl (cI, 40, .inl (fun j => nI (g2 j))))] [(0, .ref a), (1, .ref a2), (2, .int (nI i))] 0 0 2 [] := by
    intro n9
    induction n9 with
    | zero => intro i g3 h1 h2 h9; exact absurd h9 (Nat.not_lt_zero _)
    | succ n9 ih =>
      intro i g3 h1 h2 h9
      refine V_iload_n hC dX4_copyFrom_2 rfl 2 rfl ?_
      refine V_aload_n hC dX4_copyFrom_3 rfl 0 rfl ?_
      refine V_get (ci := 4) (v := .ref r) hC in_X4 0 rfl cls_X4 0 (by decide) fl_X4_9 rfl dX4_copyFrom_4 ?_
      refine V_alen (v := (nI 40)) hC 1 0 rfl rfl rfl dX4_copyFrom_7 ?_
      refine V_icmp_ge (tgt := 28) hC (by omega) (by omega) dX4_copyFrom_8 (by decide) (fun c8 => ?_) (fun c8 => ?_)
      · have hcg : ∀ j, j < 40 → g3 j = g2 j := fun j hj => h2 j (by omega)
        refine V_cong (k := 1) (g := fun j => nI (g2 j)) rfl (fun j hj => congrArg nI (hcg j hj)) (ws2 := [(a, .inr (4, [.ref r, .int (nI n), .int (nI e), .int (nI p), .int (nI b)])), (r, .inl (cI, 40, .inl (fun j => nI (g2 j)))), (a2, .inr (4, [.ref r2, .int (nI n2), .int (nI e2), .int (nI p2), .int (nI b2)])), (r2, .inl (cI, 40, .inl (fun j => nI (g2 j))))]) rfl ?_
        clear hcg
        refine V_aload_n hC dX4_copyFrom_28 rfl 0 rfl ?_
        refine V_aload_n hC dX4_copyFrom_29 rfl 1 rfl ?_
        refine V_get (ci := 4) (v := .int (nI n2)) hC in_X4 2 rfl cls_X4 1 (by decide) fl_X4_15 rfl dX4_copyFrom_30 ?_
        refine V_put (ci := 4) (v := .int (nI n2)) hC tyX4 tyX4_ok nmX4 in_X4 0 rfl cls_X4 1 (by decide) fl_X4_15 rfl rfl rfl (Nat.le_of_ble_eq_true rfl) dX4_copyFrom_33 (ws2 := [(a, .inr (4, [.ref r, .int (nI n2), .int (nI e), .int (nI p), .int (nI b)])), (r, .inl (cI, 40, .inl (fun j => nI (g2 j)))), (a2, .inr (4, [.ref r2, .int (nI n2), .int (nI e2), .int (nI p2), .int (nI b2)])), (r2, .inl (cI, 40, .inl (fun j => nI (g2 j))))]) rfl ?_
        refine V_aload_n hC dX4_copyFrom_36 rfl 0 rfl ?_
        refine V_aload_n hC dX4_copyFrom_37 rfl 1 rfl ?_
        refine V_get (ci := 4) (v := .int (nI e2)) hC in_X4 2 rfl cls_X4 2 (by decide) fl_X4_19 rfl dX4_copyFrom_38 ?_
        refine V_put (ci := 4) (v := .int (nI e2)) hC tyX4 tyX4_ok nmX4 in_X4 0 rfl cls_X4 2 (by decide) fl_X4_19 rfl (nar_bool (by omega)) (fit_bool (by omega)) (Nat.le_of_ble_eq_true rfl) dX4_copyFrom_41 (ws2 := [(a, .inr (4, [.ref r, .int (nI n2), .int (nI e2), .int (nI p), .int (nI b)])), (r, .inl (cI, 40, .inl (fun j => nI (g2 j)))), (a2, .inr (4, [.ref r2, .int (nI n2), .int (nI e2), .int (nI p2), .int (nI b2)])), (r2, .inl (cI, 40, .inl (fun j => nI (g2 j))))]) rfl ?_
        refine V_aload_n hC dX4_copyFrom_44 rfl 0 rfl ?_
        refine V_aload_n hC dX4_copyFrom_45 rfl 1 rfl ?_
        refine V_get (ci := 4) (v := .int (nI p2)) hC in_X4 2 rfl cls_X4 3 (by decide) fl_X4_23 rfl dX4_copyFrom_46 ?_
        refine V_put (ci := 4) (v := .int (nI p2)) hC tyX4 tyX4_ok nmX4 in_X4 0 rfl cls_X4 3 (by decide) fl_X4_23 rfl rfl rfl (Nat.le_of_ble_eq_true rfl) dX4_copyFrom_49 (ws2 := [(a, .inr (4, [.ref r, .int (nI n2), .int (nI e2), .int (nI p2), .int (nI b)])), (r, .inl (cI, 40, .inl (fun j => nI (g2 j)))), (a2, .inr (4, [.ref r2, .int (nI n2), .int (nI e2), .int (nI p2), .int (nI b2)])), (r2, .inl (cI, 40, .inl (fun j => nI (g2 j))))]) rfl ?_
        refine V_aload_n hC dX4_copyFrom_52 rfl 0 rfl ?_
        refine V_aload_n hC dX4_copyFrom_53 rfl 1 rfl ?_
        refine V_get (ci := 4) (v := .int (nI b2)) hC in_X4 2 rfl cls_X4 4 (by decide) fl_X4_26 rfl dX4_copyFrom_54 ?_
        refine V_put (ci := 4) (v := .int (nI b2)) hC tyX4 tyX4_ok nmX4 in_X4 0 rfl cls_X4 4 (by decide) fl_X4_26 rfl rfl rfl (Nat.le_of_ble_eq_true rfl) dX4_copyFrom_57 (ws2 := [(a, .inr (4, [.ref r, .int (nI n2), .int (nI e2), .int (nI p2), .int (nI b2)])), (r, .inl (cI, 40, .inl (fun j => nI (g2 j)))), (a2, .inr (4, [.ref r2, .int (nI n2), .int (nI e2), .int (nI p2), .int (nI b2)])), (r2, .inl (cI, 40, .inl (fun j => nI (g2 j))))]) rfl ?_
        subst hQ
        exact V_vret hC hr hlk (by decide) (by decide) dX4_copyFrom_60 (()) [0, 1, 2, 3] rfl (by decide) (trivial)
      · refine V_aload_n hC dX4_copyFrom_11 rfl 0 rfl ?_
        refine V_get (ci := 4) (v := .ref r) hC in_X4 0 rfl cls_X4 0 (by decide) fl_X4_9 rfl dX4_copyFrom_12 ?_
        refine V_iload_n hC dX4_copyFrom_15 rfl 2 rfl ?_
        refine V_aload_n hC dX4_copyFrom_16 rfl 1 rfl ?_
        refine V_iload_n hC dX4_copyFrom_17 rfl 2 rfl ?_
        refine V_calliV (As := [.int (nI i)]) (rest := [.int (nI i), .ref r]) (wr := [(a, .inr (4, [.ref r, .int (nI n), .int (nI e), .int (nI p), .int (nI b)])), (r, .inl (cI, 40, .inl (fun j => nI (g3 j))))]) hC (c_X4_letterAt l D cI cQ a2 r2 n2 e2 p2 b2 i g2 (by omega)) mok_X4_letterAt ml_X4_35 (q1 := 0) rfl cls_X4 rfl rfl rfl (by decide) (by decide) (by decide) (Nat.le_of_ble_eq_true rfl) [2, 3] [0, 1] rfl (by decide) rfl (by decide) (by decide) dX4_copyFrom_18 rfl (fun r9 u9 h18 => ?_)
        obtain ⟨rfl, h18⟩ := h18
        clear h18
        refine V_perm (ws2 := [(a, .inr (4, [.ref r, .int (nI n), .int (nI e), .int (nI p), .int (nI b)])), (r, .inl (cI, 40, .inl (fun j => nI (g3 j)))), (a2, .inr (4, [.ref r2, .int (nI n2), .int (nI e2), .int (nI p2), .int (nI b2)])), (r2, .inl (cI, 40, .inl (fun j => nI (g2 j))))]) [0, 1, 2, 3] rfl (by decide) ?_
        refine V_iast hC 1 0 rfl rfl (by omega) (by decide) dX4_copyFrom_21 (ws2 := [(a, .inr (4, [.ref r, .int (nI n), .int (nI e), .int (nI p), .int (nI b)])), (r, .inl (cI, 40, .inl (fun j => nI ((va_up g3 i (g2 i)) j)))), (a2, .inr (4, [.ref r2, .int (nI n2), .int (nI e2), .int (nI p2), .int (nI b2)])), (r2, .inl (cI, 40, .inl (fun j => nI (g2 j))))]) rfl ?_
        refine V_iinc (v := (nI (i + 1))) (lv2 := [(0, .ref a), (1, .ref a2), (2, .int (nI (i + 1)))]) (q := 2) hC dX4_copyFrom_22 rfl (nI_add _ _) (by decide) [1, 2, 0] rfl ?_
        refine V_goto (tgt := 2) hC dX4_copyFrom_25 (by decide) ?_
        exact ih (i + 1) (va_up g3 i (g2 i)) (by omega) (lt_s (fun j hj => by rw [va_up_ne g3 _ (show j ≠ i by omega)]; exact h2 j hj) (va_up_self g3 i _)) (by omega)
  exact L2 _ 0 g (by omega) (fun j hj => absurd hj (Nat.not_lt_zero j)) (Nat.lt_succ_self _)
abbrev rm_X7_empty : Room := { frames := 0, cells := 0, slots := 0, locals := 0 }
set_option maxHeartbeats 4000000 in
set_option maxRecDepth 100000 in
theorem c_X7_empty (l : Launch) (D : va_G) (cI cQ : ClassId) (a r n : Nat)  : MV l yX7_empty cX7_empty 1 none rm_X7_empty D (TY cI cQ) [.ref a] [(a, .inr (7, [.ref r, .int (nI n)]))] (fun (u : Unit) => True) (fun (u : Unit) => [(a, .inr (7, [.ref r, .int (nI 0)]))]) 0 0 := by
  refine MV.start (by decide) (Nat.le_of_ble_eq_true rfl) (lv0 := [(0, .ref a)]) rfl ?_
  intro pp9 ee9 ss9 mm9 args9 below9 meth9 co9 A9 Q9 hQ hC hr hlk hnm
  refine V_aload_n hC dX7_empty_0 rfl 0 rfl ?_
  refine V_iconst (v := nI 0) hC dX7_empty_1 (by decide) ?_
  refine V_put (ci := 7) (v := .int (nI 0)) hC tyX7 tyX7_ok nmX7 in_X7 0 rfl cls_X7 1 (by decide) fl_X7_15 rfl rfl rfl (Nat.le_of_ble_eq_true rfl) dX7_empty_2 (ws2 := [(a, .inr (7, [.ref r, .int (nI 0)]))]) rfl ?_
  subst hQ
  exact V_vret hC hr hlk (by decide) (by decide) dX7_empty_5 (()) [0] rfl (by decide) (trivial)
abbrev rm_X7_append : Room := { frames := 0, cells := 0, slots := 0, locals := 0 }
set_option maxHeartbeats 4000000 in
set_option maxRecDepth 100000 in
theorem c_X7_append (l : Launch) (D : va_G) (cI cQ : ClassId) (a r n x : Nat) (f : Nat → Nat) (hn : n < 120) : MV l yX7_append cX7_append 2 none rm_X7_append D (TY cI cQ) [.ref a, .int (nI x)] [(a, .inr (7, [.ref r, .int (nI n)])), (r, .inl (cI, 120, .inl (fun j => nI (f j))))] (fun (u : Unit) => True) (fun (u : Unit) => [(a, .inr (7, [.ref r, .int (nI (n + 1))])), (r, .inl (cI, 120, .inl (fun j => nI ((va_up f n x) j))))]) 0 0 := by
  refine MV.start (by decide) (Nat.le_of_ble_eq_true rfl) (lv0 := [(0, .ref a), (1, .int (nI x))]) rfl ?_
  intro pp9 ee9 ss9 mm9 args9 below9 meth9 co9 A9 Q9 hQ hC hr hlk hnm
  refine V_aload_n hC dX7_append_0 rfl 0 rfl ?_
  refine V_get (ci := 7) (v := .int (nI n)) hC in_X7 0 rfl cls_X7 1 (by decide) fl_X7_15 rfl dX7_append_1 ?_
  refine V_if_lt_F (tgt := 39) hC dX7_append_4 (by decide) (nI_pos (by omega)) ?_
  refine V_aload_n hC dX7_append_7 rfl 0 rfl ?_
  refine V_get (ci := 7) (v := .int (nI n)) hC in_X7 0 rfl cls_X7 1 (by decide) fl_X7_15 rfl dX7_append_8 ?_
  refine V_aload_n hC dX7_append_11 rfl 0 rfl ?_
  refine V_get (ci := 7) (v := .ref r) hC in_X7 0 rfl cls_X7 0 (by decide) fl_X7_9 rfl dX7_append_12 ?_
  refine V_alen (v := (nI 120)) hC 1 0 rfl rfl rfl dX7_append_15 ?_
  refine V_icmp_ge_F (tgt := 39) hC dX7_append_16 (by decide) (nI_ge (by omega) (by omega)) ?_
  refine V_aload_n hC dX7_append_19 rfl 0 rfl ?_
  refine V_get (ci := 7) (v := .ref r) hC in_X7 0 rfl cls_X7 0 (by decide) fl_X7_9 rfl dX7_append_20 ?_
  refine V_aload_n hC dX7_append_23 rfl 0 rfl ?_
  refine V_get (ci := 7) (v := .int (nI n)) hC in_X7 0 rfl cls_X7 1 (by decide) fl_X7_15 rfl dX7_append_24 ?_
  refine V_iload_n hC dX7_append_27 rfl 1 rfl ?_
  refine V_iast hC 1 0 rfl rfl (by omega) (by decide) dX7_append_28 (ws2 := [(a, .inr (7, [.ref r, .int (nI n)])), (r, .inl (cI, 120, .inl (fun j => nI ((va_up f n x) j))))]) rfl ?_
  refine V_aload_n hC dX7_append_29 rfl 0 rfl ?_
  refine V_dup hC dX7_append_30 rfl ?_
  refine V_get (ci := 7) (v := .int (nI n)) hC in_X7 0 rfl cls_X7 1 (by decide) fl_X7_15 rfl dX7_append_31 ?_
  refine V_iconst (v := nI 1) hC dX7_append_34 (by decide) ?_
  refine V_iadd hC dX7_append_35 ?_
  refine V_put (ci := 7) (v := .int (nI (n + 1))) hC tyX7 tyX7_ok nmX7 in_X7 0 rfl cls_X7 1 (by decide) fl_X7_15 rfl rfl rfl (Nat.le_of_ble_eq_true rfl) dX7_append_36 (ws2 := [(a, .inr (7, [.ref r, .int (nI (n + 1))])), (r, .inl (cI, 120, .inl (fun j => nI ((va_up f n x) j))))]) rfl ?_
  subst hQ
  exact V_vret hC hr hlk (by decide) (by decide) dX7_append_39 (()) [0, 1] rfl (by decide) (trivial)
abbrev rm_X7_copyFrom : Room := { frames := 1, cells := 0, slots := 0, locals := 21 }
set_option maxHeartbeats 4000000 in
set_option maxRecDepth 100000 in
theorem c_X7_copyFrom (l : Launch) (D : va_G) (cI cQ : ClassId) (a r n bi br n2 : Nat) (f g : Nat → Nat) (hn : n2 ≤ 120) (hg : ∀ j, j < n2 → g j < 2) : MV l yX7_copyFrom cX7_copyFrom 3 none rm_X7_copyFrom D (TY cI cQ) [.ref a, .ref bi] [(a, .inr (7, [.ref r, .int (nI n)])), (r, .inl (cI, 120, .inl (fun j => nI (f j)))), (bi, .inr (0, [.ref br, .int (nI n2)])), (br, .inl (cI, 658, .inl (fun j => nI (g j))))] (fun (u : (Nat → Nat)) => ∀ j, j < n2 → u j = if g j = 1 then 49 else 48) (fun (u : (Nat → Nat)) => [(a, .inr (7, [.ref r, .int (nI n2)])), (r, .inl (cI, 120, .inl (fun j => nI (u j)))), (bi, .inr (0, [.ref br, .int (nI n2)])), (br, .inl (cI, 658, .inl (fun j => nI (g j))))]) 0 0 := by
  refine MV.start (by decide) (Nat.le_of_ble_eq_true rfl) (lv0 := [(0, .ref a), (1, .ref bi)]) rfl ?_
  intro pp9 ee9 ss9 mm9 args9 below9 meth9 co9 A9 Q9 hQ hC hr hlk hnm
  refine V_aload_n hC dX7_copyFrom_0 rfl 0 rfl ?_
  refine V_callvV (As := []) (rest := []) (wr := [(r, .inl (cI, 120, .inl (fun j => nI (f j)))), (bi, .inr (0, [.ref br, .int (nI n2)])), (br, .inl (cI, 658, .inl (fun j => nI (g j))))]) hC (c_X7_empty l D cI cQ a r n ) mok_X7_empty ml_X7_19 (q1 := 0) rfl cls_X7 rfl rfl rfl (by decide) (by decide) (by decide) (Nat.le_of_ble_eq_true rfl) [0] [1, 2, 3] rfl (by decide) rfl (by decide) (by decide) dX7_copyFrom_1 rfl (fun u9 h1 => ?_)
  clear h1
  refine V_perm (ws2 := [(a, .inr (7, [.ref r, .int (nI 0)])), (r, .inl (cI, 120, .inl (fun j => nI (f j)))), (bi, .inr (0, [.ref br, .int (nI n2)])), (br, .inl (cI, 658, .inl (fun j => nI (g j))))]) [3, 0, 1, 2] rfl (by decide) ?_
  refine V_iconst (v := nI 0) hC dX7_copyFrom_4 (by decide) ?_
  refine V_istore_n (lv2 := [(0, .ref a), (1, .ref bi), (2, .int (nI 0))]) hC dX7_copyFrom_5 rfl (by decide) [1, 2, 0] rfl ?_
  have L6 : ∀ (n9 : Nat) (i : Nat) (f2 : Nat → Nat), (i ≤ n2) → (∀ j, j < i → f2 j = if g j = 1 then 49 else 48) → n2 - i < n9 → V pp9 l ee9 rm_X7_copyFrom ss9 mm9 args9 below9 meth9 co9 D A9 ss9.heap 3 Q9 [(a, .inr (7, [.ref r, .int (nI i)])), (r, .inl (cI, 120, .inl (fun j => nI (f2 j)))), (bi, .inr (0, [.ref br, .int (nI n2)])), (br, .inl (cI, 658, .inl (fun j => nI (g j))))] [(0, .ref a), (1, .ref bi), (2, .int (nI i))] 0 0 6 [] := by
    intro n9
    induction n9 with
    | zero => intro i f2 h1 h2 h9; exact absurd h9 (Nat.not_lt_zero _)
    | succ n9 ih =>
      intro i f2 h1 h2 h9
      refine V_iload_n hC dX7_copyFrom_6 rfl 2 rfl ?_
      refine V_aload_n hC dX7_copyFrom_7 rfl 1 rfl ?_
      refine V_getN (ci := 0) (v := .int (nI n2)) hC in_X0 2 rfl cls_X0 1 (by decide) fn_X7_22 rfl dX7_copyFrom_8 ?_
      refine V_icmp_ge (tgt := 40) hC (by omega) (by omega) dX7_copyFrom_11 (by decide) (fun c11 => ?_) (fun c11 => ?_)
      · have ei9 : i = n2 := by omega
        subst ei9
        subst hQ
        exact V_vret hC hr hlk (by decide) (by decide) dX7_copyFrom_40 (f2) [0, 1, 2, 3] rfl (by decide) (h2)
      · refine V_aload_n hC dX7_copyFrom_14 rfl 0 rfl ?_
        refine V_aload_n hC dX7_copyFrom_15 rfl 1 rfl ?_
        refine V_iload_n hC dX7_copyFrom_16 rfl 2 rfl ?_
        refine V_calliV (As := [.int (nI i)]) (rest := [.ref a]) (wr := [(a, .inr (7, [.ref r, .int (nI i)])), (r, .inl (cI, 120, .inl (fun j => nI (f2 j))))]) hC (c_X0_bitAt l D cI cQ bi br n2 i g (by omega) (by omega)) mok_X0_bitAt ml_X7_25 (q1 := 0) rfl cls_X0 rfl rfl rfl (by decide) (by decide) (by decide) (Nat.le_of_ble_eq_true rfl) [2, 3] [0, 1] rfl (by decide) rfl (by decide) (by decide) dX7_copyFrom_17 rfl (fun r9 u9 h17 => ?_)
        obtain ⟨rfl, h17⟩ := h17
        clear h17
        refine V_perm (ws2 := [(a, .inr (7, [.ref r, .int (nI i)])), (r, .inl (cI, 120, .inl (fun j => nI (f2 j)))), (bi, .inr (0, [.ref br, .int (nI n2)])), (br, .inl (cI, 658, .inl (fun j => nI (g j))))]) [0, 1, 2, 3] rfl (by decide) ?_
        refine V_st (st2 := [.int (nI (g i)), .ref a]) (by rw [show (if i < n2 then g i else 0) = (g i) from if_pos c11]) ?_
        have hgi := hg i c11
        refine V_iconst (v := nI 1) hC dX7_copyFrom_20 (by decide) ?_
        refine V_icmp_ne (tgt := 29) hC (by omega) (by omega) dX7_copyFrom_21 (by decide) (fun c21 => ?_) (fun c21 => ?_)
        · refine V_bipush (v := nI 48) hC dX7_copyFrom_29 (by decide) ?_
          refine V_callvV (As := [.int (nI 48)]) (rest := []) (wr := [(bi, .inr (0, [.ref br, .int (nI n2)])), (br, .inl (cI, 658, .inl (fun j => nI (g j))))]) hC (c_X7_append l D cI cQ a r i 48 f2 (by omega)) mok_X7_append ml_X7_29 (q1 := 0) rfl cls_X7 rfl rfl rfl (by decide) (by decide) (by decide) (Nat.le_of_ble_eq_true rfl) [0, 1] [2, 3] rfl (by decide) rfl (by decide) (by decide) dX7_copyFrom_31 rfl (fun u9 h31 => ?_)
          clear h31
          refine V_perm (ws2 := [(a, .inr (7, [.ref r, .int (nI (i + 1))])), (r, .inl (cI, 120, .inl (fun j => nI ((va_up f2 i 48) j)))), (bi, .inr (0, [.ref br, .int (nI n2)])), (br, .inl (cI, 658, .inl (fun j => nI (g j))))]) [2, 3, 0, 1] rfl (by decide) ?_
          refine V_iinc (v := (nI (i + 1))) (lv2 := [(0, .ref a), (1, .ref bi), (2, .int (nI (i + 1)))]) (q := 2) hC dX7_copyFrom_34 rfl (nI_add _ _) (by decide) [1, 2, 0] rfl ?_
          refine V_goto (tgt := 6) hC dX7_copyFrom_37 (by decide) ?_
          exact ih (i + 1) (va_up f2 i 48) (by omega) (lt_s (fun j hj => by rw [va_up_ne f2 _ (show j ≠ i by omega)]; exact h2 j hj) (by rw [va_up_self, if_neg c21])) (by omega)
        · refine V_bipush (v := nI 49) hC dX7_copyFrom_24 (by decide) ?_
          refine V_goto (tgt := 31) hC dX7_copyFrom_26 (by decide) ?_
          refine V_callvV (As := [.int (nI 49)]) (rest := []) (wr := [(bi, .inr (0, [.ref br, .int (nI n2)])), (br, .inl (cI, 658, .inl (fun j => nI (g j))))]) hC (c_X7_append l D cI cQ a r i 49 f2 (by omega)) mok_X7_append ml_X7_29 (q1 := 0) rfl cls_X7 rfl rfl rfl (by decide) (by decide) (by decide) (Nat.le_of_ble_eq_true rfl) [0, 1] [2, 3] rfl (by decide) rfl (by decide) (by decide) dX7_copyFrom_31 rfl (fun u9 h31 => ?_)
          clear h31
          refine V_perm (ws2 := [(a, .inr (7, [.ref r, .int (nI (i + 1))])), (r, .inl (cI, 120, .inl (fun j => nI ((va_up f2 i 49) j)))), (bi, .inr (0, [.ref br, .int (nI n2)])), (br, .inl (cI, 658, .inl (fun j => nI (g j))))]) [2, 3, 0, 1] rfl (by decide) ?_
          refine V_iinc (v := (nI (i + 1))) (lv2 := [(0, .ref a), (1, .ref bi), (2, .int (nI (i + 1)))]) (q := 2) hC dX7_copyFrom_34 rfl (nI_add _ _) (by decide) [1, 2, 0] rfl ?_
          refine V_goto (tgt := 6) hC dX7_copyFrom_37 (by decide) ?_
          exact ih (i + 1) (va_up f2 i 49) (by omega) (lt_s (fun j hj => by rw [va_up_ne f2 _ (show j ≠ i by omega)]; exact h2 j hj) (by rw [va_up_self, if_pos c21])) (by omega)
  exact L6 _ 0 f (by omega) (fun j hj => absurd hj (Nat.not_lt_zero j)) (Nat.lt_succ_self _)
abbrev rm_X7_copyTo : Room := { frames := 1, cells := 0, slots := 0, locals := 21 }
set_option maxHeartbeats 4000000 in
set_option maxRecDepth 100000 in
theorem c_X7_copyTo (l : Launch) (D : va_G) (cI cQ : ClassId) (a r n bi br n2 : Nat) (f g : Nat → Nat) (hn : n ≤ 120) (hf : ∀ j, j < n → f j < 1000) : MV l yX7_copyTo cX7_copyTo 3 none rm_X7_copyTo D (TY cI cQ) [.ref a, .ref bi] [(a, .inr (7, [.ref r, .int (nI n)])), (r, .inl (cI, 120, .inl (fun j => nI (f j)))), (bi, .inr (0, [.ref br, .int (nI n2)])), (br, .inl (cI, 658, .inl (fun j => nI (g j))))] (fun (u : (Nat → Nat)) => ∀ j, j < n → u j = if f j = 49 then 1 else 0) (fun (u : (Nat → Nat)) => [(a, .inr (7, [.ref r, .int (nI n)])), (r, .inl (cI, 120, .inl (fun j => nI (f j)))), (bi, .inr (0, [.ref br, .int (nI n)])), (br, .inl (cI, 658, .inl (fun j => nI (u j))))]) 0 0 := by
  refine MV.start (by decide) (Nat.le_of_ble_eq_true rfl) (lv0 := [(0, .ref a), (1, .ref bi)]) rfl ?_
  intro pp9 ee9 ss9 mm9 args9 below9 meth9 co9 A9 Q9 hQ hC hr hlk hnm
  refine V_aload_n hC dX7_copyTo_0 rfl 1 rfl ?_
  refine V_callvV (As := []) (rest := []) (wr := [(a, .inr (7, [.ref r, .int (nI n)])), (r, .inl (cI, 120, .inl (fun j => nI (f j)))), (br, .inl (cI, 658, .inl (fun j => nI (g j))))]) hC (c_X0_empty l D cI cQ bi br n2 ) mok_X0_empty ml_X7_33 (q1 := 0) rfl cls_X0 rfl rfl rfl (by decide) (by decide) (by decide) (Nat.le_of_ble_eq_true rfl) [2] [0, 1, 3] rfl (by decide) rfl (by decide) (by decide) dX7_copyTo_1 rfl (fun u9 h1 => ?_)
  clear h1
  refine V_perm (ws2 := [(a, .inr (7, [.ref r, .int (nI n)])), (r, .inl (cI, 120, .inl (fun j => nI (f j)))), (bi, .inr (0, [.ref br, .int (nI 0)])), (br, .inl (cI, 658, .inl (fun j => nI (g j))))]) [0, 1, 3, 2] rfl (by decide) ?_
  refine V_iconst (v := nI 0) hC dX7_copyTo_4 (by decide) ?_
  refine V_istore_n (lv2 := [(0, .ref a), (1, .ref bi), (2, .int (nI 0))]) hC dX7_copyTo_5 rfl (by decide) [1, 2, 0] rfl ?_
  have L6 : ∀ (n9 : Nat) (i : Nat) (g2 : Nat → Nat), (i ≤ n) → (∀ j, j < i → g2 j = if f j = 49 then 1 else 0) → n - i < n9 → V pp9 l ee9 rm_X7_copyTo ss9 mm9 args9 below9 meth9 co9 D A9 ss9.heap 3 Q9 [(a, .inr (7, [.ref r, .int (nI n)])), (r, .inl (cI, 120, .inl (fun j => nI (f j)))), (bi, .inr (0, [.ref br, .int (nI i)])), (br, .inl (cI, 658, .inl (fun j => nI (g2 j))))] [(0, .ref a), (1, .ref bi), (2, .int (nI i))] 0 0 6 [] := by
    intro n9
    induction n9 with
    | zero => intro i g2 h1 h2 h9; exact absurd h9 (Nat.not_lt_zero _)
    | succ n9 ih =>
      intro i g2 h1 h2 h9
      refine V_iload_n hC dX7_copyTo_6 rfl 2 rfl ?_
      refine V_aload_n hC dX7_copyTo_7 rfl 0 rfl ?_
      refine V_get (ci := 7) (v := .int (nI n)) hC in_X7 0 rfl cls_X7 1 (by decide) fl_X7_15 rfl dX7_copyTo_8 ?_
      refine V_icmp_ge (tgt := 49) hC (by omega) (by omega) dX7_copyTo_11 (by decide) (fun c11 => ?_) (fun c11 => ?_)
      · have ei9 : i = n := by omega
        subst ei9
        subst hQ
        exact V_vret hC hr hlk (by decide) (by decide) dX7_copyTo_49 (g2) [0, 1, 2, 3] rfl (by decide) (h2)
      · refine V_iload_n hC dX7_copyTo_14 rfl 2 rfl ?_
        refine V_aload_n hC dX7_copyTo_15 rfl 0 rfl ?_
        refine V_get (ci := 7) (v := .ref r) hC in_X7 0 rfl cls_X7 0 (by decide) fl_X7_9 rfl dX7_copyTo_16 ?_
        refine V_alen (v := (nI 120)) hC 1 0 rfl rfl rfl dX7_copyTo_19 ?_
        refine V_icmp_ge_F (tgt := 49) hC dX7_copyTo_20 (by decide) (nI_ge (by omega) (by omega)) ?_
        refine V_aload_n hC dX7_copyTo_23 rfl 1 rfl ?_
        refine V_aload_n hC dX7_copyTo_24 rfl 0 rfl ?_
        refine V_get (ci := 7) (v := .ref r) hC in_X7 0 rfl cls_X7 0 (by decide) fl_X7_9 rfl dX7_copyTo_25 ?_
        refine V_iload_n hC dX7_copyTo_28 rfl 2 rfl ?_
        refine V_iald hC 1 0 rfl rfl (by omega) (by decide) dX7_copyTo_29 ?_
        have hfi := hf i c11
        refine V_bipush (v := nI 49) hC dX7_copyTo_30 (by decide) ?_
        refine V_icmp_ne (tgt := 39) hC (by omega) (by omega) dX7_copyTo_32 (by decide) (fun c32 => ?_) (fun c32 => ?_)
        · refine V_iconst (v := nI 0) hC dX7_copyTo_39 (by decide) ?_
          refine V_callvV (As := [.int (nI 0)]) (rest := []) (wr := [(a, .inr (7, [.ref r, .int (nI n)])), (r, .inl (cI, 120, .inl (fun j => nI (f j))))]) hC (c_X0_append l D cI cQ bi br i 0 g2 (by omega)) mok_X0_append ml_X7_34 (q1 := 0) rfl cls_X0 rfl rfl rfl (by decide) (by decide) (by decide) (Nat.le_of_ble_eq_true rfl) [2, 3] [0, 1] rfl (by decide) rfl (by decide) (by decide) dX7_copyTo_40 rfl (fun u9 h40 => ?_)
          clear h40
          refine V_perm (ws2 := [(a, .inr (7, [.ref r, .int (nI n)])), (r, .inl (cI, 120, .inl (fun j => nI (f j)))), (bi, .inr (0, [.ref br, .int (nI (i + 1))])), (br, .inl (cI, 658, .inl (fun j => nI ((va_up g2 i 0) j))))]) [0, 1, 2, 3] rfl (by decide) ?_
          refine V_iinc (v := (nI (i + 1))) (lv2 := [(0, .ref a), (1, .ref bi), (2, .int (nI (i + 1)))]) (q := 2) hC dX7_copyTo_43 rfl (nI_add _ _) (by decide) [1, 2, 0] rfl ?_
          refine V_goto (tgt := 6) hC dX7_copyTo_46 (by decide) ?_
          exact ih (i + 1) (va_up g2 i 0) (by omega) (lt_s (fun j hj => by rw [va_up_ne g2 _ (show j ≠ i by omega)]; exact h2 j hj) (by rw [va_up_self, if_neg c32])) (by omega)
        · refine V_iconst (v := nI 1) hC dX7_copyTo_35 (by decide) ?_
          refine V_goto (tgt := 40) hC dX7_copyTo_36 (by decide) ?_
          refine V_callvV (As := [.int (nI 1)]) (rest := []) (wr := [(a, .inr (7, [.ref r, .int (nI n)])), (r, .inl (cI, 120, .inl (fun j => nI (f j))))]) hC (c_X0_append l D cI cQ bi br i 1 g2 (by omega)) mok_X0_append ml_X7_34 (q1 := 0) rfl cls_X0 rfl rfl rfl (by decide) (by decide) (by decide) (Nat.le_of_ble_eq_true rfl) [2, 3] [0, 1] rfl (by decide) rfl (by decide) (by decide) dX7_copyTo_40 rfl (fun u9 h40 => ?_)
          clear h40
          refine V_perm (ws2 := [(a, .inr (7, [.ref r, .int (nI n)])), (r, .inl (cI, 120, .inl (fun j => nI (f j)))), (bi, .inr (0, [.ref br, .int (nI (i + 1))])), (br, .inl (cI, 658, .inl (fun j => nI ((va_up g2 i 1) j))))]) [0, 1, 2, 3] rfl (by decide) ?_
          refine V_iinc (v := (nI (i + 1))) (lv2 := [(0, .ref a), (1, .ref bi), (2, .int (nI (i + 1)))]) (q := 2) hC dX7_copyTo_43 rfl (nI_add _ _) (by decide) [1, 2, 0] rfl ?_
          refine V_goto (tgt := 6) hC dX7_copyTo_46 (by decide) ?_
          exact ih (i + 1) (va_up g2 i 1) (by omega) (lt_s (fun j hj => by rw [va_up_ne g2 _ (show j ≠ i by omega)]; exact h2 j hj) (by rw [va_up_self, if_pos c32])) (by omega)
  exact L6 _ 0 g (by omega) (fun j hj => absurd hj (Nat.not_lt_zero j)) (Nat.lt_succ_self _)
abbrev rm_X7_firstStrange : Room := { frames := 0, cells := 0, slots := 0, locals := 0 }
set_option maxHeartbeats 4000000 in
set_option maxRecDepth 100000 in
theorem c_X7_firstStrange (l : Launch) (D : va_G) (cI cQ : ClassId) (a r n : Nat) (f : Nat → Nat) (hn : n ≤ 120) (hf : ∀ j, j < n → f j < 1000) : MI l yX7_firstStrange cX7_firstStrange 2 (some .int) rm_X7_firstStrange D (TY cI cQ) [.ref a] [(a, .inr (7, [.ref r, .int (nI n)])), (r, .inl (cI, 120, .inl (fun j => nI (f j))))] (fun (r9 : Int32) (u : Unit) => r9 = (nI (st f n)) ∧ True) (fun (u : Unit) => [(a, .inr (7, [.ref r, .int (nI n)])), (r, .inl (cI, 120, .inl (fun j => nI (f j))))]) 0 0 := by
  refine MI.start (by decide) (Nat.le_of_ble_eq_true rfl) (lv0 := [(0, .ref a)]) rfl ?_
  intro pp9 ee9 ss9 mm9 args9 below9 meth9 co9 A9 Q9 hQ hC hr hlk hnm
  refine V_iconst (v := nI 0) hC dX7_firstStrange_0 (by decide) ?_
  refine V_istore_n (lv2 := [(0, .ref a), (1, .int (nI 0))]) hC dX7_firstStrange_1 rfl (by decide) [1, 0] rfl ?_
  have L2 : ∀ (n9 : Nat) (i : Nat), (i ≤ n) → (stA f (n - i) i = st f n) → n - i < n9 → V pp9 l ee9 rm_X7_firstStrange ss9 mm9 args9 below9 meth9 co9 D A9 ss9.heap 2 Q9 [(a, .inr (7, [.ref r, .int (nI n)])), (r, .inl (cI, 120, .inl (fun j => nI (f j))))] [(0, .ref a), (1, .int (nI i))] 0 0 2 [] := by
    intro n9
    induction n9 with
    | zero => intro i h1 h2 h9; exact absurd h9 (Nat.not_lt_zero _)
    | succ n9 ih =>
      intro i h1 h2 h9
      refine V_iload_n hC dX7_firstStrange_2 rfl 1 rfl ?_
      refine V_aload_n hC dX7_firstStrange_3 rfl 0 rfl ?_
      refine V_get (ci := 7) (v := .int (nI n)) hC in_X7 0 rfl cls_X7 1 (by decide) fl_X7_15 rfl dX7_firstStrange_4 ?_
      refine V_icmp_ge (tgt := 49) hC (by omega) (by omega) dX7_firstStrange_7 (by decide) (fun c7 => ?_) (fun c7 => ?_)
      · refine V_aload_n hC dX7_firstStrange_49 rfl 0 rfl ?_
        refine V_get (ci := 7) (v := .int (nI n)) hC in_X7 0 rfl cls_X7 1 (by decide) fl_X7_15 rfl dX7_firstStrange_50 ?_
        subst hQ
        exact V_iret hC hr hlk rfl (by decide) (by decide) dX7_firstStrange_53 (()) [0, 1] rfl (by decide) (⟨by rw [← h2, show i = n by omega, Nat.sub_self, stA], trivial⟩)
      · refine V_iload_n hC dX7_firstStrange_10 rfl 1 rfl ?_
        refine V_aload_n hC dX7_firstStrange_11 rfl 0 rfl ?_
        refine V_get (ci := 7) (v := .ref r) hC in_X7 0 rfl cls_X7 0 (by decide) fl_X7_9 rfl dX7_firstStrange_12 ?_
        refine V_alen (v := (nI 120)) hC 1 0 rfl rfl rfl dX7_firstStrange_15 ?_
        refine V_icmp_ge_F (tgt := 49) hC dX7_firstStrange_16 (by decide) (nI_ge (by omega) (by omega)) ?_
        refine V_aload_n hC dX7_firstStrange_19 rfl 0 rfl ?_
        refine V_get (ci := 7) (v := .ref r) hC in_X7 0 rfl cls_X7 0 (by decide) fl_X7_9 rfl dX7_firstStrange_20 ?_
        refine V_iload_n hC dX7_firstStrange_23 rfl 1 rfl ?_
        refine V_iald hC 1 0 rfl rfl (by omega) (by decide) dX7_firstStrange_24 ?_
        have hfi := hf i c7
        refine V_bipush (v := nI 48) hC dX7_firstStrange_25 (by decide) ?_
        refine V_icmp_eq (tgt := 43) hC (by omega) (by omega) dX7_firstStrange_27 (by decide) (fun c27 => ?_) (fun c27 => ?_)
        · refine V_iinc (v := (nI (i + 1))) (lv2 := [(0, .ref a), (1, .int (nI (i + 1)))]) (q := 1) hC dX7_firstStrange_43 rfl (nI_add _ _) (by decide) [1, 0] rfl ?_
          refine V_goto (tgt := 2) hC dX7_firstStrange_46 (by decide) ?_
          exact ih (i + 1) (by omega) (by rw [← h2, show n - i = (n - (i + 1)) + 1 by omega, stA, if_pos (by omega)]) (by omega)
        · refine V_aload_n hC dX7_firstStrange_30 rfl 0 rfl ?_
          refine V_get (ci := 7) (v := .ref r) hC in_X7 0 rfl cls_X7 0 (by decide) fl_X7_9 rfl dX7_firstStrange_31 ?_
          refine V_iload_n hC dX7_firstStrange_34 rfl 1 rfl ?_
          refine V_iald hC 1 0 rfl rfl (by omega) (by decide) dX7_firstStrange_35 ?_
          refine V_bipush (v := nI 49) hC dX7_firstStrange_36 (by decide) ?_
          refine V_icmp_eq (tgt := 43) hC (by omega) (by omega) dX7_firstStrange_38 (by decide) (fun c38 => ?_) (fun c38 => ?_)
          · refine V_iinc (v := (nI (i + 1))) (lv2 := [(0, .ref a), (1, .int (nI (i + 1)))]) (q := 1) hC dX7_firstStrange_43 rfl (nI_add _ _) (by decide) [1, 0] rfl ?_
            refine V_goto (tgt := 2) hC dX7_firstStrange_46 (by decide) ?_
            exact ih (i + 1) (by omega) (by rw [← h2, show n - i = (n - (i + 1)) + 1 by omega, stA, if_pos (by omega)]) (by omega)
          · refine V_iload_n hC dX7_firstStrange_41 rfl 1 rfl ?_
            subst hQ
            exact V_iret hC hr hlk rfl (by decide) (by decide) dX7_firstStrange_42 (()) [0, 1] rfl (by decide) (⟨by rw [← h2, show n - i = (n - (i + 1)) + 1 by omega, stA, if_neg (by omega)], trivial⟩)
  exact L2 _ 0 (by omega) (rfl) (Nat.lt_succ_self _)
abbrev rm_X3_copy : Room := { frames := 2, cells := 0, slots := 0, locals := 43 }
set_option maxHeartbeats 4000000 in
set_option maxRecDepth 100000 in
theorem c_X3_copy (l : Launch) (D : va_G) (cI cQ : ClassId) (a r n e p b a2 r2 n2 e2 p2 b2 : Nat) (g g2 : Nat → Nat) (he : e2 < 2) : MV l yX3_copy cX3_copy 2 none rm_X3_copy D (TY cI cQ) [.ref a2, .ref a] [(a, .inr (4, [.ref r, .int (nI n), .int (nI e), .int (nI p), .int (nI b)])), (r, .inl (cI, 40, .inl (fun j => nI (g j)))), (a2, .inr (4, [.ref r2, .int (nI n2), .int (nI e2), .int (nI p2), .int (nI b2)])), (r2, .inl (cI, 40, .inl (fun j => nI (g2 j))))] (fun (u : Unit) => True) (fun (u : Unit) => [(a, .inr (4, [.ref r, .int (nI n2), .int (nI e2), .int (nI p2), .int (nI b2)])), (r, .inl (cI, 40, .inl (fun j => nI (g2 j)))), (a2, .inr (4, [.ref r2, .int (nI n2), .int (nI e2), .int (nI p2), .int (nI b2)])), (r2, .inl (cI, 40, .inl (fun j => nI (g2 j))))]) 0 0 := by
  refine MV.start (by decide) (Nat.le_of_ble_eq_true rfl) (lv0 := [(0, .ref a2), (1, .ref a)]) rfl ?_
  intro pp9 ee9 ss9 mm9 args9 below9 meth9 co9 A9 Q9 hQ hC hr hlk hnm
  refine V_aload_n hC dX3_copy_0 rfl 0 rfl ?_
  refine V_ifnull hC dX3_copy_1 ?_
  refine V_aload_n hC dX3_copy_4 rfl 1 rfl ?_
  refine V_ifnull hC dX3_copy_5 ?_
  refine V_aload_n hC dX3_copy_8 rfl 1 rfl ?_
  refine V_aload_n hC dX3_copy_9 rfl 0 rfl ?_
  refine V_callvV (As := [.ref a2]) (rest := []) (wr := []) hC (c_X4_copyFrom l D cI cQ a r n e p b a2 r2 n2 e2 p2 b2 g g2 (by omega)) mok_X4_copyFrom ml_X3_29 (q1 := 0) rfl cls_X4 rfl rfl rfl (by decide) (by decide) (by decide) (Nat.le_of_ble_eq_true rfl) [0, 1, 2, 3] [] rfl (by decide) rfl (by decide) (by decide) dX3_copy_10 rfl (fun u9 h10 => ?_)
  clear h10
  refine V_perm (ws2 := [(a, .inr (4, [.ref r, .int (nI n2), .int (nI e2), .int (nI p2), .int (nI b2)])), (r, .inl (cI, 40, .inl (fun j => nI (g2 j)))), (a2, .inr (4, [.ref r2, .int (nI n2), .int (nI e2), .int (nI p2), .int (nI b2)])), (r2, .inl (cI, 40, .inl (fun j => nI (g2 j))))]) [0, 1, 2, 3] rfl (by decide) ?_
  subst hQ
  exact V_vret hC hr hlk (by decide) (by decide) dX3_copy_13 (()) [0, 1, 2, 3] rfl (by decide) (trivial)
abbrev rm_X3_dropOldest : Room := { frames := 3, cells := 0, slots := 0, locals := 64 }
set_option maxHeartbeats 4000000 in
set_option maxRecDepth 100000 in
theorem c_X3_dropOldest (l : Launch) (D : va_G) (cI cQ : ClassId) (o st sz m0 r0 m1 r1 m2 r2 m3 r3 : Nat) (G : Nat → Nat → Nat) (NS ES PS BS : Nat → Nat) (he : ∀ j, j < 4 → ES j < 2) : MV l yX3_dropOldest cX3_dropOldest 2 none rm_X3_dropOldest D (TY cI cQ) [.ref o] [(o, .inr (3, [.ref st, .int (nI sz)])), (st, .inl (cQ, 4, .inr (.inr (.inr (.inr (hq m0 m1 m2 m3)))))), (m0, .inr (4, [.ref r0, .int (nI (NS 0)), .int (nI (ES 0)), .int (nI (PS 0)), .int (nI (BS 0))])), (r0, .inl (cI, 40, .inl (fun j => nI ((G 0) j)))), (m1, .inr (4, [.ref r1, .int (nI (NS 1)), .int (nI (ES 1)), .int (nI (PS 1)), .int (nI (BS 1))])), (r1, .inl (cI, 40, .inl (fun j => nI ((G 1) j)))), (m2, .inr (4, [.ref r2, .int (nI (NS 2)), .int (nI (ES 2)), .int (nI (PS 2)), .int (nI (BS 2))])), (r2, .inl (cI, 40, .inl (fun j => nI ((G 2) j)))), (m3, .inr (4, [.ref r3, .int (nI (NS 3)), .int (nI (ES 3)), .int (nI (PS 3)), .int (nI (BS 3))])), (r3, .inl (cI, 40, .inl (fun j => nI ((G 3) j))))] (fun (u : Unit) => True) (fun (u : Unit) => [(o, .inr (3, [.ref st, .int (nI 3)])), (st, .inl (cQ, 4, .inr (.inr (.inr (.inr (hq m0 m1 m2 m3)))))), (m0, .inr (4, [.ref r0, .int (nI (NS 1)), .int (nI (ES 1)), .int (nI (PS 1)), .int (nI (BS 1))])), (r0, .inl (cI, 40, .inl (fun j => nI ((G 1) j)))), (m1, .inr (4, [.ref r1, .int (nI (NS 2)), .int (nI (ES 2)), .int (nI (PS 2)), .int (nI (BS 2))])), (r1, .inl (cI, 40, .inl (fun j => nI ((G 2) j)))), (m2, .inr (4, [.ref r2, .int (nI (NS 3)), .int (nI (ES 3)), .int (nI (PS 3)), .int (nI (BS 3))])), (r2, .inl (cI, 40, .inl (fun j => nI ((G 3) j)))), (m3, .inr (4, [.ref r3, .int (nI (NS 3)), .int (nI (ES 3)), .int (nI (PS 3)), .int (nI (BS 3))])), (r3, .inl (cI, 40, .inl (fun j => nI ((G 3) j))))]) 0 0 := by
  refine MV.start (by decide) (Nat.le_of_ble_eq_true rfl) (lv0 := [(0, .ref o)]) rfl ?_
  intro pp9 ee9 ss9 mm9 args9 below9 meth9 co9 A9 Q9 hQ hC hr hlk hnm
  refine V_iconst (v := nI 1) hC dX3_dropOldest_0 (by decide) ?_
  refine V_istore_n (lv2 := [(0, .ref o), (1, .int (nI 1))]) hC dX3_dropOldest_1 rfl (by decide) [1, 0] rfl ?_
  refine V_iload_n hC dX3_dropOldest_2 rfl 1 rfl ?_
  refine V_aload_n hC dX3_dropOldest_3 rfl 0 rfl ?_
  refine V_get (ci := 3) (v := .ref st) hC in_X3 0 rfl cls_X3 0 (by decide) fl_X3_11 rfl dX3_dropOldest_4 ?_
  refine V_alen (v := (nI 4)) hC 1 1 rfl rfl rfl dX3_dropOldest_7 ?_
  refine V_icmp_ge_F (tgt := 34) hC dX3_dropOldest_8 (by decide) (nI_ge (by omega) (by omega)) ?_
  refine V_aload_n hC dX3_dropOldest_11 rfl 0 rfl ?_
  refine V_get (ci := 3) (v := .ref st) hC in_X3 0 rfl cls_X3 0 (by decide) fl_X3_11 rfl dX3_dropOldest_12 ?_
  refine V_iload_n hC dX3_dropOldest_15 rfl 1 rfl ?_
  refine V_aldq (v := .ref m1) hC 1 1 rfl rfl (by decide) (by decide) rfl dX3_dropOldest_16 ?_
  refine V_aload_n hC dX3_dropOldest_17 rfl 0 rfl ?_
  refine V_get (ci := 3) (v := .ref st) hC in_X3 0 rfl cls_X3 0 (by decide) fl_X3_11 rfl dX3_dropOldest_18 ?_
  refine V_iload_n hC dX3_dropOldest_21 rfl 1 rfl ?_
  refine V_iconst (v := nI 1) hC dX3_dropOldest_22 (by decide) ?_
  refine V_isub hC dX3_dropOldest_23 (by omega) ?_
  refine V_aldq (v := .ref m0) hC 1 1 rfl rfl (by decide) (by decide) rfl dX3_dropOldest_24 ?_
  refine V_callvS (As := [.ref m1, .ref m0]) (rest := []) (wr := [(o, .inr (3, [.ref st, .int (nI sz)])), (st, .inl (cQ, 4, .inr (.inr (.inr (.inr (hq m0 m1 m2 m3)))))), (m2, .inr (4, [.ref r2, .int (nI (NS 2)), .int (nI (ES 2)), .int (nI (PS 2)), .int (nI (BS 2))])), (r2, .inl (cI, 40, .inl (fun j => nI ((G 2) j)))), (m3, .inr (4, [.ref r3, .int (nI (NS 3)), .int (nI (ES 3)), .int (nI (PS 3)), .int (nI (BS 3))])), (r3, .inl (cI, 40, .inl (fun j => nI ((G 3) j))))]) hC (c_X3_copy l D cI cQ m0 r0 (NS 0) (ES 0) (PS 0) (BS 0) m1 r1 (NS 1) (ES 1) (PS 1) (BS 1) (G 0) (G 1) (he _ (by decide))) mok_X3_copy ml_X3_25 rfl rfl rfl (by decide) (by decide) (by decide) (Nat.le_of_ble_eq_true rfl) [2, 3, 4, 5] [0, 1, 6, 7, 8, 9] rfl (by decide) rfl (by decide) (by decide) dX3_dropOldest_25 rfl (fun u9 h25 => ?_)
  clear h25
  refine V_perm (ws2 := [(o, .inr (3, [.ref st, .int (nI sz)])), (st, .inl (cQ, 4, .inr (.inr (.inr (.inr (hq m0 m1 m2 m3)))))), (m0, .inr (4, [.ref r0, .int (nI ((NS 1))), .int (nI ((ES 1))), .int (nI ((PS 1))), .int (nI ((BS 1)))])), (r0, .inl (cI, 40, .inl (fun j => nI (((G 1)) j)))), (m1, .inr (4, [.ref r1, .int (nI ((NS 1))), .int (nI ((ES 1))), .int (nI ((PS 1))), .int (nI ((BS 1)))])), (r1, .inl (cI, 40, .inl (fun j => nI (((G 1)) j)))), (m2, .inr (4, [.ref r2, .int (nI (NS 2)), .int (nI (ES 2)), .int (nI (PS 2)), .int (nI (BS 2))])), (r2, .inl (cI, 40, .inl (fun j => nI ((G 2) j)))), (m3, .inr (4, [.ref r3, .int (nI (NS 3)), .int (nI (ES 3)), .int (nI (PS 3)), .int (nI (BS 3))])), (r3, .inl (cI, 40, .inl (fun j => nI ((G 3) j))))]) [0, 1, 6, 7, 8, 9, 2, 3, 4, 5] rfl (by decide) ?_
  refine V_iinc (v := (nI 2)) (lv2 := [(0, .ref o), (1, .int (nI 2))]) (q := 1) hC dX3_dropOldest_28 rfl (nI_add _ _) (by decide) [1, 0] rfl ?_
  refine V_goto (tgt := 2) hC dX3_dropOldest_31 (by decide) ?_
  refine V_iload_n hC dX3_dropOldest_2 rfl 1 rfl ?_
  refine V_aload_n hC dX3_dropOldest_3 rfl 0 rfl ?_
  refine V_get (ci := 3) (v := .ref st) hC in_X3 0 rfl cls_X3 0 (by decide) fl_X3_11 rfl dX3_dropOldest_4 ?_
  refine V_alen (v := (nI 4)) hC 1 1 rfl rfl rfl dX3_dropOldest_7 ?_
  refine V_icmp_ge_F (tgt := 34) hC dX3_dropOldest_8 (by decide) (nI_ge (by omega) (by omega)) ?_
  refine V_aload_n hC dX3_dropOldest_11 rfl 0 rfl ?_
  refine V_get (ci := 3) (v := .ref st) hC in_X3 0 rfl cls_X3 0 (by decide) fl_X3_11 rfl dX3_dropOldest_12 ?_
  refine V_iload_n hC dX3_dropOldest_15 rfl 1 rfl ?_
  refine V_aldq (v := .ref m2) hC 1 1 rfl rfl (by decide) (by decide) rfl dX3_dropOldest_16 ?_
  refine V_aload_n hC dX3_dropOldest_17 rfl 0 rfl ?_
  refine V_get (ci := 3) (v := .ref st) hC in_X3 0 rfl cls_X3 0 (by decide) fl_X3_11 rfl dX3_dropOldest_18 ?_
  refine V_iload_n hC dX3_dropOldest_21 rfl 1 rfl ?_
  refine V_iconst (v := nI 1) hC dX3_dropOldest_22 (by decide) ?_
  refine V_isub hC dX3_dropOldest_23 (by omega) ?_
  refine V_aldq (v := .ref m1) hC 1 1 rfl rfl (by decide) (by decide) rfl dX3_dropOldest_24 ?_
  refine V_callvS (As := [.ref m2, .ref m1]) (rest := []) (wr := [(o, .inr (3, [.ref st, .int (nI sz)])), (st, .inl (cQ, 4, .inr (.inr (.inr (.inr (hq m0 m1 m2 m3)))))), (m0, .inr (4, [.ref r0, .int (nI ((NS 1))), .int (nI ((ES 1))), .int (nI ((PS 1))), .int (nI ((BS 1)))])), (r0, .inl (cI, 40, .inl (fun j => nI (((G 1)) j)))), (m3, .inr (4, [.ref r3, .int (nI (NS 3)), .int (nI (ES 3)), .int (nI (PS 3)), .int (nI (BS 3))])), (r3, .inl (cI, 40, .inl (fun j => nI ((G 3) j))))]) hC (c_X3_copy l D cI cQ m1 r1 ((NS 1)) ((ES 1)) ((PS 1)) ((BS 1)) m2 r2 (NS 2) (ES 2) (PS 2) (BS 2) ((G 1)) (G 2) (he _ (by decide))) mok_X3_copy ml_X3_25 rfl rfl rfl (by decide) (by decide) (by decide) (Nat.le_of_ble_eq_true rfl) [4, 5, 6, 7] [0, 1, 2, 3, 8, 9] rfl (by decide) rfl (by decide) (by decide) dX3_dropOldest_25 rfl (fun u9 h25 => ?_)
  clear h25
  refine V_perm (ws2 := [(o, .inr (3, [.ref st, .int (nI sz)])), (st, .inl (cQ, 4, .inr (.inr (.inr (.inr (hq m0 m1 m2 m3)))))), (m0, .inr (4, [.ref r0, .int (nI ((NS 1))), .int (nI ((ES 1))), .int (nI ((PS 1))), .int (nI ((BS 1)))])), (r0, .inl (cI, 40, .inl (fun j => nI (((G 1)) j)))), (m1, .inr (4, [.ref r1, .int (nI ((NS 2))), .int (nI ((ES 2))), .int (nI ((PS 2))), .int (nI ((BS 2)))])), (r1, .inl (cI, 40, .inl (fun j => nI (((G 2)) j)))), (m2, .inr (4, [.ref r2, .int (nI ((NS 2))), .int (nI ((ES 2))), .int (nI ((PS 2))), .int (nI ((BS 2)))])), (r2, .inl (cI, 40, .inl (fun j => nI (((G 2)) j)))), (m3, .inr (4, [.ref r3, .int (nI (NS 3)), .int (nI (ES 3)), .int (nI (PS 3)), .int (nI (BS 3))])), (r3, .inl (cI, 40, .inl (fun j => nI ((G 3) j))))]) [0, 1, 2, 3, 6, 7, 8, 9, 4, 5] rfl (by decide) ?_
  refine V_iinc (v := (nI 3)) (lv2 := [(0, .ref o), (1, .int (nI 3))]) (q := 1) hC dX3_dropOldest_28 rfl (nI_add _ _) (by decide) [1, 0] rfl ?_
  refine V_goto (tgt := 2) hC dX3_dropOldest_31 (by decide) ?_
  refine V_iload_n hC dX3_dropOldest_2 rfl 1 rfl ?_
  refine V_aload_n hC dX3_dropOldest_3 rfl 0 rfl ?_
  refine V_get (ci := 3) (v := .ref st) hC in_X3 0 rfl cls_X3 0 (by decide) fl_X3_11 rfl dX3_dropOldest_4 ?_
  refine V_alen (v := (nI 4)) hC 1 1 rfl rfl rfl dX3_dropOldest_7 ?_
  refine V_icmp_ge_F (tgt := 34) hC dX3_dropOldest_8 (by decide) (nI_ge (by omega) (by omega)) ?_
  refine V_aload_n hC dX3_dropOldest_11 rfl 0 rfl ?_
  refine V_get (ci := 3) (v := .ref st) hC in_X3 0 rfl cls_X3 0 (by decide) fl_X3_11 rfl dX3_dropOldest_12 ?_
  refine V_iload_n hC dX3_dropOldest_15 rfl 1 rfl ?_
  refine V_aldq (v := .ref m3) hC 1 1 rfl rfl (by decide) (by decide) rfl dX3_dropOldest_16 ?_
  refine V_aload_n hC dX3_dropOldest_17 rfl 0 rfl ?_
  refine V_get (ci := 3) (v := .ref st) hC in_X3 0 rfl cls_X3 0 (by decide) fl_X3_11 rfl dX3_dropOldest_18 ?_
  refine V_iload_n hC dX3_dropOldest_21 rfl 1 rfl ?_
  refine V_iconst (v := nI 1) hC dX3_dropOldest_22 (by decide) ?_
  refine V_isub hC dX3_dropOldest_23 (by omega) ?_
  refine V_aldq (v := .ref m2) hC 1 1 rfl rfl (by decide) (by decide) rfl dX3_dropOldest_24 ?_
  refine V_callvS (As := [.ref m3, .ref m2]) (rest := []) (wr := [(o, .inr (3, [.ref st, .int (nI sz)])), (st, .inl (cQ, 4, .inr (.inr (.inr (.inr (hq m0 m1 m2 m3)))))), (m0, .inr (4, [.ref r0, .int (nI ((NS 1))), .int (nI ((ES 1))), .int (nI ((PS 1))), .int (nI ((BS 1)))])), (r0, .inl (cI, 40, .inl (fun j => nI (((G 1)) j)))), (m1, .inr (4, [.ref r1, .int (nI ((NS 2))), .int (nI ((ES 2))), .int (nI ((PS 2))), .int (nI ((BS 2)))])), (r1, .inl (cI, 40, .inl (fun j => nI (((G 2)) j))))]) hC (c_X3_copy l D cI cQ m2 r2 ((NS 2)) ((ES 2)) ((PS 2)) ((BS 2)) m3 r3 (NS 3) (ES 3) (PS 3) (BS 3) ((G 2)) (G 3) (he _ (by decide))) mok_X3_copy ml_X3_25 rfl rfl rfl (by decide) (by decide) (by decide) (Nat.le_of_ble_eq_true rfl) [6, 7, 8, 9] [0, 1, 2, 3, 4, 5] rfl (by decide) rfl (by decide) (by decide) dX3_dropOldest_25 rfl (fun u9 h25 => ?_)
  clear h25
  refine V_perm (ws2 := [(o, .inr (3, [.ref st, .int (nI sz)])), (st, .inl (cQ, 4, .inr (.inr (.inr (.inr (hq m0 m1 m2 m3)))))), (m0, .inr (4, [.ref r0, .int (nI ((NS 1))), .int (nI ((ES 1))), .int (nI ((PS 1))), .int (nI ((BS 1)))])), (r0, .inl (cI, 40, .inl (fun j => nI (((G 1)) j)))), (m1, .inr (4, [.ref r1, .int (nI ((NS 2))), .int (nI ((ES 2))), .int (nI ((PS 2))), .int (nI ((BS 2)))])), (r1, .inl (cI, 40, .inl (fun j => nI (((G 2)) j)))), (m2, .inr (4, [.ref r2, .int (nI ((NS 3))), .int (nI ((ES 3))), .int (nI ((PS 3))), .int (nI ((BS 3)))])), (r2, .inl (cI, 40, .inl (fun j => nI (((G 3)) j)))), (m3, .inr (4, [.ref r3, .int (nI ((NS 3))), .int (nI ((ES 3))), .int (nI ((PS 3))), .int (nI ((BS 3)))])), (r3, .inl (cI, 40, .inl (fun j => nI (((G 3)) j))))]) [0, 1, 2, 3, 4, 5, 6, 7, 8, 9] rfl (by decide) ?_
  refine V_iinc (v := (nI 4)) (lv2 := [(0, .ref o), (1, .int (nI 4))]) (q := 1) hC dX3_dropOldest_28 rfl (nI_add _ _) (by decide) [1, 0] rfl ?_
  refine V_goto (tgt := 2) hC dX3_dropOldest_31 (by decide) ?_
  refine V_iload_n hC dX3_dropOldest_2 rfl 1 rfl ?_
  refine V_aload_n hC dX3_dropOldest_3 rfl 0 rfl ?_
  refine V_get (ci := 3) (v := .ref st) hC in_X3 0 rfl cls_X3 0 (by decide) fl_X3_11 rfl dX3_dropOldest_4 ?_
  refine V_alen (v := (nI 4)) hC 1 1 rfl rfl rfl dX3_dropOldest_7 ?_
  refine V_icmp_ge_T (tgt := 34) hC dX3_dropOldest_8 (by decide) (nI_le (by omega) (by omega)) ?_
  refine V_aload_n hC dX3_dropOldest_34 rfl 0 rfl ?_
  refine V_aload_n hC dX3_dropOldest_35 rfl 0 rfl ?_
  refine V_get (ci := 3) (v := .ref st) hC in_X3 0 rfl cls_X3 0 (by decide) fl_X3_11 rfl dX3_dropOldest_36 ?_
  refine V_alen (v := (nI 4)) hC 1 1 rfl rfl rfl dX3_dropOldest_39 ?_
  refine V_iconst (v := nI 1) hC dX3_dropOldest_40 (by decide) ?_
  refine V_isub hC dX3_dropOldest_41 (by omega) ?_
  refine V_put (ci := 3) (v := .int (nI 3)) hC tyX3 tyX3_ok nmX3 in_X3 0 rfl cls_X3 1 (by decide) fl_X3_17 rfl rfl rfl (Nat.le_of_ble_eq_true rfl) dX3_dropOldest_42 (ws2 := [(o, .inr (3, [.ref st, .int (nI 3)])), (st, .inl (cQ, 4, .inr (.inr (.inr (.inr (hq m0 m1 m2 m3)))))), (m0, .inr (4, [.ref r0, .int (nI ((NS 1))), .int (nI ((ES 1))), .int (nI ((PS 1))), .int (nI ((BS 1)))])), (r0, .inl (cI, 40, .inl (fun j => nI (((G 1)) j)))), (m1, .inr (4, [.ref r1, .int (nI ((NS 2))), .int (nI ((ES 2))), .int (nI ((PS 2))), .int (nI ((BS 2)))])), (r1, .inl (cI, 40, .inl (fun j => nI (((G 2)) j)))), (m2, .inr (4, [.ref r2, .int (nI ((NS 3))), .int (nI ((ES 3))), .int (nI ((PS 3))), .int (nI ((BS 3)))])), (r2, .inl (cI, 40, .inl (fun j => nI (((G 3)) j)))), (m3, .inr (4, [.ref r3, .int (nI ((NS 3))), .int (nI ((ES 3))), .int (nI ((PS 3))), .int (nI ((BS 3)))])), (r3, .inl (cI, 40, .inl (fun j => nI (((G 3)) j))))]) rfl ?_
  subst hQ
  exact V_vret hC hr hlk (by decide) (by decide) dX3_dropOldest_45 (()) [0, 1, 2, 3, 4, 5, 6, 7, 8, 9] rfl (by decide) (trivial)
abbrev rm_X3_keep : Room := { frames := 4, cells := 0, slots := 0, locals := 85 }
set_option maxHeartbeats 4000000 in
set_option maxRecDepth 100000 in
theorem c_X3_keep (l : Launch) (D : va_G) (cI cQ : ClassId) (o st sz m0 r0 m1 r1 m2 r2 m3 r3 : Nat) (G : Nat → Nat → Nat) (NS ES PS BS : Nat → Nat) (x xr n e p b : Nat) (g : Nat → Nat) (hz : sz ≤ 4) (hES : ∀ j, j < 4 → ES j < 2) (he : e < 2) : MV l yX3_keep cX3_keep 2 none rm_X3_keep D (TY cI cQ) [.ref o, .ref x] [(o, .inr (3, [.ref st, .int (nI sz)])), (st, .inl (cQ, 4, .inr (.inr (.inr (.inr (hq m0 m1 m2 m3)))))), (m0, .inr (4, [.ref r0, .int (nI (NS 0)), .int (nI (ES 0)), .int (nI (PS 0)), .int (nI (BS 0))])), (r0, .inl (cI, 40, .inl (fun j => nI ((G 0) j)))), (m1, .inr (4, [.ref r1, .int (nI (NS 1)), .int (nI (ES 1)), .int (nI (PS 1)), .int (nI (BS 1))])), (r1, .inl (cI, 40, .inl (fun j => nI ((G 1) j)))), (m2, .inr (4, [.ref r2, .int (nI (NS 2)), .int (nI (ES 2)), .int (nI (PS 2)), .int (nI (BS 2))])), (r2, .inl (cI, 40, .inl (fun j => nI ((G 2) j)))), (m3, .inr (4, [.ref r3, .int (nI (NS 3)), .int (nI (ES 3)), .int (nI (PS 3)), .int (nI (BS 3))])), (r3, .inl (cI, 40, .inl (fun j => nI ((G 3) j)))), (x, .inr (4, [.ref xr, .int (nI n), .int (nI e), .int (nI p), .int (nI b)])), (xr, .inl (cI, 40, .inl (fun j => nI (g j))))] (fun (u : Unit) => True) (fun (u : Unit) => [(o, .inr (3, [.ref st, .int (nI (hsz sz))])), (st, .inl (cQ, 4, .inr (.inr (.inr (.inr (hq m0 m1 m2 m3)))))), (m0, .inr (4, [.ref r0, .int (nI (hup NS sz n 0)), .int (nI (hup ES sz e 0)), .int (nI (hup PS sz p 0)), .int (nI (hup BS sz b 0))])), (r0, .inl (cI, 40, .inl (fun j => nI ((hup G sz g 0) j)))), (m1, .inr (4, [.ref r1, .int (nI (hup NS sz n 1)), .int (nI (hup ES sz e 1)), .int (nI (hup PS sz p 1)), .int (nI (hup BS sz b 1))])), (r1, .inl (cI, 40, .inl (fun j => nI ((hup G sz g 1) j)))), (m2, .inr (4, [.ref r2, .int (nI (hup NS sz n 2)), .int (nI (hup ES sz e 2)), .int (nI (hup PS sz p 2)), .int (nI (hup BS sz b 2))])), (r2, .inl (cI, 40, .inl (fun j => nI ((hup G sz g 2) j)))), (m3, .inr (4, [.ref r3, .int (nI (hup NS sz n 3)), .int (nI (hup ES sz e 3)), .int (nI (hup PS sz p 3)), .int (nI (hup BS sz b 3))])), (r3, .inl (cI, 40, .inl (fun j => nI ((hup G sz g 3) j)))), (x, .inr (4, [.ref xr, .int (nI n), .int (nI e), .int (nI p), .int (nI b)])), (xr, .inl (cI, 40, .inl (fun j => nI (g j))))]) 0 0 := by
  refine MV.start (by decide) (Nat.le_of_ble_eq_true rfl) (lv0 := [(0, .ref o), (1, .ref x)]) rfl ?_
  intro pp9 ee9 ss9 mm9 args9 below9 meth9 co9 A9 Q9 hQ hC hr hlk hnm
  rcases (show sz = 0 ∨ sz = 1 ∨ sz = 2 ∨ sz = 3 ∨ sz = 4 by omega) with rfl | rfl | rfl | rfl | rfl
  · refine V_aload_n hC dX3_keep_0 rfl 0 rfl ?_
    refine V_get (ci := 3) (v := .int (nI 0)) hC in_X3 0 rfl cls_X3 1 (by decide) fl_X3_17 rfl dX3_keep_1 ?_
    refine V_aload_n hC dX3_keep_4 rfl 0 rfl ?_
    refine V_get (ci := 3) (v := .ref st) hC in_X3 0 rfl cls_X3 0 (by decide) fl_X3_11 rfl dX3_keep_5 ?_
    refine V_alen (v := (nI 4)) hC 1 1 rfl rfl rfl dX3_keep_8 ?_
    refine V_icmp_lt_T (tgt := 16) hC dX3_keep_9 (by decide) (nI_lt (by omega) (by omega)) ?_
    refine V_aload_n hC dX3_keep_16 rfl 0 rfl ?_
    refine V_get (ci := 3) (v := .int (nI 0)) hC in_X3 0 rfl cls_X3 1 (by decide) fl_X3_17 rfl dX3_keep_17 ?_
    refine V_if_lt_F (tgt := 58) hC dX3_keep_20 (by decide) (nI_pos (by omega)) ?_
    refine V_aload_n hC dX3_keep_23 rfl 0 rfl ?_
    refine V_get (ci := 3) (v := .int (nI 0)) hC in_X3 0 rfl cls_X3 1 (by decide) fl_X3_17 rfl dX3_keep_24 ?_
    refine V_aload_n hC dX3_keep_27 rfl 0 rfl ?_
    refine V_get (ci := 3) (v := .ref st) hC in_X3 0 rfl cls_X3 0 (by decide) fl_X3_11 rfl dX3_keep_28 ?_
    refine V_alen (v := (nI 4)) hC 1 1 rfl rfl rfl dX3_keep_31 ?_
    refine V_icmp_ge_F (tgt := 58) hC dX3_keep_32 (by decide) (nI_ge (by omega) (by omega)) ?_
    refine V_aload_n hC dX3_keep_35 rfl 1 rfl ?_
    refine V_aload_n hC dX3_keep_36 rfl 0 rfl ?_
    refine V_get (ci := 3) (v := .ref st) hC in_X3 0 rfl cls_X3 0 (by decide) fl_X3_11 rfl dX3_keep_37 ?_
    refine V_aload_n hC dX3_keep_40 rfl 0 rfl ?_
    refine V_get (ci := 3) (v := .int (nI 0)) hC in_X3 0 rfl cls_X3 1 (by decide) fl_X3_17 rfl dX3_keep_41 ?_
    refine V_aldq (v := .ref m0) hC 1 1 rfl rfl (by decide) (by decide) rfl dX3_keep_44 ?_
    refine V_callvS (As := [.ref x, .ref m0]) (rest := []) (wr := [(o, .inr (3, [.ref st, .int (nI 0)])), (st, .inl (cQ, 4, .inr (.inr (.inr (.inr (hq m0 m1 m2 m3)))))), (m1, .inr (4, [.ref r1, .int (nI (NS 1)), .int (nI (ES 1)), .int (nI (PS 1)), .int (nI (BS 1))])), (r1, .inl (cI, 40, .inl (fun j => nI ((G 1) j)))), (m2, .inr (4, [.ref r2, .int (nI (NS 2)), .int (nI (ES 2)), .int (nI (PS 2)), .int (nI (BS 2))])), (r2, .inl (cI, 40, .inl (fun j => nI ((G 2) j)))), (m3, .inr (4, [.ref r3, .int (nI (NS 3)), .int (nI (ES 3)), .int (nI (PS 3)), .int (nI (BS 3))])), (r3, .inl (cI, 40, .inl (fun j => nI ((G 3) j))))]) hC (c_X3_copy l D cI cQ m0 r0 (NS 0) (ES 0) (PS 0) (BS 0) x xr n e p b (G 0) g (he)) mok_X3_copy ml_X3_25 rfl rfl rfl (by decide) (by decide) (by decide) (Nat.le_of_ble_eq_true rfl) [2, 3, 10, 11] [0, 1, 4, 5, 6, 7, 8, 9] rfl (by decide) rfl (by decide) (by decide) dX3_keep_45 rfl (fun u9 h45 => ?_)
    clear h45
    refine V_perm (ws2 := [(o, .inr (3, [.ref st, .int (nI 0)])), (st, .inl (cQ, 4, .inr (.inr (.inr (.inr (hq m0 m1 m2 m3)))))), (m0, .inr (4, [.ref r0, .int (nI n), .int (nI e), .int (nI p), .int (nI b)])), (r0, .inl (cI, 40, .inl (fun j => nI (g j)))), (m1, .inr (4, [.ref r1, .int (nI (NS 1)), .int (nI (ES 1)), .int (nI (PS 1)), .int (nI (BS 1))])), (r1, .inl (cI, 40, .inl (fun j => nI ((G 1) j)))), (m2, .inr (4, [.ref r2, .int (nI (NS 2)), .int (nI (ES 2)), .int (nI (PS 2)), .int (nI (BS 2))])), (r2, .inl (cI, 40, .inl (fun j => nI ((G 2) j)))), (m3, .inr (4, [.ref r3, .int (nI (NS 3)), .int (nI (ES 3)), .int (nI (PS 3)), .int (nI (BS 3))])), (r3, .inl (cI, 40, .inl (fun j => nI ((G 3) j)))), (x, .inr (4, [.ref xr, .int (nI n), .int (nI e), .int (nI p), .int (nI b)])), (xr, .inl (cI, 40, .inl (fun j => nI (g j))))]) [0, 1, 8, 9, 2, 3, 4, 5, 6, 7, 10, 11] rfl (by decide) ?_
    refine V_aload_n hC dX3_keep_48 rfl 0 rfl ?_
    refine V_dup hC dX3_keep_49 rfl ?_
    refine V_get (ci := 3) (v := .int (nI 0)) hC in_X3 0 rfl cls_X3 1 (by decide) fl_X3_17 rfl dX3_keep_50 ?_
    refine V_iconst (v := nI 1) hC dX3_keep_53 (by decide) ?_
    refine V_iadd hC dX3_keep_54 ?_
    refine V_put (ci := 3) (v := .int (nI 1)) hC tyX3 tyX3_ok nmX3 in_X3 0 rfl cls_X3 1 (by decide) fl_X3_17 rfl rfl rfl (Nat.le_of_ble_eq_true rfl) dX3_keep_55 (ws2 := [(o, .inr (3, [.ref st, .int (nI 1)])), (st, .inl (cQ, 4, .inr (.inr (.inr (.inr (hq m0 m1 m2 m3)))))), (m0, .inr (4, [.ref r0, .int (nI n), .int (nI e), .int (nI p), .int (nI b)])), (r0, .inl (cI, 40, .inl (fun j => nI (g j)))), (m1, .inr (4, [.ref r1, .int (nI (NS 1)), .int (nI (ES 1)), .int (nI (PS 1)), .int (nI (BS 1))])), (r1, .inl (cI, 40, .inl (fun j => nI ((G 1) j)))), (m2, .inr (4, [.ref r2, .int (nI (NS 2)), .int (nI (ES 2)), .int (nI (PS 2)), .int (nI (BS 2))])), (r2, .inl (cI, 40, .inl (fun j => nI ((G 2) j)))), (m3, .inr (4, [.ref r3, .int (nI (NS 3)), .int (nI (ES 3)), .int (nI (PS 3)), .int (nI (BS 3))])), (r3, .inl (cI, 40, .inl (fun j => nI ((G 3) j)))), (x, .inr (4, [.ref xr, .int (nI n), .int (nI e), .int (nI p), .int (nI b)])), (xr, .inl (cI, 40, .inl (fun j => nI (g j))))]) rfl ?_
    refine V_ws (ws2 := [(o, .inr (3, [.ref st, .int (nI (hsz 0))])), (st, .inl (cQ, 4, .inr (.inr (.inr (.inr (hq m0 m1 m2 m3)))))), (m0, .inr (4, [.ref r0, .int (nI (hup NS 0 n 0)), .int (nI (hup ES 0 e 0)), .int (nI (hup PS 0 p 0)), .int (nI (hup BS 0 b 0))])), (r0, .inl (cI, 40, .inl (fun j => nI ((hup G 0 g 0) j)))), (m1, .inr (4, [.ref r1, .int (nI (hup NS 0 n 1)), .int (nI (hup ES 0 e 1)), .int (nI (hup PS 0 p 1)), .int (nI (hup BS 0 b 1))])), (r1, .inl (cI, 40, .inl (fun j => nI ((hup G 0 g 1) j)))), (m2, .inr (4, [.ref r2, .int (nI (hup NS 0 n 2)), .int (nI (hup ES 0 e 2)), .int (nI (hup PS 0 p 2)), .int (nI (hup BS 0 b 2))])), (r2, .inl (cI, 40, .inl (fun j => nI ((hup G 0 g 2) j)))), (m3, .inr (4, [.ref r3, .int (nI (hup NS 0 n 3)), .int (nI (hup ES 0 e 3)), .int (nI (hup PS 0 p 3)), .int (nI (hup BS 0 b 3))])), (r3, .inl (cI, 40, .inl (fun j => nI ((hup G 0 g 3) j)))), (x, .inr (4, [.ref xr, .int (nI n), .int (nI e), .int (nI p), .int (nI b)])), (xr, .inl (cI, 40, .inl (fun j => nI (g j))))]) (rfl) ?_
    subst hQ
    exact V_vret hC hr hlk (by decide) (by decide) dX3_keep_58 (()) [0, 1, 2, 3, 4, 5, 6, 7, 8, 9, 10, 11] rfl (by decide) (trivial)
  · refine V_aload_n hC dX3_keep_0 rfl 0 rfl ?_
    refine V_get (ci := 3) (v := .int (nI 1)) hC in_X3 0 rfl cls_X3 1 (by decide) fl_X3_17 rfl dX3_keep_1 ?_
    refine V_aload_n hC dX3_keep_4 rfl 0 rfl ?_
    refine V_get (ci := 3) (v := .ref st) hC in_X3 0 rfl cls_X3 0 (by decide) fl_X3_11 rfl dX3_keep_5 ?_
    refine V_alen (v := (nI 4)) hC 1 1 rfl rfl rfl dX3_keep_8 ?_
    refine V_icmp_lt_T (tgt := 16) hC dX3_keep_9 (by decide) (nI_lt (by omega) (by omega)) ?_
    refine V_aload_n hC dX3_keep_16 rfl 0 rfl ?_
    refine V_get (ci := 3) (v := .int (nI 1)) hC in_X3 0 rfl cls_X3 1 (by decide) fl_X3_17 rfl dX3_keep_17 ?_
    refine V_if_lt_F (tgt := 58) hC dX3_keep_20 (by decide) (nI_pos (by omega)) ?_
    refine V_aload_n hC dX3_keep_23 rfl 0 rfl ?_
    refine V_get (ci := 3) (v := .int (nI 1)) hC in_X3 0 rfl cls_X3 1 (by decide) fl_X3_17 rfl dX3_keep_24 ?_
    refine V_aload_n hC dX3_keep_27 rfl 0 rfl ?_
    refine V_get (ci := 3) (v := .ref st) hC in_X3 0 rfl cls_X3 0 (by decide) fl_X3_11 rfl dX3_keep_28 ?_
    refine V_alen (v := (nI 4)) hC 1 1 rfl rfl rfl dX3_keep_31 ?_
    refine V_icmp_ge_F (tgt := 58) hC dX3_keep_32 (by decide) (nI_ge (by omega) (by omega)) ?_
    refine V_aload_n hC dX3_keep_35 rfl 1 rfl ?_
    refine V_aload_n hC dX3_keep_36 rfl 0 rfl ?_
    refine V_get (ci := 3) (v := .ref st) hC in_X3 0 rfl cls_X3 0 (by decide) fl_X3_11 rfl dX3_keep_37 ?_
    refine V_aload_n hC dX3_keep_40 rfl 0 rfl ?_
    refine V_get (ci := 3) (v := .int (nI 1)) hC in_X3 0 rfl cls_X3 1 (by decide) fl_X3_17 rfl dX3_keep_41 ?_
    refine V_aldq (v := .ref m1) hC 1 1 rfl rfl (by decide) (by decide) rfl dX3_keep_44 ?_
    refine V_callvS (As := [.ref x, .ref m1]) (rest := []) (wr := [(o, .inr (3, [.ref st, .int (nI 1)])), (st, .inl (cQ, 4, .inr (.inr (.inr (.inr (hq m0 m1 m2 m3)))))), (m0, .inr (4, [.ref r0, .int (nI (NS 0)), .int (nI (ES 0)), .int (nI (PS 0)), .int (nI (BS 0))])), (r0, .inl (cI, 40, .inl (fun j => nI ((G 0) j)))), (m2, .inr (4, [.ref r2, .int (nI (NS 2)), .int (nI (ES 2)), .int (nI (PS 2)), .int (nI (BS 2))])), (r2, .inl (cI, 40, .inl (fun j => nI ((G 2) j)))), (m3, .inr (4, [.ref r3, .int (nI (NS 3)), .int (nI (ES 3)), .int (nI (PS 3)), .int (nI (BS 3))])), (r3, .inl (cI, 40, .inl (fun j => nI ((G 3) j))))]) hC (c_X3_copy l D cI cQ m1 r1 (NS 1) (ES 1) (PS 1) (BS 1) x xr n e p b (G 1) g (he)) mok_X3_copy ml_X3_25 rfl rfl rfl (by decide) (by decide) (by decide) (Nat.le_of_ble_eq_true rfl) [4, 5, 10, 11] [0, 1, 2, 3, 6, 7, 8, 9] rfl (by decide) rfl (by decide) (by decide) dX3_keep_45 rfl (fun u9 h45 => ?_)
    clear h45
    refine V_perm (ws2 := [(o, .inr (3, [.ref st, .int (nI 1)])), (st, .inl (cQ, 4, .inr (.inr (.inr (.inr (hq m0 m1 m2 m3)))))), (m0, .inr (4, [.ref r0, .int (nI (NS 0)), .int (nI (ES 0)), .int (nI (PS 0)), .int (nI (BS 0))])), (r0, .inl (cI, 40, .inl (fun j => nI ((G 0) j)))), (m1, .inr (4, [.ref r1, .int (nI n), .int (nI e), .int (nI p), .int (nI b)])), (r1, .inl (cI, 40, .inl (fun j => nI (g j)))), (m2, .inr (4, [.ref r2, .int (nI (NS 2)), .int (nI (ES 2)), .int (nI (PS 2)), .int (nI (BS 2))])), (r2, .inl (cI, 40, .inl (fun j => nI ((G 2) j)))), (m3, .inr (4, [.ref r3, .int (nI (NS 3)), .int (nI (ES 3)), .int (nI (PS 3)), .int (nI (BS 3))])), (r3, .inl (cI, 40, .inl (fun j => nI ((G 3) j)))), (x, .inr (4, [.ref xr, .int (nI n), .int (nI e), .int (nI p), .int (nI b)])), (xr, .inl (cI, 40, .inl (fun j => nI (g j))))]) [0, 1, 2, 3, 8, 9, 4, 5, 6, 7, 10, 11] rfl (by decide) ?_
    refine V_aload_n hC dX3_keep_48 rfl 0 rfl ?_
    refine V_dup hC dX3_keep_49 rfl ?_
    refine V_get (ci := 3) (v := .int (nI 1)) hC in_X3 0 rfl cls_X3 1 (by decide) fl_X3_17 rfl dX3_keep_50 ?_
    refine V_iconst (v := nI 1) hC dX3_keep_53 (by decide) ?_
    refine V_iadd hC dX3_keep_54 ?_
    refine V_put (ci := 3) (v := .int (nI 2)) hC tyX3 tyX3_ok nmX3 in_X3 0 rfl cls_X3 1 (by decide) fl_X3_17 rfl rfl rfl (Nat.le_of_ble_eq_true rfl) dX3_keep_55 (ws2 := [(o, .inr (3, [.ref st, .int (nI 2)])), (st, .inl (cQ, 4, .inr (.inr (.inr (.inr (hq m0 m1 m2 m3)))))), (m0, .inr (4, [.ref r0, .int (nI (NS 0)), .int (nI (ES 0)), .int (nI (PS 0)), .int (nI (BS 0))])), (r0, .inl (cI, 40, .inl (fun j => nI ((G 0) j)))), (m1, .inr (4, [.ref r1, .int (nI n), .int (nI e), .int (nI p), .int (nI b)])), (r1, .inl (cI, 40, .inl (fun j => nI (g j)))), (m2, .inr (4, [.ref r2, .int (nI (NS 2)), .int (nI (ES 2)), .int (nI (PS 2)), .int (nI (BS 2))])), (r2, .inl (cI, 40, .inl (fun j => nI ((G 2) j)))), (m3, .inr (4, [.ref r3, .int (nI (NS 3)), .int (nI (ES 3)), .int (nI (PS 3)), .int (nI (BS 3))])), (r3, .inl (cI, 40, .inl (fun j => nI ((G 3) j)))), (x, .inr (4, [.ref xr, .int (nI n), .int (nI e), .int (nI p), .int (nI b)])), (xr, .inl (cI, 40, .inl (fun j => nI (g j))))]) rfl ?_
    refine V_ws (ws2 := [(o, .inr (3, [.ref st, .int (nI (hsz 1))])), (st, .inl (cQ, 4, .inr (.inr (.inr (.inr (hq m0 m1 m2 m3)))))), (m0, .inr (4, [.ref r0, .int (nI (hup NS 1 n 0)), .int (nI (hup ES 1 e 0)), .int (nI (hup PS 1 p 0)), .int (nI (hup BS 1 b 0))])), (r0, .inl (cI, 40, .inl (fun j => nI ((hup G 1 g 0) j)))), (m1, .inr (4, [.ref r1, .int (nI (hup NS 1 n 1)), .int (nI (hup ES 1 e 1)), .int (nI (hup PS 1 p 1)), .int (nI (hup BS 1 b 1))])), (r1, .inl (cI, 40, .inl (fun j => nI ((hup G 1 g 1) j)))), (m2, .inr (4, [.ref r2, .int (nI (hup NS 1 n 2)), .int (nI (hup ES 1 e 2)), .int (nI (hup PS 1 p 2)), .int (nI (hup BS 1 b 2))])), (r2, .inl (cI, 40, .inl (fun j => nI ((hup G 1 g 2) j)))), (m3, .inr (4, [.ref r3, .int (nI (hup NS 1 n 3)), .int (nI (hup ES 1 e 3)), .int (nI (hup PS 1 p 3)), .int (nI (hup BS 1 b 3))])), (r3, .inl (cI, 40, .inl (fun j => nI ((hup G 1 g 3) j)))), (x, .inr (4, [.ref xr, .int (nI n), .int (nI e), .int (nI p), .int (nI b)])), (xr, .inl (cI, 40, .inl (fun j => nI (g j))))]) (rfl) ?_
    subst hQ
    exact V_vret hC hr hlk (by decide) (by decide) dX3_keep_58 (()) [0, 1, 2, 3, 4, 5, 6, 7, 8, 9, 10, 11] rfl (by decide) (trivial)
  · refine V_aload_n hC dX3_keep_0 rfl 0 rfl ?_
    refine V_get (ci := 3) (v := .int (nI 2)) hC in_X3 0 rfl cls_X3 1 (by decide) fl_X3_17 rfl dX3_keep_1 ?_
    refine V_aload_n hC dX3_keep_4 rfl 0 rfl ?_
    refine V_get (ci := 3) (v := .ref st) hC in_X3 0 rfl cls_X3 0 (by decide) fl_X3_11 rfl dX3_keep_5 ?_
    refine V_alen (v := (nI 4)) hC 1 1 rfl rfl rfl dX3_keep_8 ?_
    refine V_icmp_lt_T (tgt := 16) hC dX3_keep_9 (by decide) (nI_lt (by omega) (by omega)) ?_
    refine V_aload_n hC dX3_keep_16 rfl 0 rfl ?_
    refine V_get (ci := 3) (v := .int (nI 2)) hC in_X3 0 rfl cls_X3 1 (by decide) fl_X3_17 rfl dX3_keep_17 ?_
    refine V_if_lt_F (tgt := 58) hC dX3_keep_20 (by decide) (nI_pos (by omega)) ?_
    refine V_aload_n hC dX3_keep_23 rfl 0 rfl ?_
    refine V_get (ci := 3) (v := .int (nI 2)) hC in_X3 0 rfl cls_X3 1 (by decide) fl_X3_17 rfl dX3_keep_24 ?_
    refine V_aload_n hC dX3_keep_27 rfl 0 rfl ?_
    refine V_get (ci := 3) (v := .ref st) hC in_X3 0 rfl cls_X3 0 (by decide) fl_X3_11 rfl dX3_keep_28 ?_
    refine V_alen (v := (nI 4)) hC 1 1 rfl rfl rfl dX3_keep_31 ?_
    refine V_icmp_ge_F (tgt := 58) hC dX3_keep_32 (by decide) (nI_ge (by omega) (by omega)) ?_
    refine V_aload_n hC dX3_keep_35 rfl 1 rfl ?_
    refine V_aload_n hC dX3_keep_36 rfl 0 rfl ?_
    refine V_get (ci := 3) (v := .ref st) hC in_X3 0 rfl cls_X3 0 (by decide) fl_X3_11 rfl dX3_keep_37 ?_
    refine V_aload_n hC dX3_keep_40 rfl 0 rfl ?_
    refine V_get (ci := 3) (v := .int (nI 2)) hC in_X3 0 rfl cls_X3 1 (by decide) fl_X3_17 rfl dX3_keep_41 ?_
    refine V_aldq (v := .ref m2) hC 1 1 rfl rfl (by decide) (by decide) rfl dX3_keep_44 ?_
    refine V_callvS (As := [.ref x, .ref m2]) (rest := []) (wr := [(o, .inr (3, [.ref st, .int (nI 2)])), (st, .inl (cQ, 4, .inr (.inr (.inr (.inr (hq m0 m1 m2 m3)))))), (m0, .inr (4, [.ref r0, .int (nI (NS 0)), .int (nI (ES 0)), .int (nI (PS 0)), .int (nI (BS 0))])), (r0, .inl (cI, 40, .inl (fun j => nI ((G 0) j)))), (m1, .inr (4, [.ref r1, .int (nI (NS 1)), .int (nI (ES 1)), .int (nI (PS 1)), .int (nI (BS 1))])), (r1, .inl (cI, 40, .inl (fun j => nI ((G 1) j)))), (m3, .inr (4, [.ref r3, .int (nI (NS 3)), .int (nI (ES 3)), .int (nI (PS 3)), .int (nI (BS 3))])), (r3, .inl (cI, 40, .inl (fun j => nI ((G 3) j))))]) hC (c_X3_copy l D cI cQ m2 r2 (NS 2) (ES 2) (PS 2) (BS 2) x xr n e p b (G 2) g (he)) mok_X3_copy ml_X3_25 rfl rfl rfl (by decide) (by decide) (by decide) (Nat.le_of_ble_eq_true rfl) [6, 7, 10, 11] [0, 1, 2, 3, 4, 5, 8, 9] rfl (by decide) rfl (by decide) (by decide) dX3_keep_45 rfl (fun u9 h45 => ?_)
    clear h45
    refine V_perm (ws2 := [(o, .inr (3, [.ref st, .int (nI 2)])), (st, .inl (cQ, 4, .inr (.inr (.inr (.inr (hq m0 m1 m2 m3)))))), (m0, .inr (4, [.ref r0, .int (nI (NS 0)), .int (nI (ES 0)), .int (nI (PS 0)), .int (nI (BS 0))])), (r0, .inl (cI, 40, .inl (fun j => nI ((G 0) j)))), (m1, .inr (4, [.ref r1, .int (nI (NS 1)), .int (nI (ES 1)), .int (nI (PS 1)), .int (nI (BS 1))])), (r1, .inl (cI, 40, .inl (fun j => nI ((G 1) j)))), (m2, .inr (4, [.ref r2, .int (nI n), .int (nI e), .int (nI p), .int (nI b)])), (r2, .inl (cI, 40, .inl (fun j => nI (g j)))), (m3, .inr (4, [.ref r3, .int (nI (NS 3)), .int (nI (ES 3)), .int (nI (PS 3)), .int (nI (BS 3))])), (r3, .inl (cI, 40, .inl (fun j => nI ((G 3) j)))), (x, .inr (4, [.ref xr, .int (nI n), .int (nI e), .int (nI p), .int (nI b)])), (xr, .inl (cI, 40, .inl (fun j => nI (g j))))]) [0, 1, 2, 3, 4, 5, 8, 9, 6, 7, 10, 11] rfl (by decide) ?_
    refine V_aload_n hC dX3_keep_48 rfl 0 rfl ?_
    refine V_dup hC dX3_keep_49 rfl ?_
    refine V_get (ci := 3) (v := .int (nI 2)) hC in_X3 0 rfl cls_X3 1 (by decide) fl_X3_17 rfl dX3_keep_50 ?_
    refine V_iconst (v := nI 1) hC dX3_keep_53 (by decide) ?_
    refine V_iadd hC dX3_keep_54 ?_
    refine V_put (ci := 3) (v := .int (nI 3)) hC tyX3 tyX3_ok nmX3 in_X3 0 rfl cls_X3 1 (by decide) fl_X3_17 rfl rfl rfl (Nat.le_of_ble_eq_true rfl) dX3_keep_55 (ws2 := [(o, .inr (3, [.ref st, .int (nI 3)])), (st, .inl (cQ, 4, .inr (.inr (.inr (.inr (hq m0 m1 m2 m3)))))), (m0, .inr (4, [.ref r0, .int (nI (NS 0)), .int (nI (ES 0)), .int (nI (PS 0)), .int (nI (BS 0))])), (r0, .inl (cI, 40, .inl (fun j => nI ((G 0) j)))), (m1, .inr (4, [.ref r1, .int (nI (NS 1)), .int (nI (ES 1)), .int (nI (PS 1)), .int (nI (BS 1))])), (r1, .inl (cI, 40, .inl (fun j => nI ((G 1) j)))), (m2, .inr (4, [.ref r2, .int (nI n), .int (nI e), .int (nI p), .int (nI b)])), (r2, .inl (cI, 40, .inl (fun j => nI (g j)))), (m3, .inr (4, [.ref r3, .int (nI (NS 3)), .int (nI (ES 3)), .int (nI (PS 3)), .int (nI (BS 3))])), (r3, .inl (cI, 40, .inl (fun j => nI ((G 3) j)))), (x, .inr (4, [.ref xr, .int (nI n), .int (nI e), .int (nI p), .int (nI b)])), (xr, .inl (cI, 40, .inl (fun j => nI (g j))))]) rfl ?_
    refine V_ws (ws2 := [(o, .inr (3, [.ref st, .int (nI (hsz 2))])), (st, .inl (cQ, 4, .inr (.inr (.inr (.inr (hq m0 m1 m2 m3)))))), (m0, .inr (4, [.ref r0, .int (nI (hup NS 2 n 0)), .int (nI (hup ES 2 e 0)), .int (nI (hup PS 2 p 0)), .int (nI (hup BS 2 b 0))])), (r0, .inl (cI, 40, .inl (fun j => nI ((hup G 2 g 0) j)))), (m1, .inr (4, [.ref r1, .int (nI (hup NS 2 n 1)), .int (nI (hup ES 2 e 1)), .int (nI (hup PS 2 p 1)), .int (nI (hup BS 2 b 1))])), (r1, .inl (cI, 40, .inl (fun j => nI ((hup G 2 g 1) j)))), (m2, .inr (4, [.ref r2, .int (nI (hup NS 2 n 2)), .int (nI (hup ES 2 e 2)), .int (nI (hup PS 2 p 2)), .int (nI (hup BS 2 b 2))])), (r2, .inl (cI, 40, .inl (fun j => nI ((hup G 2 g 2) j)))), (m3, .inr (4, [.ref r3, .int (nI (hup NS 2 n 3)), .int (nI (hup ES 2 e 3)), .int (nI (hup PS 2 p 3)), .int (nI (hup BS 2 b 3))])), (r3, .inl (cI, 40, .inl (fun j => nI ((hup G 2 g 3) j)))), (x, .inr (4, [.ref xr, .int (nI n), .int (nI e), .int (nI p), .int (nI b)])), (xr, .inl (cI, 40, .inl (fun j => nI (g j))))]) (rfl) ?_
    subst hQ
    exact V_vret hC hr hlk (by decide) (by decide) dX3_keep_58 (()) [0, 1, 2, 3, 4, 5, 6, 7, 8, 9, 10, 11] rfl (by decide) (trivial)
  · refine V_aload_n hC dX3_keep_0 rfl 0 rfl ?_
    refine V_get (ci := 3) (v := .int (nI 3)) hC in_X3 0 rfl cls_X3 1 (by decide) fl_X3_17 rfl dX3_keep_1 ?_
    refine V_aload_n hC dX3_keep_4 rfl 0 rfl ?_
    refine V_get (ci := 3) (v := .ref st) hC in_X3 0 rfl cls_X3 0 (by decide) fl_X3_11 rfl dX3_keep_5 ?_
    refine V_alen (v := (nI 4)) hC 1 1 rfl rfl rfl dX3_keep_8 ?_
    refine V_icmp_lt_T (tgt := 16) hC dX3_keep_9 (by decide) (nI_lt (by omega) (by omega)) ?_
    refine V_aload_n hC dX3_keep_16 rfl 0 rfl ?_
    refine V_get (ci := 3) (v := .int (nI 3)) hC in_X3 0 rfl cls_X3 1 (by decide) fl_X3_17 rfl dX3_keep_17 ?_
    refine V_if_lt_F (tgt := 58) hC dX3_keep_20 (by decide) (nI_pos (by omega)) ?_
    refine V_aload_n hC dX3_keep_23 rfl 0 rfl ?_
    refine V_get (ci := 3) (v := .int (nI 3)) hC in_X3 0 rfl cls_X3 1 (by decide) fl_X3_17 rfl dX3_keep_24 ?_
    refine V_aload_n hC dX3_keep_27 rfl 0 rfl ?_
    refine V_get (ci := 3) (v := .ref st) hC in_X3 0 rfl cls_X3 0 (by decide) fl_X3_11 rfl dX3_keep_28 ?_
    refine V_alen (v := (nI 4)) hC 1 1 rfl rfl rfl dX3_keep_31 ?_
    refine V_icmp_ge_F (tgt := 58) hC dX3_keep_32 (by decide) (nI_ge (by omega) (by omega)) ?_
    refine V_aload_n hC dX3_keep_35 rfl 1 rfl ?_
    refine V_aload_n hC dX3_keep_36 rfl 0 rfl ?_
    refine V_get (ci := 3) (v := .ref st) hC in_X3 0 rfl cls_X3 0 (by decide) fl_X3_11 rfl dX3_keep_37 ?_
    refine V_aload_n hC dX3_keep_40 rfl 0 rfl ?_
    refine V_get (ci := 3) (v := .int (nI 3)) hC in_X3 0 rfl cls_X3 1 (by decide) fl_X3_17 rfl dX3_keep_41 ?_
    refine V_aldq (v := .ref m3) hC 1 1 rfl rfl (by decide) (by decide) rfl dX3_keep_44 ?_
    refine V_callvS (As := [.ref x, .ref m3]) (rest := []) (wr := [(o, .inr (3, [.ref st, .int (nI 3)])), (st, .inl (cQ, 4, .inr (.inr (.inr (.inr (hq m0 m1 m2 m3)))))), (m0, .inr (4, [.ref r0, .int (nI (NS 0)), .int (nI (ES 0)), .int (nI (PS 0)), .int (nI (BS 0))])), (r0, .inl (cI, 40, .inl (fun j => nI ((G 0) j)))), (m1, .inr (4, [.ref r1, .int (nI (NS 1)), .int (nI (ES 1)), .int (nI (PS 1)), .int (nI (BS 1))])), (r1, .inl (cI, 40, .inl (fun j => nI ((G 1) j)))), (m2, .inr (4, [.ref r2, .int (nI (NS 2)), .int (nI (ES 2)), .int (nI (PS 2)), .int (nI (BS 2))])), (r2, .inl (cI, 40, .inl (fun j => nI ((G 2) j))))]) hC (c_X3_copy l D cI cQ m3 r3 (NS 3) (ES 3) (PS 3) (BS 3) x xr n e p b (G 3) g (he)) mok_X3_copy ml_X3_25 rfl rfl rfl (by decide) (by decide) (by decide) (Nat.le_of_ble_eq_true rfl) [8, 9, 10, 11] [0, 1, 2, 3, 4, 5, 6, 7] rfl (by decide) rfl (by decide) (by decide) dX3_keep_45 rfl (fun u9 h45 => ?_)
    clear h45
    refine V_perm (ws2 := [(o, .inr (3, [.ref st, .int (nI 3)])), (st, .inl (cQ, 4, .inr (.inr (.inr (.inr (hq m0 m1 m2 m3)))))), (m0, .inr (4, [.ref r0, .int (nI (NS 0)), .int (nI (ES 0)), .int (nI (PS 0)), .int (nI (BS 0))])), (r0, .inl (cI, 40, .inl (fun j => nI ((G 0) j)))), (m1, .inr (4, [.ref r1, .int (nI (NS 1)), .int (nI (ES 1)), .int (nI (PS 1)), .int (nI (BS 1))])), (r1, .inl (cI, 40, .inl (fun j => nI ((G 1) j)))), (m2, .inr (4, [.ref r2, .int (nI (NS 2)), .int (nI (ES 2)), .int (nI (PS 2)), .int (nI (BS 2))])), (r2, .inl (cI, 40, .inl (fun j => nI ((G 2) j)))), (m3, .inr (4, [.ref r3, .int (nI n), .int (nI e), .int (nI p), .int (nI b)])), (r3, .inl (cI, 40, .inl (fun j => nI (g j)))), (x, .inr (4, [.ref xr, .int (nI n), .int (nI e), .int (nI p), .int (nI b)])), (xr, .inl (cI, 40, .inl (fun j => nI (g j))))]) [0, 1, 2, 3, 4, 5, 6, 7, 8, 9, 10, 11] rfl (by decide) ?_
    refine V_aload_n hC dX3_keep_48 rfl 0 rfl ?_
    refine V_dup hC dX3_keep_49 rfl ?_
    refine V_get (ci := 3) (v := .int (nI 3)) hC in_X3 0 rfl cls_X3 1 (by decide) fl_X3_17 rfl dX3_keep_50 ?_
    refine V_iconst (v := nI 1) hC dX3_keep_53 (by decide) ?_
    refine V_iadd hC dX3_keep_54 ?_
    refine V_put (ci := 3) (v := .int (nI 4)) hC tyX3 tyX3_ok nmX3 in_X3 0 rfl cls_X3 1 (by decide) fl_X3_17 rfl rfl rfl (Nat.le_of_ble_eq_true rfl) dX3_keep_55 (ws2 := [(o, .inr (3, [.ref st, .int (nI 4)])), (st, .inl (cQ, 4, .inr (.inr (.inr (.inr (hq m0 m1 m2 m3)))))), (m0, .inr (4, [.ref r0, .int (nI (NS 0)), .int (nI (ES 0)), .int (nI (PS 0)), .int (nI (BS 0))])), (r0, .inl (cI, 40, .inl (fun j => nI ((G 0) j)))), (m1, .inr (4, [.ref r1, .int (nI (NS 1)), .int (nI (ES 1)), .int (nI (PS 1)), .int (nI (BS 1))])), (r1, .inl (cI, 40, .inl (fun j => nI ((G 1) j)))), (m2, .inr (4, [.ref r2, .int (nI (NS 2)), .int (nI (ES 2)), .int (nI (PS 2)), .int (nI (BS 2))])), (r2, .inl (cI, 40, .inl (fun j => nI ((G 2) j)))), (m3, .inr (4, [.ref r3, .int (nI n), .int (nI e), .int (nI p), .int (nI b)])), (r3, .inl (cI, 40, .inl (fun j => nI (g j)))), (x, .inr (4, [.ref xr, .int (nI n), .int (nI e), .int (nI p), .int (nI b)])), (xr, .inl (cI, 40, .inl (fun j => nI (g j))))]) rfl ?_
    refine V_ws (ws2 := [(o, .inr (3, [.ref st, .int (nI (hsz 3))])), (st, .inl (cQ, 4, .inr (.inr (.inr (.inr (hq m0 m1 m2 m3)))))), (m0, .inr (4, [.ref r0, .int (nI (hup NS 3 n 0)), .int (nI (hup ES 3 e 0)), .int (nI (hup PS 3 p 0)), .int (nI (hup BS 3 b 0))])), (r0, .inl (cI, 40, .inl (fun j => nI ((hup G 3 g 0) j)))), (m1, .inr (4, [.ref r1, .int (nI (hup NS 3 n 1)), .int (nI (hup ES 3 e 1)), .int (nI (hup PS 3 p 1)), .int (nI (hup BS 3 b 1))])), (r1, .inl (cI, 40, .inl (fun j => nI ((hup G 3 g 1) j)))), (m2, .inr (4, [.ref r2, .int (nI (hup NS 3 n 2)), .int (nI (hup ES 3 e 2)), .int (nI (hup PS 3 p 2)), .int (nI (hup BS 3 b 2))])), (r2, .inl (cI, 40, .inl (fun j => nI ((hup G 3 g 2) j)))), (m3, .inr (4, [.ref r3, .int (nI (hup NS 3 n 3)), .int (nI (hup ES 3 e 3)), .int (nI (hup PS 3 p 3)), .int (nI (hup BS 3 b 3))])), (r3, .inl (cI, 40, .inl (fun j => nI ((hup G 3 g 3) j)))), (x, .inr (4, [.ref xr, .int (nI n), .int (nI e), .int (nI p), .int (nI b)])), (xr, .inl (cI, 40, .inl (fun j => nI (g j))))]) (rfl) ?_
    subst hQ
    exact V_vret hC hr hlk (by decide) (by decide) dX3_keep_58 (()) [0, 1, 2, 3, 4, 5, 6, 7, 8, 9, 10, 11] rfl (by decide) (trivial)
  · refine V_aload_n hC dX3_keep_0 rfl 0 rfl ?_
    refine V_get (ci := 3) (v := .int (nI 4)) hC in_X3 0 rfl cls_X3 1 (by decide) fl_X3_17 rfl dX3_keep_1 ?_
    refine V_aload_n hC dX3_keep_4 rfl 0 rfl ?_
    refine V_get (ci := 3) (v := .ref st) hC in_X3 0 rfl cls_X3 0 (by decide) fl_X3_11 rfl dX3_keep_5 ?_
    refine V_alen (v := (nI 4)) hC 1 1 rfl rfl rfl dX3_keep_8 ?_
    refine V_icmp_lt_F (tgt := 16) hC dX3_keep_9 (by decide) (nI_nlt (by omega) (by omega)) ?_
    refine V_aload_n hC dX3_keep_12 rfl 0 rfl ?_
    refine V_callvV (As := []) (rest := []) (wr := [(x, .inr (4, [.ref xr, .int (nI n), .int (nI e), .int (nI p), .int (nI b)])), (xr, .inl (cI, 40, .inl (fun j => nI (g j))))]) hC (c_X3_dropOldest l D cI cQ o st 4 _ r0 _ r1 _ r2 _ r3 _ _ _ _ _ (hES)) mok_X3_dropOldest ml_X3_22 (q1 := 0) rfl cls_X3 rfl rfl rfl (by decide) (by decide) (by decide) (Nat.le_of_ble_eq_true rfl) [0, 1, 2, 3, 4, 5, 6, 7, 8, 9] [10, 11] rfl (by decide) rfl (by decide) (by decide) dX3_keep_13 rfl (fun u9 h13 => ?_)
    clear h13
    refine V_perm (ws2 := [(o, .inr (3, [.ref st, .int (nI 3)])), (st, .inl (cQ, 4, .inr (.inr (.inr (.inr (hq m0 m1 m2 m3)))))), (m0, .inr (4, [.ref r0, .int (nI (NS 1)), .int (nI (ES 1)), .int (nI (PS 1)), .int (nI (BS 1))])), (r0, .inl (cI, 40, .inl (fun j => nI ((G 1) j)))), (m1, .inr (4, [.ref r1, .int (nI (NS 2)), .int (nI (ES 2)), .int (nI (PS 2)), .int (nI (BS 2))])), (r1, .inl (cI, 40, .inl (fun j => nI ((G 2) j)))), (m2, .inr (4, [.ref r2, .int (nI (NS 3)), .int (nI (ES 3)), .int (nI (PS 3)), .int (nI (BS 3))])), (r2, .inl (cI, 40, .inl (fun j => nI ((G 3) j)))), (m3, .inr (4, [.ref r3, .int (nI (NS 3)), .int (nI (ES 3)), .int (nI (PS 3)), .int (nI (BS 3))])), (r3, .inl (cI, 40, .inl (fun j => nI ((G 3) j)))), (x, .inr (4, [.ref xr, .int (nI n), .int (nI e), .int (nI p), .int (nI b)])), (xr, .inl (cI, 40, .inl (fun j => nI (g j))))]) [2, 3, 4, 5, 6, 7, 8, 9, 10, 11, 0, 1] rfl (by decide) ?_
    refine V_aload_n hC dX3_keep_16 rfl 0 rfl ?_
    refine V_get (ci := 3) (v := .int (nI 3)) hC in_X3 0 rfl cls_X3 1 (by decide) fl_X3_17 rfl dX3_keep_17 ?_
    refine V_if_lt_F (tgt := 58) hC dX3_keep_20 (by decide) (nI_pos (by omega)) ?_
    refine V_aload_n hC dX3_keep_23 rfl 0 rfl ?_
    refine V_get (ci := 3) (v := .int (nI 3)) hC in_X3 0 rfl cls_X3 1 (by decide) fl_X3_17 rfl dX3_keep_24 ?_
    refine V_aload_n hC dX3_keep_27 rfl 0 rfl ?_
    refine V_get (ci := 3) (v := .ref st) hC in_X3 0 rfl cls_X3 0 (by decide) fl_X3_11 rfl dX3_keep_28 ?_
    refine V_alen (v := (nI 4)) hC 1 1 rfl rfl rfl dX3_keep_31 ?_
    refine V_icmp_ge_F (tgt := 58) hC dX3_keep_32 (by decide) (nI_ge (by omega) (by omega)) ?_
    refine V_aload_n hC dX3_keep_35 rfl 1 rfl ?_
    refine V_aload_n hC dX3_keep_36 rfl 0 rfl ?_
    refine V_get (ci := 3) (v := .ref st) hC in_X3 0 rfl cls_X3 0 (by decide) fl_X3_11 rfl dX3_keep_37 ?_
    refine V_aload_n hC dX3_keep_40 rfl 0 rfl ?_
    refine V_get (ci := 3) (v := .int (nI 3)) hC in_X3 0 rfl cls_X3 1 (by decide) fl_X3_17 rfl dX3_keep_41 ?_
    refine V_aldq (v := .ref m3) hC 1 1 rfl rfl (by decide) (by decide) rfl dX3_keep_44 ?_
    refine V_callvS (As := [.ref x, .ref m3]) (rest := []) (wr := [(o, .inr (3, [.ref st, .int (nI 3)])), (st, .inl (cQ, 4, .inr (.inr (.inr (.inr (hq m0 m1 m2 m3)))))), (m0, .inr (4, [.ref r0, .int (nI (NS 1)), .int (nI (ES 1)), .int (nI (PS 1)), .int (nI (BS 1))])), (r0, .inl (cI, 40, .inl (fun j => nI ((G 1) j)))), (m1, .inr (4, [.ref r1, .int (nI (NS 2)), .int (nI (ES 2)), .int (nI (PS 2)), .int (nI (BS 2))])), (r1, .inl (cI, 40, .inl (fun j => nI ((G 2) j)))), (m2, .inr (4, [.ref r2, .int (nI (NS 3)), .int (nI (ES 3)), .int (nI (PS 3)), .int (nI (BS 3))])), (r2, .inl (cI, 40, .inl (fun j => nI ((G 3) j))))]) hC (c_X3_copy l D cI cQ m3 r3 (NS 3) (ES 3) (PS 3) (BS 3) x xr n e p b (G 3) g (he)) mok_X3_copy ml_X3_25 rfl rfl rfl (by decide) (by decide) (by decide) (Nat.le_of_ble_eq_true rfl) [8, 9, 10, 11] [0, 1, 2, 3, 4, 5, 6, 7] rfl (by decide) rfl (by decide) (by decide) dX3_keep_45 rfl (fun u9 h45 => ?_)
    clear h45
    refine V_perm (ws2 := [(o, .inr (3, [.ref st, .int (nI 3)])), (st, .inl (cQ, 4, .inr (.inr (.inr (.inr (hq m0 m1 m2 m3)))))), (m0, .inr (4, [.ref r0, .int (nI (NS 1)), .int (nI (ES 1)), .int (nI (PS 1)), .int (nI (BS 1))])), (r0, .inl (cI, 40, .inl (fun j => nI ((G 1) j)))), (m1, .inr (4, [.ref r1, .int (nI (NS 2)), .int (nI (ES 2)), .int (nI (PS 2)), .int (nI (BS 2))])), (r1, .inl (cI, 40, .inl (fun j => nI ((G 2) j)))), (m2, .inr (4, [.ref r2, .int (nI (NS 3)), .int (nI (ES 3)), .int (nI (PS 3)), .int (nI (BS 3))])), (r2, .inl (cI, 40, .inl (fun j => nI ((G 3) j)))), (m3, .inr (4, [.ref r3, .int (nI n), .int (nI e), .int (nI p), .int (nI b)])), (r3, .inl (cI, 40, .inl (fun j => nI (g j)))), (x, .inr (4, [.ref xr, .int (nI n), .int (nI e), .int (nI p), .int (nI b)])), (xr, .inl (cI, 40, .inl (fun j => nI (g j))))]) [0, 1, 2, 3, 4, 5, 6, 7, 8, 9, 10, 11] rfl (by decide) ?_
    refine V_aload_n hC dX3_keep_48 rfl 0 rfl ?_
    refine V_dup hC dX3_keep_49 rfl ?_
    refine V_get (ci := 3) (v := .int (nI 3)) hC in_X3 0 rfl cls_X3 1 (by decide) fl_X3_17 rfl dX3_keep_50 ?_
    refine V_iconst (v := nI 1) hC dX3_keep_53 (by decide) ?_
    refine V_iadd hC dX3_keep_54 ?_
    refine V_put (ci := 3) (v := .int (nI 4)) hC tyX3 tyX3_ok nmX3 in_X3 0 rfl cls_X3 1 (by decide) fl_X3_17 rfl rfl rfl (Nat.le_of_ble_eq_true rfl) dX3_keep_55 (ws2 := [(o, .inr (3, [.ref st, .int (nI 4)])), (st, .inl (cQ, 4, .inr (.inr (.inr (.inr (hq m0 m1 m2 m3)))))), (m0, .inr (4, [.ref r0, .int (nI (NS 1)), .int (nI (ES 1)), .int (nI (PS 1)), .int (nI (BS 1))])), (r0, .inl (cI, 40, .inl (fun j => nI ((G 1) j)))), (m1, .inr (4, [.ref r1, .int (nI (NS 2)), .int (nI (ES 2)), .int (nI (PS 2)), .int (nI (BS 2))])), (r1, .inl (cI, 40, .inl (fun j => nI ((G 2) j)))), (m2, .inr (4, [.ref r2, .int (nI (NS 3)), .int (nI (ES 3)), .int (nI (PS 3)), .int (nI (BS 3))])), (r2, .inl (cI, 40, .inl (fun j => nI ((G 3) j)))), (m3, .inr (4, [.ref r3, .int (nI n), .int (nI e), .int (nI p), .int (nI b)])), (r3, .inl (cI, 40, .inl (fun j => nI (g j)))), (x, .inr (4, [.ref xr, .int (nI n), .int (nI e), .int (nI p), .int (nI b)])), (xr, .inl (cI, 40, .inl (fun j => nI (g j))))]) rfl ?_
    refine V_ws (ws2 := [(o, .inr (3, [.ref st, .int (nI (hsz 4))])), (st, .inl (cQ, 4, .inr (.inr (.inr (.inr (hq m0 m1 m2 m3)))))), (m0, .inr (4, [.ref r0, .int (nI (hup NS 4 n 0)), .int (nI (hup ES 4 e 0)), .int (nI (hup PS 4 p 0)), .int (nI (hup BS 4 b 0))])), (r0, .inl (cI, 40, .inl (fun j => nI ((hup G 4 g 0) j)))), (m1, .inr (4, [.ref r1, .int (nI (hup NS 4 n 1)), .int (nI (hup ES 4 e 1)), .int (nI (hup PS 4 p 1)), .int (nI (hup BS 4 b 1))])), (r1, .inl (cI, 40, .inl (fun j => nI ((hup G 4 g 1) j)))), (m2, .inr (4, [.ref r2, .int (nI (hup NS 4 n 2)), .int (nI (hup ES 4 e 2)), .int (nI (hup PS 4 p 2)), .int (nI (hup BS 4 b 2))])), (r2, .inl (cI, 40, .inl (fun j => nI ((hup G 4 g 2) j)))), (m3, .inr (4, [.ref r3, .int (nI (hup NS 4 n 3)), .int (nI (hup ES 4 e 3)), .int (nI (hup PS 4 p 3)), .int (nI (hup BS 4 b 3))])), (r3, .inl (cI, 40, .inl (fun j => nI ((hup G 4 g 3) j)))), (x, .inr (4, [.ref xr, .int (nI n), .int (nI e), .int (nI p), .int (nI b)])), (xr, .inl (cI, 40, .inl (fun j => nI (g j))))]) (rfl) ?_
    subst hQ
    exact V_vret hC hr hlk (by decide) (by decide) dX3_keep_58 (()) [0, 1, 2, 3, 4, 5, 6, 7, 8, 9, 10, 11] rfl (by decide) (trivial)
abbrev rm_X3_restore : Room := { frames := 3, cells := 0, slots := 0, locals := 64 }
set_option maxHeartbeats 4000000 in
set_option maxRecDepth 100000 in
theorem c_X3_restore (l : Launch) (D : va_G) (cI cQ : ClassId) (o st sz m0 r0 m1 r1 m2 r2 m3 r3 : Nat) (G : Nat → Nat → Nat) (NS ES PS BS : Nat → Nat) (x xr n e p b : Nat) (g : Nat → Nat) (hz : 1 ≤ sz ∧ sz ≤ 4) (hES : ∀ j, j < 4 → ES j < 2) : MV l yX3_restore cX3_restore 2 none rm_X3_restore D (TY cI cQ) [.ref o, .ref x] [(o, .inr (3, [.ref st, .int (nI sz)])), (st, .inl (cQ, 4, .inr (.inr (.inr (.inr (hq m0 m1 m2 m3)))))), (m0, .inr (4, [.ref r0, .int (nI (NS 0)), .int (nI (ES 0)), .int (nI (PS 0)), .int (nI (BS 0))])), (r0, .inl (cI, 40, .inl (fun j => nI ((G 0) j)))), (m1, .inr (4, [.ref r1, .int (nI (NS 1)), .int (nI (ES 1)), .int (nI (PS 1)), .int (nI (BS 1))])), (r1, .inl (cI, 40, .inl (fun j => nI ((G 1) j)))), (m2, .inr (4, [.ref r2, .int (nI (NS 2)), .int (nI (ES 2)), .int (nI (PS 2)), .int (nI (BS 2))])), (r2, .inl (cI, 40, .inl (fun j => nI ((G 2) j)))), (m3, .inr (4, [.ref r3, .int (nI (NS 3)), .int (nI (ES 3)), .int (nI (PS 3)), .int (nI (BS 3))])), (r3, .inl (cI, 40, .inl (fun j => nI ((G 3) j)))), (x, .inr (4, [.ref xr, .int (nI n), .int (nI e), .int (nI p), .int (nI b)])), (xr, .inl (cI, 40, .inl (fun j => nI (g j))))] (fun (u : Unit) => True) (fun (u : Unit) => [(o, .inr (3, [.ref st, .int (nI (sz - 1))])), (st, .inl (cQ, 4, .inr (.inr (.inr (.inr (hq m0 m1 m2 m3)))))), (m0, .inr (4, [.ref r0, .int (nI (NS 0)), .int (nI (ES 0)), .int (nI (PS 0)), .int (nI (BS 0))])), (r0, .inl (cI, 40, .inl (fun j => nI ((G 0) j)))), (m1, .inr (4, [.ref r1, .int (nI (NS 1)), .int (nI (ES 1)), .int (nI (PS 1)), .int (nI (BS 1))])), (r1, .inl (cI, 40, .inl (fun j => nI ((G 1) j)))), (m2, .inr (4, [.ref r2, .int (nI (NS 2)), .int (nI (ES 2)), .int (nI (PS 2)), .int (nI (BS 2))])), (r2, .inl (cI, 40, .inl (fun j => nI ((G 2) j)))), (m3, .inr (4, [.ref r3, .int (nI (NS 3)), .int (nI (ES 3)), .int (nI (PS 3)), .int (nI (BS 3))])), (r3, .inl (cI, 40, .inl (fun j => nI ((G 3) j)))), (x, .inr (4, [.ref xr, .int (nI (NS (sz - 1))), .int (nI (ES (sz - 1))), .int (nI (PS (sz - 1))), .int (nI (BS (sz - 1)))])), (xr, .inl (cI, 40, .inl (fun j => nI ((G (sz - 1)) j))))]) 0 0 := by
  refine MV.start (by decide) (Nat.le_of_ble_eq_true rfl) (lv0 := [(0, .ref o), (1, .ref x)]) rfl ?_
  intro pp9 ee9 ss9 mm9 args9 below9 meth9 co9 A9 Q9 hQ hC hr hlk hnm
  rcases (show sz = 1 ∨ sz = 2 ∨ sz = 3 ∨ sz = 4 by omega) with rfl | rfl | rfl | rfl
  · refine V_aload_n hC dX3_restore_0 rfl 0 rfl ?_
    refine V_get (ci := 3) (v := .int (nI 1)) hC in_X3 0 rfl cls_X3 1 (by decide) fl_X3_17 rfl dX3_restore_1 ?_
    refine V_if_le_F (tgt := 42) hC dX3_restore_4 (by decide) (nI_nle (by omega) (by omega)) ?_
    refine V_aload_n hC dX3_restore_7 rfl 0 rfl ?_
    refine V_get (ci := 3) (v := .int (nI 1)) hC in_X3 0 rfl cls_X3 1 (by decide) fl_X3_17 rfl dX3_restore_8 ?_
    refine V_aload_n hC dX3_restore_11 rfl 0 rfl ?_
    refine V_get (ci := 3) (v := .ref st) hC in_X3 0 rfl cls_X3 0 (by decide) fl_X3_11 rfl dX3_restore_12 ?_
    refine V_alen (v := (nI 4)) hC 1 1 rfl rfl rfl dX3_restore_15 ?_
    refine V_icmp_gt_F (tgt := 42) hC dX3_restore_16 (by decide) (nI_nlt (by omega) (by omega)) ?_
    refine V_aload_n hC dX3_restore_19 rfl 0 rfl ?_
    refine V_dup hC dX3_restore_20 rfl ?_
    refine V_get (ci := 3) (v := .int (nI 1)) hC in_X3 0 rfl cls_X3 1 (by decide) fl_X3_17 rfl dX3_restore_21 ?_
    refine V_iconst (v := nI 1) hC dX3_restore_24 (by decide) ?_
    refine V_isub hC dX3_restore_25 (by omega) ?_
    refine V_put (ci := 3) (v := .int (nI 0)) hC tyX3 tyX3_ok nmX3 in_X3 0 rfl cls_X3 1 (by decide) fl_X3_17 rfl rfl rfl (Nat.le_of_ble_eq_true rfl) dX3_restore_26 (ws2 := [(o, .inr (3, [.ref st, .int (nI 0)])), (st, .inl (cQ, 4, .inr (.inr (.inr (.inr (hq m0 m1 m2 m3)))))), (m0, .inr (4, [.ref r0, .int (nI (NS 0)), .int (nI (ES 0)), .int (nI (PS 0)), .int (nI (BS 0))])), (r0, .inl (cI, 40, .inl (fun j => nI ((G 0) j)))), (m1, .inr (4, [.ref r1, .int (nI (NS 1)), .int (nI (ES 1)), .int (nI (PS 1)), .int (nI (BS 1))])), (r1, .inl (cI, 40, .inl (fun j => nI ((G 1) j)))), (m2, .inr (4, [.ref r2, .int (nI (NS 2)), .int (nI (ES 2)), .int (nI (PS 2)), .int (nI (BS 2))])), (r2, .inl (cI, 40, .inl (fun j => nI ((G 2) j)))), (m3, .inr (4, [.ref r3, .int (nI (NS 3)), .int (nI (ES 3)), .int (nI (PS 3)), .int (nI (BS 3))])), (r3, .inl (cI, 40, .inl (fun j => nI ((G 3) j)))), (x, .inr (4, [.ref xr, .int (nI n), .int (nI e), .int (nI p), .int (nI b)])), (xr, .inl (cI, 40, .inl (fun j => nI (g j))))]) rfl ?_
    refine V_aload_n hC dX3_restore_29 rfl 0 rfl ?_
    refine V_get (ci := 3) (v := .ref st) hC in_X3 0 rfl cls_X3 0 (by decide) fl_X3_11 rfl dX3_restore_30 ?_
    refine V_aload_n hC dX3_restore_33 rfl 0 rfl ?_
    refine V_get (ci := 3) (v := .int (nI 0)) hC in_X3 0 rfl cls_X3 1 (by decide) fl_X3_17 rfl dX3_restore_34 ?_
    refine V_aldq (v := .ref m0) hC 1 1 rfl rfl (by decide) (by decide) rfl dX3_restore_37 ?_
    refine V_aload_n hC dX3_restore_38 rfl 1 rfl ?_
    refine V_callvS (As := [.ref m0, .ref x]) (rest := []) (wr := [(o, .inr (3, [.ref st, .int (nI 0)])), (st, .inl (cQ, 4, .inr (.inr (.inr (.inr (hq m0 m1 m2 m3)))))), (m1, .inr (4, [.ref r1, .int (nI (NS 1)), .int (nI (ES 1)), .int (nI (PS 1)), .int (nI (BS 1))])), (r1, .inl (cI, 40, .inl (fun j => nI ((G 1) j)))), (m2, .inr (4, [.ref r2, .int (nI (NS 2)), .int (nI (ES 2)), .int (nI (PS 2)), .int (nI (BS 2))])), (r2, .inl (cI, 40, .inl (fun j => nI ((G 2) j)))), (m3, .inr (4, [.ref r3, .int (nI (NS 3)), .int (nI (ES 3)), .int (nI (PS 3)), .int (nI (BS 3))])), (r3, .inl (cI, 40, .inl (fun j => nI ((G 3) j))))]) hC (c_X3_copy l D cI cQ x xr n e p b m0 r0 (NS 0) (ES 0) (PS 0) (BS 0) g (G 0) (hES _ (by decide))) mok_X3_copy ml_X3_25 rfl rfl rfl (by decide) (by decide) (by decide) (Nat.le_of_ble_eq_true rfl) [10, 11, 2, 3] [0, 1, 4, 5, 6, 7, 8, 9] rfl (by decide) rfl (by decide) (by decide) dX3_restore_39 rfl (fun u9 h39 => ?_)
    clear h39
    refine V_perm (ws2 := [(o, .inr (3, [.ref st, .int (nI 0)])), (st, .inl (cQ, 4, .inr (.inr (.inr (.inr (hq m0 m1 m2 m3)))))), (m0, .inr (4, [.ref r0, .int (nI ((NS 0))), .int (nI ((ES 0))), .int (nI ((PS 0))), .int (nI ((BS 0)))])), (r0, .inl (cI, 40, .inl (fun j => nI (((G 0)) j)))), (m1, .inr (4, [.ref r1, .int (nI (NS 1)), .int (nI (ES 1)), .int (nI (PS 1)), .int (nI (BS 1))])), (r1, .inl (cI, 40, .inl (fun j => nI ((G 1) j)))), (m2, .inr (4, [.ref r2, .int (nI (NS 2)), .int (nI (ES 2)), .int (nI (PS 2)), .int (nI (BS 2))])), (r2, .inl (cI, 40, .inl (fun j => nI ((G 2) j)))), (m3, .inr (4, [.ref r3, .int (nI (NS 3)), .int (nI (ES 3)), .int (nI (PS 3)), .int (nI (BS 3))])), (r3, .inl (cI, 40, .inl (fun j => nI ((G 3) j)))), (x, .inr (4, [.ref xr, .int (nI ((NS 0))), .int (nI ((ES 0))), .int (nI ((PS 0))), .int (nI ((BS 0)))])), (xr, .inl (cI, 40, .inl (fun j => nI (((G 0)) j))))]) [0, 1, 10, 11, 2, 3, 4, 5, 6, 7, 8, 9] rfl (by decide) ?_
    refine V_ws (ws2 := [(o, .inr (3, [.ref st, .int (nI (1 - 1))])), (st, .inl (cQ, 4, .inr (.inr (.inr (.inr (hq m0 m1 m2 m3)))))), (m0, .inr (4, [.ref r0, .int (nI (NS 0)), .int (nI (ES 0)), .int (nI (PS 0)), .int (nI (BS 0))])), (r0, .inl (cI, 40, .inl (fun j => nI ((G 0) j)))), (m1, .inr (4, [.ref r1, .int (nI (NS 1)), .int (nI (ES 1)), .int (nI (PS 1)), .int (nI (BS 1))])), (r1, .inl (cI, 40, .inl (fun j => nI ((G 1) j)))), (m2, .inr (4, [.ref r2, .int (nI (NS 2)), .int (nI (ES 2)), .int (nI (PS 2)), .int (nI (BS 2))])), (r2, .inl (cI, 40, .inl (fun j => nI ((G 2) j)))), (m3, .inr (4, [.ref r3, .int (nI (NS 3)), .int (nI (ES 3)), .int (nI (PS 3)), .int (nI (BS 3))])), (r3, .inl (cI, 40, .inl (fun j => nI ((G 3) j)))), (x, .inr (4, [.ref xr, .int (nI (NS (1 - 1))), .int (nI (ES (1 - 1))), .int (nI (PS (1 - 1))), .int (nI (BS (1 - 1)))])), (xr, .inl (cI, 40, .inl (fun j => nI ((G (1 - 1)) j))))]) (rfl) ?_
    subst hQ
    exact V_vret hC hr hlk (by decide) (by decide) dX3_restore_42 (()) [0, 1, 2, 3, 4, 5, 6, 7, 8, 9, 10, 11] rfl (by decide) (trivial)
  · refine V_aload_n hC dX3_restore_0 rfl 0 rfl ?_
    refine V_get (ci := 3) (v := .int (nI 2)) hC in_X3 0 rfl cls_X3 1 (by decide) fl_X3_17 rfl dX3_restore_1 ?_
    refine V_if_le_F (tgt := 42) hC dX3_restore_4 (by decide) (nI_nle (by omega) (by omega)) ?_
    refine V_aload_n hC dX3_restore_7 rfl 0 rfl ?_
    refine V_get (ci := 3) (v := .int (nI 2)) hC in_X3 0 rfl cls_X3 1 (by decide) fl_X3_17 rfl dX3_restore_8 ?_
    refine V_aload_n hC dX3_restore_11 rfl 0 rfl ?_
    refine V_get (ci := 3) (v := .ref st) hC in_X3 0 rfl cls_X3 0 (by decide) fl_X3_11 rfl dX3_restore_12 ?_
    refine V_alen (v := (nI 4)) hC 1 1 rfl rfl rfl dX3_restore_15 ?_
    refine V_icmp_gt_F (tgt := 42) hC dX3_restore_16 (by decide) (nI_nlt (by omega) (by omega)) ?_
    refine V_aload_n hC dX3_restore_19 rfl 0 rfl ?_
    refine V_dup hC dX3_restore_20 rfl ?_
    refine V_get (ci := 3) (v := .int (nI 2)) hC in_X3 0 rfl cls_X3 1 (by decide) fl_X3_17 rfl dX3_restore_21 ?_
    refine V_iconst (v := nI 1) hC dX3_restore_24 (by decide) ?_
    refine V_isub hC dX3_restore_25 (by omega) ?_
    refine V_put (ci := 3) (v := .int (nI 1)) hC tyX3 tyX3_ok nmX3 in_X3 0 rfl cls_X3 1 (by decide) fl_X3_17 rfl rfl rfl (Nat.le_of_ble_eq_true rfl) dX3_restore_26 (ws2 := [(o, .inr (3, [.ref st, .int (nI 1)])), (st, .inl (cQ, 4, .inr (.inr (.inr (.inr (hq m0 m1 m2 m3)))))), (m0, .inr (4, [.ref r0, .int (nI (NS 0)), .int (nI (ES 0)), .int (nI (PS 0)), .int (nI (BS 0))])), (r0, .inl (cI, 40, .inl (fun j => nI ((G 0) j)))), (m1, .inr (4, [.ref r1, .int (nI (NS 1)), .int (nI (ES 1)), .int (nI (PS 1)), .int (nI (BS 1))])), (r1, .inl (cI, 40, .inl (fun j => nI ((G 1) j)))), (m2, .inr (4, [.ref r2, .int (nI (NS 2)), .int (nI (ES 2)), .int (nI (PS 2)), .int (nI (BS 2))])), (r2, .inl (cI, 40, .inl (fun j => nI ((G 2) j)))), (m3, .inr (4, [.ref r3, .int (nI (NS 3)), .int (nI (ES 3)), .int (nI (PS 3)), .int (nI (BS 3))])), (r3, .inl (cI, 40, .inl (fun j => nI ((G 3) j)))), (x, .inr (4, [.ref xr, .int (nI n), .int (nI e), .int (nI p), .int (nI b)])), (xr, .inl (cI, 40, .inl (fun j => nI (g j))))]) rfl ?_
    refine V_aload_n hC dX3_restore_29 rfl 0 rfl ?_
    refine V_get (ci := 3) (v := .ref st) hC in_X3 0 rfl cls_X3 0 (by decide) fl_X3_11 rfl dX3_restore_30 ?_
    refine V_aload_n hC dX3_restore_33 rfl 0 rfl ?_
    refine V_get (ci := 3) (v := .int (nI 1)) hC in_X3 0 rfl cls_X3 1 (by decide) fl_X3_17 rfl dX3_restore_34 ?_
    refine V_aldq (v := .ref m1) hC 1 1 rfl rfl (by decide) (by decide) rfl dX3_restore_37 ?_
    refine V_aload_n hC dX3_restore_38 rfl 1 rfl ?_
    refine V_callvS (As := [.ref m1, .ref x]) (rest := []) (wr := [(o, .inr (3, [.ref st, .int (nI 1)])), (st, .inl (cQ, 4, .inr (.inr (.inr (.inr (hq m0 m1 m2 m3)))))), (m0, .inr (4, [.ref r0, .int (nI (NS 0)), .int (nI (ES 0)), .int (nI (PS 0)), .int (nI (BS 0))])), (r0, .inl (cI, 40, .inl (fun j => nI ((G 0) j)))), (m2, .inr (4, [.ref r2, .int (nI (NS 2)), .int (nI (ES 2)), .int (nI (PS 2)), .int (nI (BS 2))])), (r2, .inl (cI, 40, .inl (fun j => nI ((G 2) j)))), (m3, .inr (4, [.ref r3, .int (nI (NS 3)), .int (nI (ES 3)), .int (nI (PS 3)), .int (nI (BS 3))])), (r3, .inl (cI, 40, .inl (fun j => nI ((G 3) j))))]) hC (c_X3_copy l D cI cQ x xr n e p b m1 r1 (NS 1) (ES 1) (PS 1) (BS 1) g (G 1) (hES _ (by decide))) mok_X3_copy ml_X3_25 rfl rfl rfl (by decide) (by decide) (by decide) (Nat.le_of_ble_eq_true rfl) [10, 11, 4, 5] [0, 1, 2, 3, 6, 7, 8, 9] rfl (by decide) rfl (by decide) (by decide) dX3_restore_39 rfl (fun u9 h39 => ?_)
    clear h39
    refine V_perm (ws2 := [(o, .inr (3, [.ref st, .int (nI 1)])), (st, .inl (cQ, 4, .inr (.inr (.inr (.inr (hq m0 m1 m2 m3)))))), (m0, .inr (4, [.ref r0, .int (nI (NS 0)), .int (nI (ES 0)), .int (nI (PS 0)), .int (nI (BS 0))])), (r0, .inl (cI, 40, .inl (fun j => nI ((G 0) j)))), (m1, .inr (4, [.ref r1, .int (nI ((NS 1))), .int (nI ((ES 1))), .int (nI ((PS 1))), .int (nI ((BS 1)))])), (r1, .inl (cI, 40, .inl (fun j => nI (((G 1)) j)))), (m2, .inr (4, [.ref r2, .int (nI (NS 2)), .int (nI (ES 2)), .int (nI (PS 2)), .int (nI (BS 2))])), (r2, .inl (cI, 40, .inl (fun j => nI ((G 2) j)))), (m3, .inr (4, [.ref r3, .int (nI (NS 3)), .int (nI (ES 3)), .int (nI (PS 3)), .int (nI (BS 3))])), (r3, .inl (cI, 40, .inl (fun j => nI ((G 3) j)))), (x, .inr (4, [.ref xr, .int (nI ((NS 1))), .int (nI ((ES 1))), .int (nI ((PS 1))), .int (nI ((BS 1)))])), (xr, .inl (cI, 40, .inl (fun j => nI (((G 1)) j))))]) [0, 1, 2, 3, 10, 11, 4, 5, 6, 7, 8, 9] rfl (by decide) ?_
    refine V_ws (ws2 := [(o, .inr (3, [.ref st, .int (nI (2 - 1))])), (st, .inl (cQ, 4, .inr (.inr (.inr (.inr (hq m0 m1 m2 m3)))))), (m0, .inr (4, [.ref r0, .int (nI (NS 0)), .int (nI (ES 0)), .int (nI (PS 0)), .int (nI (BS 0))])), (r0, .inl (cI, 40, .inl (fun j => nI ((G 0) j)))), (m1, .inr (4, [.ref r1, .int (nI (NS 1)), .int (nI (ES 1)), .int (nI (PS 1)), .int (nI (BS 1))])), (r1, .inl (cI, 40, .inl (fun j => nI ((G 1) j)))), (m2, .inr (4, [.ref r2, .int (nI (NS 2)), .int (nI (ES 2)), .int (nI (PS 2)), .int (nI (BS 2))])), (r2, .inl (cI, 40, .inl (fun j => nI ((G 2) j)))), (m3, .inr (4, [.ref r3, .int (nI (NS 3)), .int (nI (ES 3)), .int (nI (PS 3)), .int (nI (BS 3))])), (r3, .inl (cI, 40, .inl (fun j => nI ((G 3) j)))), (x, .inr (4, [.ref xr, .int (nI (NS (2 - 1))), .int (nI (ES (2 - 1))), .int (nI (PS (2 - 1))), .int (nI (BS (2 - 1)))])), (xr, .inl (cI, 40, .inl (fun j => nI ((G (2 - 1)) j))))]) (rfl) ?_
    subst hQ
    exact V_vret hC hr hlk (by decide) (by decide) dX3_restore_42 (()) [0, 1, 2, 3, 4, 5, 6, 7, 8, 9, 10, 11] rfl (by decide) (trivial)
  · refine V_aload_n hC dX3_restore_0 rfl 0 rfl ?_
    refine V_get (ci := 3) (v := .int (nI 3)) hC in_X3 0 rfl cls_X3 1 (by decide) fl_X3_17 rfl dX3_restore_1 ?_
    refine V_if_le_F (tgt := 42) hC dX3_restore_4 (by decide) (nI_nle (by omega) (by omega)) ?_
    refine V_aload_n hC dX3_restore_7 rfl 0 rfl ?_
    refine V_get (ci := 3) (v := .int (nI 3)) hC in_X3 0 rfl cls_X3 1 (by decide) fl_X3_17 rfl dX3_restore_8 ?_
    refine V_aload_n hC dX3_restore_11 rfl 0 rfl ?_
    refine V_get (ci := 3) (v := .ref st) hC in_X3 0 rfl cls_X3 0 (by decide) fl_X3_11 rfl dX3_restore_12 ?_
    refine V_alen (v := (nI 4)) hC 1 1 rfl rfl rfl dX3_restore_15 ?_
    refine V_icmp_gt_F (tgt := 42) hC dX3_restore_16 (by decide) (nI_nlt (by omega) (by omega)) ?_
    refine V_aload_n hC dX3_restore_19 rfl 0 rfl ?_
    refine V_dup hC dX3_restore_20 rfl ?_
    refine V_get (ci := 3) (v := .int (nI 3)) hC in_X3 0 rfl cls_X3 1 (by decide) fl_X3_17 rfl dX3_restore_21 ?_
    refine V_iconst (v := nI 1) hC dX3_restore_24 (by decide) ?_
    refine V_isub hC dX3_restore_25 (by omega) ?_
    refine V_put (ci := 3) (v := .int (nI 2)) hC tyX3 tyX3_ok nmX3 in_X3 0 rfl cls_X3 1 (by decide) fl_X3_17 rfl rfl rfl (Nat.le_of_ble_eq_true rfl) dX3_restore_26 (ws2 := [(o, .inr (3, [.ref st, .int (nI 2)])), (st, .inl (cQ, 4, .inr (.inr (.inr (.inr (hq m0 m1 m2 m3)))))), (m0, .inr (4, [.ref r0, .int (nI (NS 0)), .int (nI (ES 0)), .int (nI (PS 0)), .int (nI (BS 0))])), (r0, .inl (cI, 40, .inl (fun j => nI ((G 0) j)))), (m1, .inr (4, [.ref r1, .int (nI (NS 1)), .int (nI (ES 1)), .int (nI (PS 1)), .int (nI (BS 1))])), (r1, .inl (cI, 40, .inl (fun j => nI ((G 1) j)))), (m2, .inr (4, [.ref r2, .int (nI (NS 2)), .int (nI (ES 2)), .int (nI (PS 2)), .int (nI (BS 2))])), (r2, .inl (cI, 40, .inl (fun j => nI ((G 2) j)))), (m3, .inr (4, [.ref r3, .int (nI (NS 3)), .int (nI (ES 3)), .int (nI (PS 3)), .int (nI (BS 3))])), (r3, .inl (cI, 40, .inl (fun j => nI ((G 3) j)))), (x, .inr (4, [.ref xr, .int (nI n), .int (nI e), .int (nI p), .int (nI b)])), (xr, .inl (cI, 40, .inl (fun j => nI (g j))))]) rfl ?_
    refine V_aload_n hC dX3_restore_29 rfl 0 rfl ?_
    refine V_get (ci := 3) (v := .ref st) hC in_X3 0 rfl cls_X3 0 (by decide) fl_X3_11 rfl dX3_restore_30 ?_
    refine V_aload_n hC dX3_restore_33 rfl 0 rfl ?_
    refine V_get (ci := 3) (v := .int (nI 2)) hC in_X3 0 rfl cls_X3 1 (by decide) fl_X3_17 rfl dX3_restore_34 ?_
    refine V_aldq (v := .ref m2) hC 1 1 rfl rfl (by decide) (by decide) rfl dX3_restore_37 ?_
    refine V_aload_n hC dX3_restore_38 rfl 1 rfl ?_
    refine V_callvS (As := [.ref m2, .ref x]) (rest := []) (wr := [(o, .inr (3, [.ref st, .int (nI 2)])), (st, .inl (cQ, 4, .inr (.inr (.inr (.inr (hq m0 m1 m2 m3)))))), (m0, .inr (4, [.ref r0, .int (nI (NS 0)), .int (nI (ES 0)), .int (nI (PS 0)), .int (nI (BS 0))])), (r0, .inl (cI, 40, .inl (fun j => nI ((G 0) j)))), (m1, .inr (4, [.ref r1, .int (nI (NS 1)), .int (nI (ES 1)), .int (nI (PS 1)), .int (nI (BS 1))])), (r1, .inl (cI, 40, .inl (fun j => nI ((G 1) j)))), (m3, .inr (4, [.ref r3, .int (nI (NS 3)), .int (nI (ES 3)), .int (nI (PS 3)), .int (nI (BS 3))])), (r3, .inl (cI, 40, .inl (fun j => nI ((G 3) j))))]) hC (c_X3_copy l D cI cQ x xr n e p b m2 r2 (NS 2) (ES 2) (PS 2) (BS 2) g (G 2) (hES _ (by decide))) mok_X3_copy ml_X3_25 rfl rfl rfl (by decide) (by decide) (by decide) (Nat.le_of_ble_eq_true rfl) [10, 11, 6, 7] [0, 1, 2, 3, 4, 5, 8, 9] rfl (by decide) rfl (by decide) (by decide) dX3_restore_39 rfl (fun u9 h39 => ?_)
    clear h39
    refine V_perm (ws2 := [(o, .inr (3, [.ref st, .int (nI 2)])), (st, .inl (cQ, 4, .inr (.inr (.inr (.inr (hq m0 m1 m2 m3)))))), (m0, .inr (4, [.ref r0, .int (nI (NS 0)), .int (nI (ES 0)), .int (nI (PS 0)), .int (nI (BS 0))])), (r0, .inl (cI, 40, .inl (fun j => nI ((G 0) j)))), (m1, .inr (4, [.ref r1, .int (nI (NS 1)), .int (nI (ES 1)), .int (nI (PS 1)), .int (nI (BS 1))])), (r1, .inl (cI, 40, .inl (fun j => nI ((G 1) j)))), (m2, .inr (4, [.ref r2, .int (nI ((NS 2))), .int (nI ((ES 2))), .int (nI ((PS 2))), .int (nI ((BS 2)))])), (r2, .inl (cI, 40, .inl (fun j => nI (((G 2)) j)))), (m3, .inr (4, [.ref r3, .int (nI (NS 3)), .int (nI (ES 3)), .int (nI (PS 3)), .int (nI (BS 3))])), (r3, .inl (cI, 40, .inl (fun j => nI ((G 3) j)))), (x, .inr (4, [.ref xr, .int (nI ((NS 2))), .int (nI ((ES 2))), .int (nI ((PS 2))), .int (nI ((BS 2)))])), (xr, .inl (cI, 40, .inl (fun j => nI (((G 2)) j))))]) [0, 1, 2, 3, 4, 5, 10, 11, 6, 7, 8, 9] rfl (by decide) ?_
    refine V_ws (ws2 := [(o, .inr (3, [.ref st, .int (nI (3 - 1))])), (st, .inl (cQ, 4, .inr (.inr (.inr (.inr (hq m0 m1 m2 m3)))))), (m0, .inr (4, [.ref r0, .int (nI (NS 0)), .int (nI (ES 0)), .int (nI (PS 0)), .int (nI (BS 0))])), (r0, .inl (cI, 40, .inl (fun j => nI ((G 0) j)))), (m1, .inr (4, [.ref r1, .int (nI (NS 1)), .int (nI (ES 1)), .int (nI (PS 1)), .int (nI (BS 1))])), (r1, .inl (cI, 40, .inl (fun j => nI ((G 1) j)))), (m2, .inr (4, [.ref r2, .int (nI (NS 2)), .int (nI (ES 2)), .int (nI (PS 2)), .int (nI (BS 2))])), (r2, .inl (cI, 40, .inl (fun j => nI ((G 2) j)))), (m3, .inr (4, [.ref r3, .int (nI (NS 3)), .int (nI (ES 3)), .int (nI (PS 3)), .int (nI (BS 3))])), (r3, .inl (cI, 40, .inl (fun j => nI ((G 3) j)))), (x, .inr (4, [.ref xr, .int (nI (NS (3 - 1))), .int (nI (ES (3 - 1))), .int (nI (PS (3 - 1))), .int (nI (BS (3 - 1)))])), (xr, .inl (cI, 40, .inl (fun j => nI ((G (3 - 1)) j))))]) (rfl) ?_
    subst hQ
    exact V_vret hC hr hlk (by decide) (by decide) dX3_restore_42 (()) [0, 1, 2, 3, 4, 5, 6, 7, 8, 9, 10, 11] rfl (by decide) (trivial)
  · refine V_aload_n hC dX3_restore_0 rfl 0 rfl ?_
    refine V_get (ci := 3) (v := .int (nI 4)) hC in_X3 0 rfl cls_X3 1 (by decide) fl_X3_17 rfl dX3_restore_1 ?_
    refine V_if_le_F (tgt := 42) hC dX3_restore_4 (by decide) (nI_nle (by omega) (by omega)) ?_
    refine V_aload_n hC dX3_restore_7 rfl 0 rfl ?_
    refine V_get (ci := 3) (v := .int (nI 4)) hC in_X3 0 rfl cls_X3 1 (by decide) fl_X3_17 rfl dX3_restore_8 ?_
    refine V_aload_n hC dX3_restore_11 rfl 0 rfl ?_
    refine V_get (ci := 3) (v := .ref st) hC in_X3 0 rfl cls_X3 0 (by decide) fl_X3_11 rfl dX3_restore_12 ?_
    refine V_alen (v := (nI 4)) hC 1 1 rfl rfl rfl dX3_restore_15 ?_
    refine V_icmp_gt_F (tgt := 42) hC dX3_restore_16 (by decide) (nI_nlt (by omega) (by omega)) ?_
    refine V_aload_n hC dX3_restore_19 rfl 0 rfl ?_
    refine V_dup hC dX3_restore_20 rfl ?_
    refine V_get (ci := 3) (v := .int (nI 4)) hC in_X3 0 rfl cls_X3 1 (by decide) fl_X3_17 rfl dX3_restore_21 ?_
    refine V_iconst (v := nI 1) hC dX3_restore_24 (by decide) ?_
    refine V_isub hC dX3_restore_25 (by omega) ?_
    refine V_put (ci := 3) (v := .int (nI 3)) hC tyX3 tyX3_ok nmX3 in_X3 0 rfl cls_X3 1 (by decide) fl_X3_17 rfl rfl rfl (Nat.le_of_ble_eq_true rfl) dX3_restore_26 (ws2 := [(o, .inr (3, [.ref st, .int (nI 3)])), (st, .inl (cQ, 4, .inr (.inr (.inr (.inr (hq m0 m1 m2 m3)))))), (m0, .inr (4, [.ref r0, .int (nI (NS 0)), .int (nI (ES 0)), .int (nI (PS 0)), .int (nI (BS 0))])), (r0, .inl (cI, 40, .inl (fun j => nI ((G 0) j)))), (m1, .inr (4, [.ref r1, .int (nI (NS 1)), .int (nI (ES 1)), .int (nI (PS 1)), .int (nI (BS 1))])), (r1, .inl (cI, 40, .inl (fun j => nI ((G 1) j)))), (m2, .inr (4, [.ref r2, .int (nI (NS 2)), .int (nI (ES 2)), .int (nI (PS 2)), .int (nI (BS 2))])), (r2, .inl (cI, 40, .inl (fun j => nI ((G 2) j)))), (m3, .inr (4, [.ref r3, .int (nI (NS 3)), .int (nI (ES 3)), .int (nI (PS 3)), .int (nI (BS 3))])), (r3, .inl (cI, 40, .inl (fun j => nI ((G 3) j)))), (x, .inr (4, [.ref xr, .int (nI n), .int (nI e), .int (nI p), .int (nI b)])), (xr, .inl (cI, 40, .inl (fun j => nI (g j))))]) rfl ?_
    refine V_aload_n hC dX3_restore_29 rfl 0 rfl ?_
    refine V_get (ci := 3) (v := .ref st) hC in_X3 0 rfl cls_X3 0 (by decide) fl_X3_11 rfl dX3_restore_30 ?_
    refine V_aload_n hC dX3_restore_33 rfl 0 rfl ?_
    refine V_get (ci := 3) (v := .int (nI 3)) hC in_X3 0 rfl cls_X3 1 (by decide) fl_X3_17 rfl dX3_restore_34 ?_
    refine V_aldq (v := .ref m3) hC 1 1 rfl rfl (by decide) (by decide) rfl dX3_restore_37 ?_
    refine V_aload_n hC dX3_restore_38 rfl 1 rfl ?_
    refine V_callvS (As := [.ref m3, .ref x]) (rest := []) (wr := [(o, .inr (3, [.ref st, .int (nI 3)])), (st, .inl (cQ, 4, .inr (.inr (.inr (.inr (hq m0 m1 m2 m3)))))), (m0, .inr (4, [.ref r0, .int (nI (NS 0)), .int (nI (ES 0)), .int (nI (PS 0)), .int (nI (BS 0))])), (r0, .inl (cI, 40, .inl (fun j => nI ((G 0) j)))), (m1, .inr (4, [.ref r1, .int (nI (NS 1)), .int (nI (ES 1)), .int (nI (PS 1)), .int (nI (BS 1))])), (r1, .inl (cI, 40, .inl (fun j => nI ((G 1) j)))), (m2, .inr (4, [.ref r2, .int (nI (NS 2)), .int (nI (ES 2)), .int (nI (PS 2)), .int (nI (BS 2))])), (r2, .inl (cI, 40, .inl (fun j => nI ((G 2) j))))]) hC (c_X3_copy l D cI cQ x xr n e p b m3 r3 (NS 3) (ES 3) (PS 3) (BS 3) g (G 3) (hES _ (by decide))) mok_X3_copy ml_X3_25 rfl rfl rfl (by decide) (by decide) (by decide) (Nat.le_of_ble_eq_true rfl) [10, 11, 8, 9] [0, 1, 2, 3, 4, 5, 6, 7] rfl (by decide) rfl (by decide) (by decide) dX3_restore_39 rfl (fun u9 h39 => ?_)
    clear h39
    refine V_perm (ws2 := [(o, .inr (3, [.ref st, .int (nI 3)])), (st, .inl (cQ, 4, .inr (.inr (.inr (.inr (hq m0 m1 m2 m3)))))), (m0, .inr (4, [.ref r0, .int (nI (NS 0)), .int (nI (ES 0)), .int (nI (PS 0)), .int (nI (BS 0))])), (r0, .inl (cI, 40, .inl (fun j => nI ((G 0) j)))), (m1, .inr (4, [.ref r1, .int (nI (NS 1)), .int (nI (ES 1)), .int (nI (PS 1)), .int (nI (BS 1))])), (r1, .inl (cI, 40, .inl (fun j => nI ((G 1) j)))), (m2, .inr (4, [.ref r2, .int (nI (NS 2)), .int (nI (ES 2)), .int (nI (PS 2)), .int (nI (BS 2))])), (r2, .inl (cI, 40, .inl (fun j => nI ((G 2) j)))), (m3, .inr (4, [.ref r3, .int (nI ((NS 3))), .int (nI ((ES 3))), .int (nI ((PS 3))), .int (nI ((BS 3)))])), (r3, .inl (cI, 40, .inl (fun j => nI (((G 3)) j)))), (x, .inr (4, [.ref xr, .int (nI ((NS 3))), .int (nI ((ES 3))), .int (nI ((PS 3))), .int (nI ((BS 3)))])), (xr, .inl (cI, 40, .inl (fun j => nI (((G 3)) j))))]) [0, 1, 2, 3, 4, 5, 6, 7, 10, 11, 8, 9] rfl (by decide) ?_
    refine V_ws (ws2 := [(o, .inr (3, [.ref st, .int (nI (4 - 1))])), (st, .inl (cQ, 4, .inr (.inr (.inr (.inr (hq m0 m1 m2 m3)))))), (m0, .inr (4, [.ref r0, .int (nI (NS 0)), .int (nI (ES 0)), .int (nI (PS 0)), .int (nI (BS 0))])), (r0, .inl (cI, 40, .inl (fun j => nI ((G 0) j)))), (m1, .inr (4, [.ref r1, .int (nI (NS 1)), .int (nI (ES 1)), .int (nI (PS 1)), .int (nI (BS 1))])), (r1, .inl (cI, 40, .inl (fun j => nI ((G 1) j)))), (m2, .inr (4, [.ref r2, .int (nI (NS 2)), .int (nI (ES 2)), .int (nI (PS 2)), .int (nI (BS 2))])), (r2, .inl (cI, 40, .inl (fun j => nI ((G 2) j)))), (m3, .inr (4, [.ref r3, .int (nI (NS 3)), .int (nI (ES 3)), .int (nI (PS 3)), .int (nI (BS 3))])), (r3, .inl (cI, 40, .inl (fun j => nI ((G 3) j)))), (x, .inr (4, [.ref xr, .int (nI (NS (4 - 1))), .int (nI (ES (4 - 1))), .int (nI (PS (4 - 1))), .int (nI (BS (4 - 1)))])), (xr, .inl (cI, 40, .inl (fun j => nI ((G (4 - 1)) j))))]) (rfl) ?_
    subst hQ
    exact V_vret hC hr hlk (by decide) (by decide) dX3_restore_42 (()) [0, 1, 2, 3, 4, 5, 6, 7, 8, 9, 10, 11] rfl (by decide) (trivial)
end
section
abbrev rm_X6_letterAround : Room := { frames := 1, cells := 0, slots := 0, locals := 23 }
set_option maxHeartbeats 4000000 in
set_option maxRecDepth 100000 in
theorem c_X6_letterAround (l : Launch) (D : va_G) (cI cQ : ClassId) (a lo hi v o r t h p b : Nat) (f : Nat → Nat) (hc : okC f t) (hv : lo ≤ v ∧ v ≤ hi ∧ hi ≤ 65535) : MI l yX6_letterAround cX6_letterAround 4 (some .int) rm_X6_letterAround D (TY cI cQ) [.ref a, .int (nI v), .ref o] [(a, .inr (6, [.int (nI lo), .int (nI hi)])), (o, .inr (2, [.ref r, .int (nI t), .int (nI h), .int (nI p), .int (nI b)])), (r, .inl (cI, 9, .inl (fun j => nI (f j))))] (fun (r9 : Int32) (u : Unit) => r9 = (nI (lwX f t lo hi v)) ∧ True) (fun (u : Unit) => [(a, .inr (6, [.int (nI lo), .int (nI hi)])), (o, .inr (2, [.ref r, .int (nI t), .int (nI h), .int (nI p), .int (nI b)])), (r, .inl (cI, 9, .inl (fun j => nI (f j))))]) 0 0 := by
  refine MI.start (by decide) (Nat.le_of_ble_eq_true rfl) (lv0 := [(0, .ref a), (1, .int (nI v)), (2, .ref o)]) rfl ?_
  intro pp9 ee9 ss9 mm9 args9 below9 meth9 co9 A9 Q9 hQ hC hr hlk hnm
  have ht9 := hc.t9
  have htm := hc.2.2
  have hm1 : 1 ≤ (v - lo + 1) * t := Nat.mul_pos (by omega) (by omega)
  have hm2 : (v - lo + 1) * t ≤ 65536 * 2000 := Nat.mul_le_mul (by omega) (by omega)
  have hm3 : ((v - lo + 1) * t - 1) / (hi - lo + 1) ≤ (v - lo + 1) * t - 1 := Nat.div_le_self _ _
  refine V_aload_n hC dX6_letterAround_0 rfl 0 rfl ?_
  refine V_get (ci := 6) (v := .int (nI hi)) hC in_X6 0 rfl cls_X6 1 (by decide) fl_X6_16 rfl dX6_letterAround_1 ?_
  refine V_aload_n hC dX6_letterAround_4 rfl 0 rfl ?_
  refine V_get (ci := 6) (v := .int (nI lo)) hC in_X6 0 rfl cls_X6 0 (by decide) fl_X6_9 rfl dX6_letterAround_5 ?_
  refine V_isub hC dX6_letterAround_8 (by omega) ?_
  refine V_iconst (v := nI 1) hC dX6_letterAround_9 (by decide) ?_
  refine V_iadd hC dX6_letterAround_10 ?_
  refine V_istore_n (lv2 := [(0, .ref a), (1, .int (nI v)), (2, .ref o), (3, .int (nI ((hi - lo) + 1)))]) hC dX6_letterAround_11 rfl (by decide) [1, 2, 3, 0] rfl ?_
  refine V_iload_n hC dX6_letterAround_12 rfl 3 rfl ?_
  refine V_iconst (v := nI 1) hC dX6_letterAround_13 (by decide) ?_
  refine V_icmp_ge_T (tgt := 20) hC dX6_letterAround_14 (by decide) (nI_le (by omega) (by omega)) ?_
  refine V_aload_n hC dX6_letterAround_20 rfl 2 rfl ?_
  refine V_iload_n hC dX6_letterAround_21 rfl 1 rfl ?_
  refine V_aload_n hC dX6_letterAround_22 rfl 0 rfl ?_
  refine V_get (ci := 6) (v := .int (nI lo)) hC in_X6 0 rfl cls_X6 0 (by decide) fl_X6_9 rfl dX6_letterAround_23 ?_
  refine V_isub hC dX6_letterAround_26 (by omega) ?_
  refine V_iconst (v := nI 1) hC dX6_letterAround_27 (by decide) ?_
  refine V_iadd hC dX6_letterAround_28 ?_
  refine V_aload_n hC dX6_letterAround_29 rfl 2 rfl ?_
  refine V_getN (ci := 2) (v := .int (nI t)) hC in_X2 1 rfl cls_X2 1 (by decide) fn_X6_19 rfl dX6_letterAround_30 ?_
  refine V_imul hC dX6_letterAround_33 ?_
  refine V_iconst (v := nI 1) hC dX6_letterAround_34 (by decide) ?_
  refine V_isub hC dX6_letterAround_35 (by omega) ?_
  refine V_iload_n hC dX6_letterAround_36 rfl 3 rfl ?_
  refine V_idiv hC dX6_letterAround_37 (by omega) (by omega) (by omega) ?_
  refine V_calliV (As := [.int (nI (((((v - lo) + 1) * t) - 1) / ((hi - lo) + 1)))]) (rest := []) (wr := [(a, .inr (6, [.int (nI lo), .int (nI hi)]))]) hC (c_X2_letterWith l D cI cQ o r t h p b (((((v - lo) + 1) * t) - 1) / ((hi - lo) + 1)) f (by generalize ((v - lo + 1) * t - 1) / (hi - lo + 1) = X1 at *; omega) (fun j hj => by have := hc.cle hj; omega)) mok_X2_letterWith ml_X6_33 (q1 := 0) rfl cls_X2 rfl rfl rfl (by decide) (by decide) (by decide) (Nat.le_of_ble_eq_true rfl) [1, 2] [0] rfl (by decide) rfl (by decide) (by decide) dX6_letterAround_38 rfl (fun r9 u9 h38 => ?_)
  obtain ⟨rfl, h38⟩ := h38
  clear h38
  refine V_perm (ws2 := [(a, .inr (6, [.int (nI lo), .int (nI hi)])), (o, .inr (2, [.ref r, .int (nI t), .int (nI h), .int (nI p), .int (nI b)])), (r, .inl (cI, 9, .inl (fun j => nI (f j))))]) [0, 1, 2] rfl (by decide) ?_
  subst hQ
  exact V_iret hC hr hlk rfl (by decide) (by decide) dX6_letterAround_41 (()) [0, 1, 2] rfl (by decide) (⟨rfl, trivial⟩)
abbrev rm_X5_letterAt : Room := { frames := 0, cells := 0, slots := 0, locals := 0 }
set_option maxHeartbeats 4000000 in
set_option maxRecDepth 100000 in
theorem c_X5_letterAt (l : Launch) (D : va_G) (cI cQ : ClassId) (a co sp le siz num tk ov i : Nat) (lf : Nat → Nat) (hi : i < 40) : MI l yX5_letterAt cX5_letterAt 2 (some .int) rm_X5_letterAt D (TY cI cQ) [.ref a, .int (nI i)] [(a, .inr (5, [.ref co, .ref sp, .ref le, .int (nI siz), .int (nI num), .int (nI tk), .int (nI ov)])), (le, .inl (cI, 40, .inl (fun j => nI (lf j))))] (fun (r9 : Int32) (u : Unit) => r9 = (nI (lf i)) ∧ True) (fun (u : Unit) => [(a, .inr (5, [.ref co, .ref sp, .ref le, .int (nI siz), .int (nI num), .int (nI tk), .int (nI ov)])), (le, .inl (cI, 40, .inl (fun j => nI (lf j))))]) 0 0 := by
  refine MI.start (by decide) (Nat.le_of_ble_eq_true rfl) (lv0 := [(0, .ref a), (1, .int (nI i))]) rfl ?_
  intro pp9 ee9 ss9 mm9 args9 below9 meth9 co9 A9 Q9 hQ hC hr hlk hnm
  refine V_iload_n hC dX5_letterAt_0 rfl 1 rfl ?_
  refine V_if_lt_F (tgt := 22) hC dX5_letterAt_1 (by decide) (nI_pos (by omega)) ?_
  refine V_iload_n hC dX5_letterAt_4 rfl 1 rfl ?_
  refine V_aload_n hC dX5_letterAt_5 rfl 0 rfl ?_
  refine V_get (ci := 5) (v := .ref le) hC in_X5 0 rfl cls_X5 2 (by decide) fl_X5_25 rfl dX5_letterAt_6 ?_
  refine V_alen (v := (nI 40)) hC 1 0 rfl rfl rfl dX5_letterAt_9 ?_
  refine V_icmp_ge_F (tgt := 22) hC dX5_letterAt_10 (by decide) (nI_ge (by omega) (by omega)) ?_
  refine V_aload_n hC dX5_letterAt_13 rfl 0 rfl ?_
  refine V_get (ci := 5) (v := .ref le) hC in_X5 0 rfl cls_X5 2 (by decide) fl_X5_25 rfl dX5_letterAt_14 ?_
  refine V_iload_n hC dX5_letterAt_17 rfl 1 rfl ?_
  refine V_iald hC 1 0 rfl rfl (by omega) (by decide) dX5_letterAt_18 ?_
  refine V_goto (tgt := 23) hC dX5_letterAt_19 (by decide) ?_
  subst hQ
  exact V_iret hC hr hlk rfl (by decide) (by decide) dX5_letterAt_23 (()) [0, 1] rfl (by decide) (⟨rfl, trivial⟩)
abbrev rm_X5_takeBit : Room := { frames := 1, cells := 0, slots := 0, locals := 21 }
set_option maxHeartbeats 4000000 in
set_option maxRecDepth 100000 in
theorem c_X5_takeBit (l : Launch) (D : va_G) (cI cQ : ClassId) (a co sp le siz num tk ov bi r n : Nat) (g β : Nat → Nat) (hn : n ≤ 658) (hk : tk < 2147483648) (hβ : ∀ j, (if j < n then g j else 0) = β j) : MV l yX5_takeBit cX5_takeBit 2 none rm_X5_takeBit D (TY cI cQ) [.ref a, .ref bi] [(a, .inr (5, [.ref co, .ref sp, .ref le, .int (nI siz), .int (nI num), .int (nI tk), .int (nI ov)])), (bi, .inr (0, [.ref r, .int (nI n)])), (r, .inl (cI, 658, .inl (fun j => nI (g j))))] (fun (u : Unit) => True) (fun (u : Unit) => [(a, .inr (5, [.ref co, .ref sp, .ref le, .int (nI siz), .int (nI (num * 2 + β tk)), .int (nI (tk + 1)), .int (nI ov)])), (bi, .inr (0, [.ref r, .int (nI n)])), (r, .inl (cI, 658, .inl (fun j => nI (g j))))]) 0 0 := by
  refine MV.start (by decide) (Nat.le_of_ble_eq_true rfl) (lv0 := [(0, .ref a), (1, .ref bi)]) rfl ?_
  intro pp9 ee9 ss9 mm9 args9 below9 meth9 co9 A9 Q9 hQ hC hr hlk hnm
  refine V_aload_n hC dX5_takeBit_0 rfl 0 rfl ?_
  refine V_aload_n hC dX5_takeBit_1 rfl 0 rfl ?_
  refine V_get (ci := 5) (v := .int (nI num)) hC in_X5 0 rfl cls_X5 4 (by decide) fl_X5_33 rfl dX5_takeBit_2 ?_
  refine V_iconst (v := nI 2) hC dX5_takeBit_5 (by decide) ?_
  refine V_imul hC dX5_takeBit_6 ?_
  refine V_aload_n hC dX5_takeBit_7 rfl 1 rfl ?_
  refine V_aload_n hC dX5_takeBit_8 rfl 0 rfl ?_
  refine V_get (ci := 5) (v := .int (nI tk)) hC in_X5 0 rfl cls_X5 5 (by decide) fl_X5_36 rfl dX5_takeBit_9 ?_
  refine V_calliV (As := [.int (nI tk)]) (rest := [.int (nI (num * 2)), .ref a]) (wr := [(a, .inr (5, [.ref co, .ref sp, .ref le, .int (nI siz), .int (nI num), .int (nI tk), .int (nI ov)]))]) hC (c_X0_bitAt l D cI cQ bi r n tk g (by omega) (by omega)) mok_X0_bitAt ml_X5_76 (q1 := 0) rfl cls_X0 rfl rfl rfl (by decide) (by decide) (by decide) (Nat.le_of_ble_eq_true rfl) [1, 2] [0] rfl (by decide) rfl (by decide) (by decide) dX5_takeBit_12 rfl (fun r9 u9 h12 => ?_)
  obtain ⟨rfl, h12⟩ := h12
  clear h12
  refine V_perm (ws2 := [(a, .inr (5, [.ref co, .ref sp, .ref le, .int (nI siz), .int (nI num), .int (nI tk), .int (nI ov)])), (bi, .inr (0, [.ref r, .int (nI n)])), (r, .inl (cI, 658, .inl (fun j => nI (g j))))]) [0, 1, 2] rfl (by decide) ?_
  refine V_st (st2 := [.int (nI (β tk)), .int (nI (num * 2)), .ref a]) (by rw [show (if tk < n then g tk else 0) = (β tk) from hβ tk]) ?_
  refine V_iadd hC dX5_takeBit_15 ?_
  refine V_put (ci := 5) (v := .int (nI ((num * 2) + (β tk)))) hC tyX5 tyX5_ok nmX5 in_X5 0 rfl cls_X5 4 (by decide) fl_X5_33 rfl rfl rfl (Nat.le_of_ble_eq_true rfl) dX5_takeBit_16 (ws2 := [(a, .inr (5, [.ref co, .ref sp, .ref le, .int (nI siz), .int (nI ((num * 2) + (β tk))), .int (nI tk), .int (nI ov)])), (bi, .inr (0, [.ref r, .int (nI n)])), (r, .inl (cI, 658, .inl (fun j => nI (g j))))]) rfl ?_
  refine V_aload_n hC dX5_takeBit_19 rfl 0 rfl ?_
  refine V_dup hC dX5_takeBit_20 rfl ?_
  refine V_get (ci := 5) (v := .int (nI tk)) hC in_X5 0 rfl cls_X5 5 (by decide) fl_X5_36 rfl dX5_takeBit_21 ?_
  refine V_iconst (v := nI 1) hC dX5_takeBit_24 (by decide) ?_
  refine V_iadd hC dX5_takeBit_25 ?_
  refine V_put (ci := 5) (v := .int (nI (tk + 1))) hC tyX5 tyX5_ok nmX5 in_X5 0 rfl cls_X5 5 (by decide) fl_X5_36 rfl rfl rfl (Nat.le_of_ble_eq_true rfl) dX5_takeBit_26 (ws2 := [(a, .inr (5, [.ref co, .ref sp, .ref le, .int (nI siz), .int (nI ((num * 2) + (β tk))), .int (nI (tk + 1)), .int (nI ov)])), (bi, .inr (0, [.ref r, .int (nI n)])), (r, .inl (cI, 658, .inl (fun j => nI (g j))))]) rfl ?_
  subst hQ
  exact V_vret hC hr hlk (by decide) (by decide) dX5_takeBit_29 (()) [0, 1, 2] rfl (by decide) (trivial)
abbrev rm_X5_narrow : Room := { frames := 2, cells := 0, slots := 0, locals := 49 }
set_option maxHeartbeats 4000000 in
set_option maxRecDepth 100000 in
theorem c_X5_narrow (l : Launch) (D : va_G) (cI cQ : ClassId) (a co sp le siz v tk ov cr t h p b lo hi bi r n k : Nat) (f g β : Nat → Nat) (hn : n ≤ 658) (hβ : ∀ j, (if j < n then g j else 0) = β j) (hβ2 : ∀ j, β j < 2) (hk : k < 9) (hc : okC f t) (hs : lo ≤ hi ∧ hi ≤ 65535) (hw : t ≤ hi - lo + 1) (hv : shL f t k lo hi ≤ v ∧ v ≤ shU f t k lo hi) (htk : tk ≤ 100000) : MV l yX5_narrow cX5_narrow 5 none rm_X5_narrow D (TY cI cQ) [.ref a, .int (nI k), .ref bi] [(a, .inr (5, [.ref co, .ref sp, .ref le, .int (nI siz), .int (nI v), .int (nI tk), .int (nI ov)])), (co, .inr (2, [.ref cr, .int (nI t), .int (nI h), .int (nI p), .int (nI b)])), (cr, .inl (cI, 9, .inl (fun j => nI (f j)))), (sp, .inr (6, [.int (nI lo), .int (nI hi)])), (bi, .inr (0, [.ref r, .int (nI n)])), (r, .inl (cI, 658, .inl (fun j => nI (g j))))] (fun (u : Unit) => True) (fun (u : Unit) => [(a, .inr (5, [.ref co, .ref sp, .ref le, .int (nI siz), .int (nI ((nv β 16 (shL f t k lo hi) (shU f t k lo hi) v tk).2.2.1)), .int (nI ((nv β 16 (shL f t k lo hi) (shU f t k lo hi) v tk).2.2.2)), .int (nI ov)])), (co, .inr (2, [.ref cr, .int (nI t), .int (nI h), .int (nI p), .int (nI b)])), (cr, .inl (cI, 9, .inl (fun j => nI (f j)))), (sp, .inr (6, [.int (nI ((nv β 16 (shL f t k lo hi) (shU f t k lo hi) v tk).1)), .int (nI ((nv β 16 (shL f t k lo hi) (shU f t k lo hi) v tk).2.1))])), (bi, .inr (0, [.ref r, .int (nI n)])), (r, .inl (cI, 658, .inl (fun j => nI (g j))))]) 0 0 := by
  refine MV.start (by decide) (Nat.le_of_ble_eq_true rfl) (lv0 := [(0, .ref a), (1, .int (nI k)), (2, .ref bi)]) rfl ?_
  intro pp9 ee9 ss9 mm9 args9 below9 meth9 co9 A9 Q9 hQ hC hr hlk hnm
  have hsh := sh_ok hc hk hs hw
  refine V_aload_n hC dX5_narrow_0 rfl 0 rfl ?_
  refine V_get (ci := 5) (v := .ref sp) hC in_X5 0 rfl cls_X5 1 (by decide) fl_X5_21 rfl dX5_narrow_1 ?_
  refine V_aload_n hC dX5_narrow_4 rfl 0 rfl ?_
  refine V_get (ci := 5) (v := .ref co) hC in_X5 0 rfl cls_X5 0 (by decide) fl_X5_12 rfl dX5_narrow_5 ?_
  refine V_iload_n hC dX5_narrow_8 rfl 1 rfl ?_
  refine V_callvV (As := [.ref co, .int (nI k)]) (rest := []) (wr := [(a, .inr (5, [.ref co, .ref sp, .ref le, .int (nI siz), .int (nI v), .int (nI tk), .int (nI ov)])), (bi, .inr (0, [.ref r, .int (nI n)])), (r, .inl (cI, 658, .inl (fun j => nI (g j))))]) hC (c_X6_shrink l D cI cQ sp lo hi co cr t h p b k f (by first | assumption | omega) (by first | assumption | omega) (by first | assumption | omega) (by first | assumption | omega)) mok_X6_shrink ml_X5_68 (q1 := 0) rfl cls_X6 rfl rfl rfl (by decide) (by decide) (by decide) (Nat.le_of_ble_eq_true rfl) [3, 1, 2] [0, 4, 5] rfl (by decide) rfl (by decide) (by decide) dX5_narrow_9 rfl (fun u9 h9 => ?_)
  clear h9
  refine V_perm (ws2 := [(a, .inr (5, [.ref co, .ref sp, .ref le, .int (nI siz), .int (nI v), .int (nI tk), .int (nI ov)])), (co, .inr (2, [.ref cr, .int (nI t), .int (nI h), .int (nI p), .int (nI b)])), (cr, .inl (cI, 9, .inl (fun j => nI (f j)))), (sp, .inr (6, [.int (nI (shL f t k lo hi)), .int (nI (shU f t k lo hi))])), (bi, .inr (0, [.ref r, .int (nI n)])), (r, .inl (cI, 658, .inl (fun j => nI (g j))))]) [0, 4, 5, 3, 1, 2] rfl (by decide) ?_
  refine V_iconst (v := nI 0) hC dX5_narrow_12 (by decide) ?_
  refine V_istore_n (lv2 := [(0, .ref a), (1, .int (nI k)), (2, .ref bi), (3, .int (nI 0))]) hC dX5_narrow_13 rfl (by decide) [1, 2, 3, 0] rfl ?_
  have L14 : ∀ (n9 : Nat) (i : Nat) (lo2 : Nat) (hi2 : Nat) (v2 : Nat) (tk2 : Nat), (i ≤ 16) → (lo2 ≤ v2 ∧ v2 ≤ hi2 ∧ hi2 ≤ 65535) → (nv β (16 - i) lo2 hi2 v2 tk2 = nv β 16 (shL f t k lo hi) (shU f t k lo hi) v tk) → (tk2 ≤ 100000 + i) → 16 - i < n9 → V pp9 l ee9 rm_X5_narrow ss9 mm9 args9 below9 meth9 co9 D A9 ss9.heap 5 Q9 [(a, .inr (5, [.ref co, .ref sp, .ref le, .int (nI siz), .int (nI v2), .int (nI tk2), .int (nI ov)])), (co, .inr (2, [.ref cr, .int (nI t), .int (nI h), .int (nI p), .int (nI b)])), (cr, .inl (cI, 9, .inl (fun j => nI (f j)))), (sp, .inr (6, [.int (nI lo2), .int (nI hi2)])), (bi, .inr (0, [.ref r, .int (nI n)])), (r, .inl (cI, 658, .inl (fun j => nI (g j))))] [(0, .ref a), (1, .int (nI k)), (2, .ref bi), (3, .int (nI i))] 0 0 14 [] := by
    intro n9
    induction n9 with
    | zero => intro i lo2 hi2 v2 tk2 h1 h2 h3 h4 h9; exact absurd h9 (Nat.not_lt_zero _)
    | succ n9 ih =>
      intro i lo2 hi2 v2 tk2 h1 h2 h3 h4 h9
      refine V_iload_n hC dX5_narrow_14 rfl 3 rfl ?_
      refine V_bipush (v := nI 16) hC dX5_narrow_15 (by decide) ?_
      refine V_icmp_ge (tgt := 58) hC (by omega) (by omega) dX5_narrow_17 (by decide) (fun c17 => ?_) (fun c17 => ?_)
      · subst hQ
        rw [show 16 - i = 0 by omega] at h3
        rw [← h3]
        simp only [nv]
        exact V_vret hC hr hlk (by decide) (by decide) dX5_narrow_58 (()) [0, 1, 2, 3, 4, 5] rfl (by decide) (trivial)
      · refine V_aload_n hC dX5_narrow_20 rfl 0 rfl ?_
        refine V_get (ci := 5) (v := .ref sp) hC in_X5 0 rfl cls_X5 1 (by decide) fl_X5_21 rfl dX5_narrow_21 ?_
        by_cases hw1 : wO lo2 hi2 = 1
        · refine V_calliV (As := []) (rest := []) (wr := [(a, .inr (5, [.ref co, .ref sp, .ref le, .int (nI siz), .int (nI v2), .int (nI tk2), .int (nI ov)])), (co, .inr (2, [.ref cr, .int (nI t), .int (nI h), .int (nI p), .int (nI b)])), (cr, .inl (cI, 9, .inl (fun j => nI (f j)))), (bi, .inr (0, [.ref r, .int (nI n)])), (r, .inl (cI, 658, .inl (fun j => nI (g j))))]) hC (c_X6_widen_stop l D cI cQ sp lo2 hi2 (by omega) (hw1)) mok_X6_widen ml_X5_72 (q1 := 0) rfl cls_X6 rfl rfl rfl (by decide) (by decide) (by decide) (Nat.le_of_ble_eq_true rfl) [3] [0, 1, 2, 4, 5] rfl (by decide) rfl (by decide) (by decide) dX5_narrow_24 rfl (fun r9 u9 h24 => ?_)
          obtain ⟨rfl, h24⟩ := h24
          clear h24
          refine V_perm (ws2 := [(a, .inr (5, [.ref co, .ref sp, .ref le, .int (nI siz), .int (nI v2), .int (nI tk2), .int (nI ov)])), (co, .inr (2, [.ref cr, .int (nI t), .int (nI h), .int (nI p), .int (nI b)])), (cr, .inl (cI, 9, .inl (fun j => nI (f j)))), (sp, .inr (6, [.int (nI lo2), .int (nI hi2)])), (bi, .inr (0, [.ref r, .int (nI n)])), (r, .inl (cI, 658, .inl (fun j => nI (g j))))]) [0, 1, 2, 5, 3, 4] rfl (by decide) ?_
          refine V_istore (lv2 := [(0, .ref a), (1, .int (nI k)), (2, .ref bi), (3, .int (nI i)), (4, .int (-1))]) hC dX5_narrow_27 (by decide) [1, 2, 3, 4, 0] rfl ?_
          have hwc := wO_cases lo2 hi2
          have hbt := hβ2 tk2
          refine V_iload hC dX5_narrow_29 4 rfl ?_
          refine V_iconst (v := -1) hC dX5_narrow_31 (by decide) ?_
          refine V_icmp_ne_F (tgt := 36) hC dX5_narrow_32 (by decide) rfl ?_
          subst hQ
          rw [nv_stop hw1] at h3
          rw [← h3]
          exact V_vret hC hr hlk (by decide) (by decide) dX5_narrow_35 (()) [0, 1, 2, 3, 4, 5] rfl (by decide) (trivial)
        · refine V_calliV (As := []) (rest := []) (wr := [(a, .inr (5, [.ref co, .ref sp, .ref le, .int (nI siz), .int (nI v2), .int (nI tk2), .int (nI ov)])), (co, .inr (2, [.ref cr, .int (nI t), .int (nI h), .int (nI p), .int (nI b)])), (cr, .inl (cI, 9, .inl (fun j => nI (f j)))), (bi, .inr (0, [.ref r, .int (nI n)])), (r, .inl (cI, 658, .inl (fun j => nI (g j))))]) hC (c_X6_widen_go l D cI cQ sp lo2 hi2 (by omega) (hw1)) mok_X6_widen ml_X5_72 (q1 := 0) rfl cls_X6 rfl rfl rfl (by decide) (by decide) (by decide) (Nat.le_of_ble_eq_true rfl) [3] [0, 1, 2, 4, 5] rfl (by decide) rfl (by decide) (by decide) dX5_narrow_24 rfl (fun r9 u9 h24 => ?_)
          obtain ⟨rfl, h24⟩ := h24
          clear h24
          refine V_perm (ws2 := [(a, .inr (5, [.ref co, .ref sp, .ref le, .int (nI siz), .int (nI v2), .int (nI tk2), .int (nI ov)])), (co, .inr (2, [.ref cr, .int (nI t), .int (nI h), .int (nI p), .int (nI b)])), (cr, .inl (cI, 9, .inl (fun j => nI (f j)))), (sp, .inr (6, [.int (nI ((lo2 - wO lo2 hi2) * 2)), .int (nI ((hi2 - wO lo2 hi2) * 2 + 1))])), (bi, .inr (0, [.ref r, .int (nI n)])), (r, .inl (cI, 658, .inl (fun j => nI (g j))))]) [0, 1, 2, 5, 3, 4] rfl (by decide) ?_
          refine V_istore (lv2 := [(0, .ref a), (1, .int (nI k)), (2, .ref bi), (3, .int (nI i)), (4, .int (nI (wO lo2 hi2)))]) hC dX5_narrow_27 (by decide) [1, 2, 3, 4, 0] rfl ?_
          have hwc := wO_cases lo2 hi2
          have hbt := hβ2 tk2
          refine V_iload hC dX5_narrow_29 4 rfl ?_
          refine V_iconst (v := -1) hC dX5_narrow_31 (by decide) ?_
          refine V_icmp_ne_T (tgt := 36) hC dX5_narrow_32 (by decide) (neg_ne' (by decide) (by omega)) ?_
          refine V_aload_n hC dX5_narrow_36 rfl 0 rfl ?_
          refine V_dup hC dX5_narrow_37 rfl ?_
          refine V_get (ci := 5) (v := .int (nI v2)) hC in_X5 0 rfl cls_X5 4 (by decide) fl_X5_33 rfl dX5_narrow_38 ?_
          refine V_iload hC dX5_narrow_41 4 rfl ?_
          refine V_isub hC dX5_narrow_43 (by omega) ?_
          refine V_put (ci := 5) (v := .int (nI (v2 - (wO lo2 hi2)))) hC tyX5 tyX5_ok nmX5 in_X5 0 rfl cls_X5 4 (by decide) fl_X5_33 rfl rfl rfl (Nat.le_of_ble_eq_true rfl) dX5_narrow_44 (ws2 := [(a, .inr (5, [.ref co, .ref sp, .ref le, .int (nI siz), .int (nI (v2 - (wO lo2 hi2))), .int (nI tk2), .int (nI ov)])), (co, .inr (2, [.ref cr, .int (nI t), .int (nI h), .int (nI p), .int (nI b)])), (cr, .inl (cI, 9, .inl (fun j => nI (f j)))), (sp, .inr (6, [.int (nI ((lo2 - wO lo2 hi2) * 2)), .int (nI ((hi2 - wO lo2 hi2) * 2 + 1))])), (bi, .inr (0, [.ref r, .int (nI n)])), (r, .inl (cI, 658, .inl (fun j => nI (g j))))]) rfl ?_
          refine V_aload_n hC dX5_narrow_47 rfl 0 rfl ?_
          refine V_aload_n hC dX5_narrow_48 rfl 2 rfl ?_
          refine V_callvV (As := [.ref bi]) (rest := []) (wr := [(co, .inr (2, [.ref cr, .int (nI t), .int (nI h), .int (nI p), .int (nI b)])), (cr, .inl (cI, 9, .inl (fun j => nI (f j)))), (sp, .inr (6, [.int (nI ((lo2 - wO lo2 hi2) * 2)), .int (nI ((hi2 - wO lo2 hi2) * 2 + 1))]))]) hC (c_X5_takeBit l D cI cQ a co sp le siz (v2 - (wO lo2 hi2)) tk2 ov bi r n g β (by omega) (by omega) (hβ)) mok_X5_takeBit ml_X5_49 (q1 := 0) rfl cls_X5 rfl rfl rfl (by decide) (by decide) (by decide) (Nat.le_of_ble_eq_true rfl) [0, 4, 5] [1, 2, 3] rfl (by decide) rfl (by decide) (by decide) dX5_narrow_49 rfl (fun u9 h49 => ?_)
          clear h49
          refine V_perm (ws2 := [(a, .inr (5, [.ref co, .ref sp, .ref le, .int (nI siz), .int (nI ((v2 - (wO lo2 hi2)) * 2 + β tk2)), .int (nI (tk2 + 1)), .int (nI ov)])), (co, .inr (2, [.ref cr, .int (nI t), .int (nI h), .int (nI p), .int (nI b)])), (cr, .inl (cI, 9, .inl (fun j => nI (f j)))), (sp, .inr (6, [.int (nI ((lo2 - wO lo2 hi2) * 2)), .int (nI ((hi2 - wO lo2 hi2) * 2 + 1))])), (bi, .inr (0, [.ref r, .int (nI n)])), (r, .inl (cI, 658, .inl (fun j => nI (g j))))]) [3, 0, 1, 2, 4, 5] rfl (by decide) ?_
          refine V_iinc (v := (nI (i + 1))) (lv2 := [(0, .ref a), (1, .int (nI k)), (2, .ref bi), (3, .int (nI (i + 1))), (4, .int (nI (wO lo2 hi2)))]) (q := 3) hC dX5_narrow_52 rfl (nI_add _ _) (by decide) [1, 2, 3, 0, 4] rfl ?_
          refine V_goto (tgt := 14) hC dX5_narrow_55 (by decide) ?_
          refine V_pick (lv2 := [(0, .ref a), (1, .int (nI k)), (2, .ref bi), (3, .int (nI ((i + 1))))]) [0, 1, 2, 3] rfl ?_
          exact ih (i + 1) ((lo2 - wO lo2 hi2) * 2) ((hi2 - wO lo2 hi2) * 2 + 1) ((v2 - (wO lo2 hi2)) * 2 + β tk2) (tk2 + 1) (by omega) (by omega) (by rw [← h3, show 16 - i = (16 - (i + 1)) + 1 by omega, nv_go hw1]) (by omega) (by omega)
  exact L14 _ 0 (shL f t k lo hi) (shU f t k lo hi) v tk (by omega) (by omega) (rfl) (by omega) (Nat.lt_succ_self _)
abbrev rm_X5_readLetter_end : Room := { frames := 2, cells := 0, slots := 0, locals := 46 }
set_option maxHeartbeats 4000000 in
set_option maxRecDepth 100000 in
theorem c_X5_readLetter_end (l : Launch) (D : va_G) (cI cQ : ClassId) (a co sp le cr bi r n p b ov : Nat) (s9 : RS) (lf g β : Nat → Nat) (hn : n ≤ 658) (hβ : ∀ j, (if j < n then g j else 0) = β j) (hβ2 : ∀ j, β j < 2) (hR : okR s9) (hp : p ≤ 64) (hb : b ≤ 2000) (hl : rep lf (qR s9)) (hx : lwS s9 = 8) : MV l yX5_readLetter cX5_readLetter 3 none rm_X5_readLetter_end D (TY cI cQ) [.ref a, .ref bi] [(a, .inr (5, [.ref co, .ref sp, .ref le, .int (nI ((qR (s9)).length)), .int (nI (qV (s9))), .int (nI (qK (s9))), .int (nI ov)])), (co, .inr (2, [.ref cr, .int (nI (qT (s9))), .int (nI (qH (s9))), .int (nI p), .int (nI b)])), (cr, .inl (cI, 9, .inl (fun j => nI ((qF (s9)) j)))), (sp, .inr (6, [.int (nI (qL (s9))), .int (nI (qU (s9)))])), (le, .inl (cI, 40, .inl (fun j => nI (lf j)))), (bi, .inr (0, [.ref r, .int (nI n)])), (r, .inl (cI, 658, .inl (fun j => nI (g j))))] (fun (u : Unit) => True) (fun (u : Unit) => [(a, .inr (5, [.ref co, .ref sp, .ref le, .int (nI ((qR (s9)).length)), .int (nI (qV (s9))), .int (nI (qK (s9))), .int (nI 1)])), (co, .inr (2, [.ref cr, .int (nI (qT (s9))), .int (nI (qH (s9))), .int (nI p), .int (nI b)])), (cr, .inl (cI, 9, .inl (fun j => nI ((qF (s9)) j)))), (sp, .inr (6, [.int (nI (qL (s9))), .int (nI (qU (s9)))])), (le, .inl (cI, 40, .inl (fun j => nI (lf j)))), (bi, .inr (0, [.ref r, .int (nI n)])), (r, .inl (cI, 658, .inl (fun j => nI (g j))))]) 0 0 := by
  refine MV.start (by decide) (Nat.le_of_ble_eq_true rfl) (lv0 := [(0, .ref a), (1, .ref bi)]) rfl ?_
  intro pp9 ee9 ss9 mm9 args9 below9 meth9 co9 A9 Q9 hQ hC hr hlk hnm
  refine V_aload_n hC dX5_readLetter_0 rfl 0 rfl ?_
  refine V_get (ci := 5) (v := .ref sp) hC in_X5 0 rfl cls_X5 1 (by decide) fl_X5_21 rfl dX5_readLetter_1 ?_
  refine V_aload_n hC dX5_readLetter_4 rfl 0 rfl ?_
  refine V_get (ci := 5) (v := .int (nI (qV (s9)))) hC in_X5 0 rfl cls_X5 4 (by decide) fl_X5_33 rfl dX5_readLetter_5 ?_
  refine V_aload_n hC dX5_readLetter_8 rfl 0 rfl ?_
  refine V_get (ci := 5) (v := .ref co) hC in_X5 0 rfl cls_X5 0 (by decide) fl_X5_12 rfl dX5_readLetter_9 ?_
  refine V_calliV (As := [.int (nI (qV (s9))), .ref co]) (rest := []) (wr := [(a, .inr (5, [.ref co, .ref sp, .ref le, .int (nI ((qR (s9)).length)), .int (nI (qV (s9))), .int (nI (qK (s9))), .int (nI ov)])), (le, .inl (cI, 40, .inl (fun j => nI (lf j)))), (bi, .inr (0, [.ref r, .int (nI n)])), (r, .inl (cI, 658, .inl (fun j => nI (g j))))]) hC (c_X6_letterAround l D cI cQ sp (qL (s9)) (qU (s9)) (qV (s9)) co cr (qT (s9)) (qH (s9)) p b (qF (s9)) (hR.1) (⟨hR.2.1, hR.2.2.1, hR.2.2.2.1⟩)) mok_X6_letterAround ml_X5_56 (q1 := 0) rfl cls_X6 rfl rfl rfl (by decide) (by decide) (by decide) (Nat.le_of_ble_eq_true rfl) [3, 1, 2] [0, 4, 5, 6] rfl (by decide) rfl (by decide) (by decide) dX5_readLetter_12 rfl (fun r9 u9 h12 => ?_)
  obtain ⟨rfl, h12⟩ := h12
  clear h12
  refine V_perm (ws2 := [(a, .inr (5, [.ref co, .ref sp, .ref le, .int (nI ((qR (s9)).length)), .int (nI (qV (s9))), .int (nI (qK (s9))), .int (nI ov)])), (co, .inr (2, [.ref cr, .int (nI ((qT (s9)))), .int (nI ((qH (s9)))), .int (nI p), .int (nI b)])), (cr, .inl (cI, 9, .inl (fun j => nI (((qF (s9))) j)))), (sp, .inr (6, [.int (nI ((qL (s9)))), .int (nI ((qU (s9))))])), (le, .inl (cI, 40, .inl (fun j => nI (lf j)))), (bi, .inr (0, [.ref r, .int (nI n)])), (r, .inl (cI, 658, .inl (fun j => nI (g j))))]) [0, 5, 6, 4, 1, 2, 3] rfl (by decide) ?_
  refine V_st (st2 := [.int (nI 8)]) (by rw [show (lwX (qF (s9)) (qT (s9)) (qL (s9)) (qU (s9)) (qV (s9))) = (8) from hx]) ?_
  refine V_istore_n (lv2 := [(0, .ref a), (1, .ref bi), (2, .int (nI 8))]) hC dX5_readLetter_15 rfl (by decide) [1, 2, 0] rfl ?_
  refine V_iload_n hC dX5_readLetter_16 rfl 2 rfl ?_
  refine V_bipush (v := nI 8) hC dX5_readLetter_17 (by decide) ?_
  refine V_icmp_ne_F (tgt := 30) hC dX5_readLetter_19 (by decide) (congrArg nI (show 8 = 8 by omega)) ?_
  refine V_aload_n hC dX5_readLetter_22 rfl 0 rfl ?_
  refine V_iconst (v := nI 1) hC dX5_readLetter_23 (by decide) ?_
  refine V_put (ci := 5) (v := .int (nI 1)) hC tyX5 tyX5_ok nmX5 in_X5 0 rfl cls_X5 6 (by decide) fl_X5_39 rfl rfl rfl (Nat.le_of_ble_eq_true rfl) dX5_readLetter_24 (ws2 := [(a, .inr (5, [.ref co, .ref sp, .ref le, .int (nI ((qR (s9)).length)), .int (nI (qV (s9))), .int (nI (qK (s9))), .int (nI 1)])), (co, .inr (2, [.ref cr, .int (nI ((qT (s9)))), .int (nI ((qH (s9)))), .int (nI p), .int (nI b)])), (cr, .inl (cI, 9, .inl (fun j => nI (((qF (s9))) j)))), (sp, .inr (6, [.int (nI ((qL (s9)))), .int (nI ((qU (s9))))])), (le, .inl (cI, 40, .inl (fun j => nI (lf j)))), (bi, .inr (0, [.ref r, .int (nI n)])), (r, .inl (cI, 658, .inl (fun j => nI (g j))))]) rfl ?_
  refine V_goto (tgt := 83) hC dX5_readLetter_27 (by decide) ?_
  subst hQ
  exact V_vret hC hr hlk (by decide) (by decide) dX5_readLetter_83 (()) [0, 1, 2, 3, 4, 5, 6] rfl (by decide) (trivial)
abbrev rm_X5_readLetter_full : Room := { frames := 2, cells := 0, slots := 0, locals := 46 }
set_option maxHeartbeats 4000000 in
set_option maxRecDepth 100000 in
theorem c_X5_readLetter_full (l : Launch) (D : va_G) (cI cQ : ClassId) (a co sp le cr bi r n p b ov : Nat) (s9 : RS) (lf g β : Nat → Nat) (hn : n ≤ 658) (hβ : ∀ j, (if j < n then g j else 0) = β j) (hβ2 : ∀ j, β j < 2) (hR : okR s9) (hp : p ≤ 64) (hb : b ≤ 2000) (hl : rep lf (qR s9)) (hx : lwS s9 ≠ 8) (hz : 40 ≤ (qR s9).length) : MV l yX5_readLetter cX5_readLetter 3 none rm_X5_readLetter_full D (TY cI cQ) [.ref a, .ref bi] [(a, .inr (5, [.ref co, .ref sp, .ref le, .int (nI ((qR (s9)).length)), .int (nI (qV (s9))), .int (nI (qK (s9))), .int (nI ov)])), (co, .inr (2, [.ref cr, .int (nI (qT (s9))), .int (nI (qH (s9))), .int (nI p), .int (nI b)])), (cr, .inl (cI, 9, .inl (fun j => nI ((qF (s9)) j)))), (sp, .inr (6, [.int (nI (qL (s9))), .int (nI (qU (s9)))])), (le, .inl (cI, 40, .inl (fun j => nI (lf j)))), (bi, .inr (0, [.ref r, .int (nI n)])), (r, .inl (cI, 658, .inl (fun j => nI (g j))))] (fun (u : Unit) => True) (fun (u : Unit) => [(a, .inr (5, [.ref co, .ref sp, .ref le, .int (nI ((qR (s9)).length)), .int (nI (qV (s9))), .int (nI (qK (s9))), .int (nI ov)])), (co, .inr (2, [.ref cr, .int (nI (qT (s9))), .int (nI (qH (s9))), .int (nI p), .int (nI b)])), (cr, .inl (cI, 9, .inl (fun j => nI ((qF (s9)) j)))), (sp, .inr (6, [.int (nI (qL (s9))), .int (nI (qU (s9)))])), (le, .inl (cI, 40, .inl (fun j => nI (lf j)))), (bi, .inr (0, [.ref r, .int (nI n)])), (r, .inl (cI, 658, .inl (fun j => nI (g j))))]) 0 0 := by
  refine MV.start (by decide) (Nat.le_of_ble_eq_true rfl) (lv0 := [(0, .ref a), (1, .ref bi)]) rfl ?_
  intro pp9 ee9 ss9 mm9 args9 below9 meth9 co9 A9 Q9 hQ hC hr hlk hnm
  have hlw := hR.lw
  have hz2 := hR.2.2.2.2.2.2
  refine V_aload_n hC dX5_readLetter_0 rfl 0 rfl ?_
  refine V_get (ci := 5) (v := .ref sp) hC in_X5 0 rfl cls_X5 1 (by decide) fl_X5_21 rfl dX5_readLetter_1 ?_
  refine V_aload_n hC dX5_readLetter_4 rfl 0 rfl ?_
  refine V_get (ci := 5) (v := .int (nI (qV (s9)))) hC in_X5 0 rfl cls_X5 4 (by decide) fl_X5_33 rfl dX5_readLetter_5 ?_
  refine V_aload_n hC dX5_readLetter_8 rfl 0 rfl ?_
  refine V_get (ci := 5) (v := .ref co) hC in_X5 0 rfl cls_X5 0 (by decide) fl_X5_12 rfl dX5_readLetter_9 ?_
  refine V_calliV (As := [.int (nI (qV (s9))), .ref co]) (rest := []) (wr := [(a, .inr (5, [.ref co, .ref sp, .ref le, .int (nI ((qR (s9)).length)), .int (nI (qV (s9))), .int (nI (qK (s9))), .int (nI ov)])), (le, .inl (cI, 40, .inl (fun j => nI (lf j)))), (bi, .inr (0, [.ref r, .int (nI n)])), (r, .inl (cI, 658, .inl (fun j => nI (g j))))]) hC (c_X6_letterAround l D cI cQ sp (qL (s9)) (qU (s9)) (qV (s9)) co cr (qT (s9)) (qH (s9)) p b (qF (s9)) (hR.1) (⟨hR.2.1, hR.2.2.1, hR.2.2.2.1⟩)) mok_X6_letterAround ml_X5_56 (q1 := 0) rfl cls_X6 rfl rfl rfl (by decide) (by decide) (by decide) (Nat.le_of_ble_eq_true rfl) [3, 1, 2] [0, 4, 5, 6] rfl (by decide) rfl (by decide) (by decide) dX5_readLetter_12 rfl (fun r9 u9 h12 => ?_)
  obtain ⟨rfl, h12⟩ := h12
  clear h12
  refine V_perm (ws2 := [(a, .inr (5, [.ref co, .ref sp, .ref le, .int (nI ((qR (s9)).length)), .int (nI (qV (s9))), .int (nI (qK (s9))), .int (nI ov)])), (co, .inr (2, [.ref cr, .int (nI ((qT (s9)))), .int (nI ((qH (s9)))), .int (nI p), .int (nI b)])), (cr, .inl (cI, 9, .inl (fun j => nI (((qF (s9))) j)))), (sp, .inr (6, [.int (nI ((qL (s9)))), .int (nI ((qU (s9))))])), (le, .inl (cI, 40, .inl (fun j => nI (lf j)))), (bi, .inr (0, [.ref r, .int (nI n)])), (r, .inl (cI, 658, .inl (fun j => nI (g j))))]) [0, 5, 6, 4, 1, 2, 3] rfl (by decide) ?_
  refine V_st (st2 := [.int (nI (lwS s9))]) rfl ?_
  refine V_istore_n (lv2 := [(0, .ref a), (1, .ref bi), (2, .int (nI (lwS s9)))]) hC dX5_readLetter_15 rfl (by decide) [1, 2, 0] rfl ?_
  refine V_iload_n hC dX5_readLetter_16 rfl 2 rfl ?_
  refine V_bipush (v := nI 8) hC dX5_readLetter_17 (by decide) ?_
  refine V_icmp_ne_T (tgt := 30) hC dX5_readLetter_19 (by decide) (fun z => absurd ((nI_eq (by omega) (by omega)).mp z) (show ¬ lwS s9 = 8 by omega)) ?_
  refine V_aload_n hC dX5_readLetter_30 rfl 0 rfl ?_
  refine V_get (ci := 5) (v := .int (nI ((qR (s9)).length))) hC in_X5 0 rfl cls_X5 3 (by decide) fl_X5_29 rfl dX5_readLetter_31 ?_
  refine V_if_lt_F (tgt := 83) hC dX5_readLetter_34 (by decide) (nI_pos (by omega)) ?_
  refine V_aload_n hC dX5_readLetter_37 rfl 0 rfl ?_
  refine V_get (ci := 5) (v := .int (nI ((qR (s9)).length))) hC in_X5 0 rfl cls_X5 3 (by decide) fl_X5_29 rfl dX5_readLetter_38 ?_
  refine V_aload_n hC dX5_readLetter_41 rfl 0 rfl ?_
  refine V_get (ci := 5) (v := .ref le) hC in_X5 0 rfl cls_X5 2 (by decide) fl_X5_25 rfl dX5_readLetter_42 ?_
  refine V_alen (v := (nI 40)) hC 4 0 rfl rfl rfl dX5_readLetter_45 ?_
  refine V_icmp_ge_T (tgt := 83) hC dX5_readLetter_46 (by decide) (nI_le (by omega) (by omega)) ?_
  subst hQ
  exact V_vret hC hr hlk (by decide) (by decide) dX5_readLetter_83 (()) [0, 1, 2, 3, 4, 5, 6] rfl (by decide) (trivial)
abbrev rm_X5_readLetter_go : Room := { frames := 3, cells := 0, slots := 0, locals := 73 }
set_option maxHeartbeats 4000000 in
set_option maxRecDepth 100000 in
theorem c_X5_readLetter_go (l : Launch) (D : va_G) (cI cQ : ClassId) (a co sp le cr bi r n p b ov : Nat) (s9 : RS) (lf g β : Nat → Nat) (hn : n ≤ 658) (hβ : ∀ j, (if j < n then g j else 0) = β j) (hβ2 : ∀ j, β j < 2) (hR : okR s9) (hp : p ≤ 64) (hb : b ≤ 2000) (hl : rep lf (qR s9)) (hx : lwS s9 ≠ 8) (hz : (qR s9).length < 40) : MV l yX5_readLetter cX5_readLetter 3 none rm_X5_readLetter_go D (TY cI cQ) [.ref a, .ref bi] [(a, .inr (5, [.ref co, .ref sp, .ref le, .int (nI ((qR (s9)).length)), .int (nI (qV (s9))), .int (nI (qK (s9))), .int (nI ov)])), (co, .inr (2, [.ref cr, .int (nI (qT (s9))), .int (nI (qH (s9))), .int (nI p), .int (nI b)])), (cr, .inl (cI, 9, .inl (fun j => nI ((qF (s9)) j)))), (sp, .inr (6, [.int (nI (qL (s9))), .int (nI (qU (s9)))])), (le, .inl (cI, 40, .inl (fun j => nI (lf j)))), (bi, .inr (0, [.ref r, .int (nI n)])), (r, .inl (cI, 658, .inl (fun j => nI (g j))))] (fun (u : (Nat → Nat)) => rep u (qR (rStep p b β s9))) (fun (u : (Nat → Nat)) => [(a, .inr (5, [.ref co, .ref sp, .ref le, .int (nI ((qR (rStep p b β s9)).length)), .int (nI (qV (rStep p b β s9))), .int (nI (qK (rStep p b β s9))), .int (nI ov)])), (co, .inr (2, [.ref cr, .int (nI (qT (rStep p b β s9))), .int (nI (qH (rStep p b β s9))), .int (nI p), .int (nI b)])), (cr, .inl (cI, 9, .inl (fun j => nI ((qF (rStep p b β s9)) j)))), (sp, .inr (6, [.int (nI (qL (rStep p b β s9))), .int (nI (qU (rStep p b β s9)))])), (le, .inl (cI, 40, .inl (fun j => nI (u j)))), (bi, .inr (0, [.ref r, .int (nI n)])), (r, .inl (cI, 658, .inl (fun j => nI (g j))))]) 0 0 := by
  refine MV.start (by decide) (Nat.le_of_ble_eq_true rfl) (lv0 := [(0, .ref a), (1, .ref bi)]) rfl ?_
  intro pp9 ee9 ss9 mm9 args9 below9 meth9 co9 A9 Q9 hQ hC hr hlk hnm
  have hlw := hR.lw
  have hk9 := hR.2.2.2.2.2.1
  refine V_aload_n hC dX5_readLetter_0 rfl 0 rfl ?_
  refine V_get (ci := 5) (v := .ref sp) hC in_X5 0 rfl cls_X5 1 (by decide) fl_X5_21 rfl dX5_readLetter_1 ?_
  refine V_aload_n hC dX5_readLetter_4 rfl 0 rfl ?_
  refine V_get (ci := 5) (v := .int (nI (qV (s9)))) hC in_X5 0 rfl cls_X5 4 (by decide) fl_X5_33 rfl dX5_readLetter_5 ?_
  refine V_aload_n hC dX5_readLetter_8 rfl 0 rfl ?_
  refine V_get (ci := 5) (v := .ref co) hC in_X5 0 rfl cls_X5 0 (by decide) fl_X5_12 rfl dX5_readLetter_9 ?_
  refine V_calliV (As := [.int (nI (qV (s9))), .ref co]) (rest := []) (wr := [(a, .inr (5, [.ref co, .ref sp, .ref le, .int (nI ((qR (s9)).length)), .int (nI (qV (s9))), .int (nI (qK (s9))), .int (nI ov)])), (le, .inl (cI, 40, .inl (fun j => nI (lf j)))), (bi, .inr (0, [.ref r, .int (nI n)])), (r, .inl (cI, 658, .inl (fun j => nI (g j))))]) hC (c_X6_letterAround l D cI cQ sp (qL (s9)) (qU (s9)) (qV (s9)) co cr (qT (s9)) (qH (s9)) p b (qF (s9)) (hR.1) (⟨hR.2.1, hR.2.2.1, hR.2.2.2.1⟩)) mok_X6_letterAround ml_X5_56 (q1 := 0) rfl cls_X6 rfl rfl rfl (by decide) (by decide) (by decide) (Nat.le_of_ble_eq_true rfl) [3, 1, 2] [0, 4, 5, 6] rfl (by decide) rfl (by decide) (by decide) dX5_readLetter_12 rfl (fun r9 u9 h12 => ?_)
  obtain ⟨rfl, h12⟩ := h12
  clear h12
  refine V_perm (ws2 := [(a, .inr (5, [.ref co, .ref sp, .ref le, .int (nI ((qR (s9)).length)), .int (nI (qV (s9))), .int (nI (qK (s9))), .int (nI ov)])), (co, .inr (2, [.ref cr, .int (nI ((qT (s9)))), .int (nI ((qH (s9)))), .int (nI p), .int (nI b)])), (cr, .inl (cI, 9, .inl (fun j => nI (((qF (s9))) j)))), (sp, .inr (6, [.int (nI ((qL (s9)))), .int (nI ((qU (s9))))])), (le, .inl (cI, 40, .inl (fun j => nI (lf j)))), (bi, .inr (0, [.ref r, .int (nI n)])), (r, .inl (cI, 658, .inl (fun j => nI (g j))))]) [0, 5, 6, 4, 1, 2, 3] rfl (by decide) ?_
  refine V_st (st2 := [.int (nI (lwS s9))]) rfl ?_
  refine V_istore_n (lv2 := [(0, .ref a), (1, .ref bi), (2, .int (nI (lwS s9)))]) hC dX5_readLetter_15 rfl (by decide) [1, 2, 0] rfl ?_
  refine V_iload_n hC dX5_readLetter_16 rfl 2 rfl ?_
  refine V_bipush (v := nI 8) hC dX5_readLetter_17 (by decide) ?_
  refine V_icmp_ne_T (tgt := 30) hC dX5_readLetter_19 (by decide) (fun z => absurd ((nI_eq (by omega) (by omega)).mp z) (show ¬ lwS s9 = 8 by omega)) ?_
  refine V_aload_n hC dX5_readLetter_30 rfl 0 rfl ?_
  refine V_get (ci := 5) (v := .int (nI ((qR (s9)).length))) hC in_X5 0 rfl cls_X5 3 (by decide) fl_X5_29 rfl dX5_readLetter_31 ?_
  refine V_if_lt_F (tgt := 83) hC dX5_readLetter_34 (by decide) (nI_pos (by omega)) ?_
  refine V_aload_n hC dX5_readLetter_37 rfl 0 rfl ?_
  refine V_get (ci := 5) (v := .int (nI ((qR (s9)).length))) hC in_X5 0 rfl cls_X5 3 (by decide) fl_X5_29 rfl dX5_readLetter_38 ?_
  refine V_aload_n hC dX5_readLetter_41 rfl 0 rfl ?_
  refine V_get (ci := 5) (v := .ref le) hC in_X5 0 rfl cls_X5 2 (by decide) fl_X5_25 rfl dX5_readLetter_42 ?_
  refine V_alen (v := (nI 40)) hC 4 0 rfl rfl rfl dX5_readLetter_45 ?_
  refine V_icmp_ge_F (tgt := 83) hC dX5_readLetter_46 (by decide) (nI_ge (by omega) (by omega)) ?_
  refine V_aload_n hC dX5_readLetter_49 rfl 0 rfl ?_
  refine V_get (ci := 5) (v := .ref le) hC in_X5 0 rfl cls_X5 2 (by decide) fl_X5_25 rfl dX5_readLetter_50 ?_
  refine V_aload_n hC dX5_readLetter_53 rfl 0 rfl ?_
  refine V_get (ci := 5) (v := .int (nI ((qR (s9)).length))) hC in_X5 0 rfl cls_X5 3 (by decide) fl_X5_29 rfl dX5_readLetter_54 ?_
  refine V_iload_n hC dX5_readLetter_57 rfl 2 rfl ?_
  refine V_iast hC 4 0 rfl rfl (by omega) (by decide) dX5_readLetter_58 (ws2 := [(a, .inr (5, [.ref co, .ref sp, .ref le, .int (nI ((qR (s9)).length)), .int (nI (qV (s9))), .int (nI (qK (s9))), .int (nI ov)])), (co, .inr (2, [.ref cr, .int (nI ((qT (s9)))), .int (nI ((qH (s9)))), .int (nI p), .int (nI b)])), (cr, .inl (cI, 9, .inl (fun j => nI (((qF (s9))) j)))), (sp, .inr (6, [.int (nI ((qL (s9)))), .int (nI ((qU (s9))))])), (le, .inl (cI, 40, .inl (fun j => nI ((va_up lf ((qR (s9)).length) (lwS s9)) j)))), (bi, .inr (0, [.ref r, .int (nI n)])), (r, .inl (cI, 658, .inl (fun j => nI (g j))))]) rfl ?_
  refine V_aload_n hC dX5_readLetter_59 rfl 0 rfl ?_
  refine V_dup hC dX5_readLetter_60 rfl ?_
  refine V_get (ci := 5) (v := .int (nI ((qR (s9)).length))) hC in_X5 0 rfl cls_X5 3 (by decide) fl_X5_29 rfl dX5_readLetter_61 ?_
  refine V_iconst (v := nI 1) hC dX5_readLetter_64 (by decide) ?_
  refine V_iadd hC dX5_readLetter_65 ?_
  refine V_put (ci := 5) (v := .int (nI (((qR (s9)).length) + 1))) hC tyX5 tyX5_ok nmX5 in_X5 0 rfl cls_X5 3 (by decide) fl_X5_29 rfl rfl rfl (Nat.le_of_ble_eq_true rfl) dX5_readLetter_66 (ws2 := [(a, .inr (5, [.ref co, .ref sp, .ref le, .int (nI (((qR (s9)).length) + 1)), .int (nI (qV (s9))), .int (nI (qK (s9))), .int (nI ov)])), (co, .inr (2, [.ref cr, .int (nI ((qT (s9)))), .int (nI ((qH (s9)))), .int (nI p), .int (nI b)])), (cr, .inl (cI, 9, .inl (fun j => nI (((qF (s9))) j)))), (sp, .inr (6, [.int (nI ((qL (s9)))), .int (nI ((qU (s9))))])), (le, .inl (cI, 40, .inl (fun j => nI ((va_up lf ((qR (s9)).length) (lwS s9)) j)))), (bi, .inr (0, [.ref r, .int (nI n)])), (r, .inl (cI, 658, .inl (fun j => nI (g j))))]) rfl ?_
  refine V_aload_n hC dX5_readLetter_69 rfl 0 rfl ?_
  refine V_iload_n hC dX5_readLetter_70 rfl 2 rfl ?_
  refine V_aload_n hC dX5_readLetter_71 rfl 1 rfl ?_
  refine V_callvV (As := [.int (nI (lwS s9)), .ref bi]) (rest := []) (wr := [(le, .inl (cI, 40, .inl (fun j => nI ((va_up lf ((qR (s9)).length) (lwS s9)) j))))]) hC (c_X5_narrow l D cI cQ a co sp le (((qR (s9)).length) + 1) (qV (s9)) (qK (s9)) ov cr ((qT (s9))) ((qH (s9))) p b ((qL (s9))) ((qU (s9))) bi r n (lwS s9) ((qF (s9))) g β (by omega) (hβ) (hβ2) (hlw.1) (hR.1) (⟨Nat.le_trans hR.2.1 hR.2.2.1, hR.2.2.2.1⟩) (hR.wide) (⟨hlw.2.1, hlw.2.2⟩) (by omega)) mok_X5_narrow ml_X5_60 (q1 := 0) rfl cls_X5 rfl rfl rfl (by decide) (by decide) (by decide) (Nat.le_of_ble_eq_true rfl) [0, 1, 2, 3, 5, 6] [4] rfl (by decide) rfl (by decide) (by decide) dX5_readLetter_72 rfl (fun u9 h72 => ?_)
  clear h72
  refine V_perm (ws2 := [(a, .inr (5, [.ref co, .ref sp, .ref le, .int (nI ((((qR (s9)).length) + 1))), .int (nI ((nv β 16 (shL ((qF (s9))) ((qT (s9))) (lwS s9) ((qL (s9))) ((qU (s9)))) (shU ((qF (s9))) ((qT (s9))) (lwS s9) ((qL (s9))) ((qU (s9)))) (qV (s9)) (qK (s9))).2.2.1)), .int (nI ((nv β 16 (shL ((qF (s9))) ((qT (s9))) (lwS s9) ((qL (s9))) ((qU (s9)))) (shU ((qF (s9))) ((qT (s9))) (lwS s9) ((qL (s9))) ((qU (s9)))) (qV (s9)) (qK (s9))).2.2.2)), .int (nI ov)])), (co, .inr (2, [.ref cr, .int (nI (((qT (s9))))), .int (nI (((qH (s9))))), .int (nI p), .int (nI b)])), (cr, .inl (cI, 9, .inl (fun j => nI ((((qF (s9)))) j)))), (sp, .inr (6, [.int (nI ((nv β 16 (shL ((qF (s9))) ((qT (s9))) (lwS s9) ((qL (s9))) ((qU (s9)))) (shU ((qF (s9))) ((qT (s9))) (lwS s9) ((qL (s9))) ((qU (s9)))) (qV (s9)) (qK (s9))).1)), .int (nI ((nv β 16 (shL ((qF (s9))) ((qT (s9))) (lwS s9) ((qL (s9))) ((qU (s9)))) (shU ((qF (s9))) ((qT (s9))) (lwS s9) ((qL (s9))) ((qU (s9)))) (qV (s9)) (qK (s9))).2.1))])), (le, .inl (cI, 40, .inl (fun j => nI ((va_up lf ((qR (s9)).length) (lwS s9)) j)))), (bi, .inr (0, [.ref r, .int (nI n)])), (r, .inl (cI, 658, .inl (fun j => nI (g j))))]) [1, 2, 3, 4, 0, 5, 6] rfl (by decide) ?_
  refine V_aload_n hC dX5_readLetter_75 rfl 0 rfl ?_
  refine V_get (ci := 5) (v := .ref co) hC in_X5 0 rfl cls_X5 0 (by decide) fl_X5_12 rfl dX5_readLetter_76 ?_
  refine V_iload_n hC dX5_readLetter_79 rfl 2 rfl ?_
  refine V_callvV (As := [.int (nI (lwS s9))]) (rest := []) (wr := [(a, .inr (5, [.ref co, .ref sp, .ref le, .int (nI ((((qR (s9)).length) + 1))), .int (nI ((nv β 16 (shL ((qF (s9))) ((qT (s9))) (lwS s9) ((qL (s9))) ((qU (s9)))) (shU ((qF (s9))) ((qT (s9))) (lwS s9) ((qL (s9))) ((qU (s9)))) (qV (s9)) (qK (s9))).2.2.1)), .int (nI ((nv β 16 (shL ((qF (s9))) ((qT (s9))) (lwS s9) ((qL (s9))) ((qU (s9)))) (shU ((qF (s9))) ((qT (s9))) (lwS s9) ((qL (s9))) ((qU (s9)))) (qV (s9)) (qK (s9))).2.2.2)), .int (nI ov)])), (sp, .inr (6, [.int (nI ((nv β 16 (shL ((qF (s9))) ((qT (s9))) (lwS s9) ((qL (s9))) ((qU (s9)))) (shU ((qF (s9))) ((qT (s9))) (lwS s9) ((qL (s9))) ((qU (s9)))) (qV (s9)) (qK (s9))).1)), .int (nI ((nv β 16 (shL ((qF (s9))) ((qT (s9))) (lwS s9) ((qL (s9))) ((qU (s9)))) (shU ((qF (s9))) ((qT (s9))) (lwS s9) ((qL (s9))) ((qU (s9)))) (qV (s9)) (qK (s9))).2.1))])), (le, .inl (cI, 40, .inl (fun j => nI ((va_up lf ((qR (s9)).length) (lwS s9)) j)))), (bi, .inr (0, [.ref r, .int (nI n)])), (r, .inl (cI, 658, .inl (fun j => nI (g j))))]) hC (c_X2_learn l D cI cQ co cr (((qT (s9)))) (((qH (s9)))) p b (lwS s9) (((qF (s9)))) (hlw.1) (fun j hj => hR.1.le hj) (hR.1.2.2) (hp) (hb)) mok_X2_learn ml_X5_64 (q1 := 0) rfl cls_X2 rfl rfl rfl (by decide) (by decide) (by decide) (Nat.le_of_ble_eq_true rfl) [1, 2] [0, 3, 4, 5, 6] rfl (by decide) rfl (by decide) (by decide) dX5_readLetter_80 rfl (fun u9 h80 => ?_)
  clear h80
  refine V_perm (ws2 := [(a, .inr (5, [.ref co, .ref sp, .ref le, .int (nI ((((qR (s9)).length) + 1))), .int (nI ((nv β 16 (shL ((qF (s9))) ((qT (s9))) (lwS s9) ((qL (s9))) ((qU (s9)))) (shU ((qF (s9))) ((qT (s9))) (lwS s9) ((qL (s9))) ((qU (s9)))) (qV (s9)) (qK (s9))).2.2.1)), .int (nI ((nv β 16 (shL ((qF (s9))) ((qT (s9))) (lwS s9) ((qL (s9))) ((qU (s9)))) (shU ((qF (s9))) ((qT (s9))) (lwS s9) ((qL (s9))) ((qU (s9)))) (qV (s9)) (qK (s9))).2.2.2)), .int (nI ov)])), (co, .inr (2, [.ref cr, .int (nI (lrT p b (((qF (s9)))) (((qT (s9)))) (lwS s9))), .int (nI (lrH p b (((qT (s9)))) (((qH (s9)))))), .int (nI p), .int (nI b)])), (cr, .inl (cI, 9, .inl (fun j => nI ((lrF p b (((qF (s9)))) (((qT (s9)))) (lwS s9)) j)))), (sp, .inr (6, [.int (nI ((nv β 16 (shL ((qF (s9))) ((qT (s9))) (lwS s9) ((qL (s9))) ((qU (s9)))) (shU ((qF (s9))) ((qT (s9))) (lwS s9) ((qL (s9))) ((qU (s9)))) (qV (s9)) (qK (s9))).1)), .int (nI ((nv β 16 (shL ((qF (s9))) ((qT (s9))) (lwS s9) ((qL (s9))) ((qU (s9)))) (shU ((qF (s9))) ((qT (s9))) (lwS s9) ((qL (s9))) ((qU (s9)))) (qV (s9)) (qK (s9))).2.1))])), (le, .inl (cI, 40, .inl (fun j => nI ((va_up lf ((qR (s9)).length) (lwS s9)) j)))), (bi, .inr (0, [.ref r, .int (nI n)])), (r, .inl (cI, 658, .inl (fun j => nI (g j))))]) [0, 5, 6, 1, 2, 3, 4] rfl (by decide) ?_
  refine V_ws (ws2 := [(a, .inr (5, [.ref co, .ref sp, .ref le, .int (nI ((qR (rStep p b β s9)).length)), .int (nI (qV (rStep p b β s9))), .int (nI (qK (rStep p b β s9))), .int (nI ov)])), (co, .inr (2, [.ref cr, .int (nI (qT (rStep p b β s9))), .int (nI (qH (rStep p b β s9))), .int (nI p), .int (nI b)])), (cr, .inl (cI, 9, .inl (fun j => nI ((qF (rStep p b β s9)) j)))), (sp, .inr (6, [.int (nI (qL (rStep p b β s9))), .int (nI (qU (rStep p b β s9)))])), (le, .inl (cI, 40, .inl (fun j => nI ((va_up lf (qR s9).length (lwS s9)) j)))), (bi, .inr (0, [.ref r, .int (nI n)])), (r, .inl (cI, 658, .inl (fun j => nI (g j))))]) (by rw [show (qR (rStep p b β s9)).length = (qR s9).length + 1 from by show (qR s9 ++ [lwS s9]).length = _; rw [List.length_append, List.length_singleton]]; rfl) ?_
  subst hQ
  exact V_vret hC hr hlk (by decide) (by decide) dX5_readLetter_83 (va_up lf (qR s9).length (lwS s9)) [0, 1, 2, 3, 4, 5, 6] rfl (by decide) (rep_push hl rfl)
abbrev rm_X5_read : Room := { frames := 4, cells := 0, slots := 0, locals := 95 }
set_option maxHeartbeats 4000000 in
set_option maxRecDepth 100000 in
theorem c_X5_read (l : Launch) (D : va_G) (cI cQ : ClassId) (a co sp le siz num tk ov cr t h p2 b2 lo hi bi r n p b : Nat) (f lf g β : Nat → Nat) (hn : n ≤ 658) (hβ : ∀ j, (if j < n then g j else 0) = β j) (hβ2 : ∀ j, β j < 2) (hp : p ≤ 64) (hb : b ≤ 2000) : MV l yX5_read cX5_read 5 none rm_X5_read D (TY cI cQ) [.ref a, .ref bi, .int (nI p), .int (nI b)] [(a, .inr (5, [.ref co, .ref sp, .ref le, .int (nI siz), .int (nI num), .int (nI tk), .int (nI ov)])), (co, .inr (2, [.ref cr, .int (nI t), .int (nI h), .int (nI p2), .int (nI b2)])), (cr, .inl (cI, 9, .inl (fun j => nI (f j)))), (sp, .inr (6, [.int (nI lo), .int (nI hi)])), (le, .inl (cI, 40, .inl (fun j => nI (lf j)))), (bi, .inr (0, [.ref r, .int (nI n)])), (r, .inl (cI, 658, .inl (fun j => nI (g j))))] (fun (u : (Nat → Nat)) => rep u (qR (rdF p b β).2)) (fun (u : (Nat → Nat)) => [(a, .inr (5, [.ref co, .ref sp, .ref le, .int (nI ((qR ((rdF p b β).2)).length)), .int (nI (qV ((rdF p b β).2))), .int (nI (qK ((rdF p b β).2))), .int (nI ((rdF p b β).1))])), (co, .inr (2, [.ref cr, .int (nI (qT ((rdF p b β).2))), .int (nI (qH ((rdF p b β).2))), .int (nI p), .int (nI b)])), (cr, .inl (cI, 9, .inl (fun j => nI ((qF ((rdF p b β).2)) j)))), (sp, .inr (6, [.int (nI (qL ((rdF p b β).2))), .int (nI (qU ((rdF p b β).2)))])), (le, .inl (cI, 40, .inl (fun j => nI (u j)))), (bi, .inr (0, [.ref r, .int (nI n)])), (r, .inl (cI, 658, .inl (fun j => nI (g j))))]) 0 0 := by
  refine MV.start (by decide) (Nat.le_of_ble_eq_true rfl) (lv0 := [(0, .ref a), (1, .ref bi), (2, .int (nI p)), (3, .int (nI b))]) rfl ?_
  intro pp9 ee9 ss9 mm9 args9 below9 meth9 co9 A9 Q9 hQ hC hr hlk hnm
  refine V_aload_n hC dX5_read_0 rfl 0 rfl ?_
  refine V_get (ci := 5) (v := .ref co) hC in_X5 0 rfl cls_X5 0 (by decide) fl_X5_12 rfl dX5_read_1 ?_
  refine V_iload_n hC dX5_read_4 rfl 2 rfl ?_
  refine V_iload_n hC dX5_read_5 rfl 3 rfl ?_
  refine V_callvV (As := [.int (nI p), .int (nI b)]) (rest := []) (wr := [(a, .inr (5, [.ref co, .ref sp, .ref le, .int (nI siz), .int (nI num), .int (nI tk), .int (nI ov)])), (sp, .inr (6, [.int (nI lo), .int (nI hi)])), (le, .inl (cI, 40, .inl (fun j => nI (lf j)))), (bi, .inr (0, [.ref r, .int (nI n)])), (r, .inl (cI, 658, .inl (fun j => nI (g j))))]) hC (c_X2_start l D cI cQ co cr t h p2 b2 p b f ) mok_X2_start ml_X5_43 (q1 := 0) rfl cls_X2 rfl rfl rfl (by decide) (by decide) (by decide) (Nat.le_of_ble_eq_true rfl) [1, 2] [0, 3, 4, 5, 6] rfl (by decide) rfl (by decide) (by decide) dX5_read_6 rfl (fun u9 h6 => ?_)
  clear h6
  refine V_perm (ws2 := [(a, .inr (5, [.ref co, .ref sp, .ref le, .int (nI siz), .int (nI num), .int (nI tk), .int (nI ov)])), (co, .inr (2, [.ref cr, .int (nI 9), .int (nI 0), .int (nI p), .int (nI b)])), (cr, .inl (cI, 9, .inl (fun j => nI (one j)))), (sp, .inr (6, [.int (nI lo), .int (nI hi)])), (le, .inl (cI, 40, .inl (fun j => nI (lf j)))), (bi, .inr (0, [.ref r, .int (nI n)])), (r, .inl (cI, 658, .inl (fun j => nI (g j))))]) [0, 5, 6, 1, 2, 3, 4] rfl (by decide) ?_
  refine V_aload_n hC dX5_read_9 rfl 0 rfl ?_
  refine V_get (ci := 5) (v := .ref sp) hC in_X5 0 rfl cls_X5 1 (by decide) fl_X5_21 rfl dX5_read_10 ?_
  refine V_callvV (As := []) (rest := []) (wr := [(a, .inr (5, [.ref co, .ref sp, .ref le, .int (nI siz), .int (nI num), .int (nI tk), .int (nI ov)])), (co, .inr (2, [.ref cr, .int (nI 9), .int (nI 0), .int (nI p), .int (nI b)])), (cr, .inl (cI, 9, .inl (fun j => nI (one j)))), (le, .inl (cI, 40, .inl (fun j => nI (lf j)))), (bi, .inr (0, [.ref r, .int (nI n)])), (r, .inl (cI, 658, .inl (fun j => nI (g j))))]) hC (c_X6_start l D cI cQ sp lo hi ) mok_X6_start ml_X5_47 (q1 := 0) rfl cls_X6 rfl rfl rfl (by decide) (by decide) (by decide) (Nat.le_of_ble_eq_true rfl) [3] [0, 1, 2, 4, 5, 6] rfl (by decide) rfl (by decide) (by decide) dX5_read_13 rfl (fun u9 h13 => ?_)
  clear h13
  refine V_perm (ws2 := [(a, .inr (5, [.ref co, .ref sp, .ref le, .int (nI siz), .int (nI num), .int (nI tk), .int (nI ov)])), (co, .inr (2, [.ref cr, .int (nI 9), .int (nI 0), .int (nI p), .int (nI b)])), (cr, .inl (cI, 9, .inl (fun j => nI (one j)))), (sp, .inr (6, [.int (nI 0), .int (nI 65535)])), (le, .inl (cI, 40, .inl (fun j => nI (lf j)))), (bi, .inr (0, [.ref r, .int (nI n)])), (r, .inl (cI, 658, .inl (fun j => nI (g j))))]) [0, 1, 2, 6, 3, 4, 5] rfl (by decide) ?_
  refine V_aload_n hC dX5_read_16 rfl 0 rfl ?_
  refine V_iconst (v := nI 0) hC dX5_read_17 (by decide) ?_
  refine V_put (ci := 5) (v := .int (nI 0)) hC tyX5 tyX5_ok nmX5 in_X5 0 rfl cls_X5 3 (by decide) fl_X5_29 rfl rfl rfl (Nat.le_of_ble_eq_true rfl) dX5_read_18 (ws2 := [(a, .inr (5, [.ref co, .ref sp, .ref le, .int (nI 0), .int (nI num), .int (nI tk), .int (nI ov)])), (co, .inr (2, [.ref cr, .int (nI 9), .int (nI 0), .int (nI p), .int (nI b)])), (cr, .inl (cI, 9, .inl (fun j => nI (one j)))), (sp, .inr (6, [.int (nI 0), .int (nI 65535)])), (le, .inl (cI, 40, .inl (fun j => nI (lf j)))), (bi, .inr (0, [.ref r, .int (nI n)])), (r, .inl (cI, 658, .inl (fun j => nI (g j))))]) rfl ?_
  refine V_aload_n hC dX5_read_21 rfl 0 rfl ?_
  refine V_iconst (v := nI 0) hC dX5_read_22 (by decide) ?_
  refine V_put (ci := 5) (v := .int (nI 0)) hC tyX5 tyX5_ok nmX5 in_X5 0 rfl cls_X5 4 (by decide) fl_X5_33 rfl rfl rfl (Nat.le_of_ble_eq_true rfl) dX5_read_23 (ws2 := [(a, .inr (5, [.ref co, .ref sp, .ref le, .int (nI 0), .int (nI 0), .int (nI tk), .int (nI ov)])), (co, .inr (2, [.ref cr, .int (nI 9), .int (nI 0), .int (nI p), .int (nI b)])), (cr, .inl (cI, 9, .inl (fun j => nI (one j)))), (sp, .inr (6, [.int (nI 0), .int (nI 65535)])), (le, .inl (cI, 40, .inl (fun j => nI (lf j)))), (bi, .inr (0, [.ref r, .int (nI n)])), (r, .inl (cI, 658, .inl (fun j => nI (g j))))]) rfl ?_
  refine V_aload_n hC dX5_read_26 rfl 0 rfl ?_
  refine V_iconst (v := nI 0) hC dX5_read_27 (by decide) ?_
  refine V_put (ci := 5) (v := .int (nI 0)) hC tyX5 tyX5_ok nmX5 in_X5 0 rfl cls_X5 5 (by decide) fl_X5_36 rfl rfl rfl (Nat.le_of_ble_eq_true rfl) dX5_read_28 (ws2 := [(a, .inr (5, [.ref co, .ref sp, .ref le, .int (nI 0), .int (nI 0), .int (nI 0), .int (nI ov)])), (co, .inr (2, [.ref cr, .int (nI 9), .int (nI 0), .int (nI p), .int (nI b)])), (cr, .inl (cI, 9, .inl (fun j => nI (one j)))), (sp, .inr (6, [.int (nI 0), .int (nI 65535)])), (le, .inl (cI, 40, .inl (fun j => nI (lf j)))), (bi, .inr (0, [.ref r, .int (nI n)])), (r, .inl (cI, 658, .inl (fun j => nI (g j))))]) rfl ?_
  refine V_aload_n hC dX5_read_31 rfl 0 rfl ?_
  refine V_iconst (v := nI 0) hC dX5_read_32 (by decide) ?_
  refine V_put (ci := 5) (v := .int (nI 0)) hC tyX5 tyX5_ok nmX5 in_X5 0 rfl cls_X5 6 (by decide) fl_X5_39 rfl rfl rfl (Nat.le_of_ble_eq_true rfl) dX5_read_33 (ws2 := [(a, .inr (5, [.ref co, .ref sp, .ref le, .int (nI 0), .int (nI 0), .int (nI 0), .int (nI 0)])), (co, .inr (2, [.ref cr, .int (nI 9), .int (nI 0), .int (nI p), .int (nI b)])), (cr, .inl (cI, 9, .inl (fun j => nI (one j)))), (sp, .inr (6, [.int (nI 0), .int (nI 65535)])), (le, .inl (cI, 40, .inl (fun j => nI (lf j)))), (bi, .inr (0, [.ref r, .int (nI n)])), (r, .inl (cI, 658, .inl (fun j => nI (g j))))]) rfl ?_
  refine V_iconst (v := nI 0) hC dX5_read_36 (by decide) ?_
  refine V_istore (lv2 := [(0, .ref a), (1, .ref bi), (2, .int (nI p)), (3, .int (nI b)), (4, .int (nI 0))]) hC dX5_read_37 (by decide) [1, 2, 3, 4, 0] rfl ?_
  have L39 : ∀ (n9 : Nat) (i : Nat), (i ≤ 16) → 16 - i < n9 → V pp9 l ee9 rm_X5_read ss9 mm9 args9 below9 meth9 co9 D A9 ss9.heap 5 Q9 [(a, .inr (5, [.ref co, .ref sp, .ref le, .int (nI 0), .int (nI (v16 β i)), .int (nI i), .int (nI 0)])), (co, .inr (2, [.ref cr, .int (nI 9), .int (nI 0), .int (nI p), .int (nI b)])), (cr, .inl (cI, 9, .inl (fun j => nI (one j)))), (sp, .inr (6, [.int (nI 0), .int (nI 65535)])), (le, .inl (cI, 40, .inl (fun j => nI (lf j)))), (bi, .inr (0, [.ref r, .int (nI n)])), (r, .inl (cI, 658, .inl (fun j => nI (g j))))] [(0, .ref a), (1, .ref bi), (2, .int (nI p)), (3, .int (nI b)), (4, .int (nI i))] 0 0 39 [] := by
    intro n9
    induction n9 with
    | zero => intro i h1 h9; exact absurd h9 (Nat.not_lt_zero _)
    | succ n9 ih =>
      intro i h1 h9
      refine V_iload hC dX5_read_39 4 rfl ?_
      refine V_bipush (v := nI 16) hC dX5_read_41 (by decide) ?_
      refine V_icmp_ge (tgt := 57) hC (by omega) (by omega) dX5_read_43 (by decide) (fun c43 => ?_) (fun c43 => ?_)
      · refine V_iconst (v := nI 0) hC dX5_read_57 (by decide) ?_
        refine V_istore (lv2 := [(0, .ref a), (1, .ref bi), (2, .int (nI p)), (3, .int (nI b)), (4, .int (nI 0))]) hC dX5_read_58 (by decide) [1, 2, 3, 4, 0] rfl ?_
        have ei9 : i = 16 := by omega
        subst ei9
        have L60 : ∀ (n9 : Nat) (i : Nat) (ov2 : Nat) (s9 : RS) (lf2 : Nat → Nat), (i ≤ 41) → ((if ov2 = 1 then (1, s9) else rdd p b β (41 - i) s9) = rdF p b β) → (okR s9) → (rep lf2 (qR s9)) → (ov2 = 0 ∨ ov2 = 1) → 41 - i < n9 → V pp9 l ee9 rm_X5_read ss9 mm9 args9 below9 meth9 co9 D A9 ss9.heap 5 Q9 [(a, .inr (5, [.ref co, .ref sp, .ref le, .int (nI ((qR (s9)).length)), .int (nI (qV (s9))), .int (nI (qK (s9))), .int (nI ov2)])), (co, .inr (2, [.ref cr, .int (nI (qT (s9))), .int (nI (qH (s9))), .int (nI p), .int (nI b)])), (cr, .inl (cI, 9, .inl (fun j => nI ((qF (s9)) j)))), (sp, .inr (6, [.int (nI (qL (s9))), .int (nI (qU (s9)))])), (le, .inl (cI, 40, .inl (fun j => nI (lf2 j)))), (bi, .inr (0, [.ref r, .int (nI n)])), (r, .inl (cI, 658, .inl (fun j => nI (g j))))] [(0, .ref a), (1, .ref bi), (4, .int (nI i))] 0 0 60 [] := by
          intro n9
          induction n9 with
          | zero => intro i ov2 s9 lf2 h1 h3 hR h5 h6 h9; exact absurd h9 (Nat.not_lt_zero _)
          | succ n9 ih =>
            intro i ov2 s9 lf2 h1 h3 hR h5 h6 h9
            refine V_iload hC dX5_read_60 2 rfl ?_
            refine V_bipush (v := nI 40) hC dX5_read_62 (by decide) ?_
            refine V_icmp_gt (tgt := 85) hC (by omega) (by omega) dX5_read_64 (by decide) (fun c64 => ?_) (fun c64 => ?_)
            · have h9f : (ov2, s9) = rdF p b β := by
                rw [← h3]
                rcases h6 with rfl | rfl
                · rw [if_neg (show ¬ 0 = 1 by decide), show 41 - i = 0 by omega, rdd]
                · rw [if_pos rfl]
              subst hQ
              rw [show rdF p b β = (ov2, s9) from h9f.symm]
              exact V_vret hC hr hlk (by decide) (by decide) dX5_read_85 (lf2) [0, 1, 2, 3, 4, 5, 6] rfl (by decide) (h5)
            · refine V_aload_n hC dX5_read_67 rfl 0 rfl ?_
              refine V_get (ci := 5) (v := .int (nI ov2)) hC in_X5 0 rfl cls_X5 6 (by decide) fl_X5_39 rfl dX5_read_68 ?_
              refine V_if_ne (tgt := 85) hC (by omega) dX5_read_71 (by decide) (fun c71 => ?_) (fun c71 => ?_)
              · have h9f : (ov2, s9) = rdF p b β := by
                  rw [← h3]
                  rcases h6 with rfl | rfl
                  · rw [if_neg (show ¬ 0 = 1 by decide), show 41 - i = 0 by omega, rdd]
                  · rw [if_pos rfl]
                subst hQ
                rw [show rdF p b β = (ov2, s9) from h9f.symm]
                exact V_vret hC hr hlk (by decide) (by decide) dX5_read_85 (lf2) [0, 1, 2, 3, 4, 5, 6] rfl (by decide) (h5)
              · refine V_aload_n hC dX5_read_74 rfl 0 rfl ?_
                refine V_aload_n hC dX5_read_75 rfl 1 rfl ?_
                by_cases hx1 : lwS s9 = 8
                · refine V_callvV (As := [.ref bi]) (rest := []) (wr := []) hC (c_X5_readLetter_end l D cI cQ a co sp le cr bi r n p b ov2 s9 lf2 g β (by omega) (hβ) (hβ2) (hR) (hp) (hb) (h5) (hx1)) mok_X5_readLetter ml_X5_53 (q1 := 0) rfl cls_X5 rfl rfl rfl (by decide) (by decide) (by decide) (Nat.le_of_ble_eq_true rfl) [0, 1, 2, 3, 4, 5, 6] [] rfl (by decide) rfl (by decide) (by decide) dX5_read_76 rfl (fun u9 h76 => ?_)
                  clear h76
                  refine V_perm (ws2 := [(a, .inr (5, [.ref co, .ref sp, .ref le, .int (nI ((qR (s9)).length)), .int (nI (qV (s9))), .int (nI (qK (s9))), .int (nI 1)])), (co, .inr (2, [.ref cr, .int (nI (qT (s9))), .int (nI (qH (s9))), .int (nI p), .int (nI b)])), (cr, .inl (cI, 9, .inl (fun j => nI ((qF (s9)) j)))), (sp, .inr (6, [.int (nI (qL (s9))), .int (nI (qU (s9)))])), (le, .inl (cI, 40, .inl (fun j => nI (lf2 j)))), (bi, .inr (0, [.ref r, .int (nI n)])), (r, .inl (cI, 658, .inl (fun j => nI (g j))))]) [0, 1, 2, 3, 4, 5, 6] rfl (by decide) ?_
                  refine V_iinc (v := (nI (i + 1))) (lv2 := [(0, .ref a), (1, .ref bi), (4, .int (nI (i + 1)))]) (q := 2) hC dX5_read_79 rfl (nI_add _ _) (by decide) [1, 2, 0] rfl ?_
                  refine V_goto (tgt := 60) hC dX5_read_82 (by decide) ?_
                  exact ih (i + 1) 1 s9 lf2 (by omega) (by rw [← h3, if_neg (show ¬ ov2 = 1 by omega), if_pos rfl, show 41 - i = (41 - (i + 1)) + 1 by omega, rdd_end hx1]) (hR) (h5) (Or.inr rfl) (by omega)
                · by_cases hx2 : (qR s9).length < 40
                  · refine V_callvV (As := [.ref bi]) (rest := []) (wr := []) hC (c_X5_readLetter_go l D cI cQ a co sp le cr bi r n p b ov2 s9 lf2 g β (by omega) (hβ) (hβ2) (hR) (hp) (hb) (h5) (hx1) (by omega)) mok_X5_readLetter ml_X5_53 (q1 := 0) rfl cls_X5 rfl rfl rfl (by decide) (by decide) (by decide) (Nat.le_of_ble_eq_true rfl) [0, 1, 2, 3, 4, 5, 6] [] rfl (by decide) rfl (by decide) (by decide) dX5_read_76 rfl (fun u9 h76 => ?_)
                    obtain ⟨lf2_1, rfl⟩ : ∃ z, z = u9 := ⟨_, rfl⟩
                    have h76 : rep lf2_1 (qR (rStep p b β s9)) := h76
                    refine V_perm (ws2 := [(a, .inr (5, [.ref co, .ref sp, .ref le, .int (nI ((qR (rStep p b β s9)).length)), .int (nI (qV (rStep p b β s9))), .int (nI (qK (rStep p b β s9))), .int (nI ov2)])), (co, .inr (2, [.ref cr, .int (nI (qT (rStep p b β s9))), .int (nI (qH (rStep p b β s9))), .int (nI p), .int (nI b)])), (cr, .inl (cI, 9, .inl (fun j => nI ((qF (rStep p b β s9)) j)))), (sp, .inr (6, [.int (nI (qL (rStep p b β s9))), .int (nI (qU (rStep p b β s9)))])), (le, .inl (cI, 40, .inl (fun j => nI (lf2_1 j)))), (bi, .inr (0, [.ref r, .int (nI n)])), (r, .inl (cI, 658, .inl (fun j => nI (g j))))]) [0, 1, 2, 3, 4, 5, 6] rfl (by decide) ?_
                    refine V_iinc (v := (nI (i + 1))) (lv2 := [(0, .ref a), (1, .ref bi), (4, .int (nI (i + 1)))]) (q := 2) hC dX5_read_79 rfl (nI_add _ _) (by decide) [1, 2, 0] rfl ?_
                    refine V_goto (tgt := 60) hC dX5_read_82 (by decide) ?_
                    exact ih (i + 1) ov2 (rStep p b β s9) lf2_1 (by omega) (by rw [← h3, if_neg (show ¬ ov2 = 1 by omega), if_neg (show ¬ ov2 = 1 by omega), show 41 - i = (41 - (i + 1)) + 1 by omega, rdd_go hx1 hx2]) (hR.step hβ2 hp hb hx2) (h76) (h6) (by omega)
                  · refine V_callvV (As := [.ref bi]) (rest := []) (wr := []) hC (c_X5_readLetter_full l D cI cQ a co sp le cr bi r n p b ov2 s9 lf2 g β (by omega) (hβ) (hβ2) (hR) (hp) (hb) (h5) (hx1) (by omega)) mok_X5_readLetter ml_X5_53 (q1 := 0) rfl cls_X5 rfl rfl rfl (by decide) (by decide) (by decide) (Nat.le_of_ble_eq_true rfl) [0, 1, 2, 3, 4, 5, 6] [] rfl (by decide) rfl (by decide) (by decide) dX5_read_76 rfl (fun u9 h76 => ?_)
                    clear h76
                    refine V_perm (ws2 := [(a, .inr (5, [.ref co, .ref sp, .ref le, .int (nI ((qR (s9)).length)), .int (nI (qV (s9))), .int (nI (qK (s9))), .int (nI ov2)])), (co, .inr (2, [.ref cr, .int (nI (qT (s9))), .int (nI (qH (s9))), .int (nI p), .int (nI b)])), (cr, .inl (cI, 9, .inl (fun j => nI ((qF (s9)) j)))), (sp, .inr (6, [.int (nI (qL (s9))), .int (nI (qU (s9)))])), (le, .inl (cI, 40, .inl (fun j => nI (lf2 j)))), (bi, .inr (0, [.ref r, .int (nI n)])), (r, .inl (cI, 658, .inl (fun j => nI (g j))))]) [0, 1, 2, 3, 4, 5, 6] rfl (by decide) ?_
                    refine V_iinc (v := (nI (i + 1))) (lv2 := [(0, .ref a), (1, .ref bi), (4, .int (nI (i + 1)))]) (q := 2) hC dX5_read_79 rfl (nI_add _ _) (by decide) [1, 2, 0] rfl ?_
                    refine V_goto (tgt := 60) hC dX5_read_82 (by decide) ?_
                    exact ih (i + 1) ov2 s9 lf2 (by omega) (by rw [← h3, if_neg (show ¬ ov2 = 1 by omega), if_neg (show ¬ ov2 = 1 by omega), rdd_full hx1 hx2, rdd_full hx1 hx2]) (hR) (h5) (h6) (by omega)
        refine V_pick (lv2 := [(0, .ref a), (1, .ref bi), (4, .int (nI 0))]) [0, 1, 4] rfl ?_
        exact L60 _ 0 0 (rd0 β) lf (by omega) (rfl) (okR_0 hβ2) (rep_nil _) (Or.inl rfl) (Nat.lt_succ_self _)
      · refine V_aload_n hC dX5_read_46 rfl 0 rfl ?_
        refine V_aload_n hC dX5_read_47 rfl 1 rfl ?_
        refine V_callvV (As := [.ref bi]) (rest := []) (wr := [(co, .inr (2, [.ref cr, .int (nI 9), .int (nI 0), .int (nI p), .int (nI b)])), (cr, .inl (cI, 9, .inl (fun j => nI (one j)))), (sp, .inr (6, [.int (nI 0), .int (nI 65535)])), (le, .inl (cI, 40, .inl (fun j => nI (lf j))))]) hC (c_X5_takeBit l D cI cQ a co sp le 0 (v16 β i) i 0 bi r n g β (by omega) (by omega) (hβ)) mok_X5_takeBit ml_X5_49 (q1 := 0) rfl cls_X5 rfl rfl rfl (by decide) (by decide) (by decide) (Nat.le_of_ble_eq_true rfl) [0, 5, 6] [1, 2, 3, 4] rfl (by decide) rfl (by decide) (by decide) dX5_read_48 rfl (fun u9 h48 => ?_)
        clear h48
        refine V_perm (ws2 := [(a, .inr (5, [.ref co, .ref sp, .ref le, .int (nI 0), .int (nI ((v16 β i) * 2 + β i)), .int (nI (i + 1)), .int (nI 0)])), (co, .inr (2, [.ref cr, .int (nI 9), .int (nI 0), .int (nI p), .int (nI b)])), (cr, .inl (cI, 9, .inl (fun j => nI (one j)))), (sp, .inr (6, [.int (nI 0), .int (nI 65535)])), (le, .inl (cI, 40, .inl (fun j => nI (lf j)))), (bi, .inr (0, [.ref r, .int (nI n)])), (r, .inl (cI, 658, .inl (fun j => nI (g j))))]) [4, 0, 1, 2, 3, 5, 6] rfl (by decide) ?_
        refine V_iinc (v := (nI (i + 1))) (lv2 := [(0, .ref a), (1, .ref bi), (2, .int (nI p)), (3, .int (nI b)), (4, .int (nI (i + 1)))]) (q := 4) hC dX5_read_51 rfl (nI_add _ _) (by decide) [1, 2, 3, 4, 0] rfl ?_
        refine V_goto (tgt := 39) hC dX5_read_54 (by decide) ?_
        exact ih (i + 1) (by omega) (by omega)
  exact L39 _ 0 (by omega) (Nat.lt_succ_self _)
end
section
/-! what the public methods answer -/
theorem neg_ne0 {x : Int32} (h : x.toInt < 0) : ¬ x = 0 := fun z => by rw [z] at h; exact absurd h (by decide)
def βl (l : List Nat) : Nat → Nat := fun j => l.getD j 0
theorem rep_β {g : Nat → Nat} {l : List Nat} (h : rep g l) : ∀ j, (if j < l.length then g j else 0) = βl l j := by
  intro j
  by_cases q : j < l.length
  · rw [if_pos q]; exact h j q
  · rw [if_neg q]
    show 0 = l.getD j 0
    rw [List.getD_eq_getElem?_getD, List.getElem?_eq_none (Nat.not_lt.mp q)]
    rfl
theorem β2 {l : List Nat} (h : bits01 l) : ∀ j, βl l j < 2 := fun j => h.getD j
theorem cM_bits (p b : Nat) (g : Nat → Nat) (n e : Nat) : bits01 (sB (cM p b g n e)) := by
  unfold cM
  by_cases q : e = 1
  · rw [if_pos q]; exact cEnd_bits (cR_bits p b g n)
  · rw [if_neg q]; exact cR_bits p b g n
theorem cM_len (p b : Nat) (g : Nat → Nat) {n e : Nat} (hn : n ≤ 40) : (sB (cM p b g n e)).length ≤ 658 := by
  have h1 := cR_len p b g n
  have h2 := cEnd_len (cR p b g n)
  unfold cM
  by_cases q : e = 1
  · rw [if_pos q]; omega
  · rw [if_neg q]; omega
theorem cM_0 (p b : Nat) (g : Nat → Nat) (n : Nat) : cM p b g n 0 = cR p b g n := if_neg (by decide)
theorem cM_1 (p b : Nat) (g : Nat → Nat) (n : Nat) : cM p b g n 1 = cEnd (cR p b g n) := if_pos rfl
/-- the bits that a message's letters would make, ended -/
def bE (p b : Nat) (g : Nat → Nat) (n : Nat) : Nat := (sB (cEnd (cR p b g n))).length
theorem bE_le (p b : Nat) (g : Nat → Nat) {n : Nat} (hn : n ≤ 40) : bE p b g n ≤ 658 := by
  have h1 := cR_len p b g n
  have h2 := cEnd_len (cR p b g n)
  unfold bE
  omega
/-- the pace that makes the fewest, among 1 to m + 1; and how many -/
def bp (F : Nat → Nat) : Nat → Nat × Nat
  | 0 => (1, F 1)
  | m + 1 => if F (m + 2) < (bp F m).2 then (m + 2, F (m + 2)) else bp F m
theorem bp_le {F : Nat → Nat} (h : ∀ j, F j ≤ 658) : ∀ m : Nat, (bp F m).2 ≤ 658 ∧ (bp F m).1 ≤ m + 1
  | 0 => ⟨h 1, Nat.le_refl _⟩
  | m + 1 => by
    have h1 := bp_le h m
    have h2 := h (m + 2)
    rw [bp]
    by_cases q : F (m + 2) < (bp F m).2
    · rw [if_pos q]; exact ⟨h2, Nat.le_refl _⟩
    · rw [if_neg q]; exact ⟨h1.1, by omega⟩
/-- how many letters, from the first on, are the message's -/
def alA (f g : Nat → Nat) : Nat → Nat → Nat
  | 0, j => j
  | m + 1, j => if f j = g j then alA f g m (j + 1) else j
def al (f g : Nat → Nat) (m : Nat) : Nat := alA f g m 0
theorem alA_cong {f f' g g' : Nat → Nat} : ∀ (m j : Nat), (∀ i, i < j + m → f i = f' i) → (∀ i, i < j + m → g i = g' i) → alA f g m j = alA f' g' m j
  | 0, j, _, _ => rfl
  | m + 1, j, h1, h2 => by rw [alA, alA, h1 j (by omega), h2 j (by omega), alA_cong m (j + 1) (fun i hi => h1 i (by omega)) (fun i hi => h2 i (by omega))]
theorem al_cong {f f' g g' : Nat → Nat} {m : Nat} (h1 : ∀ i, i < m → f i = f' i) (h2 : ∀ i, i < m → g i = g' i) : al f g m = al f' g' m := alA_cong m 0 (fun i hi => h1 i (by omega)) (fun i hi => h2 i (by omega))
theorem stA_cong {f f' : Nat → Nat} : ∀ (m j : Nat), (∀ i, i < j + m → f i = f' i) → stA f m j = stA f' m j
  | 0, j, _ => rfl
  | m + 1, j, h1 => by rw [stA, stA, h1 j (by omega), stA_cong m (j + 1) (fun i hi => h1 i (by omega))]
theorem st_cong {f f' : Nat → Nat} {n : Nat} (h1 : ∀ i, i < n → f i = f' i) : st f n = st f' n := stA_cong n 0 (fun i hi => h1 i (by omega))
theorem fOA_cong {g g' : Nat → Nat} : ∀ (m j : Nat), (∀ i, i < j + m → g i = g' i) → fOA g m j = fOA g' m j
  | 0, j, _ => rfl
  | m + 1, j, h1 => by rw [fOA, fOA, h1 j (by omega), fOA_cong m (j + 1) (fun i hi => h1 i (by omega))]
theorem fO_cong {g g' : Nat → Nat} {n j : Nat} (h1 : ∀ i, i < n → g i = g' i) : fO g n j = fO g' n j := by
  unfold fO
  by_cases q : n ≤ j
  · rw [if_pos q, if_pos q]
  · rw [if_neg q, if_neg q, fOA_cong (n - j) j (fun i hi => h1 i (by omega))]
theorem mxF_cong {f f' : Nat → Nat} : ∀ {n : Nat}, (∀ i, i < n → f i = f' i) → mxF f n = mxF f' n
  | 0, _ => rfl
  | n + 1, h => by rw [mxF, mxF, mxF_cong (fun i hi => h i (by omega)), h n (by omega)]
theorem hO_cong {g g' : Nat → Nat} {k : Nat} : ∀ {n : Nat}, (∀ i, i < n → g i = g' i) → hO g k n = hO g' k n
  | 0, _ => rfl
  | n + 1, h => by rw [hO, hO, hO_cong (fun i hi => h i (by omega)), h n (by omega)]
/-- a text's first strange character, its bits, its fault -/
def stT (T : List Nat) : Nat := st (βl T) T.length
def bT (T : List Nat) : Nat → Nat := fun j => if j < T.length then (if T.getD j 0 = 49 then 1 else 0) else 0
theorem bT2 (T : List Nat) : ∀ j, bT T j < 2 := fun j => by
  unfold bT
  by_cases q : j < T.length
  · rw [if_pos q]
    by_cases r : T.getD j 0 = 49
    · rw [if_pos r]; decide
    · rw [if_neg r]; decide
  · rw [if_neg q]; decide
def frn (p b : Nat) (T : List Nat) : Nat := if (rdF p b (bT T)).1 = 1 then (if fO (bT T) T.length (qK (rdF p b (bT T)).2) < T.length then 3 else 0) else 2
theorem cost_le (p b : Nat) (g : Nat → Nat) {j : Nat} (hj : j < 40) : cost p b g j ≤ 640 := by
  have h1 := cR_len p b g (j + 1)
  unfold cost
  omega
theorem fOA_le (g : Nat → Nat) : ∀ (m j : Nat), fOA g m j ≤ j + m
  | 0, j => Nat.le_refl _
  | m + 1, j => by
    rw [fOA]
    by_cases q : g j = 1
    · rw [if_pos q]; omega
    · rw [if_neg q]; have := fOA_le g m (j + 1); omega
theorem fO_le (g : Nat → Nat) (n j : Nat) : fO g n j ≤ n := by
  unfold fO
  by_cases q : n ≤ j
  · rw [if_pos q]; exact Nat.le_refl _
  · rw [if_neg q]; have := fOA_le g (n - j) j; omega
theorem stA_le (f : Nat → Nat) : ∀ (m j : Nat), stA f m j ≤ j + m
  | 0, j => Nat.le_refl _
  | m + 1, j => by
    rw [stA]
    by_cases q : f j = 48 ∨ f j = 49
    · rw [if_pos q]; have := stA_le f m (j + 1); omega
    · rw [if_neg q]; omega
theorem st_le (f : Nat → Nat) (n : Nat) : st f n ≤ n := by have := stA_le f n 0; unfold st; omega
end
section
abbrev rm_X8_isLetter : Room := { frames := 0, cells := 0, slots := 0, locals := 0 }
set_option maxHeartbeats 4000000 in
set_option maxRecDepth 100000 in
theorem c_X8_isLetter (l : Launch) (D : va_G) (cI cQ : ClassId) (x : Nat) (hx : x < 2147483648) : MI l yX8_isLetter cX8_isLetter 1 (some .boolean) rm_X8_isLetter D (TY cI cQ) [.int (nI x)] [] (fun (r9 : Int32) (u : (Nat)) => r9 = (nI u) ∧ ((u = 1 ∧ x < 8) ∨ (u = 0 ∧ 8 ≤ x))) (fun (u : (Nat)) => []) 0 0 := by
  refine MI.start (by decide) (Nat.le_of_ble_eq_true rfl) (lv0 := [(0, .int (nI x))]) rfl ?_
  intro pp9 ee9 ss9 mm9 args9 below9 meth9 co9 A9 Q9 hQ hC hr hlk hnm
  refine V_iload_n hC dX8_isLetter_0 rfl 0 rfl ?_
  refine V_if_lt_F (tgt := 14) hC dX8_isLetter_1 (by decide) (nI_pos (by omega)) ?_
  refine V_iload_n hC dX8_isLetter_4 rfl 0 rfl ?_
  refine V_bipush (v := nI 8) hC dX8_isLetter_5 (by decide) ?_
  refine V_icmp_ge (tgt := 14) hC (by omega) (by omega) dX8_isLetter_7 (by decide) (fun c7 => ?_) (fun c7 => ?_)
  · refine V_iconst (v := nI 0) hC dX8_isLetter_14 (by decide) ?_
    subst hQ
    exact V_iret hC hr hlk rfl (by decide) (by decide) dX8_isLetter_15 (0) [] rfl (by decide) (⟨rfl, by omega⟩)
  · refine V_iconst (v := nI 1) hC dX8_isLetter_10 (by decide) ?_
    refine V_goto (tgt := 15) hC dX8_isLetter_11 (by decide) ?_
    subst hQ
    exact V_iret hC hr hlk rfl (by decide) (by decide) dX8_isLetter_15 (1) [] rfl (by decide) (⟨rfl, by omega⟩)
abbrev rm_X8_isPace : Room := { frames := 0, cells := 0, slots := 0, locals := 0 }
set_option maxHeartbeats 4000000 in
set_option maxRecDepth 100000 in
theorem c_X8_isPace (l : Launch) (D : va_G) (cI cQ : ClassId) (x : Nat) (hx : x < 2147483648) : MI l yX8_isPace cX8_isPace 1 (some .boolean) rm_X8_isPace D (TY cI cQ) [.int (nI x)] [] (fun (r9 : Int32) (u : (Nat)) => r9 = (nI u) ∧ ((u = 1 ∧ 1 ≤ x ∧ x ≤ 64) ∨ (u = 0 ∧ (x < 1 ∨ 64 < x)))) (fun (u : (Nat)) => []) 0 0 := by
  refine MI.start (by decide) (Nat.le_of_ble_eq_true rfl) (lv0 := [(0, .int (nI x))]) rfl ?_
  intro pp9 ee9 ss9 mm9 args9 below9 meth9 co9 A9 Q9 hQ hC hr hlk hnm
  refine V_iload_n hC dX8_isPace_0 rfl 0 rfl ?_
  refine V_iconst (v := nI 1) hC dX8_isPace_1 (by decide) ?_
  refine V_icmp_lt (tgt := 15) hC (by omega) (by omega) dX8_isPace_2 (by decide) (fun c2 => ?_) (fun c2 => ?_)
  · refine V_iconst (v := nI 0) hC dX8_isPace_15 (by decide) ?_
    subst hQ
    exact V_iret hC hr hlk rfl (by decide) (by decide) dX8_isPace_16 (0) [] rfl (by decide) (⟨rfl, by omega⟩)
  · refine V_iload_n hC dX8_isPace_5 rfl 0 rfl ?_
    refine V_bipush (v := nI 64) hC dX8_isPace_6 (by decide) ?_
    refine V_icmp_gt (tgt := 15) hC (by omega) (by omega) dX8_isPace_8 (by decide) (fun c8 => ?_) (fun c8 => ?_)
    · refine V_iconst (v := nI 0) hC dX8_isPace_15 (by decide) ?_
      subst hQ
      exact V_iret hC hr hlk rfl (by decide) (by decide) dX8_isPace_16 (0) [] rfl (by decide) (⟨rfl, by omega⟩)
    · refine V_iconst (v := nI 1) hC dX8_isPace_11 (by decide) ?_
      refine V_goto (tgt := 16) hC dX8_isPace_12 (by decide) ?_
      subst hQ
      exact V_iret hC hr hlk rfl (by decide) (by decide) dX8_isPace_16 (1) [] rfl (by decide) (⟨rfl, by omega⟩)
abbrev rm_X8_isLetter_neg : Room := { frames := 0, cells := 0, slots := 0, locals := 0 }
set_option maxHeartbeats 4000000 in
set_option maxRecDepth 100000 in
theorem c_X8_isLetter_neg (l : Launch) (D : va_G) (cI cQ : ClassId) (x : Int32) (hx : x.toInt < 0) : MI l yX8_isLetter cX8_isLetter 1 (some .boolean) rm_X8_isLetter_neg D (TY cI cQ) [.int (x)] [] (fun (r9 : Int32) (u : Unit) => r9 = (nI 0) ∧ (True)) (fun (u : Unit) => []) 0 0 := by
  refine MI.start (by decide) (Nat.le_of_ble_eq_true rfl) (lv0 := [(0, .int (x))]) rfl ?_
  intro pp9 ee9 ss9 mm9 args9 below9 meth9 co9 A9 Q9 hQ hC hr hlk hnm
  refine V_iload_n hC dX8_isLetter_0 rfl 0 rfl ?_
  refine V_if_lt_T (tgt := 14) hC dX8_isLetter_1 (by decide) (Int32.lt_iff_toInt_lt.mpr hx) ?_
  refine V_iconst (v := nI 0) hC dX8_isLetter_14 (by decide) ?_
  subst hQ
  exact V_iret hC hr hlk rfl (by decide) (by decide) dX8_isLetter_15 (()) [] rfl (by decide) (⟨rfl, trivial⟩)
abbrev rm_X8_isPace_neg : Room := { frames := 0, cells := 0, slots := 0, locals := 0 }
set_option maxHeartbeats 4000000 in
set_option maxRecDepth 100000 in
theorem c_X8_isPace_neg (l : Launch) (D : va_G) (cI cQ : ClassId) (x : Int32) (hx : x.toInt < 0) : MI l yX8_isPace cX8_isPace 1 (some .boolean) rm_X8_isPace_neg D (TY cI cQ) [.int (x)] [] (fun (r9 : Int32) (u : Unit) => r9 = (nI 0) ∧ (True)) (fun (u : Unit) => []) 0 0 := by
  refine MI.start (by decide) (Nat.le_of_ble_eq_true rfl) (lv0 := [(0, .int (x))]) rfl ?_
  intro pp9 ee9 ss9 mm9 args9 below9 meth9 co9 A9 Q9 hQ hC hr hlk hnm
  refine V_iload_n hC dX8_isPace_0 rfl 0 rfl ?_
  refine V_iconst (v := nI 1) hC dX8_isPace_1 (by decide) ?_
  refine V_icmp_lt_T (tgt := 15) hC dX8_isPace_2 (by decide) (neg_lt hx (by omega)) ?_
  refine V_iconst (v := nI 0) hC dX8_isPace_15 (by decide) ?_
  subst hQ
  exact V_iret hC hr hlk rfl (by decide) (by decide) dX8_isPace_16 (()) [] rfl (by decide) (⟨rfl, trivial⟩)
abbrev rm_X8_isSetting : Room := { frames := 1, cells := 0, slots := 0, locals := 20 }
set_option maxHeartbeats 4000000 in
set_option maxRecDepth 100000 in
theorem c_X8_isSetting (l : Launch) (D : va_G) (cI cQ : ClassId) (w x : Nat) (hw : w < 2147483648) (hx : x < 2147483648) : MI l yX8_isSetting cX8_isSetting 2 (some .boolean) rm_X8_isSetting D (TY cI cQ) [.int (nI w), .int (nI x)] [] (fun (r9 : Int32) (u : (Nat)) => r9 = (nI u) ∧ ((u = 1 ∧ ((w = 0 ∧ 1 ≤ x ∧ x ≤ 64) ∨ (w = 1 ∧ 32 ≤ x ∧ x ≤ 2000))) ∨ (u = 0 ∧ ¬ ((w = 0 ∧ 1 ≤ x ∧ x ≤ 64) ∨ (w = 1 ∧ 32 ≤ x ∧ x ≤ 2000))))) (fun (u : (Nat)) => []) 0 0 := by
  refine MI.start (by decide) (Nat.le_of_ble_eq_true rfl) (lv0 := [(0, .int (nI w)), (1, .int (nI x))]) rfl ?_
  intro pp9 ee9 ss9 mm9 args9 below9 meth9 co9 A9 Q9 hQ hC hr hlk hnm
  refine V_iload_n hC dX8_isSetting_0 rfl 0 rfl ?_
  refine V_if_ne (tgt := 9) hC (by omega) dX8_isSetting_1 (by decide) (fun c1 => ?_) (fun c1 => ?_)
  · refine V_iload_n hC dX8_isSetting_9 rfl 0 rfl ?_
    refine V_iconst (v := nI 1) hC dX8_isSetting_10 (by decide) ?_
    refine V_icmp_ne (tgt := 31) hC (by omega) (by omega) dX8_isSetting_11 (by decide) (fun c11 => ?_) (fun c11 => ?_)
    · refine V_iconst (v := nI 0) hC dX8_isSetting_31 (by decide) ?_
      subst hQ
      exact V_iret hC hr hlk rfl (by decide) (by decide) dX8_isSetting_32 (0) [] rfl (by decide) (⟨rfl, by omega⟩)
    · refine V_iload_n hC dX8_isSetting_14 rfl 1 rfl ?_
      refine V_bipush (v := nI 32) hC dX8_isSetting_15 (by decide) ?_
      refine V_icmp_lt (tgt := 31) hC (by omega) (by omega) dX8_isSetting_17 (by decide) (fun c17 => ?_) (fun c17 => ?_)
      · refine V_iconst (v := nI 0) hC dX8_isSetting_31 (by decide) ?_
        subst hQ
        exact V_iret hC hr hlk rfl (by decide) (by decide) dX8_isSetting_32 (0) [] rfl (by decide) (⟨rfl, by omega⟩)
      · refine V_iload_n hC dX8_isSetting_20 rfl 1 rfl ?_
        refine V_sipush (v := nI 2000) hC dX8_isSetting_21 (by decide) ?_
        refine V_icmp_gt (tgt := 31) hC (by omega) (by omega) dX8_isSetting_24 (by decide) (fun c24 => ?_) (fun c24 => ?_)
        · refine V_iconst (v := nI 0) hC dX8_isSetting_31 (by decide) ?_
          subst hQ
          exact V_iret hC hr hlk rfl (by decide) (by decide) dX8_isSetting_32 (0) [] rfl (by decide) (⟨rfl, by omega⟩)
        · refine V_iconst (v := nI 1) hC dX8_isSetting_27 (by decide) ?_
          refine V_goto (tgt := 32) hC dX8_isSetting_28 (by decide) ?_
          subst hQ
          exact V_iret hC hr hlk rfl (by decide) (by decide) dX8_isSetting_32 (1) [] rfl (by decide) (⟨rfl, by omega⟩)
  · refine V_iload_n hC dX8_isSetting_4 rfl 1 rfl ?_
    refine V_calliS (As := [.int (nI x)]) (rest := []) (wr := []) hC (c_X8_isPace l D cI cQ x (by omega)) mok_X8_isPace ml_X8_162 rfl rfl rfl (by decide) (by decide) (by decide) (Nat.le_of_ble_eq_true rfl) [] [] rfl (by decide) rfl (by decide) (by decide) dX8_isSetting_5 rfl (fun r9 u9 h5 => ?_)
    obtain ⟨u_1, rfl⟩ : ∃ z, z = u9 := ⟨_, rfl⟩
    obtain ⟨rfl, h5⟩ := h5
    have h5 : (u_1 = 1 ∧ 1 ≤ x ∧ x ≤ 64) ∨ (u_1 = 0 ∧ (x < 1 ∨ 64 < x)) := h5
    refine V_perm (ws2 := []) [] rfl (by decide) ?_
    subst hQ
    exact V_iret hC hr hlk (nar_bool (by omega)) (by decide) (by decide) dX8_isSetting_8 (u_1) [] rfl (by decide) (⟨rfl, by omega⟩)
abbrev rm_X8_isSetting_w : Room := { frames := 0, cells := 0, slots := 0, locals := 0 }
set_option maxHeartbeats 4000000 in
set_option maxRecDepth 100000 in
theorem c_X8_isSetting_w (l : Launch) (D : va_G) (cI cQ : ClassId) (w x : Int32) (hw : w.toInt < 0) : MI l yX8_isSetting cX8_isSetting 2 (some .boolean) rm_X8_isSetting_w D (TY cI cQ) [.int (w), .int (x)] [] (fun (r9 : Int32) (u : Unit) => r9 = (nI 0) ∧ (True)) (fun (u : Unit) => []) 0 0 := by
  refine MI.start (by decide) (Nat.le_of_ble_eq_true rfl) (lv0 := [(0, .int (w)), (1, .int (x))]) rfl ?_
  intro pp9 ee9 ss9 mm9 args9 below9 meth9 co9 A9 Q9 hQ hC hr hlk hnm
  refine V_iload_n hC dX8_isSetting_0 rfl 0 rfl ?_
  refine V_if_ne_T (tgt := 9) hC dX8_isSetting_1 (by decide) (neg_ne0 hw) ?_
  refine V_iload_n hC dX8_isSetting_9 rfl 0 rfl ?_
  refine V_iconst (v := nI 1) hC dX8_isSetting_10 (by decide) ?_
  refine V_icmp_ne_T (tgt := 31) hC dX8_isSetting_11 (by decide) (neg_ne hw (by omega)) ?_
  refine V_iconst (v := nI 0) hC dX8_isSetting_31 (by decide) ?_
  subst hQ
  exact V_iret hC hr hlk rfl (by decide) (by decide) dX8_isSetting_32 (()) [] rfl (by decide) (⟨rfl, trivial⟩)
abbrev rm_X8_isSetting_x : Room := { frames := 1, cells := 0, slots := 0, locals := 20 }
set_option maxHeartbeats 4000000 in
set_option maxRecDepth 100000 in
theorem c_X8_isSetting_x (l : Launch) (D : va_G) (cI cQ : ClassId) (w : Nat) (x : Int32) (hw : w < 2147483648) (hx : x.toInt < 0) : MI l yX8_isSetting cX8_isSetting 2 (some .boolean) rm_X8_isSetting_x D (TY cI cQ) [.int (nI w), .int (x)] [] (fun (r9 : Int32) (u : Unit) => r9 = (nI 0) ∧ (True)) (fun (u : Unit) => []) 0 0 := by
  refine MI.start (by decide) (Nat.le_of_ble_eq_true rfl) (lv0 := [(0, .int (nI w)), (1, .int (x))]) rfl ?_
  intro pp9 ee9 ss9 mm9 args9 below9 meth9 co9 A9 Q9 hQ hC hr hlk hnm
  refine V_iload_n hC dX8_isSetting_0 rfl 0 rfl ?_
  refine V_if_ne (tgt := 9) hC (by omega) dX8_isSetting_1 (by decide) (fun c1 => ?_) (fun c1 => ?_)
  · refine V_iload_n hC dX8_isSetting_9 rfl 0 rfl ?_
    refine V_iconst (v := nI 1) hC dX8_isSetting_10 (by decide) ?_
    refine V_icmp_ne (tgt := 31) hC (by omega) (by omega) dX8_isSetting_11 (by decide) (fun c11 => ?_) (fun c11 => ?_)
    · refine V_iconst (v := nI 0) hC dX8_isSetting_31 (by decide) ?_
      subst hQ
      exact V_iret hC hr hlk rfl (by decide) (by decide) dX8_isSetting_32 (()) [] rfl (by decide) (⟨rfl, trivial⟩)
    · refine V_iload_n hC dX8_isSetting_14 rfl 1 rfl ?_
      refine V_bipush (v := nI 32) hC dX8_isSetting_15 (by decide) ?_
      refine V_icmp_lt_T (tgt := 31) hC dX8_isSetting_17 (by decide) (neg_lt hx (by omega)) ?_
      refine V_iconst (v := nI 0) hC dX8_isSetting_31 (by decide) ?_
      subst hQ
      exact V_iret hC hr hlk rfl (by decide) (by decide) dX8_isSetting_32 (()) [] rfl (by decide) (⟨rfl, trivial⟩)
  · refine V_iload_n hC dX8_isSetting_4 rfl 1 rfl ?_
    refine V_calliS (As := [.int (x)]) (rest := []) (wr := []) hC (c_X8_isPace_neg l D cI cQ x (hx)) mok_X8_isPace ml_X8_162 rfl rfl rfl (by decide) (by decide) (by decide) (Nat.le_of_ble_eq_true rfl) [] [] rfl (by decide) rfl (by decide) (by decide) dX8_isSetting_5 rfl (fun r9 u9 h5 => ?_)
    obtain ⟨rfl, h5⟩ := h5
    clear h5
    refine V_perm (ws2 := []) [] rfl (by decide) ?_
    subst hQ
    exact V_iret hC hr hlk rfl (by decide) (by decide) dX8_isSetting_8 (()) [] rfl (by decide) (⟨rfl, trivial⟩)
abbrev rm_X8_writeAnew : Room := { frames := 5, cells := 0, slots := 0, locals := 117 }
set_option maxHeartbeats 4000000 in
set_option maxRecDepth 100000 in
theorem c_X8_writeAnew (l : Launch) (D : va_G) (cI cQ : ClassId) (o me kc tc rd tx tb hi ml kco kcr ksp kbi kbr kcs kz kw kT kH kp kb kl ku kn n e p b : Nat) (g kF kg kcf : Nat → Nat) (hn : n ≤ 40) (hg : ∀ j, j < n → g j < 8) (he : e < 2) (hp : p ≤ 64) (hb : b ≤ 2000) : MV l yX8_writeAnew cX8_writeAnew 1 none rm_X8_writeAnew D (TY cI cQ) [.ref o] [(o, .inr (8, [.ref me, .ref kc, .ref tc, .ref rd, .ref tx, .ref tb, .ref hi])), (me, .inr (4, [.ref ml, .int (nI n), .int (nI e), .int (nI p), .int (nI b)])), (ml, .inl (cI, 40, .inl (fun j => nI (g j)))), (kc, .inr (1, [.ref kco, .ref ksp, .ref kbi, .ref kcs, .int (nI kz), .int (nI kw)])), (kco, .inr (2, [.ref kcr, .int (nI kT), .int (nI kH), .int (nI kp), .int (nI kb)])), (kcr, .inl (cI, 9, .inl (fun j => nI (kF j)))), (ksp, .inr (6, [.int (nI kl), .int (nI ku)])), (kbi, .inr (0, [.ref kbr, .int (nI kn)])), (kbr, .inl (cI, 658, .inl (fun j => nI (kg j)))), (kcs, .inl (cI, 40, .inl (fun j => nI (kcf j))))] (fun (u : (Nat → Nat) × (Nat → Nat)) => rep u.1 (sB (cM p b g n e)) ∧ ∀ j, j < n → u.2 j = cost p b g j) (fun (u : (Nat → Nat) × (Nat → Nat)) => [(o, .inr (8, [.ref me, .ref kc, .ref tc, .ref rd, .ref tx, .ref tb, .ref hi])), (me, .inr (4, [.ref ml, .int (nI n), .int (nI e), .int (nI p), .int (nI b)])), (ml, .inl (cI, 40, .inl (fun j => nI (g j)))), (kc, .inr (1, [.ref kco, .ref ksp, .ref kbi, .ref kcs, .int (nI n), .int (nI (sW (cM p b g n e)))])), (kco, .inr (2, [.ref kcr, .int (nI (sT (cM p b g n e))), .int (nI (sH (cM p b g n e))), .int (nI p), .int (nI b)])), (kcr, .inl (cI, 9, .inl (fun j => nI ((sF (cM p b g n e)) j)))), (ksp, .inr (6, [.int (nI (sL (cM p b g n e))), .int (nI (sU (cM p b g n e)))])), (kbi, .inr (0, [.ref kbr, .int (nI ((sB (cM p b g n e)).length))])), (kbr, .inl (cI, 658, .inl (fun j => nI (u.1 j)))), (kcs, .inl (cI, 40, .inl (fun j => nI (u.2 j))))]) 0 0 := by
  refine MV.start (by decide) (Nat.le_of_ble_eq_true rfl) (lv0 := [(0, .ref o)]) rfl ?_
  intro pp9 ee9 ss9 mm9 args9 below9 meth9 co9 A9 Q9 hQ hC hr hlk hnm
  refine V_aload_n hC dX8_writeAnew_0 rfl 0 rfl ?_
  refine V_get (ci := 8) (v := .ref kc) hC in_X8 0 rfl cls_X8 1 (by decide) fl_X8_19 rfl dX8_writeAnew_1 ?_
  refine V_aload_n hC dX8_writeAnew_4 rfl 0 rfl ?_
  refine V_get (ci := 8) (v := .ref me) hC in_X8 0 rfl cls_X8 0 (by decide) fl_X8_12 rfl dX8_writeAnew_5 ?_
  refine V_getN (ci := 4) (v := .int (nI p)) hC in_X4 1 rfl cls_X4 3 (by decide) fn_X8_102 rfl dX8_writeAnew_8 ?_
  refine V_aload_n hC dX8_writeAnew_11 rfl 0 rfl ?_
  refine V_get (ci := 8) (v := .ref me) hC in_X8 0 rfl cls_X8 0 (by decide) fl_X8_12 rfl dX8_writeAnew_12 ?_
  refine V_getN (ci := 4) (v := .int (nI b)) hC in_X4 1 rfl cls_X4 4 (by decide) fn_X8_105 rfl dX8_writeAnew_15 ?_
  refine V_callvV (As := [.int (nI p), .int (nI b)]) (rest := []) (wr := [(o, .inr (8, [.ref me, .ref kc, .ref tc, .ref rd, .ref tx, .ref tb, .ref hi])), (me, .inr (4, [.ref ml, .int (nI n), .int (nI e), .int (nI p), .int (nI b)])), (ml, .inl (cI, 40, .inl (fun j => nI (g j)))), (kbr, .inl (cI, 658, .inl (fun j => nI (kg j)))), (kcs, .inl (cI, 40, .inl (fun j => nI (kcf j))))]) hC (c_X1_start l D cI cQ kc kco ksp kbi kcs kz kw kcr kT kH kp kb kl ku kbr kn p b kF ) mok_X1_start ml_X8_195 (q1 := 0) rfl cls_X1 rfl rfl rfl (by decide) (by decide) (by decide) (Nat.le_of_ble_eq_true rfl) [3, 4, 5, 6, 7] [0, 1, 2, 8, 9] rfl (by decide) rfl (by decide) (by decide) dX8_writeAnew_18 rfl (fun u9 h18 => ?_)
  clear h18
  refine V_perm (ws2 := [(o, .inr (8, [.ref me, .ref kc, .ref tc, .ref rd, .ref tx, .ref tb, .ref hi])), (me, .inr (4, [.ref ml, .int (nI n), .int (nI e), .int (nI p), .int (nI b)])), (ml, .inl (cI, 40, .inl (fun j => nI (g j)))), (kc, .inr (1, [.ref kco, .ref ksp, .ref kbi, .ref kcs, .int (nI 0), .int (nI 0)])), (kco, .inr (2, [.ref kcr, .int (nI 9), .int (nI 0), .int (nI p), .int (nI b)])), (kcr, .inl (cI, 9, .inl (fun j => nI (one j)))), (ksp, .inr (6, [.int (nI 0), .int (nI 65535)])), (kbi, .inr (0, [.ref kbr, .int (nI 0)])), (kbr, .inl (cI, 658, .inl (fun j => nI (kg j)))), (kcs, .inl (cI, 40, .inl (fun j => nI (kcf j))))]) [0, 1, 2, 5, 6, 7, 8, 9, 3, 4] rfl (by decide) ?_
  refine V_aload_n hC dX8_writeAnew_21 rfl 0 rfl ?_
  refine V_get (ci := 8) (v := .ref kc) hC in_X8 0 rfl cls_X8 1 (by decide) fl_X8_19 rfl dX8_writeAnew_22 ?_
  refine V_aload_n hC dX8_writeAnew_25 rfl 0 rfl ?_
  refine V_get (ci := 8) (v := .ref me) hC in_X8 0 rfl cls_X8 0 (by decide) fl_X8_12 rfl dX8_writeAnew_26 ?_
  refine V_callvV (As := [.ref me]) (rest := []) (wr := [(o, .inr (8, [.ref me, .ref kc, .ref tc, .ref rd, .ref tx, .ref tb, .ref hi]))]) hC (c_X1_addAll l D cI cQ kc kco ksp kbi kcs kcr kbr p b me ml n e p b kg kcf g (hn) (hg) (hp) (hb)) mok_X1_addAll ml_X8_198 (q1 := 0) rfl cls_X1 rfl rfl rfl (by decide) (by decide) (by decide) (Nat.le_of_ble_eq_true rfl) [3, 4, 5, 6, 7, 8, 9, 1, 2] [0] rfl (by decide) rfl (by decide) (by decide) dX8_writeAnew_29 rfl (fun u9 h29 => ?_)
  obtain ⟨g2_1, cf2_2⟩ := u9
  have h29 : rep g2_1 (sB (cR p b g n)) ∧ ∀ j, j < n → cf2_2 j = cost p b g j := h29
  refine V_perm (ws2 := [(o, .inr (8, [.ref me, .ref kc, .ref tc, .ref rd, .ref tx, .ref tb, .ref hi])), (me, .inr (4, [.ref ml, .int (nI n), .int (nI e), .int (nI p), .int (nI b)])), (ml, .inl (cI, 40, .inl (fun j => nI (g j)))), (kc, .inr (1, [.ref kco, .ref ksp, .ref kbi, .ref kcs, .int (nI n), .int (nI (sW (cR p b g n)))])), (kco, .inr (2, [.ref kcr, .int (nI (sT (cR p b g n))), .int (nI (sH (cR p b g n))), .int (nI p), .int (nI b)])), (kcr, .inl (cI, 9, .inl (fun j => nI ((sF (cR p b g n)) j)))), (ksp, .inr (6, [.int (nI (sL (cR p b g n))), .int (nI (sU (cR p b g n)))])), (kbi, .inr (0, [.ref kbr, .int (nI ((sB (cR p b g n)).length))])), (kbr, .inl (cI, 658, .inl (fun j => nI (g2_1 j)))), (kcs, .inl (cI, 40, .inl (fun j => nI (cf2_2 j))))]) [0, 8, 9, 1, 2, 3, 4, 5, 6, 7] rfl (by decide) ?_
  refine V_aload_n hC dX8_writeAnew_32 rfl 0 rfl ?_
  refine V_get (ci := 8) (v := .ref me) hC in_X8 0 rfl cls_X8 0 (by decide) fl_X8_12 rfl dX8_writeAnew_33 ?_
  refine V_getN (ci := 4) (v := .int (nI e)) hC in_X4 1 rfl cls_X4 2 (by decide) fn_X8_58 rfl dX8_writeAnew_36 ?_
  refine V_if_eq (tgt := 49) hC (by omega) dX8_writeAnew_39 (by decide) (fun c39 => ?_) (fun c39 => ?_)
  · refine V_ws (ws2 := [(o, .inr (8, [.ref me, .ref kc, .ref tc, .ref rd, .ref tx, .ref tb, .ref hi])), (me, .inr (4, [.ref ml, .int (nI n), .int (nI e), .int (nI p), .int (nI b)])), (ml, .inl (cI, 40, .inl (fun j => nI (g j)))), (kc, .inr (1, [.ref kco, .ref ksp, .ref kbi, .ref kcs, .int (nI n), .int (nI (sW (cM p b g n e)))])), (kco, .inr (2, [.ref kcr, .int (nI (sT (cM p b g n e))), .int (nI (sH (cM p b g n e))), .int (nI p), .int (nI b)])), (kcr, .inl (cI, 9, .inl (fun j => nI ((sF (cM p b g n e)) j)))), (ksp, .inr (6, [.int (nI (sL (cM p b g n e))), .int (nI (sU (cM p b g n e)))])), (kbi, .inr (0, [.ref kbr, .int (nI ((sB (cM p b g n e)).length))])), (kbr, .inl (cI, 658, .inl (fun j => nI (g2_1 j)))), (kcs, .inl (cI, 40, .inl (fun j => nI (cf2_2 j))))]) (by rw [show cM p b g n e = cR p b g n from if_neg (by omega)]) ?_
    subst hQ
    exact V_vret hC hr hlk (by decide) (by decide) dX8_writeAnew_49 ((g2_1, cf2_2)) [0, 1, 2, 3, 4, 5, 6, 7, 8, 9] rfl (by decide) (⟨by rw [show cM p b g n e = cR p b g n from if_neg (by omega)]; exact h29.1, h29.2⟩)
  · refine V_aload_n hC dX8_writeAnew_42 rfl 0 rfl ?_
    refine V_get (ci := 8) (v := .ref kc) hC in_X8 0 rfl cls_X8 1 (by decide) fl_X8_19 rfl dX8_writeAnew_43 ?_
    refine V_callvV (As := []) (rest := []) (wr := [(o, .inr (8, [.ref me, .ref kc, .ref tc, .ref rd, .ref tx, .ref tb, .ref hi])), (me, .inr (4, [.ref ml, .int (nI n), .int (nI e), .int (nI p), .int (nI b)])), (ml, .inl (cI, 40, .inl (fun j => nI (g j)))), (kcs, .inl (cI, 40, .inl (fun j => nI (cf2_2 j))))]) hC (c_X1_close l D cI cQ kc kco ksp kbi kcs n kcr kbr p b (cR p b g n) g2_1 (cR_ok hp hb hg) (h29.1) (by have := cR_len p b g n; omega)) mok_X1_close ml_X8_78 (q1 := 0) rfl cls_X1 rfl rfl rfl (by decide) (by decide) (by decide) (Nat.le_of_ble_eq_true rfl) [3, 4, 5, 6, 7, 8] [0, 1, 2, 9] rfl (by decide) rfl (by decide) (by decide) dX8_writeAnew_46 rfl (fun u9 h46 => ?_)
    obtain ⟨g2_3, rfl⟩ : ∃ z, z = u9 := ⟨_, rfl⟩
    have h46 : rep g2_3 (sB (cEnd (cR p b g n))) := h46
    refine V_perm (ws2 := [(o, .inr (8, [.ref me, .ref kc, .ref tc, .ref rd, .ref tx, .ref tb, .ref hi])), (me, .inr (4, [.ref ml, .int (nI n), .int (nI e), .int (nI p), .int (nI b)])), (ml, .inl (cI, 40, .inl (fun j => nI (g j)))), (kc, .inr (1, [.ref kco, .ref ksp, .ref kbi, .ref kcs, .int (nI n), .int (nI (sW (cEnd (cR p b g n))))])), (kco, .inr (2, [.ref kcr, .int (nI (sT (cEnd (cR p b g n)))), .int (nI (sH (cEnd (cR p b g n)))), .int (nI p), .int (nI b)])), (kcr, .inl (cI, 9, .inl (fun j => nI ((sF (cEnd (cR p b g n))) j)))), (ksp, .inr (6, [.int (nI (sL (cEnd (cR p b g n)))), .int (nI (sU (cEnd (cR p b g n))))])), (kbi, .inr (0, [.ref kbr, .int (nI ((sB (cEnd (cR p b g n))).length))])), (kbr, .inl (cI, 658, .inl (fun j => nI (g2_3 j)))), (kcs, .inl (cI, 40, .inl (fun j => nI (cf2_2 j))))]) [0, 1, 2, 4, 5, 6, 7, 8, 9, 3] rfl (by decide) ?_
    refine V_ws (ws2 := [(o, .inr (8, [.ref me, .ref kc, .ref tc, .ref rd, .ref tx, .ref tb, .ref hi])), (me, .inr (4, [.ref ml, .int (nI n), .int (nI e), .int (nI p), .int (nI b)])), (ml, .inl (cI, 40, .inl (fun j => nI (g j)))), (kc, .inr (1, [.ref kco, .ref ksp, .ref kbi, .ref kcs, .int (nI n), .int (nI (sW (cM p b g n e)))])), (kco, .inr (2, [.ref kcr, .int (nI (sT (cM p b g n e))), .int (nI (sH (cM p b g n e))), .int (nI p), .int (nI b)])), (kcr, .inl (cI, 9, .inl (fun j => nI ((sF (cM p b g n e)) j)))), (ksp, .inr (6, [.int (nI (sL (cM p b g n e))), .int (nI (sU (cM p b g n e)))])), (kbi, .inr (0, [.ref kbr, .int (nI ((sB (cM p b g n e)).length))])), (kbr, .inl (cI, 658, .inl (fun j => nI (g2_3 j)))), (kcs, .inl (cI, 40, .inl (fun j => nI (cf2_2 j))))]) (by rw [show cM p b g n e = cEnd (cR p b g n) from if_pos (by omega)]) ?_
    subst hQ
    exact V_vret hC hr hlk (by decide) (by decide) dX8_writeAnew_49 ((g2_3, cf2_2)) [0, 1, 2, 3, 4, 5, 6, 7, 8, 9] rfl (by decide) (⟨by rw [show cM p b g n e = cEnd (cR p b g n) from if_pos (by omega)]; exact h46, h29.2⟩)
abbrev rm_X8_bitsEnded : Room := { frames := 5, cells := 0, slots := 0, locals := 117 }
set_option maxHeartbeats 4000000 in
set_option maxRecDepth 100000 in
theorem c_X8_bitsEnded (l : Launch) (D : va_G) (cI cQ : ClassId) (o me kc tc rd tx tb hi ml tco tcr tsp tbi tbr tcs tz tw tT tH tp tb2 tl tu tn n e p b q : Nat) (g tF tg tcf : Nat → Nat) (hn : n ≤ 40) (hg : ∀ j, j < n → g j < 8) (hq9 : q ≤ 64) (hb : b ≤ 2000) : MI l yX8_bitsEnded cX8_bitsEnded 2 (some .int) rm_X8_bitsEnded D (TY cI cQ) [.ref o, .int (nI q)] [(o, .inr (8, [.ref me, .ref kc, .ref tc, .ref rd, .ref tx, .ref tb, .ref hi])), (me, .inr (4, [.ref ml, .int (nI n), .int (nI e), .int (nI p), .int (nI b)])), (ml, .inl (cI, 40, .inl (fun j => nI (g j)))), (tc, .inr (1, [.ref tco, .ref tsp, .ref tbi, .ref tcs, .int (nI tz), .int (nI tw)])), (tco, .inr (2, [.ref tcr, .int (nI tT), .int (nI tH), .int (nI tp), .int (nI tb2)])), (tcr, .inl (cI, 9, .inl (fun j => nI (tF j)))), (tsp, .inr (6, [.int (nI tl), .int (nI tu)])), (tbi, .inr (0, [.ref tbr, .int (nI tn)])), (tbr, .inl (cI, 658, .inl (fun j => nI (tg j)))), (tcs, .inl (cI, 40, .inl (fun j => nI (tcf j))))] (fun (r9 : Int32) (u : (Nat → Nat) × (Nat → Nat)) => r9 = (nI (bE q b g n)) ∧ (True)) (fun (u : (Nat → Nat) × (Nat → Nat)) => [(o, .inr (8, [.ref me, .ref kc, .ref tc, .ref rd, .ref tx, .ref tb, .ref hi])), (me, .inr (4, [.ref ml, .int (nI n), .int (nI e), .int (nI p), .int (nI b)])), (ml, .inl (cI, 40, .inl (fun j => nI (g j)))), (tc, .inr (1, [.ref tco, .ref tsp, .ref tbi, .ref tcs, .int (nI n), .int (nI (sW (cEnd (cR q b g n))))])), (tco, .inr (2, [.ref tcr, .int (nI (sT (cEnd (cR q b g n)))), .int (nI (sH (cEnd (cR q b g n)))), .int (nI q), .int (nI b)])), (tcr, .inl (cI, 9, .inl (fun j => nI ((sF (cEnd (cR q b g n))) j)))), (tsp, .inr (6, [.int (nI (sL (cEnd (cR q b g n)))), .int (nI (sU (cEnd (cR q b g n))))])), (tbi, .inr (0, [.ref tbr, .int (nI ((sB (cEnd (cR q b g n))).length))])), (tbr, .inl (cI, 658, .inl (fun j => nI (u.1 j)))), (tcs, .inl (cI, 40, .inl (fun j => nI (u.2 j))))]) 0 0 := by
  refine MI.start (by decide) (Nat.le_of_ble_eq_true rfl) (lv0 := [(0, .ref o), (1, .int (nI q))]) rfl ?_
  intro pp9 ee9 ss9 mm9 args9 below9 meth9 co9 A9 Q9 hQ hC hr hlk hnm
  refine V_aload_n hC dX8_bitsEnded_0 rfl 0 rfl ?_
  refine V_get (ci := 8) (v := .ref tc) hC in_X8 0 rfl cls_X8 2 (by decide) fl_X8_23 rfl dX8_bitsEnded_1 ?_
  refine V_iload_n hC dX8_bitsEnded_4 rfl 1 rfl ?_
  refine V_aload_n hC dX8_bitsEnded_5 rfl 0 rfl ?_
  refine V_get (ci := 8) (v := .ref me) hC in_X8 0 rfl cls_X8 0 (by decide) fl_X8_12 rfl dX8_bitsEnded_6 ?_
  refine V_getN (ci := 4) (v := .int (nI b)) hC in_X4 1 rfl cls_X4 4 (by decide) fn_X8_105 rfl dX8_bitsEnded_9 ?_
  refine V_callvV (As := [.int (nI q), .int (nI b)]) (rest := []) (wr := [(o, .inr (8, [.ref me, .ref kc, .ref tc, .ref rd, .ref tx, .ref tb, .ref hi])), (me, .inr (4, [.ref ml, .int (nI n), .int (nI e), .int (nI p), .int (nI b)])), (ml, .inl (cI, 40, .inl (fun j => nI (g j)))), (tbr, .inl (cI, 658, .inl (fun j => nI (tg j)))), (tcs, .inl (cI, 40, .inl (fun j => nI (tcf j))))]) hC (c_X1_start l D cI cQ tc tco tsp tbi tcs tz tw tcr tT tH tp tb2 tl tu tbr tn q b tF ) mok_X1_start ml_X8_195 (q1 := 0) rfl cls_X1 rfl rfl rfl (by decide) (by decide) (by decide) (Nat.le_of_ble_eq_true rfl) [3, 4, 5, 6, 7] [0, 1, 2, 8, 9] rfl (by decide) rfl (by decide) (by decide) dX8_bitsEnded_12 rfl (fun u9 h12 => ?_)
  clear h12
  refine V_perm (ws2 := [(o, .inr (8, [.ref me, .ref kc, .ref tc, .ref rd, .ref tx, .ref tb, .ref hi])), (me, .inr (4, [.ref ml, .int (nI n), .int (nI e), .int (nI p), .int (nI b)])), (ml, .inl (cI, 40, .inl (fun j => nI (g j)))), (tc, .inr (1, [.ref tco, .ref tsp, .ref tbi, .ref tcs, .int (nI 0), .int (nI 0)])), (tco, .inr (2, [.ref tcr, .int (nI 9), .int (nI 0), .int (nI q), .int (nI b)])), (tcr, .inl (cI, 9, .inl (fun j => nI (one j)))), (tsp, .inr (6, [.int (nI 0), .int (nI 65535)])), (tbi, .inr (0, [.ref tbr, .int (nI 0)])), (tbr, .inl (cI, 658, .inl (fun j => nI (tg j)))), (tcs, .inl (cI, 40, .inl (fun j => nI (tcf j))))]) [0, 1, 2, 5, 6, 7, 8, 9, 3, 4] rfl (by decide) ?_
  refine V_aload_n hC dX8_bitsEnded_15 rfl 0 rfl ?_
  refine V_get (ci := 8) (v := .ref tc) hC in_X8 0 rfl cls_X8 2 (by decide) fl_X8_23 rfl dX8_bitsEnded_16 ?_
  refine V_aload_n hC dX8_bitsEnded_19 rfl 0 rfl ?_
  refine V_get (ci := 8) (v := .ref me) hC in_X8 0 rfl cls_X8 0 (by decide) fl_X8_12 rfl dX8_bitsEnded_20 ?_
  refine V_callvV (As := [.ref me]) (rest := []) (wr := [(o, .inr (8, [.ref me, .ref kc, .ref tc, .ref rd, .ref tx, .ref tb, .ref hi]))]) hC (c_X1_addAll l D cI cQ tc tco tsp tbi tcs tcr tbr q b me ml n e p b tg tcf g (hn) (hg) (hq9) (hb)) mok_X1_addAll ml_X8_198 (q1 := 0) rfl cls_X1 rfl rfl rfl (by decide) (by decide) (by decide) (Nat.le_of_ble_eq_true rfl) [3, 4, 5, 6, 7, 8, 9, 1, 2] [0] rfl (by decide) rfl (by decide) (by decide) dX8_bitsEnded_23 rfl (fun u9 h23 => ?_)
  obtain ⟨g2_1, cf2_2⟩ := u9
  have h23 : rep g2_1 (sB (cR q b g n)) ∧ ∀ j, j < n → cf2_2 j = cost q b g j := h23
  refine V_perm (ws2 := [(o, .inr (8, [.ref me, .ref kc, .ref tc, .ref rd, .ref tx, .ref tb, .ref hi])), (me, .inr (4, [.ref ml, .int (nI n), .int (nI e), .int (nI p), .int (nI b)])), (ml, .inl (cI, 40, .inl (fun j => nI (g j)))), (tc, .inr (1, [.ref tco, .ref tsp, .ref tbi, .ref tcs, .int (nI n), .int (nI (sW (cR q b g n)))])), (tco, .inr (2, [.ref tcr, .int (nI (sT (cR q b g n))), .int (nI (sH (cR q b g n))), .int (nI q), .int (nI b)])), (tcr, .inl (cI, 9, .inl (fun j => nI ((sF (cR q b g n)) j)))), (tsp, .inr (6, [.int (nI (sL (cR q b g n))), .int (nI (sU (cR q b g n)))])), (tbi, .inr (0, [.ref tbr, .int (nI ((sB (cR q b g n)).length))])), (tbr, .inl (cI, 658, .inl (fun j => nI (g2_1 j)))), (tcs, .inl (cI, 40, .inl (fun j => nI (cf2_2 j))))]) [0, 8, 9, 1, 2, 3, 4, 5, 6, 7] rfl (by decide) ?_
  refine V_aload_n hC dX8_bitsEnded_26 rfl 0 rfl ?_
  refine V_get (ci := 8) (v := .ref tc) hC in_X8 0 rfl cls_X8 2 (by decide) fl_X8_23 rfl dX8_bitsEnded_27 ?_
  refine V_callvV (As := []) (rest := []) (wr := [(o, .inr (8, [.ref me, .ref kc, .ref tc, .ref rd, .ref tx, .ref tb, .ref hi])), (me, .inr (4, [.ref ml, .int (nI n), .int (nI e), .int (nI p), .int (nI b)])), (ml, .inl (cI, 40, .inl (fun j => nI (g j)))), (tcs, .inl (cI, 40, .inl (fun j => nI (cf2_2 j))))]) hC (c_X1_close l D cI cQ tc tco tsp tbi tcs n tcr tbr q b (cR q b g n) g2_1 (cR_ok hq9 hb hg) (h23.1) (by have := cR_len q b g n; omega)) mok_X1_close ml_X8_78 (q1 := 0) rfl cls_X1 rfl rfl rfl (by decide) (by decide) (by decide) (Nat.le_of_ble_eq_true rfl) [3, 4, 5, 6, 7, 8] [0, 1, 2, 9] rfl (by decide) rfl (by decide) (by decide) dX8_bitsEnded_30 rfl (fun u9 h30 => ?_)
  obtain ⟨g2_3, rfl⟩ : ∃ z, z = u9 := ⟨_, rfl⟩
  have h30 : rep g2_3 (sB (cEnd (cR q b g n))) := h30
  refine V_perm (ws2 := [(o, .inr (8, [.ref me, .ref kc, .ref tc, .ref rd, .ref tx, .ref tb, .ref hi])), (me, .inr (4, [.ref ml, .int (nI n), .int (nI e), .int (nI p), .int (nI b)])), (ml, .inl (cI, 40, .inl (fun j => nI (g j)))), (tc, .inr (1, [.ref tco, .ref tsp, .ref tbi, .ref tcs, .int (nI n), .int (nI (sW (cEnd (cR q b g n))))])), (tco, .inr (2, [.ref tcr, .int (nI (sT (cEnd (cR q b g n)))), .int (nI (sH (cEnd (cR q b g n)))), .int (nI q), .int (nI b)])), (tcr, .inl (cI, 9, .inl (fun j => nI ((sF (cEnd (cR q b g n))) j)))), (tsp, .inr (6, [.int (nI (sL (cEnd (cR q b g n)))), .int (nI (sU (cEnd (cR q b g n))))])), (tbi, .inr (0, [.ref tbr, .int (nI ((sB (cEnd (cR q b g n))).length))])), (tbr, .inl (cI, 658, .inl (fun j => nI (g2_3 j)))), (tcs, .inl (cI, 40, .inl (fun j => nI (cf2_2 j))))]) [0, 1, 2, 4, 5, 6, 7, 8, 9, 3] rfl (by decide) ?_
  refine V_aload_n hC dX8_bitsEnded_33 rfl 0 rfl ?_
  refine V_get (ci := 8) (v := .ref tc) hC in_X8 0 rfl cls_X8 2 (by decide) fl_X8_23 rfl dX8_bitsEnded_34 ?_
  refine V_getN (ci := 1) (v := .ref tbi) hC in_X1 3 rfl cls_X1 2 (by decide) fn_X8_81 rfl dX8_bitsEnded_37 ?_
  refine V_getN (ci := 0) (v := .int (nI ((sB (cEnd (cR q b g n))).length))) hC in_X0 7 rfl cls_X0 1 (by decide) fn_X8_84 rfl dX8_bitsEnded_40 ?_
  subst hQ
  exact V_iret hC hr hlk rfl (by decide) (by decide) dX8_bitsEnded_43 ((g2_3, cf2_2)) [0, 1, 2, 3, 4, 5, 6, 7, 8, 9] rfl (by decide) (⟨rfl, trivial⟩)
abbrev rm_X8_bitsMoreWith_end : Room := { frames := 5, cells := 0, slots := 0, locals := 117 }
set_option maxHeartbeats 4000000 in
set_option maxRecDepth 100000 in
theorem c_X8_bitsMoreWith_end (l : Launch) (D : va_G) (cI cQ : ClassId) (o me kc tc rd tx tb hi ml tco tcr tsp tbi tbr tcs tz tw tT tH tp tb2 tl tu tn n e p b : Nat) (g tF tg tcf : Nat → Nat) (hn : n ≤ 40) (hg : ∀ j, j < n → g j < 8) (hp : p ≤ 64) (hb : b ≤ 2000) : MI l yX8_bitsMoreWith cX8_bitsMoreWith 3 (some .int) rm_X8_bitsMoreWith_end D (TY cI cQ) [.ref o, .int (nI 8)] [(o, .inr (8, [.ref me, .ref kc, .ref tc, .ref rd, .ref tx, .ref tb, .ref hi])), (me, .inr (4, [.ref ml, .int (nI n), .int (nI e), .int (nI p), .int (nI b)])), (ml, .inl (cI, 40, .inl (fun j => nI (g j)))), (tc, .inr (1, [.ref tco, .ref tsp, .ref tbi, .ref tcs, .int (nI tz), .int (nI tw)])), (tco, .inr (2, [.ref tcr, .int (nI tT), .int (nI tH), .int (nI tp), .int (nI tb2)])), (tcr, .inl (cI, 9, .inl (fun j => nI (tF j)))), (tsp, .inr (6, [.int (nI tl), .int (nI tu)])), (tbi, .inr (0, [.ref tbr, .int (nI tn)])), (tbr, .inl (cI, 658, .inl (fun j => nI (tg j)))), (tcs, .inl (cI, 40, .inl (fun j => nI (tcf j))))] (fun (r9 : Int32) (u : (Nat → Nat) × (Nat → Nat)) => r9 = (nI ((sB (cEnd (cR p b g n))).length - (sB (cR p b g n)).length)) ∧ (True)) (fun (u : (Nat → Nat) × (Nat → Nat)) => [(o, .inr (8, [.ref me, .ref kc, .ref tc, .ref rd, .ref tx, .ref tb, .ref hi])), (me, .inr (4, [.ref ml, .int (nI n), .int (nI e), .int (nI p), .int (nI b)])), (ml, .inl (cI, 40, .inl (fun j => nI (g j)))), (tc, .inr (1, [.ref tco, .ref tsp, .ref tbi, .ref tcs, .int (nI n), .int (nI (sW (cEnd (cR p b g n))))])), (tco, .inr (2, [.ref tcr, .int (nI (sT (cEnd (cR p b g n)))), .int (nI (sH (cEnd (cR p b g n)))), .int (nI p), .int (nI b)])), (tcr, .inl (cI, 9, .inl (fun j => nI ((sF (cEnd (cR p b g n))) j)))), (tsp, .inr (6, [.int (nI (sL (cEnd (cR p b g n)))), .int (nI (sU (cEnd (cR p b g n))))])), (tbi, .inr (0, [.ref tbr, .int (nI ((sB (cEnd (cR p b g n))).length))])), (tbr, .inl (cI, 658, .inl (fun j => nI (u.1 j)))), (tcs, .inl (cI, 40, .inl (fun j => nI (u.2 j))))]) 0 0 := by
  refine MI.start (by decide) (Nat.le_of_ble_eq_true rfl) (lv0 := [(0, .ref o), (1, .int (nI 8))]) rfl ?_
  intro pp9 ee9 ss9 mm9 args9 below9 meth9 co9 A9 Q9 hQ hC hr hlk hnm
  have hlen := cR_len p b g n
  have hle := cEnd_len (cR p b g n)
  refine V_aload_n hC dX8_bitsMoreWith_0 rfl 0 rfl ?_
  refine V_get (ci := 8) (v := .ref tc) hC in_X8 0 rfl cls_X8 2 (by decide) fl_X8_23 rfl dX8_bitsMoreWith_1 ?_
  refine V_aload_n hC dX8_bitsMoreWith_4 rfl 0 rfl ?_
  refine V_get (ci := 8) (v := .ref me) hC in_X8 0 rfl cls_X8 0 (by decide) fl_X8_12 rfl dX8_bitsMoreWith_5 ?_
  refine V_getN (ci := 4) (v := .int (nI p)) hC in_X4 1 rfl cls_X4 3 (by decide) fn_X8_102 rfl dX8_bitsMoreWith_8 ?_
  refine V_aload_n hC dX8_bitsMoreWith_11 rfl 0 rfl ?_
  refine V_get (ci := 8) (v := .ref me) hC in_X8 0 rfl cls_X8 0 (by decide) fl_X8_12 rfl dX8_bitsMoreWith_12 ?_
  refine V_getN (ci := 4) (v := .int (nI b)) hC in_X4 1 rfl cls_X4 4 (by decide) fn_X8_105 rfl dX8_bitsMoreWith_15 ?_
  refine V_callvV (As := [.int (nI p), .int (nI b)]) (rest := []) (wr := [(o, .inr (8, [.ref me, .ref kc, .ref tc, .ref rd, .ref tx, .ref tb, .ref hi])), (me, .inr (4, [.ref ml, .int (nI n), .int (nI e), .int (nI p), .int (nI b)])), (ml, .inl (cI, 40, .inl (fun j => nI (g j)))), (tbr, .inl (cI, 658, .inl (fun j => nI (tg j)))), (tcs, .inl (cI, 40, .inl (fun j => nI (tcf j))))]) hC (c_X1_start l D cI cQ tc tco tsp tbi tcs tz tw tcr tT tH tp tb2 tl tu tbr tn p b tF ) mok_X1_start ml_X8_195 (q1 := 0) rfl cls_X1 rfl rfl rfl (by decide) (by decide) (by decide) (Nat.le_of_ble_eq_true rfl) [3, 4, 5, 6, 7] [0, 1, 2, 8, 9] rfl (by decide) rfl (by decide) (by decide) dX8_bitsMoreWith_18 rfl (fun u9 h18 => ?_)
  clear h18
  refine V_perm (ws2 := [(o, .inr (8, [.ref me, .ref kc, .ref tc, .ref rd, .ref tx, .ref tb, .ref hi])), (me, .inr (4, [.ref ml, .int (nI n), .int (nI e), .int (nI p), .int (nI b)])), (ml, .inl (cI, 40, .inl (fun j => nI (g j)))), (tc, .inr (1, [.ref tco, .ref tsp, .ref tbi, .ref tcs, .int (nI 0), .int (nI 0)])), (tco, .inr (2, [.ref tcr, .int (nI 9), .int (nI 0), .int (nI p), .int (nI b)])), (tcr, .inl (cI, 9, .inl (fun j => nI (one j)))), (tsp, .inr (6, [.int (nI 0), .int (nI 65535)])), (tbi, .inr (0, [.ref tbr, .int (nI 0)])), (tbr, .inl (cI, 658, .inl (fun j => nI (tg j)))), (tcs, .inl (cI, 40, .inl (fun j => nI (tcf j))))]) [0, 1, 2, 5, 6, 7, 8, 9, 3, 4] rfl (by decide) ?_
  refine V_aload_n hC dX8_bitsMoreWith_21 rfl 0 rfl ?_
  refine V_get (ci := 8) (v := .ref tc) hC in_X8 0 rfl cls_X8 2 (by decide) fl_X8_23 rfl dX8_bitsMoreWith_22 ?_
  refine V_aload_n hC dX8_bitsMoreWith_25 rfl 0 rfl ?_
  refine V_get (ci := 8) (v := .ref me) hC in_X8 0 rfl cls_X8 0 (by decide) fl_X8_12 rfl dX8_bitsMoreWith_26 ?_
  refine V_callvV (As := [.ref me]) (rest := []) (wr := [(o, .inr (8, [.ref me, .ref kc, .ref tc, .ref rd, .ref tx, .ref tb, .ref hi]))]) hC (c_X1_addAll l D cI cQ tc tco tsp tbi tcs tcr tbr p b me ml n e p b tg tcf g (hn) (hg) (hp) (hb)) mok_X1_addAll ml_X8_198 (q1 := 0) rfl cls_X1 rfl rfl rfl (by decide) (by decide) (by decide) (Nat.le_of_ble_eq_true rfl) [3, 4, 5, 6, 7, 8, 9, 1, 2] [0] rfl (by decide) rfl (by decide) (by decide) dX8_bitsMoreWith_29 rfl (fun u9 h29 => ?_)
  obtain ⟨g2_1, cf2_2⟩ := u9
  have h29 : rep g2_1 (sB (cR p b g n)) ∧ ∀ j, j < n → cf2_2 j = cost p b g j := h29
  refine V_perm (ws2 := [(o, .inr (8, [.ref me, .ref kc, .ref tc, .ref rd, .ref tx, .ref tb, .ref hi])), (me, .inr (4, [.ref ml, .int (nI n), .int (nI e), .int (nI p), .int (nI b)])), (ml, .inl (cI, 40, .inl (fun j => nI (g j)))), (tc, .inr (1, [.ref tco, .ref tsp, .ref tbi, .ref tcs, .int (nI n), .int (nI (sW (cR p b g n)))])), (tco, .inr (2, [.ref tcr, .int (nI (sT (cR p b g n))), .int (nI (sH (cR p b g n))), .int (nI p), .int (nI b)])), (tcr, .inl (cI, 9, .inl (fun j => nI ((sF (cR p b g n)) j)))), (tsp, .inr (6, [.int (nI (sL (cR p b g n))), .int (nI (sU (cR p b g n)))])), (tbi, .inr (0, [.ref tbr, .int (nI ((sB (cR p b g n)).length))])), (tbr, .inl (cI, 658, .inl (fun j => nI (g2_1 j)))), (tcs, .inl (cI, 40, .inl (fun j => nI (cf2_2 j))))]) [0, 8, 9, 1, 2, 3, 4, 5, 6, 7] rfl (by decide) ?_
  refine V_iload_n hC dX8_bitsMoreWith_32 rfl 1 rfl ?_
  refine V_bipush (v := nI 8) hC dX8_bitsMoreWith_33 (by decide) ?_
  refine V_icmp_eq_T (tgt := 47) hC dX8_bitsMoreWith_35 (by decide) (congrArg nI (show 8 = 8 by omega)) ?_
  refine V_aload_n hC dX8_bitsMoreWith_47 rfl 0 rfl ?_
  refine V_get (ci := 8) (v := .ref tc) hC in_X8 0 rfl cls_X8 2 (by decide) fl_X8_23 rfl dX8_bitsMoreWith_48 ?_
  refine V_getN (ci := 1) (v := .ref tbi) hC in_X1 3 rfl cls_X1 2 (by decide) fn_X8_81 rfl dX8_bitsMoreWith_51 ?_
  refine V_getN (ci := 0) (v := .int (nI ((sB (cR p b g n)).length))) hC in_X0 7 rfl cls_X0 1 (by decide) fn_X8_84 rfl dX8_bitsMoreWith_54 ?_
  refine V_istore_n (lv2 := [(0, .ref o), (1, .int (nI 8)), (2, .int (nI ((sB (cR p b g n)).length)))]) hC dX8_bitsMoreWith_57 rfl (by decide) [1, 2, 0] rfl ?_
  refine V_aload_n hC dX8_bitsMoreWith_58 rfl 0 rfl ?_
  refine V_get (ci := 8) (v := .ref tc) hC in_X8 0 rfl cls_X8 2 (by decide) fl_X8_23 rfl dX8_bitsMoreWith_59 ?_
  refine V_callvV (As := []) (rest := []) (wr := [(o, .inr (8, [.ref me, .ref kc, .ref tc, .ref rd, .ref tx, .ref tb, .ref hi])), (me, .inr (4, [.ref ml, .int (nI n), .int (nI e), .int (nI p), .int (nI b)])), (ml, .inl (cI, 40, .inl (fun j => nI (g j)))), (tcs, .inl (cI, 40, .inl (fun j => nI (cf2_2 j))))]) hC (c_X1_close l D cI cQ tc tco tsp tbi tcs n tcr tbr p b (cR p b g n) g2_1 (cR_ok hp hb hg) (h29.1) (by omega)) mok_X1_close ml_X8_78 (q1 := 0) rfl cls_X1 rfl rfl rfl (by decide) (by decide) (by decide) (Nat.le_of_ble_eq_true rfl) [3, 4, 5, 6, 7, 8] [0, 1, 2, 9] rfl (by decide) rfl (by decide) (by decide) dX8_bitsMoreWith_62 rfl (fun u9 h62 => ?_)
  obtain ⟨g2_3, rfl⟩ : ∃ z, z = u9 := ⟨_, rfl⟩
  have h62 : rep g2_3 (sB (cEnd (cR p b g n))) := h62
  refine V_perm (ws2 := [(o, .inr (8, [.ref me, .ref kc, .ref tc, .ref rd, .ref tx, .ref tb, .ref hi])), (me, .inr (4, [.ref ml, .int (nI n), .int (nI e), .int (nI p), .int (nI b)])), (ml, .inl (cI, 40, .inl (fun j => nI (g j)))), (tc, .inr (1, [.ref tco, .ref tsp, .ref tbi, .ref tcs, .int (nI n), .int (nI (sW (cEnd (cR p b g n))))])), (tco, .inr (2, [.ref tcr, .int (nI (sT (cEnd (cR p b g n)))), .int (nI (sH (cEnd (cR p b g n)))), .int (nI p), .int (nI b)])), (tcr, .inl (cI, 9, .inl (fun j => nI ((sF (cEnd (cR p b g n))) j)))), (tsp, .inr (6, [.int (nI (sL (cEnd (cR p b g n)))), .int (nI (sU (cEnd (cR p b g n))))])), (tbi, .inr (0, [.ref tbr, .int (nI ((sB (cEnd (cR p b g n))).length))])), (tbr, .inl (cI, 658, .inl (fun j => nI (g2_3 j)))), (tcs, .inl (cI, 40, .inl (fun j => nI (cf2_2 j))))]) [0, 1, 2, 4, 5, 6, 7, 8, 9, 3] rfl (by decide) ?_
  refine V_aload_n hC dX8_bitsMoreWith_65 rfl 0 rfl ?_
  refine V_get (ci := 8) (v := .ref tc) hC in_X8 0 rfl cls_X8 2 (by decide) fl_X8_23 rfl dX8_bitsMoreWith_66 ?_
  refine V_getN (ci := 1) (v := .ref tbi) hC in_X1 3 rfl cls_X1 2 (by decide) fn_X8_81 rfl dX8_bitsMoreWith_69 ?_
  refine V_getN (ci := 0) (v := .int (nI ((sB (cEnd (cR p b g n))).length))) hC in_X0 7 rfl cls_X0 1 (by decide) fn_X8_84 rfl dX8_bitsMoreWith_72 ?_
  refine V_iload_n hC dX8_bitsMoreWith_75 rfl 2 rfl ?_
  refine V_isub hC dX8_bitsMoreWith_76 (by omega) ?_
  subst hQ
  exact V_iret hC hr hlk rfl (by decide) (by decide) dX8_bitsMoreWith_77 ((g2_3, cf2_2)) [0, 1, 2, 3, 4, 5, 6, 7, 8, 9] rfl (by decide) (⟨rfl, trivial⟩)
abbrev rm_X8_bitsMoreWith_add : Room := { frames := 5, cells := 0, slots := 0, locals := 117 }
set_option maxHeartbeats 4000000 in
set_option maxRecDepth 100000 in
theorem c_X8_bitsMoreWith_add (l : Launch) (D : va_G) (cI cQ : ClassId) (o me kc tc rd tx tb hi ml tco tcr tsp tbi tbr tcs tz tw tT tH tp tb2 tl tu tn n e p b k : Nat) (g tF tg tcf : Nat → Nat) (hn : n ≤ 40) (hg : ∀ j, j < n → g j < 8) (hp : p ≤ 64) (hb : b ≤ 2000) (hk : k < 8) (hz : n < 40) : MI l yX8_bitsMoreWith cX8_bitsMoreWith 3 (some .int) rm_X8_bitsMoreWith_add D (TY cI cQ) [.ref o, .int (nI k)] [(o, .inr (8, [.ref me, .ref kc, .ref tc, .ref rd, .ref tx, .ref tb, .ref hi])), (me, .inr (4, [.ref ml, .int (nI n), .int (nI e), .int (nI p), .int (nI b)])), (ml, .inl (cI, 40, .inl (fun j => nI (g j)))), (tc, .inr (1, [.ref tco, .ref tsp, .ref tbi, .ref tcs, .int (nI tz), .int (nI tw)])), (tco, .inr (2, [.ref tcr, .int (nI tT), .int (nI tH), .int (nI tp), .int (nI tb2)])), (tcr, .inl (cI, 9, .inl (fun j => nI (tF j)))), (tsp, .inr (6, [.int (nI tl), .int (nI tu)])), (tbi, .inr (0, [.ref tbr, .int (nI tn)])), (tbr, .inl (cI, 658, .inl (fun j => nI (tg j)))), (tcs, .inl (cI, 40, .inl (fun j => nI (tcf j))))] (fun (r9 : Int32) (u : (Nat → Nat) × (Nat → Nat)) => r9 = (nI ((sB (cAdd p b (cR p b g n) k)).length - (sB (cR p b g n)).length)) ∧ (True)) (fun (u : (Nat → Nat) × (Nat → Nat)) => [(o, .inr (8, [.ref me, .ref kc, .ref tc, .ref rd, .ref tx, .ref tb, .ref hi])), (me, .inr (4, [.ref ml, .int (nI n), .int (nI e), .int (nI p), .int (nI b)])), (ml, .inl (cI, 40, .inl (fun j => nI (g j)))), (tc, .inr (1, [.ref tco, .ref tsp, .ref tbi, .ref tcs, .int (nI (n + 1)), .int (nI (sW (cAdd p b (cR p b g n) k)))])), (tco, .inr (2, [.ref tcr, .int (nI (sT (cAdd p b (cR p b g n) k))), .int (nI (sH (cAdd p b (cR p b g n) k))), .int (nI p), .int (nI b)])), (tcr, .inl (cI, 9, .inl (fun j => nI ((sF (cAdd p b (cR p b g n) k)) j)))), (tsp, .inr (6, [.int (nI (sL (cAdd p b (cR p b g n) k))), .int (nI (sU (cAdd p b (cR p b g n) k)))])), (tbi, .inr (0, [.ref tbr, .int (nI ((sB (cAdd p b (cR p b g n) k)).length))])), (tbr, .inl (cI, 658, .inl (fun j => nI (u.1 j)))), (tcs, .inl (cI, 40, .inl (fun j => nI (u.2 j))))]) 0 0 := by
  refine MI.start (by decide) (Nat.le_of_ble_eq_true rfl) (lv0 := [(0, .ref o), (1, .int (nI k))]) rfl ?_
  intro pp9 ee9 ss9 mm9 args9 below9 meth9 co9 A9 Q9 hQ hC hr hlk hnm
  have hlen := cR_len p b g n
  have hle := cEnd_len (cR p b g n)
  refine V_aload_n hC dX8_bitsMoreWith_0 rfl 0 rfl ?_
  refine V_get (ci := 8) (v := .ref tc) hC in_X8 0 rfl cls_X8 2 (by decide) fl_X8_23 rfl dX8_bitsMoreWith_1 ?_
  refine V_aload_n hC dX8_bitsMoreWith_4 rfl 0 rfl ?_
  refine V_get (ci := 8) (v := .ref me) hC in_X8 0 rfl cls_X8 0 (by decide) fl_X8_12 rfl dX8_bitsMoreWith_5 ?_
  refine V_getN (ci := 4) (v := .int (nI p)) hC in_X4 1 rfl cls_X4 3 (by decide) fn_X8_102 rfl dX8_bitsMoreWith_8 ?_
  refine V_aload_n hC dX8_bitsMoreWith_11 rfl 0 rfl ?_
  refine V_get (ci := 8) (v := .ref me) hC in_X8 0 rfl cls_X8 0 (by decide) fl_X8_12 rfl dX8_bitsMoreWith_12 ?_
  refine V_getN (ci := 4) (v := .int (nI b)) hC in_X4 1 rfl cls_X4 4 (by decide) fn_X8_105 rfl dX8_bitsMoreWith_15 ?_
  refine V_callvV (As := [.int (nI p), .int (nI b)]) (rest := []) (wr := [(o, .inr (8, [.ref me, .ref kc, .ref tc, .ref rd, .ref tx, .ref tb, .ref hi])), (me, .inr (4, [.ref ml, .int (nI n), .int (nI e), .int (nI p), .int (nI b)])), (ml, .inl (cI, 40, .inl (fun j => nI (g j)))), (tbr, .inl (cI, 658, .inl (fun j => nI (tg j)))), (tcs, .inl (cI, 40, .inl (fun j => nI (tcf j))))]) hC (c_X1_start l D cI cQ tc tco tsp tbi tcs tz tw tcr tT tH tp tb2 tl tu tbr tn p b tF ) mok_X1_start ml_X8_195 (q1 := 0) rfl cls_X1 rfl rfl rfl (by decide) (by decide) (by decide) (Nat.le_of_ble_eq_true rfl) [3, 4, 5, 6, 7] [0, 1, 2, 8, 9] rfl (by decide) rfl (by decide) (by decide) dX8_bitsMoreWith_18 rfl (fun u9 h18 => ?_)
  clear h18
  refine V_perm (ws2 := [(o, .inr (8, [.ref me, .ref kc, .ref tc, .ref rd, .ref tx, .ref tb, .ref hi])), (me, .inr (4, [.ref ml, .int (nI n), .int (nI e), .int (nI p), .int (nI b)])), (ml, .inl (cI, 40, .inl (fun j => nI (g j)))), (tc, .inr (1, [.ref tco, .ref tsp, .ref tbi, .ref tcs, .int (nI 0), .int (nI 0)])), (tco, .inr (2, [.ref tcr, .int (nI 9), .int (nI 0), .int (nI p), .int (nI b)])), (tcr, .inl (cI, 9, .inl (fun j => nI (one j)))), (tsp, .inr (6, [.int (nI 0), .int (nI 65535)])), (tbi, .inr (0, [.ref tbr, .int (nI 0)])), (tbr, .inl (cI, 658, .inl (fun j => nI (tg j)))), (tcs, .inl (cI, 40, .inl (fun j => nI (tcf j))))]) [0, 1, 2, 5, 6, 7, 8, 9, 3, 4] rfl (by decide) ?_
  refine V_aload_n hC dX8_bitsMoreWith_21 rfl 0 rfl ?_
  refine V_get (ci := 8) (v := .ref tc) hC in_X8 0 rfl cls_X8 2 (by decide) fl_X8_23 rfl dX8_bitsMoreWith_22 ?_
  refine V_aload_n hC dX8_bitsMoreWith_25 rfl 0 rfl ?_
  refine V_get (ci := 8) (v := .ref me) hC in_X8 0 rfl cls_X8 0 (by decide) fl_X8_12 rfl dX8_bitsMoreWith_26 ?_
  refine V_callvV (As := [.ref me]) (rest := []) (wr := [(o, .inr (8, [.ref me, .ref kc, .ref tc, .ref rd, .ref tx, .ref tb, .ref hi]))]) hC (c_X1_addAll l D cI cQ tc tco tsp tbi tcs tcr tbr p b me ml n e p b tg tcf g (hn) (hg) (hp) (hb)) mok_X1_addAll ml_X8_198 (q1 := 0) rfl cls_X1 rfl rfl rfl (by decide) (by decide) (by decide) (Nat.le_of_ble_eq_true rfl) [3, 4, 5, 6, 7, 8, 9, 1, 2] [0] rfl (by decide) rfl (by decide) (by decide) dX8_bitsMoreWith_29 rfl (fun u9 h29 => ?_)
  obtain ⟨g2_1, cf2_2⟩ := u9
  have h29 : rep g2_1 (sB (cR p b g n)) ∧ ∀ j, j < n → cf2_2 j = cost p b g j := h29
  refine V_perm (ws2 := [(o, .inr (8, [.ref me, .ref kc, .ref tc, .ref rd, .ref tx, .ref tb, .ref hi])), (me, .inr (4, [.ref ml, .int (nI n), .int (nI e), .int (nI p), .int (nI b)])), (ml, .inl (cI, 40, .inl (fun j => nI (g j)))), (tc, .inr (1, [.ref tco, .ref tsp, .ref tbi, .ref tcs, .int (nI n), .int (nI (sW (cR p b g n)))])), (tco, .inr (2, [.ref tcr, .int (nI (sT (cR p b g n))), .int (nI (sH (cR p b g n))), .int (nI p), .int (nI b)])), (tcr, .inl (cI, 9, .inl (fun j => nI ((sF (cR p b g n)) j)))), (tsp, .inr (6, [.int (nI (sL (cR p b g n))), .int (nI (sU (cR p b g n)))])), (tbi, .inr (0, [.ref tbr, .int (nI ((sB (cR p b g n)).length))])), (tbr, .inl (cI, 658, .inl (fun j => nI (g2_1 j)))), (tcs, .inl (cI, 40, .inl (fun j => nI (cf2_2 j))))]) [0, 8, 9, 1, 2, 3, 4, 5, 6, 7] rfl (by decide) ?_
  refine V_iload_n hC dX8_bitsMoreWith_32 rfl 1 rfl ?_
  refine V_bipush (v := nI 8) hC dX8_bitsMoreWith_33 (by decide) ?_
  refine V_icmp_eq_F (tgt := 47) hC dX8_bitsMoreWith_35 (by decide) (fun z => absurd ((nI_eq (by omega) (by omega)).mp z) (show ¬ k = 8 by omega)) ?_
  refine V_aload_n hC dX8_bitsMoreWith_38 rfl 0 rfl ?_
  refine V_get (ci := 8) (v := .ref tc) hC in_X8 0 rfl cls_X8 2 (by decide) fl_X8_23 rfl dX8_bitsMoreWith_39 ?_
  refine V_iload_n hC dX8_bitsMoreWith_42 rfl 1 rfl ?_
  refine V_calliV (As := [.int (nI k)]) (rest := []) (wr := [(o, .inr (8, [.ref me, .ref kc, .ref tc, .ref rd, .ref tx, .ref tb, .ref hi])), (me, .inr (4, [.ref ml, .int (nI n), .int (nI e), .int (nI p), .int (nI b)])), (ml, .inl (cI, 40, .inl (fun j => nI (g j))))]) hC (c_X1_add l D cI cQ tc tco tsp tbi tcs n tcr tbr p b k (cR p b g n) g2_1 cf2_2 (by omega) (cR_ok hp hb hg) (hp) (hb) (h29.1) (by omega) (by omega)) mok_X1_add ml_X8_74 (q1 := 0) rfl cls_X1 rfl rfl rfl (by decide) (by decide) (by decide) (Nat.le_of_ble_eq_true rfl) [3, 4, 5, 6, 7, 8, 9] [0, 1, 2] rfl (by decide) rfl (by decide) (by decide) dX8_bitsMoreWith_43 rfl (fun r9 u9 h43 => ?_)
  obtain ⟨g2_3, rfl⟩ : ∃ z, z = u9 := ⟨_, rfl⟩
  obtain ⟨rfl, h43⟩ := h43
  have h43 : rep g2_3 (sB (cAdd p b (cR p b g n) k)) := h43
  refine V_perm (ws2 := [(o, .inr (8, [.ref me, .ref kc, .ref tc, .ref rd, .ref tx, .ref tb, .ref hi])), (me, .inr (4, [.ref ml, .int (nI n), .int (nI e), .int (nI p), .int (nI b)])), (ml, .inl (cI, 40, .inl (fun j => nI (g j)))), (tc, .inr (1, [.ref tco, .ref tsp, .ref tbi, .ref tcs, .int (nI (n + 1)), .int (nI (sW (cAdd p b (cR p b g n) k)))])), (tco, .inr (2, [.ref tcr, .int (nI (sT (cAdd p b (cR p b g n) k))), .int (nI (sH (cAdd p b (cR p b g n) k))), .int (nI p), .int (nI b)])), (tcr, .inl (cI, 9, .inl (fun j => nI ((sF (cAdd p b (cR p b g n) k)) j)))), (tsp, .inr (6, [.int (nI (sL (cAdd p b (cR p b g n) k))), .int (nI (sU (cAdd p b (cR p b g n) k)))])), (tbi, .inr (0, [.ref tbr, .int (nI ((sB (cAdd p b (cR p b g n) k)).length))])), (tbr, .inl (cI, 658, .inl (fun j => nI (g2_3 j)))), (tcs, .inl (cI, 40, .inl (fun j => nI ((va_up cf2_2 n ((sB (cAdd p b (cR p b g n) k)).length - (sB (cR p b g n)).length)) j))))]) [0, 1, 2, 3, 4, 5, 6, 7, 8, 9] rfl (by decide) ?_
  subst hQ
  exact V_iret hC hr hlk rfl (by decide) (by decide) dX8_bitsMoreWith_46 ((g2_3, va_up cf2_2 n ((sB (cAdd p b (cR p b g n) k)).length - (sB (cR p b g n)).length))) [0, 1, 2, 3, 4, 5, 6, 7, 8, 9] rfl (by decide) (⟨rfl, trivial⟩)
abbrev rm_X8_bitsMoreWith_full : Room := { frames := 5, cells := 0, slots := 0, locals := 117 }
set_option maxHeartbeats 4000000 in
set_option maxRecDepth 100000 in
theorem c_X8_bitsMoreWith_full (l : Launch) (D : va_G) (cI cQ : ClassId) (o me kc tc rd tx tb hi ml tco tcr tsp tbi tbr tcs tz tw tT tH tp tb2 tl tu tn n e p b k : Nat) (g tF tg tcf : Nat → Nat) (hn : n ≤ 40) (hg : ∀ j, j < n → g j < 8) (hp : p ≤ 64) (hb : b ≤ 2000) (hk : k < 8) (hz : 40 ≤ n) : MI l yX8_bitsMoreWith cX8_bitsMoreWith 3 (some .int) rm_X8_bitsMoreWith_full D (TY cI cQ) [.ref o, .int (nI k)] [(o, .inr (8, [.ref me, .ref kc, .ref tc, .ref rd, .ref tx, .ref tb, .ref hi])), (me, .inr (4, [.ref ml, .int (nI n), .int (nI e), .int (nI p), .int (nI b)])), (ml, .inl (cI, 40, .inl (fun j => nI (g j)))), (tc, .inr (1, [.ref tco, .ref tsp, .ref tbi, .ref tcs, .int (nI tz), .int (nI tw)])), (tco, .inr (2, [.ref tcr, .int (nI tT), .int (nI tH), .int (nI tp), .int (nI tb2)])), (tcr, .inl (cI, 9, .inl (fun j => nI (tF j)))), (tsp, .inr (6, [.int (nI tl), .int (nI tu)])), (tbi, .inr (0, [.ref tbr, .int (nI tn)])), (tbr, .inl (cI, 658, .inl (fun j => nI (tg j)))), (tcs, .inl (cI, 40, .inl (fun j => nI (tcf j))))] (fun (r9 : Int32) (u : (Nat → Nat) × (Nat → Nat)) => r9 = (nI ((sB (cAdd p b (cR p b g n) k)).length - (sB (cR p b g n)).length)) ∧ (True)) (fun (u : (Nat → Nat) × (Nat → Nat)) => [(o, .inr (8, [.ref me, .ref kc, .ref tc, .ref rd, .ref tx, .ref tb, .ref hi])), (me, .inr (4, [.ref ml, .int (nI n), .int (nI e), .int (nI p), .int (nI b)])), (ml, .inl (cI, 40, .inl (fun j => nI (g j)))), (tc, .inr (1, [.ref tco, .ref tsp, .ref tbi, .ref tcs, .int (nI n), .int (nI (sW (cAdd p b (cR p b g n) k)))])), (tco, .inr (2, [.ref tcr, .int (nI (sT (cAdd p b (cR p b g n) k))), .int (nI (sH (cAdd p b (cR p b g n) k))), .int (nI p), .int (nI b)])), (tcr, .inl (cI, 9, .inl (fun j => nI ((sF (cAdd p b (cR p b g n) k)) j)))), (tsp, .inr (6, [.int (nI (sL (cAdd p b (cR p b g n) k))), .int (nI (sU (cAdd p b (cR p b g n) k)))])), (tbi, .inr (0, [.ref tbr, .int (nI ((sB (cAdd p b (cR p b g n) k)).length))])), (tbr, .inl (cI, 658, .inl (fun j => nI (u.1 j)))), (tcs, .inl (cI, 40, .inl (fun j => nI (u.2 j))))]) 0 0 := by
  refine MI.start (by decide) (Nat.le_of_ble_eq_true rfl) (lv0 := [(0, .ref o), (1, .int (nI k))]) rfl ?_
  intro pp9 ee9 ss9 mm9 args9 below9 meth9 co9 A9 Q9 hQ hC hr hlk hnm
  have hlen := cR_len p b g n
  have hle := cEnd_len (cR p b g n)
  refine V_aload_n hC dX8_bitsMoreWith_0 rfl 0 rfl ?_
  refine V_get (ci := 8) (v := .ref tc) hC in_X8 0 rfl cls_X8 2 (by decide) fl_X8_23 rfl dX8_bitsMoreWith_1 ?_
  refine V_aload_n hC dX8_bitsMoreWith_4 rfl 0 rfl ?_
  refine V_get (ci := 8) (v := .ref me) hC in_X8 0 rfl cls_X8 0 (by decide) fl_X8_12 rfl dX8_bitsMoreWith_5 ?_
  refine V_getN (ci := 4) (v := .int (nI p)) hC in_X4 1 rfl cls_X4 3 (by decide) fn_X8_102 rfl dX8_bitsMoreWith_8 ?_
  refine V_aload_n hC dX8_bitsMoreWith_11 rfl 0 rfl ?_
  refine V_get (ci := 8) (v := .ref me) hC in_X8 0 rfl cls_X8 0 (by decide) fl_X8_12 rfl dX8_bitsMoreWith_12 ?_
  refine V_getN (ci := 4) (v := .int (nI b)) hC in_X4 1 rfl cls_X4 4 (by decide) fn_X8_105 rfl dX8_bitsMoreWith_15 ?_
  refine V_callvV (As := [.int (nI p), .int (nI b)]) (rest := []) (wr := [(o, .inr (8, [.ref me, .ref kc, .ref tc, .ref rd, .ref tx, .ref tb, .ref hi])), (me, .inr (4, [.ref ml, .int (nI n), .int (nI e), .int (nI p), .int (nI b)])), (ml, .inl (cI, 40, .inl (fun j => nI (g j)))), (tbr, .inl (cI, 658, .inl (fun j => nI (tg j)))), (tcs, .inl (cI, 40, .inl (fun j => nI (tcf j))))]) hC (c_X1_start l D cI cQ tc tco tsp tbi tcs tz tw tcr tT tH tp tb2 tl tu tbr tn p b tF ) mok_X1_start ml_X8_195 (q1 := 0) rfl cls_X1 rfl rfl rfl (by decide) (by decide) (by decide) (Nat.le_of_ble_eq_true rfl) [3, 4, 5, 6, 7] [0, 1, 2, 8, 9] rfl (by decide) rfl (by decide) (by decide) dX8_bitsMoreWith_18 rfl (fun u9 h18 => ?_)
  clear h18
  refine V_perm (ws2 := [(o, .inr (8, [.ref me, .ref kc, .ref tc, .ref rd, .ref tx, .ref tb, .ref hi])), (me, .inr (4, [.ref ml, .int (nI n), .int (nI e), .int (nI p), .int (nI b)])), (ml, .inl (cI, 40, .inl (fun j => nI (g j)))), (tc, .inr (1, [.ref tco, .ref tsp, .ref tbi, .ref tcs, .int (nI 0), .int (nI 0)])), (tco, .inr (2, [.ref tcr, .int (nI 9), .int (nI 0), .int (nI p), .int (nI b)])), (tcr, .inl (cI, 9, .inl (fun j => nI (one j)))), (tsp, .inr (6, [.int (nI 0), .int (nI 65535)])), (tbi, .inr (0, [.ref tbr, .int (nI 0)])), (tbr, .inl (cI, 658, .inl (fun j => nI (tg j)))), (tcs, .inl (cI, 40, .inl (fun j => nI (tcf j))))]) [0, 1, 2, 5, 6, 7, 8, 9, 3, 4] rfl (by decide) ?_
  refine V_aload_n hC dX8_bitsMoreWith_21 rfl 0 rfl ?_
  refine V_get (ci := 8) (v := .ref tc) hC in_X8 0 rfl cls_X8 2 (by decide) fl_X8_23 rfl dX8_bitsMoreWith_22 ?_
  refine V_aload_n hC dX8_bitsMoreWith_25 rfl 0 rfl ?_
  refine V_get (ci := 8) (v := .ref me) hC in_X8 0 rfl cls_X8 0 (by decide) fl_X8_12 rfl dX8_bitsMoreWith_26 ?_
  refine V_callvV (As := [.ref me]) (rest := []) (wr := [(o, .inr (8, [.ref me, .ref kc, .ref tc, .ref rd, .ref tx, .ref tb, .ref hi]))]) hC (c_X1_addAll l D cI cQ tc tco tsp tbi tcs tcr tbr p b me ml n e p b tg tcf g (hn) (hg) (hp) (hb)) mok_X1_addAll ml_X8_198 (q1 := 0) rfl cls_X1 rfl rfl rfl (by decide) (by decide) (by decide) (Nat.le_of_ble_eq_true rfl) [3, 4, 5, 6, 7, 8, 9, 1, 2] [0] rfl (by decide) rfl (by decide) (by decide) dX8_bitsMoreWith_29 rfl (fun u9 h29 => ?_)
  obtain ⟨g2_1, cf2_2⟩ := u9
  have h29 : rep g2_1 (sB (cR p b g n)) ∧ ∀ j, j < n → cf2_2 j = cost p b g j := h29
  refine V_perm (ws2 := [(o, .inr (8, [.ref me, .ref kc, .ref tc, .ref rd, .ref tx, .ref tb, .ref hi])), (me, .inr (4, [.ref ml, .int (nI n), .int (nI e), .int (nI p), .int (nI b)])), (ml, .inl (cI, 40, .inl (fun j => nI (g j)))), (tc, .inr (1, [.ref tco, .ref tsp, .ref tbi, .ref tcs, .int (nI n), .int (nI (sW (cR p b g n)))])), (tco, .inr (2, [.ref tcr, .int (nI (sT (cR p b g n))), .int (nI (sH (cR p b g n))), .int (nI p), .int (nI b)])), (tcr, .inl (cI, 9, .inl (fun j => nI ((sF (cR p b g n)) j)))), (tsp, .inr (6, [.int (nI (sL (cR p b g n))), .int (nI (sU (cR p b g n)))])), (tbi, .inr (0, [.ref tbr, .int (nI ((sB (cR p b g n)).length))])), (tbr, .inl (cI, 658, .inl (fun j => nI (g2_1 j)))), (tcs, .inl (cI, 40, .inl (fun j => nI (cf2_2 j))))]) [0, 8, 9, 1, 2, 3, 4, 5, 6, 7] rfl (by decide) ?_
  refine V_iload_n hC dX8_bitsMoreWith_32 rfl 1 rfl ?_
  refine V_bipush (v := nI 8) hC dX8_bitsMoreWith_33 (by decide) ?_
  refine V_icmp_eq_F (tgt := 47) hC dX8_bitsMoreWith_35 (by decide) (fun z => absurd ((nI_eq (by omega) (by omega)).mp z) (show ¬ k = 8 by omega)) ?_
  refine V_aload_n hC dX8_bitsMoreWith_38 rfl 0 rfl ?_
  refine V_get (ci := 8) (v := .ref tc) hC in_X8 0 rfl cls_X8 2 (by decide) fl_X8_23 rfl dX8_bitsMoreWith_39 ?_
  refine V_iload_n hC dX8_bitsMoreWith_42 rfl 1 rfl ?_
  refine V_calliV (As := [.int (nI k)]) (rest := []) (wr := [(o, .inr (8, [.ref me, .ref kc, .ref tc, .ref rd, .ref tx, .ref tb, .ref hi])), (me, .inr (4, [.ref ml, .int (nI n), .int (nI e), .int (nI p), .int (nI b)])), (ml, .inl (cI, 40, .inl (fun j => nI (g j))))]) hC (c_X1_add_full l D cI cQ tc tco tsp tbi tcs n tcr tbr p b k (cR p b g n) g2_1 cf2_2 (by omega) (cR_ok hp hb hg) (hp) (hb) (h29.1) (by omega) (by omega)) mok_X1_add ml_X8_74 (q1 := 0) rfl cls_X1 rfl rfl rfl (by decide) (by decide) (by decide) (Nat.le_of_ble_eq_true rfl) [3, 4, 5, 6, 7, 8, 9] [0, 1, 2] rfl (by decide) rfl (by decide) (by decide) dX8_bitsMoreWith_43 rfl (fun r9 u9 h43 => ?_)
  obtain ⟨g2_3, rfl⟩ : ∃ z, z = u9 := ⟨_, rfl⟩
  obtain ⟨rfl, h43⟩ := h43
  have h43 : rep g2_3 (sB (cAdd p b (cR p b g n) k)) := h43
  refine V_perm (ws2 := [(o, .inr (8, [.ref me, .ref kc, .ref tc, .ref rd, .ref tx, .ref tb, .ref hi])), (me, .inr (4, [.ref ml, .int (nI n), .int (nI e), .int (nI p), .int (nI b)])), (ml, .inl (cI, 40, .inl (fun j => nI (g j)))), (tc, .inr (1, [.ref tco, .ref tsp, .ref tbi, .ref tcs, .int (nI n), .int (nI (sW (cAdd p b (cR p b g n) k)))])), (tco, .inr (2, [.ref tcr, .int (nI (sT (cAdd p b (cR p b g n) k))), .int (nI (sH (cAdd p b (cR p b g n) k))), .int (nI p), .int (nI b)])), (tcr, .inl (cI, 9, .inl (fun j => nI ((sF (cAdd p b (cR p b g n) k)) j)))), (tsp, .inr (6, [.int (nI (sL (cAdd p b (cR p b g n) k))), .int (nI (sU (cAdd p b (cR p b g n) k)))])), (tbi, .inr (0, [.ref tbr, .int (nI ((sB (cAdd p b (cR p b g n) k)).length))])), (tbr, .inl (cI, 658, .inl (fun j => nI (g2_3 j)))), (tcs, .inl (cI, 40, .inl (fun j => nI (cf2_2 j))))]) [0, 1, 2, 3, 4, 5, 6, 7, 8, 9] rfl (by decide) ?_
  subst hQ
  exact V_iret hC hr hlk rfl (by decide) (by decide) dX8_bitsMoreWith_46 ((g2_3, cf2_2)) [0, 1, 2, 3, 4, 5, 6, 7, 8, 9] rfl (by decide) (⟨rfl, trivial⟩)
abbrev rm_X8_alikeFromFirst : Room := { frames := 1, cells := 0, slots := 0, locals := 21 }
set_option maxHeartbeats 4000000 in
set_option maxRecDepth 100000 in
theorem c_X8_alikeFromFirst (l : Launch) (D : va_G) (cI cQ : ClassId) (o me kc tc rd tx tb hi ml rco rcr rsp rle rz rv rk ro n e p b : Nat) (g rlf : Nat → Nat) (hn : n ≤ 40) (hz : rz ≤ 40) (hg : ∀ j, j < n → g j < 100) (hr9 : ∀ j, j < rz → rlf j < 100) : MI l yX8_alikeFromFirst cX8_alikeFromFirst 3 (some .int) rm_X8_alikeFromFirst D (TY cI cQ) [.ref o] [(o, .inr (8, [.ref me, .ref kc, .ref tc, .ref rd, .ref tx, .ref tb, .ref hi])), (me, .inr (4, [.ref ml, .int (nI n), .int (nI e), .int (nI p), .int (nI b)])), (ml, .inl (cI, 40, .inl (fun j => nI (g j)))), (rd, .inr (5, [.ref rco, .ref rsp, .ref rle, .int (nI rz), .int (nI rv), .int (nI rk), .int (nI ro)])), (rle, .inl (cI, 40, .inl (fun j => nI (rlf j))))] (fun (r9 : Int32) (u : Unit) => r9 = (nI (al rlf g (min rz n))) ∧ (True)) (fun (u : Unit) => [(o, .inr (8, [.ref me, .ref kc, .ref tc, .ref rd, .ref tx, .ref tb, .ref hi])), (me, .inr (4, [.ref ml, .int (nI n), .int (nI e), .int (nI p), .int (nI b)])), (ml, .inl (cI, 40, .inl (fun j => nI (g j)))), (rd, .inr (5, [.ref rco, .ref rsp, .ref rle, .int (nI rz), .int (nI rv), .int (nI rk), .int (nI ro)])), (rle, .inl (cI, 40, .inl (fun j => nI (rlf j))))]) 0 0 := by
  refine MI.start (by decide) (Nat.le_of_ble_eq_true rfl) (lv0 := [(0, .ref o)]) rfl ?_
  intro pp9 ee9 ss9 mm9 args9 below9 meth9 co9 A9 Q9 hQ hC hr hlk hnm
  refine V_aload_n hC dX8_alikeFromFirst_0 rfl 0 rfl ?_
  refine V_get (ci := 8) (v := .ref rd) hC in_X8 0 rfl cls_X8 3 (by decide) fl_X8_29 rfl dX8_alikeFromFirst_1 ?_
  refine V_getN (ci := 5) (v := .int (nI rz)) hC in_X5 3 rfl cls_X5 3 (by decide) fn_X8_172 rfl dX8_alikeFromFirst_4 ?_
  refine V_aload_n hC dX8_alikeFromFirst_7 rfl 0 rfl ?_
  refine V_get (ci := 8) (v := .ref me) hC in_X8 0 rfl cls_X8 0 (by decide) fl_X8_12 rfl dX8_alikeFromFirst_8 ?_
  refine V_getN (ci := 4) (v := .int (nI n)) hC in_X4 1 rfl cls_X4 1 (by decide) fn_X8_62 rfl dX8_alikeFromFirst_11 ?_
  refine V_mmin hC ml_X8_201 stt_min ini_Math cd_min (by omega) (by omega) (by decide) (Nat.le_of_ble_eq_true rfl) (by decide) (by decide) dX8_alikeFromFirst_14 ?_
  refine V_istore_n (lv2 := [(0, .ref o), (1, .int (nI (min rz n)))]) hC dX8_alikeFromFirst_17 rfl (by decide) [1, 0] rfl ?_
  refine V_iconst (v := nI 0) hC dX8_alikeFromFirst_18 (by decide) ?_
  refine V_istore_n (lv2 := [(0, .ref o), (1, .int (nI (min rz n))), (2, .int (nI 0))]) hC dX8_alikeFromFirst_19 rfl (by decide) [1, 2, 0] rfl ?_
  have L20 : ∀ (n9 : Nat) (i : Nat), (i ≤ min rz n) → (alA rlf g (min rz n - i) i = al rlf g (min rz n)) → min rz n - i < n9 → V pp9 l ee9 rm_X8_alikeFromFirst ss9 mm9 args9 below9 meth9 co9 D A9 ss9.heap 3 Q9 [(o, .inr (8, [.ref me, .ref kc, .ref tc, .ref rd, .ref tx, .ref tb, .ref hi])), (me, .inr (4, [.ref ml, .int (nI n), .int (nI e), .int (nI p), .int (nI b)])), (ml, .inl (cI, 40, .inl (fun j => nI (g j)))), (rd, .inr (5, [.ref rco, .ref rsp, .ref rle, .int (nI rz), .int (nI rv), .int (nI rk), .int (nI ro)])), (rle, .inl (cI, 40, .inl (fun j => nI (rlf j))))] [(0, .ref o), (1, .int (nI (min rz n))), (2, .int (nI i))] 0 0 20 [] := by
    intro n9
    induction n9 with
    | zero => intro i h1 h2 h9; exact absurd h9 (Nat.not_lt_zero _)
    | succ n9 ih =>
      intro i h1 h2 h9
      refine V_iload_n hC dX8_alikeFromFirst_20 rfl 2 rfl ?_
      refine V_iload_n hC dX8_alikeFromFirst_21 rfl 1 rfl ?_
      refine V_icmp_ge (tgt := 52) hC (by omega) (by omega) dX8_alikeFromFirst_22 (by decide) (fun c22 => ?_) (fun c22 => ?_)
      · refine V_iload_n hC dX8_alikeFromFirst_52 rfl 1 rfl ?_
        subst hQ
        exact V_iret hC hr hlk rfl (by decide) (by decide) dX8_alikeFromFirst_53 (()) [0, 1, 2, 3, 4] rfl (by decide) (⟨by rw [← h2, show i = min rz n by omega, Nat.sub_self, alA], trivial⟩)
      · refine V_aload_n hC dX8_alikeFromFirst_25 rfl 0 rfl ?_
        refine V_get (ci := 8) (v := .ref rd) hC in_X8 0 rfl cls_X8 3 (by decide) fl_X8_29 rfl dX8_alikeFromFirst_26 ?_
        refine V_iload_n hC dX8_alikeFromFirst_29 rfl 2 rfl ?_
        refine V_calliV (As := [.int (nI i)]) (rest := []) (wr := [(o, .inr (8, [.ref me, .ref kc, .ref tc, .ref rd, .ref tx, .ref tb, .ref hi])), (me, .inr (4, [.ref ml, .int (nI n), .int (nI e), .int (nI p), .int (nI b)])), (ml, .inl (cI, 40, .inl (fun j => nI (g j))))]) hC (c_X5_letterAt l D cI cQ rd rco rsp rle rz rv rk ro i rlf (by omega)) mok_X5_letterAt ml_X8_194 (q1 := 0) rfl cls_X5 rfl rfl rfl (by decide) (by decide) (by decide) (Nat.le_of_ble_eq_true rfl) [3, 4] [0, 1, 2] rfl (by decide) rfl (by decide) (by decide) dX8_alikeFromFirst_30 rfl (fun r9 u9 h30 => ?_)
        obtain ⟨rfl, h30⟩ := h30
        clear h30
        refine V_perm (ws2 := [(o, .inr (8, [.ref me, .ref kc, .ref tc, .ref rd, .ref tx, .ref tb, .ref hi])), (me, .inr (4, [.ref ml, .int (nI n), .int (nI e), .int (nI p), .int (nI b)])), (ml, .inl (cI, 40, .inl (fun j => nI (g j)))), (rd, .inr (5, [.ref rco, .ref rsp, .ref rle, .int (nI rz), .int (nI rv), .int (nI rk), .int (nI ro)])), (rle, .inl (cI, 40, .inl (fun j => nI (rlf j))))]) [0, 1, 2, 3, 4] rfl (by decide) ?_
        refine V_aload_n hC dX8_alikeFromFirst_33 rfl 0 rfl ?_
        refine V_get (ci := 8) (v := .ref me) hC in_X8 0 rfl cls_X8 0 (by decide) fl_X8_12 rfl dX8_alikeFromFirst_34 ?_
        refine V_iload_n hC dX8_alikeFromFirst_37 rfl 2 rfl ?_
        refine V_calliV (As := [.int (nI i)]) (rest := [.int (nI (rlf i))]) (wr := [(o, .inr (8, [.ref me, .ref kc, .ref tc, .ref rd, .ref tx, .ref tb, .ref hi])), (rd, .inr (5, [.ref rco, .ref rsp, .ref rle, .int (nI rz), .int (nI rv), .int (nI rk), .int (nI ro)])), (rle, .inl (cI, 40, .inl (fun j => nI (rlf j))))]) hC (c_X4_letterAt l D cI cQ me ml n e p b i g (by omega)) mok_X4_letterAt ml_X8_108 (q1 := 0) rfl cls_X4 rfl rfl rfl (by decide) (by decide) (by decide) (Nat.le_of_ble_eq_true rfl) [1, 2] [0, 3, 4] rfl (by decide) rfl (by decide) (by decide) dX8_alikeFromFirst_38 rfl (fun r9 u9 h38 => ?_)
        obtain ⟨rfl, h38⟩ := h38
        clear h38
        refine V_perm (ws2 := [(o, .inr (8, [.ref me, .ref kc, .ref tc, .ref rd, .ref tx, .ref tb, .ref hi])), (me, .inr (4, [.ref ml, .int (nI n), .int (nI e), .int (nI p), .int (nI b)])), (ml, .inl (cI, 40, .inl (fun j => nI (g j)))), (rd, .inr (5, [.ref rco, .ref rsp, .ref rle, .int (nI rz), .int (nI rv), .int (nI rk), .int (nI ro)])), (rle, .inl (cI, 40, .inl (fun j => nI (rlf j))))]) [0, 3, 4, 1, 2] rfl (by decide) ?_
        have hg1 := hg i (by omega)
        have hr1 := hr9 i (by omega)
        refine V_icmp_eq (tgt := 46) hC (by omega) (by omega) dX8_alikeFromFirst_41 (by decide) (fun c41 => ?_) (fun c41 => ?_)
        · refine V_iinc (v := (nI (i + 1))) (lv2 := [(0, .ref o), (1, .int (nI (min rz n))), (2, .int (nI (i + 1)))]) (q := 2) hC dX8_alikeFromFirst_46 rfl (nI_add _ _) (by decide) [1, 2, 0] rfl ?_
          refine V_goto (tgt := 20) hC dX8_alikeFromFirst_49 (by decide) ?_
          exact ih (i + 1) (by omega) (by rw [← h2, show min rz n - i = (min rz n - (i + 1)) + 1 by omega, alA, if_pos c41]) (by omega)
        · refine V_iload_n hC dX8_alikeFromFirst_44 rfl 2 rfl ?_
          subst hQ
          exact V_iret hC hr hlk rfl (by decide) (by decide) dX8_alikeFromFirst_45 (()) [0, 1, 2, 3, 4] rfl (by decide) (⟨by rw [← h2, show min rz n - i = (min rz n - (i + 1)) + 1 by omega, alA, if_neg c41], trivial⟩)
  exact L20 _ 0 (by omega) (rfl) (Nat.lt_succ_self _)
abbrev rm_X8_faultReason_1 : Room := { frames := 1, cells := 0, slots := 0, locals := 21 }
set_option maxHeartbeats 4000000 in
set_option maxRecDepth 100000 in
theorem c_X8_faultReason_1 (l : Launch) (D : va_G) (cI cQ : ClassId) (o me kc tc rd tx tb hi ml rco rcr rsp rle txr tbw rz rv rk ro rT rH rp rb rl ru yn n e p b : Nat) (g rF rlf xf yg : Nat → Nat) (T : List Nat) (hT : rep xf T) (hT1 : T.length ≤ 120) (hT2 : ∀ j, j < T.length → T.getD j 0 < 1000) (hx : stT T < T.length) : MI l yX8_faultReason cX8_faultReason 1 (some .int) rm_X8_faultReason_1 D (TY cI cQ) [.ref o] [(o, .inr (8, [.ref me, .ref kc, .ref tc, .ref rd, .ref tx, .ref tb, .ref hi])), (me, .inr (4, [.ref ml, .int (nI n), .int (nI e), .int (nI p), .int (nI b)])), (ml, .inl (cI, 40, .inl (fun j => nI (g j)))), (rd, .inr (5, [.ref rco, .ref rsp, .ref rle, .int (nI rz), .int (nI rv), .int (nI rk), .int (nI ro)])), (rco, .inr (2, [.ref rcr, .int (nI rT), .int (nI rH), .int (nI rp), .int (nI rb)])), (rcr, .inl (cI, 9, .inl (fun j => nI (rF j)))), (rsp, .inr (6, [.int (nI rl), .int (nI ru)])), (rle, .inl (cI, 40, .inl (fun j => nI (rlf j)))), (tx, .inr (7, [.ref txr, .int (nI (T.length))])), (txr, .inl (cI, 120, .inl (fun j => nI (xf j)))), (tb, .inr (0, [.ref tbw, .int (nI yn)])), (tbw, .inl (cI, 658, .inl (fun j => nI (yg j))))] (fun (r9 : Int32) (u : Unit) => r9 = (nI 1) ∧ (True)) (fun (u : Unit) => [(o, .inr (8, [.ref me, .ref kc, .ref tc, .ref rd, .ref tx, .ref tb, .ref hi])), (me, .inr (4, [.ref ml, .int (nI n), .int (nI e), .int (nI p), .int (nI b)])), (ml, .inl (cI, 40, .inl (fun j => nI (g j)))), (rd, .inr (5, [.ref rco, .ref rsp, .ref rle, .int (nI rz), .int (nI rv), .int (nI rk), .int (nI ro)])), (rco, .inr (2, [.ref rcr, .int (nI rT), .int (nI rH), .int (nI rp), .int (nI rb)])), (rcr, .inl (cI, 9, .inl (fun j => nI (rF j)))), (rsp, .inr (6, [.int (nI rl), .int (nI ru)])), (rle, .inl (cI, 40, .inl (fun j => nI (rlf j)))), (tx, .inr (7, [.ref txr, .int (nI (T.length))])), (txr, .inl (cI, 120, .inl (fun j => nI (xf j)))), (tb, .inr (0, [.ref tbw, .int (nI yn)])), (tbw, .inl (cI, 658, .inl (fun j => nI (yg j))))]) 0 0 := by
  refine MI.start (by decide) (Nat.le_of_ble_eq_true rfl) (lv0 := [(0, .ref o)]) rfl ?_
  intro pp9 ee9 ss9 mm9 args9 below9 meth9 co9 A9 Q9 hQ hC hr hlk hnm
  have hstl : stT T ≤ T.length := st_le _ _
  have hxf : ∀ j, j < T.length → xf j < 1000 := fun j hj => by rw [hT j hj]; exact hT2 j hj
  have hst : st xf T.length = stT T := st_cong hT
  refine V_aload_n hC dX8_faultReason_0 rfl 0 rfl ?_
  refine V_get (ci := 8) (v := .ref tx) hC in_X8 0 rfl cls_X8 4 (by decide) fl_X8_36 rfl dX8_faultReason_1 ?_
  refine V_calliV (As := []) (rest := []) (wr := [(o, .inr (8, [.ref me, .ref kc, .ref tc, .ref rd, .ref tx, .ref tb, .ref hi])), (me, .inr (4, [.ref ml, .int (nI n), .int (nI e), .int (nI p), .int (nI b)])), (ml, .inl (cI, 40, .inl (fun j => nI (g j)))), (rd, .inr (5, [.ref rco, .ref rsp, .ref rle, .int (nI rz), .int (nI rv), .int (nI rk), .int (nI ro)])), (rco, .inr (2, [.ref rcr, .int (nI rT), .int (nI rH), .int (nI rp), .int (nI rb)])), (rcr, .inl (cI, 9, .inl (fun j => nI (rF j)))), (rsp, .inr (6, [.int (nI rl), .int (nI ru)])), (rle, .inl (cI, 40, .inl (fun j => nI (rlf j)))), (tb, .inr (0, [.ref tbw, .int (nI yn)])), (tbw, .inl (cI, 658, .inl (fun j => nI (yg j))))]) hC (c_X7_firstStrange l D cI cQ tx txr T.length xf (hT1) (hxf)) mok_X7_firstStrange ml_X8_207 (q1 := 0) rfl cls_X7 rfl rfl rfl (by decide) (by decide) (by decide) (Nat.le_of_ble_eq_true rfl) [8, 9] [0, 1, 2, 3, 4, 5, 6, 7, 10, 11] rfl (by decide) rfl (by decide) (by decide) dX8_faultReason_4 rfl (fun r9 u9 h4 => ?_)
  obtain ⟨rfl, h4⟩ := h4
  clear h4
  refine V_perm (ws2 := [(o, .inr (8, [.ref me, .ref kc, .ref tc, .ref rd, .ref tx, .ref tb, .ref hi])), (me, .inr (4, [.ref ml, .int (nI n), .int (nI e), .int (nI p), .int (nI b)])), (ml, .inl (cI, 40, .inl (fun j => nI (g j)))), (rd, .inr (5, [.ref rco, .ref rsp, .ref rle, .int (nI rz), .int (nI rv), .int (nI rk), .int (nI ro)])), (rco, .inr (2, [.ref rcr, .int (nI rT), .int (nI rH), .int (nI rp), .int (nI rb)])), (rcr, .inl (cI, 9, .inl (fun j => nI (rF j)))), (rsp, .inr (6, [.int (nI rl), .int (nI ru)])), (rle, .inl (cI, 40, .inl (fun j => nI (rlf j)))), (tx, .inr (7, [.ref txr, .int (nI (T.length))])), (txr, .inl (cI, 120, .inl (fun j => nI (xf j)))), (tb, .inr (0, [.ref tbw, .int (nI yn)])), (tbw, .inl (cI, 658, .inl (fun j => nI (yg j))))]) [0, 1, 2, 3, 4, 5, 6, 7, 10, 11, 8, 9] rfl (by decide) ?_
  refine V_st (st2 := [.int (nI (stT T))]) (by rw [show (st xf T.length) = (stT T) from hst]) ?_
  refine V_aload_n hC dX8_faultReason_7 rfl 0 rfl ?_
  refine V_get (ci := 8) (v := .ref tx) hC in_X8 0 rfl cls_X8 4 (by decide) fl_X8_36 rfl dX8_faultReason_8 ?_
  refine V_getN (ci := 7) (v := .int (nI (T.length))) hC in_X7 8 rfl cls_X7 1 (by decide) fn_X8_154 rfl dX8_faultReason_11 ?_
  refine V_icmp_ge_F (tgt := 19) hC dX8_faultReason_14 (by decide) (nI_ge (by omega) (by omega)) ?_
  refine V_iconst (v := nI 1) hC dX8_faultReason_17 (by decide) ?_
  subst hQ
  exact V_iret hC hr hlk rfl (by decide) (by decide) dX8_faultReason_18 (()) [0, 1, 2, 3, 4, 5, 6, 7, 8, 9, 10, 11] rfl (by decide) (⟨rfl, trivial⟩)
abbrev rm_X8_faultReason_n : Room := { frames := 5, cells := 0, slots := 0, locals := 119 }
set_option maxHeartbeats 4000000 in
set_option maxRecDepth 100000 in
theorem c_X8_faultReason_n (l : Launch) (D : va_G) (cI cQ : ClassId) (o me kc tc rd tx tb hi ml rco rcr rsp rle txr tbw rz rv rk ro rT rH rp rb rl ru yn n e p b : Nat) (g rF rlf xf yg : Nat → Nat) (T : List Nat) (hT : rep xf T) (hT1 : T.length ≤ 120) (hT2 : ∀ j, j < T.length → T.getD j 0 < 1000) (hx : T.length ≤ stT T) (hp : p ≤ 64) (hb : b ≤ 2000) : MI l yX8_faultReason cX8_faultReason 1 (some .int) rm_X8_faultReason_n D (TY cI cQ) [.ref o] [(o, .inr (8, [.ref me, .ref kc, .ref tc, .ref rd, .ref tx, .ref tb, .ref hi])), (me, .inr (4, [.ref ml, .int (nI n), .int (nI e), .int (nI p), .int (nI b)])), (ml, .inl (cI, 40, .inl (fun j => nI (g j)))), (rd, .inr (5, [.ref rco, .ref rsp, .ref rle, .int (nI rz), .int (nI rv), .int (nI rk), .int (nI ro)])), (rco, .inr (2, [.ref rcr, .int (nI rT), .int (nI rH), .int (nI rp), .int (nI rb)])), (rcr, .inl (cI, 9, .inl (fun j => nI (rF j)))), (rsp, .inr (6, [.int (nI rl), .int (nI ru)])), (rle, .inl (cI, 40, .inl (fun j => nI (rlf j)))), (tx, .inr (7, [.ref txr, .int (nI (T.length))])), (txr, .inl (cI, 120, .inl (fun j => nI (xf j)))), (tb, .inr (0, [.ref tbw, .int (nI yn)])), (tbw, .inl (cI, 658, .inl (fun j => nI (yg j))))] (fun (r9 : Int32) (u : (Nat → Nat) × (Nat → Nat)) => r9 = (nI (frn p b T)) ∧ (rep u.1 (qR (rdF p b (bT T)).2) ∧ ∀ j, j < T.length → u.2 j = bT T j)) (fun (u : (Nat → Nat) × (Nat → Nat)) => [(o, .inr (8, [.ref me, .ref kc, .ref tc, .ref rd, .ref tx, .ref tb, .ref hi])), (me, .inr (4, [.ref ml, .int (nI n), .int (nI e), .int (nI p), .int (nI b)])), (ml, .inl (cI, 40, .inl (fun j => nI (g j)))), (rd, .inr (5, [.ref rco, .ref rsp, .ref rle, .int (nI ((qR ((rdF p b (bT T)).2)).length)), .int (nI (qV ((rdF p b (bT T)).2))), .int (nI (qK ((rdF p b (bT T)).2))), .int (nI ((rdF p b (bT T)).1))])), (rco, .inr (2, [.ref rcr, .int (nI (qT ((rdF p b (bT T)).2))), .int (nI (qH ((rdF p b (bT T)).2))), .int (nI p), .int (nI b)])), (rcr, .inl (cI, 9, .inl (fun j => nI ((qF ((rdF p b (bT T)).2)) j)))), (rsp, .inr (6, [.int (nI (qL ((rdF p b (bT T)).2))), .int (nI (qU ((rdF p b (bT T)).2)))])), (rle, .inl (cI, 40, .inl (fun j => nI (u.1 j)))), (tx, .inr (7, [.ref txr, .int (nI (T.length))])), (txr, .inl (cI, 120, .inl (fun j => nI (xf j)))), (tb, .inr (0, [.ref tbw, .int (nI (T.length))])), (tbw, .inl (cI, 658, .inl (fun j => nI (u.2 j))))]) 0 0 := by
  refine MI.start (by decide) (Nat.le_of_ble_eq_true rfl) (lv0 := [(0, .ref o)]) rfl ?_
  intro pp9 ee9 ss9 mm9 args9 below9 meth9 co9 A9 Q9 hQ hC hr hlk hnm
  have hstl : stT T ≤ T.length := st_le _ _
  have hxf : ∀ j, j < T.length → xf j < 1000 := fun j hj => by rw [hT j hj]; exact hT2 j hj
  have hst : st xf T.length = stT T := st_cong hT
  refine V_aload_n hC dX8_faultReason_0 rfl 0 rfl ?_
  refine V_get (ci := 8) (v := .ref tx) hC in_X8 0 rfl cls_X8 4 (by decide) fl_X8_36 rfl dX8_faultReason_1 ?_
  refine V_calliV (As := []) (rest := []) (wr := [(o, .inr (8, [.ref me, .ref kc, .ref tc, .ref rd, .ref tx, .ref tb, .ref hi])), (me, .inr (4, [.ref ml, .int (nI n), .int (nI e), .int (nI p), .int (nI b)])), (ml, .inl (cI, 40, .inl (fun j => nI (g j)))), (rd, .inr (5, [.ref rco, .ref rsp, .ref rle, .int (nI rz), .int (nI rv), .int (nI rk), .int (nI ro)])), (rco, .inr (2, [.ref rcr, .int (nI rT), .int (nI rH), .int (nI rp), .int (nI rb)])), (rcr, .inl (cI, 9, .inl (fun j => nI (rF j)))), (rsp, .inr (6, [.int (nI rl), .int (nI ru)])), (rle, .inl (cI, 40, .inl (fun j => nI (rlf j)))), (tb, .inr (0, [.ref tbw, .int (nI yn)])), (tbw, .inl (cI, 658, .inl (fun j => nI (yg j))))]) hC (c_X7_firstStrange l D cI cQ tx txr T.length xf (hT1) (hxf)) mok_X7_firstStrange ml_X8_207 (q1 := 0) rfl cls_X7 rfl rfl rfl (by decide) (by decide) (by decide) (Nat.le_of_ble_eq_true rfl) [8, 9] [0, 1, 2, 3, 4, 5, 6, 7, 10, 11] rfl (by decide) rfl (by decide) (by decide) dX8_faultReason_4 rfl (fun r9 u9 h4 => ?_)
  obtain ⟨rfl, h4⟩ := h4
  clear h4
  refine V_perm (ws2 := [(o, .inr (8, [.ref me, .ref kc, .ref tc, .ref rd, .ref tx, .ref tb, .ref hi])), (me, .inr (4, [.ref ml, .int (nI n), .int (nI e), .int (nI p), .int (nI b)])), (ml, .inl (cI, 40, .inl (fun j => nI (g j)))), (rd, .inr (5, [.ref rco, .ref rsp, .ref rle, .int (nI rz), .int (nI rv), .int (nI rk), .int (nI ro)])), (rco, .inr (2, [.ref rcr, .int (nI rT), .int (nI rH), .int (nI rp), .int (nI rb)])), (rcr, .inl (cI, 9, .inl (fun j => nI (rF j)))), (rsp, .inr (6, [.int (nI rl), .int (nI ru)])), (rle, .inl (cI, 40, .inl (fun j => nI (rlf j)))), (tx, .inr (7, [.ref txr, .int (nI (T.length))])), (txr, .inl (cI, 120, .inl (fun j => nI (xf j)))), (tb, .inr (0, [.ref tbw, .int (nI yn)])), (tbw, .inl (cI, 658, .inl (fun j => nI (yg j))))]) [0, 1, 2, 3, 4, 5, 6, 7, 10, 11, 8, 9] rfl (by decide) ?_
  refine V_st (st2 := [.int (nI (stT T))]) (by rw [show (st xf T.length) = (stT T) from hst]) ?_
  refine V_aload_n hC dX8_faultReason_7 rfl 0 rfl ?_
  refine V_get (ci := 8) (v := .ref tx) hC in_X8 0 rfl cls_X8 4 (by decide) fl_X8_36 rfl dX8_faultReason_8 ?_
  refine V_getN (ci := 7) (v := .int (nI (T.length))) hC in_X7 8 rfl cls_X7 1 (by decide) fn_X8_154 rfl dX8_faultReason_11 ?_
  refine V_icmp_ge_T (tgt := 19) hC dX8_faultReason_14 (by decide) (nI_le (by omega) (by omega)) ?_
  refine V_aload_n hC dX8_faultReason_19 rfl 0 rfl ?_
  refine V_get (ci := 8) (v := .ref tx) hC in_X8 0 rfl cls_X8 4 (by decide) fl_X8_36 rfl dX8_faultReason_20 ?_
  refine V_aload_n hC dX8_faultReason_23 rfl 0 rfl ?_
  refine V_get (ci := 8) (v := .ref tb) hC in_X8 0 rfl cls_X8 5 (by decide) fl_X8_43 rfl dX8_faultReason_24 ?_
  refine V_callvV (As := [.ref tb]) (rest := []) (wr := [(o, .inr (8, [.ref me, .ref kc, .ref tc, .ref rd, .ref tx, .ref tb, .ref hi])), (me, .inr (4, [.ref ml, .int (nI n), .int (nI e), .int (nI p), .int (nI b)])), (ml, .inl (cI, 40, .inl (fun j => nI (g j)))), (rd, .inr (5, [.ref rco, .ref rsp, .ref rle, .int (nI rz), .int (nI rv), .int (nI rk), .int (nI ro)])), (rco, .inr (2, [.ref rcr, .int (nI rT), .int (nI rH), .int (nI rp), .int (nI rb)])), (rcr, .inl (cI, 9, .inl (fun j => nI (rF j)))), (rsp, .inr (6, [.int (nI rl), .int (nI ru)])), (rle, .inl (cI, 40, .inl (fun j => nI (rlf j))))]) hC (c_X7_copyTo l D cI cQ tx txr T.length tb tbw yn xf yg (hT1) (hxf)) mok_X7_copyTo ml_X8_210 (q1 := 0) rfl cls_X7 rfl rfl rfl (by decide) (by decide) (by decide) (Nat.le_of_ble_eq_true rfl) [8, 9, 10, 11] [0, 1, 2, 3, 4, 5, 6, 7] rfl (by decide) rfl (by decide) (by decide) dX8_faultReason_27 rfl (fun u9 h27 => ?_)
  obtain ⟨g2_1, rfl⟩ : ∃ z, z = u9 := ⟨_, rfl⟩
  have h27 : ∀ j, j < T.length → g2_1 j = if xf j = 49 then 1 else 0 := h27
  refine V_perm (ws2 := [(o, .inr (8, [.ref me, .ref kc, .ref tc, .ref rd, .ref tx, .ref tb, .ref hi])), (me, .inr (4, [.ref ml, .int (nI n), .int (nI e), .int (nI p), .int (nI b)])), (ml, .inl (cI, 40, .inl (fun j => nI (g j)))), (rd, .inr (5, [.ref rco, .ref rsp, .ref rle, .int (nI rz), .int (nI rv), .int (nI rk), .int (nI ro)])), (rco, .inr (2, [.ref rcr, .int (nI rT), .int (nI rH), .int (nI rp), .int (nI rb)])), (rcr, .inl (cI, 9, .inl (fun j => nI (rF j)))), (rsp, .inr (6, [.int (nI rl), .int (nI ru)])), (rle, .inl (cI, 40, .inl (fun j => nI (rlf j)))), (tx, .inr (7, [.ref txr, .int (nI (T.length))])), (txr, .inl (cI, 120, .inl (fun j => nI (xf j)))), (tb, .inr (0, [.ref tbw, .int (nI (T.length))])), (tbw, .inl (cI, 658, .inl (fun j => nI (g2_1 j))))]) [0, 1, 2, 3, 4, 5, 6, 7, 8, 9, 10, 11] rfl (by decide) ?_
  have hyb : ∀ j, j < T.length → g2_1 j = bT T j := fun j hj => by
    rw [h27 j hj, hT j hj]; exact (if_pos hj).symm
  have hyβ : ∀ j, (if j < T.length then g2_1 j else 0) = bT T j := fun j => by
    by_cases q : j < T.length
    · rw [if_pos q, hyb j q]
    · rw [if_neg q]; exact (if_neg q).symm
  refine V_aload_n hC dX8_faultReason_30 rfl 0 rfl ?_
  refine V_get (ci := 8) (v := .ref rd) hC in_X8 0 rfl cls_X8 3 (by decide) fl_X8_29 rfl dX8_faultReason_31 ?_
  refine V_aload_n hC dX8_faultReason_34 rfl 0 rfl ?_
  refine V_get (ci := 8) (v := .ref tb) hC in_X8 0 rfl cls_X8 5 (by decide) fl_X8_43 rfl dX8_faultReason_35 ?_
  refine V_aload_n hC dX8_faultReason_38 rfl 0 rfl ?_
  refine V_get (ci := 8) (v := .ref me) hC in_X8 0 rfl cls_X8 0 (by decide) fl_X8_12 rfl dX8_faultReason_39 ?_
  refine V_getN (ci := 4) (v := .int (nI p)) hC in_X4 1 rfl cls_X4 3 (by decide) fn_X8_102 rfl dX8_faultReason_42 ?_
  refine V_aload_n hC dX8_faultReason_45 rfl 0 rfl ?_
  refine V_get (ci := 8) (v := .ref me) hC in_X8 0 rfl cls_X8 0 (by decide) fl_X8_12 rfl dX8_faultReason_46 ?_
  refine V_getN (ci := 4) (v := .int (nI b)) hC in_X4 1 rfl cls_X4 4 (by decide) fn_X8_105 rfl dX8_faultReason_49 ?_
  refine V_callvV (As := [.ref tb, .int (nI p), .int (nI b)]) (rest := []) (wr := [(o, .inr (8, [.ref me, .ref kc, .ref tc, .ref rd, .ref tx, .ref tb, .ref hi])), (me, .inr (4, [.ref ml, .int (nI n), .int (nI e), .int (nI p), .int (nI b)])), (ml, .inl (cI, 40, .inl (fun j => nI (g j)))), (tx, .inr (7, [.ref txr, .int (nI (T.length))])), (txr, .inl (cI, 120, .inl (fun j => nI (xf j))))]) hC (c_X5_read l D cI cQ rd rco rsp rle rz rv rk ro rcr rT rH rp rb rl ru tb tbw T.length p b rF rlf g2_1 (bT T) (by omega) (hyβ) (bT2 T) (hp) (hb)) mok_X5_read ml_X8_168 (q1 := 0) rfl cls_X5 rfl rfl rfl (by decide) (by decide) (by decide) (Nat.le_of_ble_eq_true rfl) [3, 4, 5, 6, 7, 10, 11] [0, 1, 2, 8, 9] rfl (by decide) rfl (by decide) (by decide) dX8_faultReason_52 rfl (fun u9 h52 => ?_)
  obtain ⟨lf2_2, rfl⟩ : ∃ z, z = u9 := ⟨_, rfl⟩
  have h52 : rep lf2_2 (qR (rdF p b (bT T)).2) := h52
  refine V_perm (ws2 := [(o, .inr (8, [.ref me, .ref kc, .ref tc, .ref rd, .ref tx, .ref tb, .ref hi])), (me, .inr (4, [.ref ml, .int (nI n), .int (nI e), .int (nI p), .int (nI b)])), (ml, .inl (cI, 40, .inl (fun j => nI (g j)))), (rd, .inr (5, [.ref rco, .ref rsp, .ref rle, .int (nI ((qR ((rdF p b (bT T)).2)).length)), .int (nI (qV ((rdF p b (bT T)).2))), .int (nI (qK ((rdF p b (bT T)).2))), .int (nI ((rdF p b (bT T)).1))])), (rco, .inr (2, [.ref rcr, .int (nI (qT ((rdF p b (bT T)).2))), .int (nI (qH ((rdF p b (bT T)).2))), .int (nI p), .int (nI b)])), (rcr, .inl (cI, 9, .inl (fun j => nI ((qF ((rdF p b (bT T)).2)) j)))), (rsp, .inr (6, [.int (nI (qL ((rdF p b (bT T)).2))), .int (nI (qU ((rdF p b (bT T)).2)))])), (rle, .inl (cI, 40, .inl (fun j => nI (lf2_2 j)))), (tx, .inr (7, [.ref txr, .int (nI (T.length))])), (txr, .inl (cI, 120, .inl (fun j => nI (xf j)))), (tb, .inr (0, [.ref tbw, .int (nI (T.length))])), (tbw, .inl (cI, 658, .inl (fun j => nI (g2_1 j))))]) [0, 1, 2, 5, 6, 7, 8, 9, 3, 4, 10, 11] rfl (by decide) ?_
  have hok := rdd_ok (bT2 T) hp hb 41 (rd0 (bT T)) (okR_0 (bT2 T))
  have hov : (rdF p b (bT T)).1 < 2 := hok.2
  have hqk : qK (rdF p b (bT T)).2 ≤ 16 + 16 * (qR (rdF p b (bT T)).2).length := hok.1.2.2.2.2.2.1
  have hqr : (qR (rdF p b (bT T)).2).length ≤ 40 := hok.1.2.2.2.2.2.2
  refine V_aload_n hC dX8_faultReason_55 rfl 0 rfl ?_
  refine V_get (ci := 8) (v := .ref rd) hC in_X8 0 rfl cls_X8 3 (by decide) fl_X8_29 rfl dX8_faultReason_56 ?_
  refine V_getN (ci := 5) (v := .int (nI ((rdF p b (bT T)).1))) hC in_X5 3 rfl cls_X5 6 (by decide) fn_X8_173 rfl dX8_faultReason_59 ?_
  refine V_if_ne (tgt := 67) hC (by omega) dX8_faultReason_62 (by decide) (fun c62 => ?_) (fun c62 => ?_)
  · refine V_aload_n hC dX8_faultReason_67 rfl 0 rfl ?_
    refine V_get (ci := 8) (v := .ref tb) hC in_X8 0 rfl cls_X8 5 (by decide) fl_X8_43 rfl dX8_faultReason_68 ?_
    refine V_aload_n hC dX8_faultReason_71 rfl 0 rfl ?_
    refine V_get (ci := 8) (v := .ref rd) hC in_X8 0 rfl cls_X8 3 (by decide) fl_X8_29 rfl dX8_faultReason_72 ?_
    refine V_getN (ci := 5) (v := .int (nI (qK ((rdF p b (bT T)).2)))) hC in_X5 3 rfl cls_X5 5 (by decide) fn_X8_213 rfl dX8_faultReason_75 ?_
    refine V_calliV (As := [.int (nI (qK ((rdF p b (bT T)).2)))]) (rest := []) (wr := [(o, .inr (8, [.ref me, .ref kc, .ref tc, .ref rd, .ref tx, .ref tb, .ref hi])), (me, .inr (4, [.ref ml, .int (nI n), .int (nI e), .int (nI p), .int (nI b)])), (ml, .inl (cI, 40, .inl (fun j => nI (g j)))), (rd, .inr (5, [.ref rco, .ref rsp, .ref rle, .int (nI ((qR ((rdF p b (bT T)).2)).length)), .int (nI (qV ((rdF p b (bT T)).2))), .int (nI (qK ((rdF p b (bT T)).2))), .int (nI ((rdF p b (bT T)).1))])), (rco, .inr (2, [.ref rcr, .int (nI (qT ((rdF p b (bT T)).2))), .int (nI (qH ((rdF p b (bT T)).2))), .int (nI p), .int (nI b)])), (rcr, .inl (cI, 9, .inl (fun j => nI ((qF ((rdF p b (bT T)).2)) j)))), (rsp, .inr (6, [.int (nI (qL ((rdF p b (bT T)).2))), .int (nI (qU ((rdF p b (bT T)).2)))])), (rle, .inl (cI, 40, .inl (fun j => nI (lf2_2 j)))), (tx, .inr (7, [.ref txr, .int (nI (T.length))])), (txr, .inl (cI, 120, .inl (fun j => nI (xf j))))]) hC (c_X0_firstOne l D cI cQ tb tbw T.length (qK ((rdF p b (bT T)).2)) g2_1 (by omega) (by omega) (fun j hj => by rw [hyb j hj]; exact bT2 T j)) mok_X0_firstOne ml_X8_216 (q1 := 0) rfl cls_X0 rfl rfl rfl (by decide) (by decide) (by decide) (Nat.le_of_ble_eq_true rfl) [10, 11] [0, 1, 2, 3, 4, 5, 6, 7, 8, 9] rfl (by decide) rfl (by decide) (by decide) dX8_faultReason_78 rfl (fun r9 u9 h78 => ?_)
    obtain ⟨rfl, h78⟩ := h78
    clear h78
    refine V_perm (ws2 := [(o, .inr (8, [.ref me, .ref kc, .ref tc, .ref rd, .ref tx, .ref tb, .ref hi])), (me, .inr (4, [.ref ml, .int (nI n), .int (nI e), .int (nI p), .int (nI b)])), (ml, .inl (cI, 40, .inl (fun j => nI (g j)))), (rd, .inr (5, [.ref rco, .ref rsp, .ref rle, .int (nI ((qR ((rdF p b (bT T)).2)).length)), .int (nI (qV ((rdF p b (bT T)).2))), .int (nI (qK ((rdF p b (bT T)).2))), .int (nI ((rdF p b (bT T)).1))])), (rco, .inr (2, [.ref rcr, .int (nI (qT ((rdF p b (bT T)).2))), .int (nI (qH ((rdF p b (bT T)).2))), .int (nI p), .int (nI b)])), (rcr, .inl (cI, 9, .inl (fun j => nI ((qF ((rdF p b (bT T)).2)) j)))), (rsp, .inr (6, [.int (nI (qL ((rdF p b (bT T)).2))), .int (nI (qU ((rdF p b (bT T)).2)))])), (rle, .inl (cI, 40, .inl (fun j => nI (lf2_2 j)))), (tx, .inr (7, [.ref txr, .int (nI (T.length))])), (txr, .inl (cI, 120, .inl (fun j => nI (xf j)))), (tb, .inr (0, [.ref tbw, .int (nI (T.length))])), (tbw, .inl (cI, 658, .inl (fun j => nI (g2_1 j))))]) [0, 1, 2, 3, 4, 5, 6, 7, 8, 9, 10, 11] rfl (by decide) ?_
    refine V_st (st2 := [.int (nI (fO (bT T) T.length (qK (rdF p b (bT T)).2)))]) (by rw [show (fO g2_1 T.length (qK ((rdF p b (bT T)).2))) = (fO (bT T) T.length (qK (rdF p b (bT T)).2)) from fO_cong hyb]) ?_
    have hfo := fO_le (bT T) T.length (qK (rdF p b (bT T)).2)
    refine V_aload_n hC dX8_faultReason_81 rfl 0 rfl ?_
    refine V_get (ci := 8) (v := .ref tb) hC in_X8 0 rfl cls_X8 5 (by decide) fl_X8_43 rfl dX8_faultReason_82 ?_
    refine V_getN (ci := 0) (v := .int (nI (T.length))) hC in_X0 10 rfl cls_X0 1 (by decide) fn_X8_84 rfl dX8_faultReason_85 ?_
    refine V_icmp_ge (tgt := 95) hC (by omega) (by omega) dX8_faultReason_88 (by decide) (fun c88 => ?_) (fun c88 => ?_)
    · refine V_iconst (v := nI 0) hC dX8_faultReason_95 (by decide) ?_
      subst hQ
      exact V_iret hC hr hlk rfl (by decide) (by decide) dX8_faultReason_96 ((lf2_2, g2_1)) [0, 1, 2, 3, 4, 5, 6, 7, 8, 9, 10, 11] rfl (by decide) (⟨by unfold frn; rw [if_pos (by omega), if_neg (by omega)], h52, hyb⟩)
    · refine V_iconst (v := nI 3) hC dX8_faultReason_91 (by decide) ?_
      refine V_goto (tgt := 96) hC dX8_faultReason_92 (by decide) ?_
      subst hQ
      exact V_iret hC hr hlk rfl (by decide) (by decide) dX8_faultReason_96 ((lf2_2, g2_1)) [0, 1, 2, 3, 4, 5, 6, 7, 8, 9, 10, 11] rfl (by decide) (⟨by unfold frn; rw [if_pos (by omega), if_pos c88], h52, hyb⟩)
  · refine V_iconst (v := nI 2) hC dX8_faultReason_65 (by decide) ?_
    subst hQ
    exact V_iret hC hr hlk rfl (by decide) (by decide) dX8_faultReason_66 ((lf2_2, g2_1)) [0, 1, 2, 3, 4, 5, 6, 7, 8, 9, 10, 11] rfl (by decide) (⟨by unfold frn; rw [if_neg (by omega)], h52, hyb⟩)
end
