section
-- ===== PART A: goes FIRST, ahead of the names: the tables' words, and 'selects' of the private methods out of them =====
/-- a private method of a class that the tables say can be made, by its rows of tables_1 -/
def lw_okq (q : MethodName × Nat) : Prop := (q.1.cls ≠ "java/lang/invoke/MethodHandle" ∧ q.1.cls ≠ "java/lang/invoke/VarHandle") ∧ Cond.instantiable q.1.cls q.2 ∈ tables_1 ∧ Cond.privateMethod q.1 ∈ tables_1 ∧ Cond.instanceMethod q.1 ∈ tables_1
theorem lw_p0 : lw_okq (⟨"LearningSpans$History", "dropOldest", "()V"⟩, 2) := ⟨⟨by decide +kernel, by decide +kernel⟩, List.mem_of_getElem? (i := 203) (by decide +kernel), List.mem_of_getElem? (i := 253) (by decide +kernel), List.mem_of_getElem? (i := 254) (by decide +kernel)⟩
theorem lw_p1 : lw_okq (⟨"LearningSpans$Coder", "narrow", "(I)V"⟩, 6) := ⟨⟨by decide +kernel, by decide +kernel⟩, List.mem_of_getElem? (i := 49) (by decide +kernel), List.mem_of_getElem? (i := 276) (by decide +kernel), List.mem_of_getElem? (i := 277) (by decide +kernel)⟩
theorem lw_p2 : lw_okq (⟨"LearningSpans$Coder", "writeBit", "(I)V"⟩, 6) := ⟨⟨by decide +kernel, by decide +kernel⟩, List.mem_of_getElem? (i := 49) (by decide +kernel), List.mem_of_getElem? (i := 299) (by decide +kernel), List.mem_of_getElem? (i := 300) (by decide +kernel)⟩
theorem lw_p3 : lw_okq (⟨"LearningSpans$Counts", "halve", "()V"⟩, 5) := ⟨⟨by decide +kernel, by decide +kernel⟩, List.mem_of_getElem? (i := 55) (by decide +kernel), List.mem_of_getElem? (i := 311) (by decide +kernel), List.mem_of_getElem? (i := 312) (by decide +kernel)⟩
theorem lw_p4 : lw_okq (⟨"LearningSpans", "writeAnew", "()V"⟩, 7) := ⟨⟨by decide +kernel, by decide +kernel⟩, List.mem_of_getElem? (i := 13) (by decide +kernel), List.mem_of_getElem? (i := 331) (by decide +kernel), List.mem_of_getElem? (i := 332) (by decide +kernel)⟩
theorem lw_p5 : lw_okq (⟨"LearningSpans", "bitsMoreWith", "(I)I"⟩, 7) := ⟨⟨by decide +kernel, by decide +kernel⟩, List.mem_of_getElem? (i := 13) (by decide +kernel), List.mem_of_getElem? (i := 394) (by decide +kernel), List.mem_of_getElem? (i := 395) (by decide +kernel)⟩
theorem lw_p6 : lw_okq (⟨"LearningSpans", "bitsEnded", "(I)I"⟩, 7) := ⟨⟨by decide +kernel, by decide +kernel⟩, List.mem_of_getElem? (i := 13) (by decide +kernel), List.mem_of_getElem? (i := 420) (by decide +kernel), List.mem_of_getElem? (i := 421) (by decide +kernel)⟩
theorem lw_p7 : lw_okq (⟨"LearningSpans$Reader", "takeBit", "(LLearningSpans$BitRow;)V"⟩, 7) := ⟨⟨by decide +kernel, by decide +kernel⟩, List.mem_of_getElem? (i := 152) (by decide +kernel), List.mem_of_getElem? (i := 438) (by decide +kernel), List.mem_of_getElem? (i := 439) (by decide +kernel)⟩
theorem lw_p8 : lw_okq (⟨"LearningSpans$Reader", "readLetter", "(LLearningSpans$BitRow;)V"⟩, 7) := ⟨⟨by decide +kernel, by decide +kernel⟩, List.mem_of_getElem? (i := 152) (by decide +kernel), List.mem_of_getElem? (i := 443) (by decide +kernel), List.mem_of_getElem? (i := 444) (by decide +kernel)⟩
theorem lw_p9 : lw_okq (⟨"LearningSpans$Reader", "narrow", "(ILLearningSpans$BitRow;)V"⟩, 7) := ⟨⟨by decide +kernel, by decide +kernel⟩, List.mem_of_getElem? (i := 152) (by decide +kernel), List.mem_of_getElem? (i := 455) (by decide +kernel), List.mem_of_getElem? (i := 456) (by decide +kernel)⟩
theorem lw_p10 : lw_okq (⟨"LearningSpans", "alikeFromFirst", "()I"⟩, 7) := ⟨⟨by decide +kernel, by decide +kernel⟩, List.mem_of_getElem? (i := 13) (by decide +kernel), List.mem_of_getElem? (i := 462) (by decide +kernel), List.mem_of_getElem? (i := 463) (by decide +kernel)⟩
theorem lw_p11 : lw_okq (⟨"LearningSpans", "faultReason", "()I"⟩, 7) := ⟨⟨by decide +kernel, by decide +kernel⟩, List.mem_of_getElem? (i := 13) (by decide +kernel), List.mem_of_getElem? (i := 512) (by decide +kernel), List.mem_of_getElem? (i := 513) (by decide +kernel)⟩
theorem lw_p12 : lw_okq (⟨"LearningSpans", "faultPlace", "(I)I"⟩, 7) := ⟨⟨by decide +kernel, by decide +kernel⟩, List.mem_of_getElem? (i := 13) (by decide +kernel), List.mem_of_getElem? (i := 532) (by decide +kernel), List.mem_of_getElem? (i := 533) (by decide +kernel)⟩
theorem lw_p13 : lw_okq (⟨"LearningSpansModel", "record", "()V"⟩, 21) := ⟨⟨by decide +kernel, by decide +kernel⟩, List.mem_of_getElem? (i := 540) (by decide +kernel), List.mem_of_getElem? (i := 618) (by decide +kernel), List.mem_of_getElem? (i := 619) (by decide +kernel)⟩
theorem lw_p14 : lw_okq (⟨"LearningSpansModel", "putsNow", "()V"⟩, 21) := ⟨⟨by decide +kernel, by decide +kernel⟩, List.mem_of_getElem? (i := 540) (by decide +kernel), List.mem_of_getElem? (i := 622) (by decide +kernel), List.mem_of_getElem? (i := 623) (by decide +kernel)⟩
theorem lw_p15 : lw_okq (⟨"LearningSpansModel", "putsAll", "(IZ)V"⟩, 21) := ⟨⟨by decide +kernel, by decide +kernel⟩, List.mem_of_getElem? (i := 540) (by decide +kernel), List.mem_of_getElem? (i := 626) (by decide +kernel), List.mem_of_getElem? (i := 627) (by decide +kernel)⟩
def lw_privs_1 : List (MethodName × Nat) := [(⟨"LearningSpans$History", "dropOldest", "()V"⟩, 2), (⟨"LearningSpans$Coder", "narrow", "(I)V"⟩, 6), (⟨"LearningSpans$Coder", "writeBit", "(I)V"⟩, 6), (⟨"LearningSpans$Counts", "halve", "()V"⟩, 5), (⟨"LearningSpans", "writeAnew", "()V"⟩, 7), (⟨"LearningSpans", "bitsMoreWith", "(I)I"⟩, 7), (⟨"LearningSpans", "bitsEnded", "(I)I"⟩, 7), (⟨"LearningSpans$Reader", "takeBit", "(LLearningSpans$BitRow;)V"⟩, 7), (⟨"LearningSpans$Reader", "readLetter", "(LLearningSpans$BitRow;)V"⟩, 7), (⟨"LearningSpans$Reader", "narrow", "(ILLearningSpans$BitRow;)V"⟩, 7), (⟨"LearningSpans", "alikeFromFirst", "()I"⟩, 7), (⟨"LearningSpans", "faultReason", "()I"⟩, 7), (⟨"LearningSpans", "faultPlace", "(I)I"⟩, 7), (⟨"LearningSpansModel", "record", "()V"⟩, 21), (⟨"LearningSpansModel", "putsNow", "()V"⟩, 21), (⟨"LearningSpansModel", "putsAll", "(IZ)V"⟩, 21)]
theorem lw_r1 : ∀ q ∈ lw_privs_1, lw_okq q := List.forall_mem_cons.mpr ⟨lw_p0, List.forall_mem_cons.mpr ⟨lw_p1, List.forall_mem_cons.mpr ⟨lw_p2, List.forall_mem_cons.mpr ⟨lw_p3, List.forall_mem_cons.mpr ⟨lw_p4, List.forall_mem_cons.mpr ⟨lw_p5, List.forall_mem_cons.mpr ⟨lw_p6, List.forall_mem_cons.mpr ⟨lw_p7, List.forall_mem_cons.mpr ⟨lw_p8, List.forall_mem_cons.mpr ⟨lw_p9, List.forall_mem_cons.mpr ⟨lw_p10, List.forall_mem_cons.mpr ⟨lw_p11, List.forall_mem_cons.mpr ⟨lw_p12, List.forall_mem_cons.mpr ⟨lw_p13, List.forall_mem_cons.mpr ⟨lw_p14, List.forall_mem_cons.mpr ⟨lw_p15, fun _ h => absurd h List.not_mem_nil⟩⟩⟩⟩⟩⟩⟩⟩⟩⟩⟩⟩⟩⟩⟩⟩
theorem lw_p16 : lw_okq (⟨"LearningSpansModel", "beginsSpan", "()V"⟩, 21) := ⟨⟨by decide +kernel, by decide +kernel⟩, List.mem_of_getElem? (i := 540) (by decide +kernel), List.mem_of_getElem? (i := 630) (by decide +kernel), List.mem_of_getElem? (i := 631) (by decide +kernel)⟩
theorem lw_p17 : lw_okq (⟨"LearningSpansModel", "beginsCounts", "()V"⟩, 21) := ⟨⟨by decide +kernel, by decide +kernel⟩, List.mem_of_getElem? (i := 540) (by decide +kernel), List.mem_of_getElem? (i := 634) (by decide +kernel), List.mem_of_getElem? (i := 635) (by decide +kernel)⟩
theorem lw_p18 : lw_okq (⟨"LearningSpansModel", "narrows", "(I)V"⟩, 21) := ⟨⟨by decide +kernel, by decide +kernel⟩, List.mem_of_getElem? (i := 540) (by decide +kernel), List.mem_of_getElem? (i := 639) (by decide +kernel), List.mem_of_getElem? (i := 640) (by decide +kernel)⟩
theorem lw_p19 : lw_okq (⟨"LearningSpansModel", "cuts", "(I)V"⟩, 21) := ⟨⟨by decide +kernel, by decide +kernel⟩, List.mem_of_getElem? (i := 540) (by decide +kernel), List.mem_of_getElem? (i := 643) (by decide +kernel), List.mem_of_getElem? (i := 644) (by decide +kernel)⟩
theorem lw_p20 : lw_okq (⟨"LearningSpansModel", "below", "(I)I"⟩, 21) := ⟨⟨by decide +kernel, by decide +kernel⟩, List.mem_of_getElem? (i := 540) (by decide +kernel), List.mem_of_getElem? (i := 647) (by decide +kernel), List.mem_of_getElem? (i := 648) (by decide +kernel)⟩
theorem lw_p21 : lw_okq (⟨"LearningSpansModel", "takenOff", "()I"⟩, 21) := ⟨⟨by decide +kernel, by decide +kernel⟩, List.mem_of_getElem? (i := 540) (by decide +kernel), List.mem_of_getElem? (i := 651) (by decide +kernel), List.mem_of_getElem? (i := 652) (by decide +kernel)⟩
theorem lw_p22 : lw_okq (⟨"LearningSpansModel", "writes", "(I)V"⟩, 21) := ⟨⟨by decide +kernel, by decide +kernel⟩, List.mem_of_getElem? (i := 540) (by decide +kernel), List.mem_of_getElem? (i := 657) (by decide +kernel), List.mem_of_getElem? (i := 658) (by decide +kernel)⟩
theorem lw_p23 : lw_okq (⟨"LearningSpansModel", "doubles", "(I)V"⟩, 21) := ⟨⟨by decide +kernel, by decide +kernel⟩, List.mem_of_getElem? (i := 540) (by decide +kernel), List.mem_of_getElem? (i := 661) (by decide +kernel), List.mem_of_getElem? (i := 662) (by decide +kernel)⟩
theorem lw_p24 : lw_okq (⟨"LearningSpansModel", "learns", "(II)V"⟩, 21) := ⟨⟨by decide +kernel, by decide +kernel⟩, List.mem_of_getElem? (i := 540) (by decide +kernel), List.mem_of_getElem? (i := 665) (by decide +kernel), List.mem_of_getElem? (i := 666) (by decide +kernel)⟩
theorem lw_p25 : lw_okq (⟨"LearningSpansModel", "ends", "()V"⟩, 21) := ⟨⟨by decide +kernel, by decide +kernel⟩, List.mem_of_getElem? (i := 540) (by decide +kernel), List.mem_of_getElem? (i := 669) (by decide +kernel), List.mem_of_getElem? (i := 670) (by decide +kernel)⟩
theorem lw_p26 : lw_okq (⟨"LearningSpansModel", "bitsNow", "()I"⟩, 21) := ⟨⟨by decide +kernel, by decide +kernel⟩, List.mem_of_getElem? (i := 540) (by decide +kernel), List.mem_of_getElem? (i := 677) (by decide +kernel), List.mem_of_getElem? (i := 678) (by decide +kernel)⟩
theorem lw_p27 : lw_okq (⟨"LearningSpansModel", "begins", "()I"⟩, 21) := ⟨⟨by decide +kernel, by decide +kernel⟩, List.mem_of_getElem? (i := 540) (by decide +kernel), List.mem_of_getElem? (i := 685) (by decide +kernel), List.mem_of_getElem? (i := 686) (by decide +kernel)⟩
theorem lw_p28 : lw_okq (⟨"LearningSpansModel", "stands", "(I)I"⟩, 21) := ⟨⟨by decide +kernel, by decide +kernel⟩, List.mem_of_getElem? (i := 540) (by decide +kernel), List.mem_of_getElem? (i := 719) (by decide +kernel), List.mem_of_getElem? (i := 720) (by decide +kernel)⟩
theorem lw_p29 : lw_okq (⟨"LearningSpansModel", "wouldWrite", "(I)I"⟩, 21) := ⟨⟨by decide +kernel, by decide +kernel⟩, List.mem_of_getElem? (i := 540) (by decide +kernel), List.mem_of_getElem? (i := 723) (by decide +kernel), List.mem_of_getElem? (i := 724) (by decide +kernel)⟩
theorem lw_p30 : lw_okq (⟨"LearningSpansModel", "mostWritten", "()I"⟩, 21) := ⟨⟨by decide +kernel, by decide +kernel⟩, List.mem_of_getElem? (i := 540) (by decide +kernel), List.mem_of_getElem? (i := 731) (by decide +kernel), List.mem_of_getElem? (i := 732) (by decide +kernel)⟩
theorem lw_p31 : lw_okq (⟨"LearningSpansModel", "bitsOf", "(I)I"⟩, 21) := ⟨⟨by decide +kernel, by decide +kernel⟩, List.mem_of_getElem? (i := 540) (by decide +kernel), List.mem_of_getElem? (i := 743) (by decide +kernel), List.mem_of_getElem? (i := 744) (by decide +kernel)⟩
def lw_privs_2 : List (MethodName × Nat) := [(⟨"LearningSpansModel", "beginsSpan", "()V"⟩, 21), (⟨"LearningSpansModel", "beginsCounts", "()V"⟩, 21), (⟨"LearningSpansModel", "narrows", "(I)V"⟩, 21), (⟨"LearningSpansModel", "cuts", "(I)V"⟩, 21), (⟨"LearningSpansModel", "below", "(I)I"⟩, 21), (⟨"LearningSpansModel", "takenOff", "()I"⟩, 21), (⟨"LearningSpansModel", "writes", "(I)V"⟩, 21), (⟨"LearningSpansModel", "doubles", "(I)V"⟩, 21), (⟨"LearningSpansModel", "learns", "(II)V"⟩, 21), (⟨"LearningSpansModel", "ends", "()V"⟩, 21), (⟨"LearningSpansModel", "bitsNow", "()I"⟩, 21), (⟨"LearningSpansModel", "begins", "()I"⟩, 21), (⟨"LearningSpansModel", "stands", "(I)I"⟩, 21), (⟨"LearningSpansModel", "wouldWrite", "(I)I"⟩, 21), (⟨"LearningSpansModel", "mostWritten", "()I"⟩, 21), (⟨"LearningSpansModel", "bitsOf", "(I)I"⟩, 21)]
theorem lw_r2 : ∀ q ∈ lw_privs_2, lw_okq q := List.forall_mem_cons.mpr ⟨lw_p16, List.forall_mem_cons.mpr ⟨lw_p17, List.forall_mem_cons.mpr ⟨lw_p18, List.forall_mem_cons.mpr ⟨lw_p19, List.forall_mem_cons.mpr ⟨lw_p20, List.forall_mem_cons.mpr ⟨lw_p21, List.forall_mem_cons.mpr ⟨lw_p22, List.forall_mem_cons.mpr ⟨lw_p23, List.forall_mem_cons.mpr ⟨lw_p24, List.forall_mem_cons.mpr ⟨lw_p25, List.forall_mem_cons.mpr ⟨lw_p26, List.forall_mem_cons.mpr ⟨lw_p27, List.forall_mem_cons.mpr ⟨lw_p28, List.forall_mem_cons.mpr ⟨lw_p29, List.forall_mem_cons.mpr ⟨lw_p30, List.forall_mem_cons.mpr ⟨lw_p31, fun _ h => absurd h List.not_mem_nil⟩⟩⟩⟩⟩⟩⟩⟩⟩⟩⟩⟩⟩⟩⟩⟩
theorem lw_p32 : lw_okq (⟨"LearningSpansModel", "reads", "()Z"⟩, 21) := ⟨⟨by decide +kernel, by decide +kernel⟩, List.mem_of_getElem? (i := 540) (by decide +kernel), List.mem_of_getElem? (i := 756) (by decide +kernel), List.mem_of_getElem? (i := 757) (by decide +kernel)⟩
theorem lw_p33 : lw_okq (⟨"LearningSpansModel", "takes", "()V"⟩, 21) := ⟨⟨by decide +kernel, by decide +kernel⟩, List.mem_of_getElem? (i := 540) (by decide +kernel), List.mem_of_getElem? (i := 760) (by decide +kernel), List.mem_of_getElem? (i := 761) (by decide +kernel)⟩
theorem lw_p34 : lw_okq (⟨"LearningSpansModel", "letterAt", "()I"⟩, 21) := ⟨⟨by decide +kernel, by decide +kernel⟩, List.mem_of_getElem? (i := 540) (by decide +kernel), List.mem_of_getElem? (i := 764) (by decide +kernel), List.mem_of_getElem? (i := 765) (by decide +kernel)⟩
theorem lw_p35 : lw_okq (⟨"LearningSpansModel", "reason", "()I"⟩, 21) := ⟨⟨by decide +kernel, by decide +kernel⟩, List.mem_of_getElem? (i := 540) (by decide +kernel), List.mem_of_getElem? (i := 789) (by decide +kernel), List.mem_of_getElem? (i := 790) (by decide +kernel)⟩
def lw_privs_3 : List (MethodName × Nat) := [(⟨"LearningSpansModel", "reads", "()Z"⟩, 21), (⟨"LearningSpansModel", "takes", "()V"⟩, 21), (⟨"LearningSpansModel", "letterAt", "()I"⟩, 21), (⟨"LearningSpansModel", "reason", "()I"⟩, 21)]
theorem lw_r3 : ∀ q ∈ lw_privs_3, lw_okq q := List.forall_mem_cons.mpr ⟨lw_p32, List.forall_mem_cons.mpr ⟨lw_p33, List.forall_mem_cons.mpr ⟨lw_p34, List.forall_mem_cons.mpr ⟨lw_p35, fun _ h => absurd h List.not_mem_nil⟩⟩⟩⟩
def lw_privs : List (MethodName × Nat) := lw_privs_1 ++ (lw_privs_2 ++ (lw_privs_3))
def lw_tbl : List Cond := k2_sels lw_privs ++ tables_1
theorem lw_privs_ok : ∀ q ∈ lw_privs, lw_okq q := by
  show ∀ q ∈ lw_privs_1 ++ (lw_privs_2 ++ (lw_privs_3)), lw_okq q
  exact List.forall_mem_append.mpr ⟨lw_r1, List.forall_mem_append.mpr ⟨lw_r2, lw_r3⟩⟩
end
section
/-! ===== BEGIN printed: names, fields, word lists, decode rows ===== -/
def RX0 : String := "LearningSpans$BitRow"
def TX0 : u_T := fun k => match k with
  | 0 => ("LearningSpans$BitRow", "row", "[I", true)
  | _ => ("LearningSpans$BitRow", "size", "I", false)
def tyX0 : Nat → FieldType := fun k => match k with
  | 0 => .array .int
  | _ => .int
abbrev wsX00 : List Cond := u_ws RX0 TX0 2
theorem nmX0 : ∀ a, a < 2 → ∀ b, b < 2 → a ≠ b → (TX0 a).2.1 ≠ (TX0 b).2.1 := by decide +kernel
theorem tyX0_ok : ∀ k, k < 2 → parseFieldDescriptor (TX0 k).2.2.1 = some (tyX0 k) := by decide +kernel
abbrev cX0_init : ByteArray := prog_2_method_1_code
def yX0_init : MethodName := ⟨RX0, "<init>", "()V"⟩
abbrev cX0_empty : ByteArray := prog_2_method_2_code
def yX0_empty : MethodName := ⟨RX0, "empty", "()V"⟩
abbrev cX0_append : ByteArray := prog_2_method_3_code
def yX0_append : MethodName := ⟨RX0, "append", "(I)V"⟩
abbrev cX0_bitAt : ByteArray := prog_2_method_4_code
def yX0_bitAt : MethodName := ⟨RX0, "bitAt", "(I)I"⟩
abbrev cX0_firstOne : ByteArray := prog_2_method_5_code
def yX0_firstOne : MethodName := ⟨RX0, "firstOne", "(I)I"⟩
def RX1 : String := "LearningSpans$Coder"
def TX1 : u_T := fun k => match k with
  | 0 => ("LearningSpans$Coder", "counts", "LLearningSpans$Counts;", true)
  | 1 => ("LearningSpans$Coder", "span", "LLearningSpans$Span;", true)
  | 2 => ("LearningSpans$Coder", "bits", "LLearningSpans$BitRow;", true)
  | 3 => ("LearningSpans$Coder", "costs", "[I", true)
  | 4 => ("LearningSpans$Coder", "size", "I", false)
  | _ => ("LearningSpans$Coder", "waiting", "I", false)
def tyX1 : Nat → FieldType := fun k => match k with
  | 0 => .object "LearningSpans$Counts"
  | 1 => .object "LearningSpans$Span"
  | 2 => .object "LearningSpans$BitRow"
  | 3 => .array .int
  | 4 => .int
  | _ => .int
abbrev wsX10 : List Cond := u_ws RX1 TX1 6
theorem nmX1 : ∀ a, a < 6 → ∀ b, b < 6 → a ≠ b → (TX1 a).2.1 ≠ (TX1 b).2.1 := by decide +kernel
theorem tyX1_ok : ∀ k, k < 6 → parseFieldDescriptor (TX1 k).2.2.1 = some (tyX1 k) := by decide +kernel
abbrev cX1_init : ByteArray := prog_3_method_1_code
def yX1_init : MethodName := ⟨RX1, "<init>", "()V"⟩
abbrev cX1_start : ByteArray := prog_3_method_2_code
def yX1_start : MethodName := ⟨RX1, "start", "(II)V"⟩
abbrev cX1_add : ByteArray := prog_3_method_3_code
def yX1_add : MethodName := ⟨RX1, "add", "(I)I"⟩
abbrev cX1_addAll : ByteArray := prog_3_method_4_code
def yX1_addAll : MethodName := ⟨RX1, "addAll", "(LLearningSpans$Message;)V"⟩
abbrev cX1_close : ByteArray := prog_3_method_5_code
def yX1_close : MethodName := ⟨RX1, "close", "()V"⟩
abbrev cX1_costAt : ByteArray := prog_3_method_6_code
def yX1_costAt : MethodName := ⟨RX1, "costAt", "(I)I"⟩
abbrev cX1_dearest : ByteArray := prog_3_method_7_code
def yX1_dearest : MethodName := ⟨RX1, "dearest", "()I"⟩
abbrev cX1_narrow : ByteArray := prog_3_method_8_code
def yX1_narrow : MethodName := ⟨RX1, "narrow", "(I)V"⟩
abbrev cX1_writeBit : ByteArray := prog_3_method_9_code
def yX1_writeBit : MethodName := ⟨RX1, "writeBit", "(I)V"⟩
def RX2 : String := "LearningSpans$Counts"
def TX2 : u_T := fun k => match k with
  | 0 => ("LearningSpans$Counts", "row", "[I", true)
  | 1 => ("LearningSpans$Counts", "total", "I", false)
  | 2 => ("LearningSpans$Counts", "halvings", "I", false)
  | 3 => ("LearningSpans$Counts", "pace", "I", false)
  | _ => ("LearningSpans$Counts", "bound", "I", false)
def tyX2 : Nat → FieldType := fun k => match k with
  | 0 => .array .int
  | 1 => .int
  | 2 => .int
  | 3 => .int
  | _ => .int
abbrev wsX20 : List Cond := u_ws RX2 TX2 5
theorem nmX2 : ∀ a, a < 5 → ∀ b, b < 5 → a ≠ b → (TX2 a).2.1 ≠ (TX2 b).2.1 := by decide +kernel
theorem tyX2_ok : ∀ k, k < 5 → parseFieldDescriptor (TX2 k).2.2.1 = some (tyX2 k) := by decide +kernel
abbrev cX2_init : ByteArray := prog_4_method_1_code
def yX2_init : MethodName := ⟨RX2, "<init>", "()V"⟩
abbrev cX2_start : ByteArray := prog_4_method_2_code
def yX2_start : MethodName := ⟨RX2, "start", "(II)V"⟩
abbrev cX2_countAt : ByteArray := prog_4_method_3_code
def yX2_countAt : MethodName := ⟨RX2, "countAt", "(I)I"⟩
abbrev cX2_below : ByteArray := prog_4_method_4_code
def yX2_below : MethodName := ⟨RX2, "below", "(I)I"⟩
abbrev cX2_letterWith : ByteArray := prog_4_method_5_code
def yX2_letterWith : MethodName := ⟨RX2, "letterWith", "(I)I"⟩
abbrev cX2_learn : ByteArray := prog_4_method_6_code
def yX2_learn : MethodName := ⟨RX2, "learn", "(I)V"⟩
abbrev cX2_halve : ByteArray := prog_4_method_7_code
def yX2_halve : MethodName := ⟨RX2, "halve", "()V"⟩
def RX3 : String := "LearningSpans$History"
def TX3 : u_T := fun k => match k with
  | 0 => ("LearningSpans$History", "states", "[LLearningSpans$Message;", true)
  | _ => ("LearningSpans$History", "size", "I", false)
def tyX3 : Nat → FieldType := fun k => match k with
  | 0 => .array (.object "LearningSpans$Message")
  | _ => .int
abbrev wsX30 : List Cond := u_ws RX3 TX3 2
theorem nmX3 : ∀ a, a < 2 → ∀ b, b < 2 → a ≠ b → (TX3 a).2.1 ≠ (TX3 b).2.1 := by decide +kernel
theorem tyX3_ok : ∀ k, k < 2 → parseFieldDescriptor (TX3 k).2.2.1 = some (tyX3 k) := by decide +kernel
abbrev cX3_init : ByteArray := prog_5_method_1_code
def yX3_init : MethodName := ⟨RX3, "<init>", "()V"⟩
abbrev cX3_keep : ByteArray := prog_5_method_2_code
def yX3_keep : MethodName := ⟨RX3, "keep", "(LLearningSpans$Message;)V"⟩
abbrev cX3_restore : ByteArray := prog_5_method_3_code
def yX3_restore : MethodName := ⟨RX3, "restore", "(LLearningSpans$Message;)V"⟩
abbrev cX3_dropOldest : ByteArray := prog_5_method_4_code
def yX3_dropOldest : MethodName := ⟨RX3, "dropOldest", "()V"⟩
abbrev cX3_copy : ByteArray := prog_5_method_5_code
def yX3_copy : MethodName := ⟨RX3, "copy", "(LLearningSpans$Message;LLearningSpans$Message;)V"⟩
def RX4 : String := "LearningSpans$Message"
def TX4 : u_T := fun k => match k with
  | 0 => ("LearningSpans$Message", "letters", "[I", true)
  | 1 => ("LearningSpans$Message", "size", "I", false)
  | 2 => ("LearningSpans$Message", "ended", "Z", false)
  | 3 => ("LearningSpans$Message", "pace", "I", false)
  | _ => ("LearningSpans$Message", "bound", "I", false)
def tyX4 : Nat → FieldType := fun k => match k with
  | 0 => .array .int
  | 1 => .int
  | 2 => .boolean
  | 3 => .int
  | _ => .int
abbrev wsX40 : List Cond := u_ws RX4 TX4 5
theorem nmX4 : ∀ a, a < 5 → ∀ b, b < 5 → a ≠ b → (TX4 a).2.1 ≠ (TX4 b).2.1 := by decide +kernel
theorem tyX4_ok : ∀ k, k < 5 → parseFieldDescriptor (TX4 k).2.2.1 = some (tyX4 k) := by decide +kernel
abbrev cX4_init : ByteArray := prog_6_method_1_code
def yX4_init : MethodName := ⟨RX4, "<init>", "()V"⟩
abbrev cX4_letterAt : ByteArray := prog_6_method_2_code
def yX4_letterAt : MethodName := ⟨RX4, "letterAt", "(I)I"⟩
abbrev cX4_append : ByteArray := prog_6_method_3_code
def yX4_append : MethodName := ⟨RX4, "append", "(I)V"⟩
abbrev cX4_replace : ByteArray := prog_6_method_4_code
def yX4_replace : MethodName := ⟨RX4, "replace", "(II)V"⟩
abbrev cX4_shorten : ByteArray := prog_6_method_5_code
def yX4_shorten : MethodName := ⟨RX4, "shorten", "(I)V"⟩
abbrev cX4_empty : ByteArray := prog_6_method_6_code
def yX4_empty : MethodName := ⟨RX4, "empty", "()V"⟩
abbrev cX4_howOften : ByteArray := prog_6_method_7_code
def yX4_howOften : MethodName := ⟨RX4, "howOften", "(I)I"⟩
abbrev cX4_copyFrom : ByteArray := prog_6_method_8_code
def yX4_copyFrom : MethodName := ⟨RX4, "copyFrom", "(LLearningSpans$Message;)V"⟩
def RX5 : String := "LearningSpans$Reader"
def TX5 : u_T := fun k => match k with
  | 0 => ("LearningSpans$Reader", "counts", "LLearningSpans$Counts;", true)
  | 1 => ("LearningSpans$Reader", "span", "LLearningSpans$Span;", true)
  | 2 => ("LearningSpans$Reader", "letters", "[I", true)
  | 3 => ("LearningSpans$Reader", "size", "I", false)
  | 4 => ("LearningSpans$Reader", "number", "I", false)
  | 5 => ("LearningSpans$Reader", "taken", "I", false)
  | _ => ("LearningSpans$Reader", "over", "Z", false)
def tyX5 : Nat → FieldType := fun k => match k with
  | 0 => .object "LearningSpans$Counts"
  | 1 => .object "LearningSpans$Span"
  | 2 => .array .int
  | 3 => .int
  | 4 => .int
  | 5 => .int
  | _ => .boolean
abbrev wsX50 : List Cond := u_ws RX5 TX5 7
theorem nmX5 : ∀ a, a < 7 → ∀ b, b < 7 → a ≠ b → (TX5 a).2.1 ≠ (TX5 b).2.1 := by decide +kernel
theorem tyX5_ok : ∀ k, k < 7 → parseFieldDescriptor (TX5 k).2.2.1 = some (tyX5 k) := by decide +kernel
abbrev cX5_init : ByteArray := prog_7_method_1_code
def yX5_init : MethodName := ⟨RX5, "<init>", "()V"⟩
abbrev cX5_letterAt : ByteArray := prog_7_method_2_code
def yX5_letterAt : MethodName := ⟨RX5, "letterAt", "(I)I"⟩
abbrev cX5_read : ByteArray := prog_7_method_3_code
def yX5_read : MethodName := ⟨RX5, "read", "(LLearningSpans$BitRow;II)V"⟩
abbrev cX5_readLetter : ByteArray := prog_7_method_4_code
def yX5_readLetter : MethodName := ⟨RX5, "readLetter", "(LLearningSpans$BitRow;)V"⟩
abbrev cX5_narrow : ByteArray := prog_7_method_5_code
def yX5_narrow : MethodName := ⟨RX5, "narrow", "(ILLearningSpans$BitRow;)V"⟩
abbrev cX5_takeBit : ByteArray := prog_7_method_6_code
def yX5_takeBit : MethodName := ⟨RX5, "takeBit", "(LLearningSpans$BitRow;)V"⟩
def RX6 : String := "LearningSpans$Span"
def TX6 : u_T := fun k => match k with
  | 0 => ("LearningSpans$Span", "low", "I", false)
  | _ => ("LearningSpans$Span", "high", "I", false)
def tyX6 : Nat → FieldType := fun k => match k with
  | 0 => .int
  | _ => .int
abbrev wsX60 : List Cond := u_ws RX6 TX6 2
theorem nmX6 : ∀ a, a < 2 → ∀ b, b < 2 → a ≠ b → (TX6 a).2.1 ≠ (TX6 b).2.1 := by decide +kernel
theorem tyX6_ok : ∀ k, k < 2 → parseFieldDescriptor (TX6 k).2.2.1 = some (tyX6 k) := by decide +kernel
abbrev cX6_init : ByteArray := prog_8_method_1_code
def yX6_init : MethodName := ⟨RX6, "<init>", "()V"⟩
abbrev cX6_start : ByteArray := prog_8_method_2_code
def yX6_start : MethodName := ⟨RX6, "start", "()V"⟩
abbrev cX6_shrink : ByteArray := prog_8_method_3_code
def yX6_shrink : MethodName := ⟨RX6, "shrink", "(LLearningSpans$Counts;I)V"⟩
abbrev cX6_widen : ByteArray := prog_8_method_4_code
def yX6_widen : MethodName := ⟨RX6, "widen", "()I"⟩
abbrev cX6_letterAround : ByteArray := prog_8_method_5_code
def yX6_letterAround : MethodName := ⟨RX6, "letterAround", "(ILLearningSpans$Counts;)I"⟩
def RX7 : String := "LearningSpans$Text"
def TX7 : u_T := fun k => match k with
  | 0 => ("LearningSpans$Text", "characters", "[I", true)
  | _ => ("LearningSpans$Text", "size", "I", false)
def tyX7 : Nat → FieldType := fun k => match k with
  | 0 => .array .int
  | _ => .int
abbrev wsX70 : List Cond := u_ws RX7 TX7 2
theorem nmX7 : ∀ a, a < 2 → ∀ b, b < 2 → a ≠ b → (TX7 a).2.1 ≠ (TX7 b).2.1 := by decide +kernel
theorem tyX7_ok : ∀ k, k < 2 → parseFieldDescriptor (TX7 k).2.2.1 = some (tyX7 k) := by decide +kernel
abbrev cX7_init : ByteArray := prog_9_method_1_code
def yX7_init : MethodName := ⟨RX7, "<init>", "()V"⟩
abbrev cX7_empty : ByteArray := prog_9_method_2_code
def yX7_empty : MethodName := ⟨RX7, "empty", "()V"⟩
abbrev cX7_append : ByteArray := prog_9_method_3_code
def yX7_append : MethodName := ⟨RX7, "append", "(I)V"⟩
abbrev cX7_copyFrom : ByteArray := prog_9_method_4_code
def yX7_copyFrom : MethodName := ⟨RX7, "copyFrom", "(LLearningSpans$BitRow;)V"⟩
abbrev cX7_copyTo : ByteArray := prog_9_method_5_code
def yX7_copyTo : MethodName := ⟨RX7, "copyTo", "(LLearningSpans$BitRow;)V"⟩
abbrev cX7_firstStrange : ByteArray := prog_9_method_6_code
def yX7_firstStrange : MethodName := ⟨RX7, "firstStrange", "()I"⟩
def RX8 : String := "LearningSpans"
def TX8 : u_T := fun k => match k with
  | 0 => ("LearningSpans", "message", "LLearningSpans$Message;", true)
  | 1 => ("LearningSpans", "coder", "LLearningSpans$Coder;", true)
  | 2 => ("LearningSpans", "trial", "LLearningSpans$Coder;", true)
  | 3 => ("LearningSpans", "reader", "LLearningSpans$Reader;", true)
  | 4 => ("LearningSpans", "text", "LLearningSpans$Text;", true)
  | 5 => ("LearningSpans", "textBits", "LLearningSpans$BitRow;", true)
  | _ => ("LearningSpans", "history", "LLearningSpans$History;", true)
def tyX8 : Nat → FieldType := fun k => match k with
  | 0 => .object "LearningSpans$Message"
  | 1 => .object "LearningSpans$Coder"
  | 2 => .object "LearningSpans$Coder"
  | 3 => .object "LearningSpans$Reader"
  | 4 => .object "LearningSpans$Text"
  | 5 => .object "LearningSpans$BitRow"
  | _ => .object "LearningSpans$History"
abbrev wsX80 : List Cond := u_ws RX8 TX8 7
theorem nmX8 : ∀ a, a < 7 → ∀ b, b < 7 → a ≠ b → (TX8 a).2.1 ≠ (TX8 b).2.1 := by decide +kernel
theorem tyX8_ok : ∀ k, k < 7 → parseFieldDescriptor (TX8 k).2.2.1 = some (tyX8 k) := by decide +kernel
abbrev cX8_init : ByteArray := prog_1_method_1_code
def yX8_init : MethodName := ⟨RX8, "<init>", "()V"⟩
abbrev cX8_put : ByteArray := prog_1_method_2_code
def yX8_put : MethodName := ⟨RX8, "put", "(I)I"⟩
abbrev cX8_end : ByteArray := prog_1_method_3_code
def yX8_end : MethodName := ⟨RX8, "end", "()I"⟩
abbrev cX8_begin : ByteArray := prog_1_method_4_code
def yX8_begin : MethodName := ⟨RX8, "begin", "()I"⟩
abbrev cX8_drop : ByteArray := prog_1_method_5_code
def yX8_drop : MethodName := ⟨RX8, "drop", "(I)I"⟩
abbrev cX8_mend : ByteArray := prog_1_method_6_code
def yX8_mend : MethodName := ⟨RX8, "mend", "(II)I"⟩
abbrev cX8_set : ByteArray := prog_1_method_7_code
def yX8_set : MethodName := ⟨RX8, "set", "(II)I"⟩
abbrev cX8_letter : ByteArray := prog_1_method_8_code
def yX8_letter : MethodName := ⟨RX8, "letter", "(I)I"⟩
abbrev cX8_bit : ByteArray := prog_1_method_9_code
def yX8_bit : MethodName := ⟨RX8, "bit", "(I)I"⟩
abbrev cX8_letterOf : ByteArray := prog_1_method_10_code
def yX8_letterOf : MethodName := ⟨RX8, "letterOf", "(II)I"⟩
abbrev cX8_count : ByteArray := prog_1_method_11_code
def yX8_count : MethodName := ⟨RX8, "count", "(I)I"⟩
abbrev cX8_cost : ByteArray := prog_1_method_12_code
def yX8_cost : MethodName := ⟨RX8, "cost", "(I)I"⟩
abbrev cX8_bitsBy : ByteArray := prog_1_method_13_code
def yX8_bitsBy : MethodName := ⟨RX8, "bitsBy", "(I)I"⟩
abbrev cX8_bestPace : ByteArray := prog_1_method_14_code
def yX8_bestPace : MethodName := ⟨RX8, "bestPace", "()I"⟩
abbrev cX8_readBack : ByteArray := prog_1_method_15_code
def yX8_readBack : MethodName := ⟨RX8, "readBack", "(I)I"⟩
abbrev cX8_undo : ByteArray := prog_1_method_16_code
def yX8_undo : MethodName := ⟨RX8, "undo", "()I"⟩
abbrev cX8_type : ByteArray := prog_1_method_17_code
def yX8_type : MethodName := ⟨RX8, "type", "(I)I"⟩
abbrev cX8_clearText : ByteArray := prog_1_method_18_code
def yX8_clearText : MethodName := ⟨RX8, "clearText", "()I"⟩
abbrev cX8_write : ByteArray := prog_1_method_19_code
def yX8_write : MethodName := ⟨RX8, "write", "()I"⟩
abbrev cX8_fault : ByteArray := prog_1_method_20_code
def yX8_fault : MethodName := ⟨RX8, "fault", "(I)I"⟩
abbrev cX8_told : ByteArray := prog_1_method_21_code
def yX8_told : MethodName := ⟨RX8, "told", "(I)I"⟩
abbrev cX8_isLetter : ByteArray := prog_1_method_22_code
def yX8_isLetter : MethodName := ⟨RX8, "isLetter", "(I)Z"⟩
abbrev cX8_isPace : ByteArray := prog_1_method_23_code
def yX8_isPace : MethodName := ⟨RX8, "isPace", "(I)Z"⟩
abbrev cX8_isSetting : ByteArray := prog_1_method_24_code
def yX8_isSetting : MethodName := ⟨RX8, "isSetting", "(II)Z"⟩
abbrev cX8_writeAnew : ByteArray := prog_1_method_25_code
def yX8_writeAnew : MethodName := ⟨RX8, "writeAnew", "()V"⟩
abbrev cX8_bitsMoreWith : ByteArray := prog_1_method_26_code
def yX8_bitsMoreWith : MethodName := ⟨RX8, "bitsMoreWith", "(I)I"⟩
abbrev cX8_bitsEnded : ByteArray := prog_1_method_27_code
def yX8_bitsEnded : MethodName := ⟨RX8, "bitsEnded", "(I)I"⟩
abbrev cX8_alikeFromFirst : ByteArray := prog_1_method_28_code
def yX8_alikeFromFirst : MethodName := ⟨RX8, "alikeFromFirst", "()I"⟩
abbrev cX8_faultReason : ByteArray := prog_1_method_29_code
def yX8_faultReason : MethodName := ⟨RX8, "faultReason", "()I"⟩
abbrev cX8_faultPlace : ByteArray := prog_1_method_30_code
def yX8_faultPlace : MethodName := ⟨RX8, "faultPlace", "(I)I"⟩
def RX9 : String := "LearningSpansModel"
def TX9 : u_T := fun k => match k with
  | 0 => ("LearningSpansModel", "all", "[I", true)
  | 1 => ("LearningSpansModel", "history", "[I", true)
  | 2 => ("LearningSpansModel", "historyLong", "I", false)
  | 3 => ("LearningSpansModel", "counts", "[I", true)
  | 4 => ("LearningSpansModel", "total", "I", false)
  | 5 => ("LearningSpansModel", "halvings", "I", false)
  | 6 => ("LearningSpansModel", "low", "I", false)
  | 7 => ("LearningSpansModel", "high", "I", false)
  | 8 => ("LearningSpansModel", "wait", "I", false)
  | 9 => ("LearningSpansModel", "bits", "[I", true)
  | 10 => ("LearningSpansModel", "bitsLong", "I", false)
  | 11 => ("LearningSpansModel", "costs", "[I", true)
  | 12 => ("LearningSpansModel", "given", "[I", true)
  | 13 => ("LearningSpansModel", "givenLong", "I", false)
  | 14 => ("LearningSpansModel", "taken", "I", false)
  | 15 => ("LearningSpansModel", "v", "I", false)
  | 16 => ("LearningSpansModel", "read", "[I", true)
  | 17 => ("LearningSpansModel", "readMany", "I", false)
  | 18 => ("LearningSpansModel", "text", "[I", true)
  | 19 => ("LearningSpansModel", "textLong", "I", false)
  | _ => ("LearningSpansModel", "place", "I", false)
def tyX9 : Nat → FieldType := fun k => match k with
  | 0 => .array .int
  | 1 => .array .int
  | 2 => .int
  | 3 => .array .int
  | 4 => .int
  | 5 => .int
  | 6 => .int
  | 7 => .int
  | 8 => .int
  | 9 => .array .int
  | 10 => .int
  | 11 => .array .int
  | 12 => .array .int
  | 13 => .int
  | 14 => .int
  | 15 => .int
  | 16 => .array .int
  | 17 => .int
  | 18 => .array .int
  | 19 => .int
  | _ => .int
abbrev wsX90 : List Cond := u_ws RX9 TX9 21
theorem nmX9 : ∀ a, a < 21 → ∀ b, b < 21 → a ≠ b → (TX9 a).2.1 ≠ (TX9 b).2.1 := by decide +kernel
theorem tyX9_ok : ∀ k, k < 21 → parseFieldDescriptor (TX9 k).2.2.1 = some (tyX9 k) := by decide +kernel
abbrev cX9_init : ByteArray := prog_11_method_1_code
def yX9_init : MethodName := ⟨RX9, "<init>", "()V"⟩
abbrev cX9_in : ByteArray := prog_11_method_3_code
def yX9_in : MethodName := ⟨RX9, "in", "(JJJ)Z"⟩
abbrev cX9_record : ByteArray := prog_11_method_4_code
def yX9_record : MethodName := ⟨RX9, "record", "()V"⟩
abbrev cX9_beginsCounts : ByteArray := prog_11_method_5_code
def yX9_beginsCounts : MethodName := ⟨RX9, "beginsCounts", "()V"⟩
abbrev cX9_learns : ByteArray := prog_11_method_6_code
def yX9_learns : MethodName := ⟨RX9, "learns", "(II)V"⟩
abbrev cX9_below : ByteArray := prog_11_method_7_code
def yX9_below : MethodName := ⟨RX9, "below", "(I)I"⟩
abbrev cX9_writes : ByteArray := prog_11_method_8_code
def yX9_writes : MethodName := ⟨RX9, "writes", "(I)V"⟩
abbrev cX9_cuts : ByteArray := prog_11_method_9_code
def yX9_cuts : MethodName := ⟨RX9, "cuts", "(I)V"⟩
abbrev cX9_takenOff : ByteArray := prog_11_method_10_code
def yX9_takenOff : MethodName := ⟨RX9, "takenOff", "()I"⟩
abbrev cX9_doubles : ByteArray := prog_11_method_11_code
def yX9_doubles : MethodName := ⟨RX9, "doubles", "(I)V"⟩
abbrev cX9_narrows : ByteArray := prog_11_method_12_code
def yX9_narrows : MethodName := ⟨RX9, "narrows", "(I)V"⟩
abbrev cX9_beginsSpan : ByteArray := prog_11_method_13_code
def yX9_beginsSpan : MethodName := ⟨RX9, "beginsSpan", "()V"⟩
abbrev cX9_ends : ByteArray := prog_11_method_14_code
def yX9_ends : MethodName := ⟨RX9, "ends", "()V"⟩
abbrev cX9_putsAll : ByteArray := prog_11_method_15_code
def yX9_putsAll : MethodName := ⟨RX9, "putsAll", "(IZ)V"⟩
abbrev cX9_putsNow : ByteArray := prog_11_method_16_code
def yX9_putsNow : MethodName := ⟨RX9, "putsNow", "()V"⟩
abbrev cX9_bitsNow : ByteArray := prog_11_method_17_code
def yX9_bitsNow : MethodName := ⟨RX9, "bitsNow", "()I"⟩
abbrev cX9_put : ByteArray := prog_11_method_18_code
def yX9_put : MethodName := ⟨RX9, "put", "(I)I"⟩
abbrev cX9_end : ByteArray := prog_11_method_19_code
def yX9_end : MethodName := ⟨RX9, "end", "()I"⟩
abbrev cX9_begins : ByteArray := prog_11_method_20_code
def yX9_begins : MethodName := ⟨RX9, "begins", "()I"⟩
abbrev cX9_begin : ByteArray := prog_11_method_21_code
def yX9_begin : MethodName := ⟨RX9, "begin", "()I"⟩
abbrev cX9_drop : ByteArray := prog_11_method_22_code
def yX9_drop : MethodName := ⟨RX9, "drop", "(I)I"⟩
abbrev cX9_mend : ByteArray := prog_11_method_23_code
def yX9_mend : MethodName := ⟨RX9, "mend", "(II)I"⟩
abbrev cX9_set : ByteArray := prog_11_method_24_code
def yX9_set : MethodName := ⟨RX9, "set", "(II)I"⟩
abbrev cX9_letter : ByteArray := prog_11_method_25_code
def yX9_letter : MethodName := ⟨RX9, "letter", "(I)I"⟩
abbrev cX9_bit : ByteArray := prog_11_method_26_code
def yX9_bit : MethodName := ⟨RX9, "bit", "(I)I"⟩
abbrev cX9_stands : ByteArray := prog_11_method_27_code
def yX9_stands : MethodName := ⟨RX9, "stands", "(I)I"⟩
abbrev cX9_wouldWrite : ByteArray := prog_11_method_28_code
def yX9_wouldWrite : MethodName := ⟨RX9, "wouldWrite", "(I)I"⟩
abbrev cX9_letterOf : ByteArray := prog_11_method_29_code
def yX9_letterOf : MethodName := ⟨RX9, "letterOf", "(II)I"⟩
abbrev cX9_mostWritten : ByteArray := prog_11_method_30_code
def yX9_mostWritten : MethodName := ⟨RX9, "mostWritten", "()I"⟩
abbrev cX9_count : ByteArray := prog_11_method_31_code
def yX9_count : MethodName := ⟨RX9, "count", "(I)I"⟩
abbrev cX9_cost : ByteArray := prog_11_method_32_code
def yX9_cost : MethodName := ⟨RX9, "cost", "(I)I"⟩
abbrev cX9_bitsOf : ByteArray := prog_11_method_33_code
def yX9_bitsOf : MethodName := ⟨RX9, "bitsOf", "(I)I"⟩
abbrev cX9_bitsBy : ByteArray := prog_11_method_34_code
def yX9_bitsBy : MethodName := ⟨RX9, "bitsBy", "(I)I"⟩
abbrev cX9_bestPace : ByteArray := prog_11_method_35_code
def yX9_bestPace : MethodName := ⟨RX9, "bestPace", "()I"⟩
abbrev cX9_takes : ByteArray := prog_11_method_36_code
def yX9_takes : MethodName := ⟨RX9, "takes", "()V"⟩
abbrev cX9_letterAt : ByteArray := prog_11_method_37_code
def yX9_letterAt : MethodName := ⟨RX9, "letterAt", "()I"⟩
abbrev cX9_reads : ByteArray := prog_11_method_38_code
def yX9_reads : MethodName := ⟨RX9, "reads", "()Z"⟩
abbrev cX9_readBack : ByteArray := prog_11_method_39_code
def yX9_readBack : MethodName := ⟨RX9, "readBack", "(I)I"⟩
abbrev cX9_undo : ByteArray := prog_11_method_40_code
def yX9_undo : MethodName := ⟨RX9, "undo", "()I"⟩
abbrev cX9_type : ByteArray := prog_11_method_41_code
def yX9_type : MethodName := ⟨RX9, "type", "(I)I"⟩
abbrev cX9_clearText : ByteArray := prog_11_method_42_code
def yX9_clearText : MethodName := ⟨RX9, "clearText", "()I"⟩
abbrev cX9_write : ByteArray := prog_11_method_43_code
def yX9_write : MethodName := ⟨RX9, "write", "()I"⟩
abbrev cX9_reason : ByteArray := prog_11_method_44_code
def yX9_reason : MethodName := ⟨RX9, "reason", "()I"⟩
abbrev cX9_fault : ByteArray := prog_11_method_45_code
def yX9_fault : MethodName := ⟨RX9, "fault", "(I)I"⟩
abbrev cX9_told : ByteArray := prog_11_method_46_code
def yX9_told : MethodName := ⟨RX9, "told", "(I)I"⟩
def RJ9 : String := "java/lang/Math"
def TJ9 : u_T := fun k => match k with
  | _ => ("", "", "", false)
def tyJ9 : Nat → FieldType := fun k => match k with
  | _ => .int
abbrev wsJ90 : List Cond := u_ws RJ9 TJ9 0
theorem nmJ9 : ∀ a, a < 0 → ∀ b, b < 0 → a ≠ b → (TJ9 a).2.1 ≠ (TJ9 b).2.1 := by decide +kernel
theorem tyJ9_ok : ∀ k, k < 0 → parseFieldDescriptor (TJ9 k).2.2.1 = some (tyJ9 k) := by decide +kernel
abbrev cJ9_max_7cf53 : ByteArray := prog_12_method_65_code
def yJ9_max_7cf53 : MethodName := ⟨RJ9, "max", "(II)I"⟩
abbrev cJ9_min_7cf53 : ByteArray := prog_12_method_69_code
def yJ9_min_7cf53 : MethodName := ⟨RJ9, "min", "(II)I"⟩
def RL : String := "LearningSpansLaw"
abbrev cL_law : ByteArray := code
def yL_law : MethodName := ⟨RL, "law", "([I)Z"⟩
end
section
/-! the walk's own judgement: V holds of a state of cells, locals and stack written out, for every heap that bears it -/
abbrev vwCl : List vw_C := [(RX0, TX0, 2), (RX1, TX1, 6), (RX2, TX2, 5), (RX3, TX3, 2), (RX4, TX4, 5), (RX5, TX5, 7), (RX6, TX6, 2), (RX7, TX7, 2), (RX8, TX8, 7), (RX9, TX9, 21)]
def AW : List Cond := lw_tbl.filter goodWord
theorem AWm {i : Nat} {w : Cond} (h : tables_1[i]? = some w) (g : goodWord w = true) : w ∈ AW := List.mem_filter.mpr ⟨List.mem_append_right _ (List.mem_of_getElem? h), g⟩
theorem AWs {i : Nat} {q : MethodName × Nat} (h : lw_privs[i]? = some q) : Cond.selects q.1.cls q.1 q.1 ∈ AW := List.mem_filter.mpr ⟨List.mem_append_left _ (List.mem_map.mpr ⟨q, List.mem_of_getElem? h, rfl⟩), rfl⟩
theorem AWgood : ∀ w ∈ AW, goodWord w = true := fun w h => (List.mem_filter.mp h).2
theorem AWsub : ∀ w ∈ AW, w ∈ lw_tbl := fun w h => (List.mem_filter.mp h).1
abbrev TS (y : MethodName) (bytes : ByteArray) (maxL : Nat) (ret : Option FieldType) : List Cond := Cond.code y bytes maxL ret :: AW
theorem AWin {w : Cond} (h : w ∈ AW) : w ∈ AW ∧ ((w.onTables && w.keeps) = true ∨ ∃ ty, w = .arrayClass ty) := ⟨h, good_of_word (AWgood _ h)⟩
theorem goodTS {y : MethodName} {bytes : ByteArray} {maxL : Nat} {ret : Option FieldType} (hc : Cond.code y bytes maxL ret ∈ AW) : GoodIn AW (TS y bytes maxL ret) := fun w h => by
  rcases List.mem_cons.mp h with rfl | h
  · exact AWin hc
  · exact AWin h
/-- what a call wants of the method that it calls, out of the tables -/
abbrev MOK (C : String) (y : MethodName) (bytes : ByteArray) (maxL : Nat) (ret : Option FieldType) (n : Nat) : Prop := Cond.instanceMethod y ∈ AW ∧ Cond.selects C y y ∈ AW ∧ Cond.initialized C ∈ AW ∧ Cond.code y bytes maxL ret ∈ AW ∧ (y.cls = C ∧ y.cls ≠ "java/lang/invoke/MethodHandle" ∧ y.cls ≠ "java/lang/invoke/VarHandle" ∧ (parseMethodDescriptor y.desc).map (fun d => d.parameters.length) = some n)
abbrev MOKs (y : MethodName) (bytes : ByteArray) (maxL : Nat) (ret : Option FieldType) (n : Nat) : Prop := Cond.static y ∈ AW ∧ Cond.initialized y.cls ∈ AW ∧ Cond.code y bytes maxL ret ∈ AW ∧ (y.cls ≠ "java/lang/invoke/MethodHandle" ∧ y.cls ≠ "java/lang/invoke/VarHandle" ∧ (parseMethodDescriptor y.desc).map (fun d => d.parameters.length) = some n)
abbrev MOKi (y : MethodName) (bytes : ByteArray) (maxL : Nat) (n : Nat) : Prop := Cond.instanceMethod y ∈ AW ∧ Cond.initialized y.cls ∈ AW ∧ Cond.code y bytes maxL none ∈ AW ∧ y.name = "<init>" ∧ (y.cls ≠ "java/lang/invoke/MethodHandle" ∧ y.cls ≠ "java/lang/invoke/VarHandle" ∧ (parseMethodDescriptor y.desc).map (fun d => d.parameters.length) = some n)
theorem goodV {own C : String} {idx maxL n : Nat} {y : MethodName} {bytes : ByteArray} {ret : Option FieldType} (hl : Cond.methodLink own idx y ∈ AW) (h : MOK C y bytes maxL ret n) : GoodIn AW (wsV own idx C y (TS y bytes maxL ret)) := by
  intro w hw
  rcases List.mem_append.mp hw with hw | hw
  · simp only [List.mem_cons, List.not_mem_nil, or_false] at hw
    rcases hw with rfl | rfl | rfl | rfl
    · exact AWin hl
    · exact AWin h.1
    · exact AWin h.2.1
    · exact AWin h.2.2.1
  · exact goodTS h.2.2.2.1 w hw
theorem goodS {own : String} {idx maxL n : Nat} {y : MethodName} {bytes : ByteArray} {ret : Option FieldType} (hl : Cond.methodLink own idx y ∈ AW) (h : MOKs y bytes maxL ret n) : GoodIn AW (va_wsS own idx y (TS y bytes maxL ret)) := by
  intro w hw
  rcases List.mem_append.mp hw with hw | hw
  · simp only [List.mem_cons, List.not_mem_nil, or_false] at hw
    rcases hw with rfl | rfl | rfl
    · exact AWin hl
    · exact AWin h.1
    · exact AWin h.2.1
  · exact goodTS h.2.2.1 w hw
/-- the links among nest mates: no word of a contract may say them, so they ride in the world -/
def isNest : Cond → Bool
  | .fieldLinkNest .. => true
  | .methodLinkNest .. => true
  | _ => false
def NW (U : State) : Prop := ∀ w ∈ tables_1, isNest w = true → va_Nw w U
theorem NW.warm {s U : State} (hW : s.WarmedH U.vm) (h : NW s) : NW U := by
  intro w hw hn
  have h1 := h w hw hn
  cases w <;> first | exact va_Nw.warmF hW h1 | exact va_Nw.warmM hW h1 | (simp [isNest] at hn)
theorem NW.same {s U : State} (e : s.vm = U.vm) (h : NW s) : NW U := by
  intro w hw hn
  have h1 := h w hw hn
  cases w <;> first | exact va_Nw.same rfl e h1 | (simp [isNest] at hn)
theorem NW.at {s : State} (h : NW s) {w : Cond} {i : Nat} (hi : tables_1[i]? = some w) (hn : isNest w = true) : va_Nw w s := h w (List.mem_of_getElem? hi) hn
def Pin (D : va_G) (tys : List (ClassId × FieldType)) (av : List Value) (ws : va_W) (sz : Nat) : Array Value → State → Prop :=
  va_Pc av (fun U => U.heap.size = sz ∧ va_P D vwCl ws U.heap ∧ va_K D vwCl tys U ∧ va_D (fun _ => True) ws ∧ NW U)
theorem Pin.blind {D : va_G} {tys : List (ClassId × FieldType)} {av : List Value} {ws : va_W} {sz : Nat} : FrameBlind (Pin D tys av ws sz) := fun a U g mk q => by
  obtain ⟨q0, q1, qP, qK, qD, qN⟩ := q
  exact ⟨q0, q1, qP, va_K.moved (u := U) (U := U.calling g mk a) (Vm.Alike.refl U.vm) qK, qD, NW.same (s := U) rfl qN⟩
def Bo {S : Type} (D : va_G) (tys : List (ClassId × FieldType)) (A : Nat → Prop) (wo : S → va_W) : S → State → Prop := fun u t => va_P D vwCl (wo u) t.heap ∧ va_K D vwCl tys t ∧ va_D A (wo u)
/-- the contract of a method that answers an int (MI), or nothing (MV): cells wi before, cells 'wo u' behind it, 'post answer u' -/
def MI {S : Type} (l : Launch) (y : MethodName) (bytes : ByteArray) (maxL : Nat) (ret : Option FieldType) (rm : Room) (D : va_G) (tys : List (ClassId × FieldType)) (av : List Value) (wi : va_W) (post : Int32 → S → Prop) (wo : S → va_W) (mc ms : Nat) : Prop :=
  ∀ sz : Nat, Met l y (TS y bytes maxL ret) rm (Pin D tys av wi sz) (va_Qi post (Bo D tys (va_A wi sz) wo) (va_A wi sz)) mc ms (va_A wi sz)
def MV {S : Type} (l : Launch) (y : MethodName) (bytes : ByteArray) (maxL : Nat) (ret : Option FieldType) (rm : Room) (D : va_G) (tys : List (ClassId × FieldType)) (av : List Value) (wi : va_W) (post : S → Prop) (wo : S → va_W) (mc ms : Nat) : Prop :=
  ∀ sz : Nat, Met l y (TS y bytes maxL ret) rm (Pin D tys av wi sz) (va_Qv post (Bo D tys (va_A wi sz) wo) (va_A wi sz)) mc ms (va_A wi sz)
abbrev Cx (p : Program) (s : State) (m : MethodId) (args : Array Value) (c : Code) (cc : ByteArray) (nL : Nat) (own : String) (D : va_G) (tys : List (ClassId × FieldType)) (A : Nat → Prop) (H0 : Heap) : Prop :=
  CallFix p m c cc nL s args AW own ∧ va_K D vwCl tys s ∧ (∀ q, H0.size ≤ q → A q) ∧ NW s
def V (p : Program) (l : Launch) (e : Env) (R : Room) (s : State) (m : MethodId) (args : Array Value) (below : List Frame) (meth : Method) (c : Code) (D : va_G) (A : Nat → Prop) (H0 : Heap) (nL : Nat) (Q : State → Prop) (ws : va_W) (lv : List (Nat × Value)) (cells slots pc : Nat) (st : List Value) : Prop :=
  ∀ (H : Heap) (locs : List Loc) (ls : Array Slot), va_P D vwCl ws H → va_D A ws → va_S A H0 H locs → lv_has ls nL lv → W p l e R s m args below meth c H locs cells slots Q (F0 m pc ls st)
section VV
variable {p : Program} {l : Launch} {e : Env} {R : Room} {s : State} {m : MethodId} {args : Array Value} {below : List Frame} {meth : Method} {c : Code} {D : va_G} {A : Nat → Prop} {H0 : Heap} {nL : Nat} {Q : State → Prop} {ws : va_W} {lv : List (Nat × Value)} {cells slots pc : Nat} {rest st : List Value} {cc : ByteArray} {own : String} {tys : List (ClassId × FieldType)}
theorem MI.start {S : Type} {y : MethodName} {bytes : ByteArray} {maxL : Nat} {ret : Option FieldType} {rm : Room} {av : List Value} {wi : va_W} {post : Int32 → S → Prop} {wo : S → va_W} {mc ms : Nat} (hy : plainName y.cls = true) (hn : (lg_sl av).length ≤ maxL) {lv0 : List (Nat × Value)} (hlv : lv_args 0 av = lv0)
    (body : ∀ (p : Program) (e : Env) (s : State) (m : MethodId) (args : Array Value) (below : List Frame) (meth : Method) (c : Code) (A : Nat → Prop), Cx p s m args c bytes maxL y.cls D tys A s.heap → meth.sig.returnType = ret → meth.locks = false → meth.name = y.name →
      V p l e rm s m args below meth c D A s.heap maxL (MQ below (va_Qi post (Bo D tys A wo) A) args s mc ms A) wi lv0 0 0 0 []) : MI l y bytes maxL ret rm D tys av wi post wo mc ms := by
  intro sz
  refine Met.ofW (cc := bytes) (maxL := maxL) (ret := ret) hy rfl ?_
  intro p e s m args below meth c s₁ B hml hv
  obtain ⟨rfl, hsz, hP, hK, hD0, hN⟩ := hv
  subst hsz
  subst hlv
  have hts := atoms_spec (ws := TS y bytes maxL ret) B.pre
  have hown : s.vm.findClass y.cls = some m.cls := findClass_of_methodNamed B.named
  have hl := lv_entry av (n := maxL) hn
  rw [lg_entry_eq]
  exact body p e s m av.toArray below meth c (va_A wi s.heap.size) ⟨⟨B.exec, B.bytes, hml, hown, fun w h => hts w (List.mem_cons_of_mem _ h)⟩, hK, fun q h => Or.inr h, hN⟩ B.returns B.notSynchronized (name_of_methodNamed B.named B.method).1 s.heap [] _ hP hD0.self va_S.rf hl
theorem MV.start {S : Type} {y : MethodName} {bytes : ByteArray} {maxL : Nat} {ret : Option FieldType} {rm : Room} {av : List Value} {wi : va_W} {post : S → Prop} {wo : S → va_W} {mc ms : Nat} (hy : plainName y.cls = true) (hn : (lg_sl av).length ≤ maxL) {lv0 : List (Nat × Value)} (hlv : lv_args 0 av = lv0)
    (body : ∀ (p : Program) (e : Env) (s : State) (m : MethodId) (args : Array Value) (below : List Frame) (meth : Method) (c : Code) (A : Nat → Prop), Cx p s m args c bytes maxL y.cls D tys A s.heap → meth.sig.returnType = ret → meth.locks = false → meth.name = y.name →
      V p l e rm s m args below meth c D A s.heap maxL (MQ below (va_Qv post (Bo D tys A wo) A) args s mc ms A) wi lv0 0 0 0 []) : MV l y bytes maxL ret rm D tys av wi post wo mc ms := by
  intro sz
  refine Met.ofW (cc := bytes) (maxL := maxL) (ret := ret) hy rfl ?_
  intro p e s m args below meth c s₁ B hml hv
  obtain ⟨rfl, hsz, hP, hK, hD0, hN⟩ := hv
  subst hsz
  subst hlv
  have hts := atoms_spec (ws := TS y bytes maxL ret) B.pre
  have hown : s.vm.findClass y.cls = some m.cls := findClass_of_methodNamed B.named
  have hl := lv_entry av (n := maxL) hn
  rw [lg_entry_eq]
  exact body p e s m av.toArray below meth c (va_A wi s.heap.size) ⟨⟨B.exec, B.bytes, hml, hown, fun w h => hts w (List.mem_cons_of_mem _ h)⟩, hK, fun q h => Or.inr h, hN⟩ B.returns B.notSynchronized (name_of_methodNamed B.named B.method).1 s.heap [] _ hP hD0.self va_S.rf hl
theorem V_ws {ws2 : va_W} (h : ws = ws2) (K : V p l e R s m args below meth c D A H0 nL Q ws2 lv cells slots pc st) : V p l e R s m args below meth c D A H0 nL Q ws lv cells slots pc st := by subst h; exact K
theorem V_st {st2 : List Value} (h : st = st2) (K : V p l e R s m args below meth c D A H0 nL Q ws lv cells slots pc st2) : V p l e R s m args below meth c D A H0 nL Q ws lv cells slots pc st := by subst h; exact K
theorem V_lv {lv2 : List (Nat × Value)} (h : lv = lv2) (K : V p l e R s m args below meth c D A H0 nL Q ws lv2 cells slots pc st) : V p l e R s m args below meth c D A H0 nL Q ws lv cells slots pc st := by subst h; exact K
theorem V_pick {lv2 : List (Nat × Value)} (ks : List Nat) (h : lv_pick lv ks = lv2) (K : V p l e R s m args below meth c D A H0 nL Q ws lv2 cells slots pc st) : V p l e R s m args below meth c D A H0 nL Q ws lv cells slots pc st := fun H locs ls hP hD hS hl => K H locs ls hP hD hS (lv_sub hl ks h)
theorem va_subM {cl : List vw_C} {ws ws' : va_W} {H : Heap} (h : va_P D cl ws H) (is : List Nat) (hs : is.map (fun i => ws[i]?) = ws'.map some) : va_P D cl ws' H := by
  intro k q hq
  have h1 : (is.map (fun i => ws[i]?))[k]? = some (some q) := by rw [hs, List.getElem?_map, hq]; rfl
  rw [List.getElem?_map] at h1
  cases hi : is[k]? with
  | none => rw [hi] at h1; cases h1
  | some i => rw [hi] at h1; exact h i q (Option.some.inj h1)
theorem V_perm {ws2 : va_W} (is : List Nat) (hs : is.map (fun i => ws[i]?) = ws2.map some) (hn : va_nd is = true) (K : V p l e R s m args below meth c D A H0 nL Q ws2 lv cells slots pc st) : V p l e R s m args below meth c D A H0 nL Q ws lv cells slots pc st := fun H locs ls hP hD hS hl => K H locs ls (va_subM hP is hs) (hD.sub is hn hs) hS hl
/-- cells that are the same in all that can be read -/
theorem vp_cell_cong {cA : ClassId} {n : Nat} {f g : Nat → Int32} (h : ∀ j, j < n → f j = g j) : vp_cell cA (n, .inl f) = vp_cell cA (n, .inl g) := by
  rw [vp_cell_i, vp_cell_i]
  unfold arrV
  congr 1
  congr 1
  funext j
  exact congrArg Value.int (h j.val j.isLt)
theorem va_P.cong {cl : List vw_C} {ws : va_W} {H : Heap} {k a : Nat} {cA : ClassId} {n : Nat} {f g : Nat → Int32} (hP : va_P D cl ws H) (hk : ws[k]? = some (a, .inl (cA, n, .inl f))) (h : ∀ j, j < n → f j = g j) : va_P D cl (ws.set k (a, .inl (cA, n, .inl g))) H := by
  intro i q hq
  by_cases hi : i = k
  · subst hi
    have hl : i < ws.length := (List.getElem?_eq_some_iff.mp hk).1
    rw [List.getElem?_set_self hl] at hq
    cases hq
    have h1 := hP i _ hk
    show H[a]? = some (vp_cell cA (n, .inl g))
    rw [← vp_cell_cong h]
    exact h1
  · rw [List.getElem?_set_ne (fun e => hi e.symm)] at hq
    exact hP i q hq
theorem V_cong {k a n : Nat} {cA : ClassId} {f g : Nat → Int32} (hk : ws[k]? = some (a, .inl (cA, n, .inl f))) (h : ∀ j, j < n → f j = g j) {ws2 : va_W} (hw : ws.set k (a, .inl (cA, n, .inl g)) = ws2) (K : V p l e R s m args below meth c D A H0 nL Q ws2 lv cells slots pc st) : V p l e R s m args below meth c D A H0 nL Q ws lv cells slots pc st := by
  subst hw
  exact fun H locs ls hP hD hS hl => K H locs ls (hP.cong hk h) (hD.set hk) hS hl
theorem V_iconst (C : Cx p s m args c cc nL own D tys A H0) {n : Int} {v : Int32} (d : decode cc pc = .ok (.iconst n, 1)) (hv : Int32.ofInt n = v) (K : V p l e R s m args below meth c D A H0 nL Q ws lv cells slots (pc + 1) (.int v :: rest)) : V p l e R s m args below meth c D A H0 nL Q ws lv cells slots pc rest := fun H locs ls hP hD hS hl => lv_iconst C.1.1 C.1.2.1 d hv (K H locs ls hP hD hS hl)
theorem V_bipush (C : Cx p s m args c cc nL own D tys A H0) {n : Int} {v : Int32} (d : decode cc pc = .ok (.bipush n, 2)) (hv : (Int8.ofInt n).toInt32 = v) (K : V p l e R s m args below meth c D A H0 nL Q ws lv cells slots (pc + 2) (.int v :: rest)) : V p l e R s m args below meth c D A H0 nL Q ws lv cells slots pc rest := fun H locs ls hP hD hS hl => lv_bipush C.1.1 C.1.2.1 d hv (K H locs ls hP hD hS hl)
theorem V_sipush (C : Cx p s m args c cc nL own D tys A H0) {n : Int} {v : Int32} (d : decode cc pc = .ok (.sipush n, 3)) (hv : (Int16.ofInt n).toInt32 = v) (K : V p l e R s m args below meth c D A H0 nL Q ws lv cells slots (pc + 3) (.int v :: rest)) : V p l e R s m args below meth c D A H0 nL Q ws lv cells slots pc rest := fun H locs ls hP hD hS hl => lv_sipush C.1.1 C.1.2.1 d hv (K H locs ls hP hD hS hl)
theorem V_ldc (C : Cx p s m args c cc nL own D tys A H0) {index : Nat} {v v2 : Int32} (d : decode cc pc = .ok (.ldc index, 2)) (hw : Cond.constant own index v ∈ AW) (hv : v = v2) (K : V p l e R s m args below meth c D A H0 nL Q ws lv cells slots (pc + 2) (.int v2 :: rest)) : V p l e R s m args below meth c D A H0 nL Q ws lv cells slots pc rest := fun H locs ls hP hD hS hl => lv_ldc C.1.1 C.1.2.1 C.1.2.2.2.1 (hv ▸ C.1.2.2.2.2 _ hw) d (K H locs ls hP hD hS hl)
theorem V_ldc2 (C : Cx p s m args c cc nL own D tys A H0) {index : Nat} {v v2 : Int64} (d : decode cc pc = .ok (.ldc2_w index, 3)) (hw : Cond.constantLong own index v ∈ AW) (hv : v = v2) (K : V p l e R s m args below meth c D A H0 nL Q ws lv cells slots (pc + 3) (.long v2 :: rest)) : V p l e R s m args below meth c D A H0 nL Q ws lv cells slots pc rest := fun H locs ls hP hD hS hl => lv_ldc2 C.1.1 C.1.2.1 C.1.2.2.2.1 (hv ▸ C.1.2.2.2.2 _ hw) d (K H locs ls hP hD hS hl)
theorem V_lconst (C : Cx p s m args c cc nL own D tys A H0) {n : Fin 2} {v : Int64} (d : decode cc pc = .ok (.lconst n, 1)) (hv : Int64.ofNat (n : Nat) = v) (K : V p l e R s m args below meth c D A H0 nL Q ws lv cells slots (pc + 1) (.long v :: rest)) : V p l e R s m args below meth c D A H0 nL Q ws lv cells slots pc rest := fun H locs ls hP hD hS hl => lv_lconst C.1.1 C.1.2.1 d hv (K H locs ls hP hD hS hl)
theorem V_iload_n (C : Cx p s m args c cc nL own D tys A H0) {k : Fin 4} {i : Nat} {x : Int32} (d : decode cc pc = .ok (.iload_n k, 1)) (hi : (k : Nat) = i) (q : Nat) (hq : lv[q]? = some (i, .int x)) (K : V p l e R s m args below meth c D A H0 nL Q ws lv cells slots (pc + 1) (.int x :: rest)) : V p l e R s m args below meth c D A H0 nL Q ws lv cells slots pc rest := fun H locs ls hP hD hS hl => lv_iload_n C.1.1 C.1.2.1 d hi (lv_at hl q hq) (K H locs ls hP hD hS hl)
theorem V_iload (C : Cx p s m args c cc nL own D tys A H0) {i : Nat} {x : Int32} (d : decode cc pc = .ok (.iload i, 2)) (q : Nat) (hq : lv[q]? = some (i, .int x)) (K : V p l e R s m args below meth c D A H0 nL Q ws lv cells slots (pc + 2) (.int x :: rest)) : V p l e R s m args below meth c D A H0 nL Q ws lv cells slots pc rest := fun H locs ls hP hD hS hl => lv_iload C.1.1 C.1.2.1 d (lv_at hl q hq) (K H locs ls hP hD hS hl)
theorem V_aload_n (C : Cx p s m args c cc nL own D tys A H0) {k : Fin 4} {i : Nat} {x : Nat} (d : decode cc pc = .ok (.aload_n k, 1)) (hi : (k : Nat) = i) (q : Nat) (hq : lv[q]? = some (i, .ref x)) (K : V p l e R s m args below meth c D A H0 nL Q ws lv cells slots (pc + 1) (.ref x :: rest)) : V p l e R s m args below meth c D A H0 nL Q ws lv cells slots pc rest := fun H locs ls hP hD hS hl => lv_aload_n C.1.1 C.1.2.1 d hi (lv_at hl q hq) (K H locs ls hP hD hS hl)
theorem V_aload (C : Cx p s m args c cc nL own D tys A H0) {i : Nat} {x : Nat} (d : decode cc pc = .ok (.aload i, 2)) (q : Nat) (hq : lv[q]? = some (i, .ref x)) (K : V p l e R s m args below meth c D A H0 nL Q ws lv cells slots (pc + 2) (.ref x :: rest)) : V p l e R s m args below meth c D A H0 nL Q ws lv cells slots pc rest := fun H locs ls hP hD hS hl => lv_aload C.1.1 C.1.2.1 d (lv_at hl q hq) (K H locs ls hP hD hS hl)
theorem V_lload_n (C : Cx p s m args c cc nL own D tys A H0) {k : Fin 4} {i : Nat} {x : Int64} (d : decode cc pc = .ok (.lload_n k, 1)) (hi : (k : Nat) = i) (q : Nat) (hq : lv[q]? = some (i, .long x)) (K : V p l e R s m args below meth c D A H0 nL Q ws lv cells slots (pc + 1) (.long x :: rest)) : V p l e R s m args below meth c D A H0 nL Q ws lv cells slots pc rest := fun H locs ls hP hD hS hl => lv_lload_n C.1.1 C.1.2.1 d hi (lv_at hl q hq) (K H locs ls hP hD hS hl)
theorem V_lload (C : Cx p s m args c cc nL own D tys A H0) {i : Nat} {x : Int64} (d : decode cc pc = .ok (.lload i, 2)) (q : Nat) (hq : lv[q]? = some (i, .long x)) (K : V p l e R s m args below meth c D A H0 nL Q ws lv cells slots (pc + 2) (.long x :: rest)) : V p l e R s m args below meth c D A H0 nL Q ws lv cells slots pc rest := fun H locs ls hP hD hS hl => lv_lload C.1.1 C.1.2.1 d (lv_at hl q hq) (K H locs ls hP hD hS hl)
theorem V_istore_n (C : Cx p s m args c cc nL own D tys A H0) {k : Fin 4} {i : Nat} {x : Int32} (d : decode cc pc = .ok (.istore_n k, 1)) (hi : (k : Nat) = i) (hn : i < nL) {lv2 : List (Nat × Value)} (ks : List Nat) (hl2 : lv_pick ((i, Value.int x) :: lv.filter (fun q => !(q.1 == i) && !(q.1 + 1 == i && q.2.category == 2))) ks = lv2) (K : V p l e R s m args below meth c D A H0 nL Q ws lv2 cells slots (pc + 1) rest) : V p l e R s m args below meth c D A H0 nL Q ws lv cells slots pc (.int x :: rest) := fun H locs ls hP hD hS hl => lv_istore_n C.1.1 C.1.2.1 d hi hl hn rfl (fun ls2 hl3 => K H locs ls2 hP hD hS (lv_sub hl3 ks hl2))
theorem V_istore (C : Cx p s m args c cc nL own D tys A H0) {i : Nat} {x : Int32} (d : decode cc pc = .ok (.istore i, 2)) (hn : i < nL) {lv2 : List (Nat × Value)} (ks : List Nat) (hl2 : lv_pick ((i, Value.int x) :: lv.filter (fun q => !(q.1 == i) && !(q.1 + 1 == i && q.2.category == 2))) ks = lv2) (K : V p l e R s m args below meth c D A H0 nL Q ws lv2 cells slots (pc + 2) rest) : V p l e R s m args below meth c D A H0 nL Q ws lv cells slots pc (.int x :: rest) := fun H locs ls hP hD hS hl => lv_istore C.1.1 C.1.2.1 d hl hn rfl (fun ls2 hl3 => K H locs ls2 hP hD hS (lv_sub hl3 ks hl2))
theorem V_astore_n (C : Cx p s m args c cc nL own D tys A H0) {k : Fin 4} {i : Nat} {x : Nat} (d : decode cc pc = .ok (.astore_n k, 1)) (hi : (k : Nat) = i) (hn : i < nL) {lv2 : List (Nat × Value)} (ks : List Nat) (hl2 : lv_pick ((i, Value.ref x) :: lv.filter (fun q => !(q.1 == i) && !(q.1 + 1 == i && q.2.category == 2))) ks = lv2) (K : V p l e R s m args below meth c D A H0 nL Q ws lv2 cells slots (pc + 1) rest) : V p l e R s m args below meth c D A H0 nL Q ws lv cells slots pc (.ref x :: rest) := fun H locs ls hP hD hS hl => lv_astore_n C.1.1 C.1.2.1 d hi hl hn rfl (fun ls2 hl3 => K H locs ls2 hP hD hS (lv_sub hl3 ks hl2))
theorem V_astore (C : Cx p s m args c cc nL own D tys A H0) {i : Nat} {x : Nat} (d : decode cc pc = .ok (.astore i, 2)) (hn : i < nL) {lv2 : List (Nat × Value)} (ks : List Nat) (hl2 : lv_pick ((i, Value.ref x) :: lv.filter (fun q => !(q.1 == i) && !(q.1 + 1 == i && q.2.category == 2))) ks = lv2) (K : V p l e R s m args below meth c D A H0 nL Q ws lv2 cells slots (pc + 2) rest) : V p l e R s m args below meth c D A H0 nL Q ws lv cells slots pc (.ref x :: rest) := fun H locs ls hP hD hS hl => lv_astore C.1.1 C.1.2.1 d hl hn rfl (fun ls2 hl3 => K H locs ls2 hP hD hS (lv_sub hl3 ks hl2))
theorem V_iinc (C : Cx p s m args c cc nL own D tys A H0) {i q : Nat} {n : Int} {x v : Int32} (d : decode cc pc = .ok (.iinc i n, 3)) (hq : lv[q]? = some (i, .int x)) (hv : x + Int32.ofInt n = v) (hn : i < nL) {lv2 : List (Nat × Value)} (ks : List Nat) (hl2 : lv_pick ((i, Value.int v) :: lv.filter (fun q => !(q.1 == i) && !(q.1 + 1 == i && q.2.category == 2))) ks = lv2) (K : V p l e R s m args below meth c D A H0 nL Q ws lv2 cells slots (pc + 3) rest) : V p l e R s m args below meth c D A H0 nL Q ws lv cells slots pc rest := fun H locs ls hP hD hS hl => lv_iinc C.1.1 C.1.2.1 d hl hq hv hn rfl (fun ls2 hl3 => K H locs ls2 hP hD hS (lv_sub hl3 ks hl2))
theorem V_iadd (C : Cx p s m args c cc nL own D tys A H0) {a b : Nat} (d : decode cc pc = .ok (.iadd, 1))  (K : V p l e R s m args below meth c D A H0 nL Q ws lv cells slots (pc + 1) (.int (nI (a + b)) :: rest)) : V p l e R s m args below meth c D A H0 nL Q ws lv cells slots pc (.int (nI b) :: .int (nI a) :: rest) := fun H locs ls hP hD hS hl => lv_iadd C.1.1 C.1.2.1 d  (by rw [nI_add]; exact K H locs ls hP hD hS hl)
theorem V_isub (C : Cx p s m args c cc nL own D tys A H0) {a b : Nat} (d : decode cc pc = .ok (.isub, 1)) (h : b ≤ a) (K : V p l e R s m args below meth c D A H0 nL Q ws lv cells slots (pc + 1) (.int (nI (a - b)) :: rest)) : V p l e R s m args below meth c D A H0 nL Q ws lv cells slots pc (.int (nI b) :: .int (nI a) :: rest) := fun H locs ls hP hD hS hl => lv_isub C.1.1 C.1.2.1 d  (by rw [pk_sub h]; exact K H locs ls hP hD hS hl)
theorem V_imul (C : Cx p s m args c cc nL own D tys A H0) {a b : Nat} (d : decode cc pc = .ok (.imul, 1))  (K : V p l e R s m args below meth c D A H0 nL Q ws lv cells slots (pc + 1) (.int (nI (a * b)) :: rest)) : V p l e R s m args below meth c D A H0 nL Q ws lv cells slots pc (.int (nI b) :: .int (nI a) :: rest) := fun H locs ls hP hD hS hl => lv_imul C.1.1 C.1.2.1 d  (by rw [pk_mul]; exact K H locs ls hP hD hS hl)
theorem V_idiv (C : Cx p s m args c cc nL own D tys A H0) {a b : Nat} (d : decode cc pc = .ok (.idiv, 1)) (h0 : 0 < b) (ha : a < 2147483648) (hb : b < 2147483648) (K : V p l e R s m args below meth c D A H0 nL Q ws lv cells slots (pc + 1) (.int (nI (a / b)) :: rest)) : V p l e R s m args below meth c D A H0 nL Q ws lv cells slots pc (.int (nI b) :: .int (nI a) :: rest) := fun H locs ls hP hD hS hl => lv_idiv C.1.1 C.1.2.1 d (nI_ne0 h0 hb) (by rw [pk_div ha h0 hb]; exact K H locs ls hP hD hS hl)
theorem V_iand (C : Cx p s m args c cc nL own D tys A H0) {x y : Int32} (d : decode cc pc = .ok (.iand, 1)) (K : V p l e R s m args below meth c D A H0 nL Q ws lv cells slots (pc + 1) (.int (x &&& y) :: rest)) : V p l e R s m args below meth c D A H0 nL Q ws lv cells slots pc (.int y :: .int x :: rest) := fun H locs ls hP hD hS hl => lv_iand C.1.1 C.1.2.1 d (K H locs ls hP hD hS hl)
theorem V_i2l (C : Cx p s m args c cc nL own D tys A H0) {x : Int32} {v : Int64} (d : decode cc pc = .ok (.i2l, 1)) (hv : x.toInt64 = v) (K : V p l e R s m args below meth c D A H0 nL Q ws lv cells slots (pc + 1) (.long v :: rest)) : V p l e R s m args below meth c D A H0 nL Q ws lv cells slots pc (.int x :: rest) := fun H locs ls hP hD hS hl => lv_i2l C.1.1 C.1.2.1 d hv (K H locs ls hP hD hS hl)
theorem V_lcmp (C : Cx p s m args c cc nL own D tys A H0) {x y : Int64} {v : Int32} (d : decode cc pc = .ok (.lcmp, 1)) (hv : lg_cmp x y = v) (K : V p l e R s m args below meth c D A H0 nL Q ws lv cells slots (pc + 1) (.int v :: rest)) : V p l e R s m args below meth c D A H0 nL Q ws lv cells slots pc (.long y :: .long x :: rest) := fun H locs ls hP hD hS hl => W.lcmp C.1.1 C.1.2.1 d (hv ▸ (K H locs ls hP hD hS hl))
theorem V_dup (C : Cx p s m args c cc nL own D tys A H0) {va : Value} (d : decode cc pc = .ok (.dup, 1)) (hva : va.category = 1) (K : V p l e R s m args below meth c D A H0 nL Q ws lv cells slots (pc + 1) (va :: va :: rest)) : V p l e R s m args below meth c D A H0 nL Q ws lv cells slots pc (va :: rest) := fun H locs ls hP hD hS hl => lv_dup C.1.1 C.1.2.1 d hva (K H locs ls hP hD hS hl)
theorem V_pop (C : Cx p s m args c cc nL own D tys A H0) {va : Value} (d : decode cc pc = .ok (.pop, 1)) (hva : va.category = 1) (K : V p l e R s m args below meth c D A H0 nL Q ws lv cells slots (pc + 1) rest) : V p l e R s m args below meth c D A H0 nL Q ws lv cells slots pc (va :: rest) := fun H locs ls hP hD hS hl => lv_pop C.1.1 C.1.2.1 d hva (K H locs ls hP hD hS hl)
theorem V_dup2 (C : Cx p s m args c cc nL own D tys A H0) {va vb : Value} (d : decode cc pc = .ok (.dup2, 1)) (hva : va.category = 1) (hvb : vb.category = 1) (K : V p l e R s m args below meth c D A H0 nL Q ws lv cells slots (pc + 1) (va :: vb :: va :: vb :: rest)) : V p l e R s m args below meth c D A H0 nL Q ws lv cells slots pc (va :: vb :: rest) := fun H locs ls hP hD hS hl => lv_dup2_11 C.1.1 C.1.2.1 d hva hvb (K H locs ls hP hD hS hl)
theorem V_goto (C : Cx p s m args c cc nL own D tys A H0) {off : Int} {tgt : Nat} (d : decode cc pc = .ok (.goto off, 3)) (ht : (pc : Int) + off = (tgt : Int)) (K : V p l e R s m args below meth c D A H0 nL Q ws lv cells slots tgt rest) : V p l e R s m args below meth c D A H0 nL Q ws lv cells slots pc rest := fun H locs ls hP hD hS hl => lv_goto C.1.1 C.1.2.1 d ht (K H locs ls hP hD hS hl)
theorem V_icmp_eq_T (C : Cx p s m args c cc nL own D tys A H0) {x y : Int32} {off : Int} {tgt : Nat} (d : decode cc pc = .ok (.if_icmp .eq off, 3)) (ht : (pc : Int) + off = (tgt : Int)) (h : x = y) (K : V p l e R s m args below meth c D A H0 nL Q ws lv cells slots tgt rest) : V p l e R s m args below meth c D A H0 nL Q ws lv cells slots pc (.int y :: .int x :: rest) := fun H locs ls hP hD hS hl => lv_icmp_eq C.1.1 C.1.2.1 d ht (fun _ => K H locs ls hP hD hS hl) (fun z => absurd h z)
theorem V_icmp_eq_F (C : Cx p s m args c cc nL own D tys A H0) {x y : Int32} {off : Int} {tgt : Nat} (d : decode cc pc = .ok (.if_icmp .eq off, 3)) (ht : (pc : Int) + off = (tgt : Int)) (h : ¬ x = y) (K : V p l e R s m args below meth c D A H0 nL Q ws lv cells slots (pc + 3) rest) : V p l e R s m args below meth c D A H0 nL Q ws lv cells slots pc (.int y :: .int x :: rest) := fun H locs ls hP hD hS hl => lv_icmp_eq C.1.1 C.1.2.1 d ht (fun z => absurd z h) (fun _ => K H locs ls hP hD hS hl)
theorem V_icmp_eq (C : Cx p s m args c cc nL own D tys A H0) {a b : Nat} (ha : a < 2147483648) (hb : b < 2147483648) {off : Int} {tgt : Nat} (d : decode cc pc = .ok (.if_icmp .eq off, 3)) (ht : (pc : Int) + off = (tgt : Int)) (kt : a = b → V p l e R s m args below meth c D A H0 nL Q ws lv cells slots tgt rest) (kf : a ≠ b → V p l e R s m args below meth c D A H0 nL Q ws lv cells slots (pc + 3) rest) : V p l e R s m args below meth c D A H0 nL Q ws lv cells slots pc (.int (nI b) :: .int (nI a) :: rest) := fun H locs ls hP hD hS hl => lv_icmp_eq C.1.1 C.1.2.1 d ht (fun h => kt ((nI_eq ha hb).mp h) H locs ls hP hD hS hl) (fun h => kf (fun z => h ((nI_eq ha hb).mpr z)) H locs ls hP hD hS hl)
theorem V_if_eq_T (C : Cx p s m args c cc nL own D tys A H0) {x : Int32} {off : Int} {tgt : Nat} (d : decode cc pc = .ok (.ifCond .eq off, 3)) (ht : (pc : Int) + off = (tgt : Int)) (h : x = 0) (K : V p l e R s m args below meth c D A H0 nL Q ws lv cells slots tgt rest) : V p l e R s m args below meth c D A H0 nL Q ws lv cells slots pc (.int x :: rest) := fun H locs ls hP hD hS hl => lv_if_eq C.1.1 C.1.2.1 d ht (fun _ => K H locs ls hP hD hS hl) (fun z => absurd h z)
theorem V_if_eq_F (C : Cx p s m args c cc nL own D tys A H0) {x : Int32} {off : Int} {tgt : Nat} (d : decode cc pc = .ok (.ifCond .eq off, 3)) (ht : (pc : Int) + off = (tgt : Int)) (h : ¬ x = 0) (K : V p l e R s m args below meth c D A H0 nL Q ws lv cells slots (pc + 3) rest) : V p l e R s m args below meth c D A H0 nL Q ws lv cells slots pc (.int x :: rest) := fun H locs ls hP hD hS hl => lv_if_eq C.1.1 C.1.2.1 d ht (fun z => absurd z h) (fun _ => K H locs ls hP hD hS hl)
theorem V_if_eq (C : Cx p s m args c cc nL own D tys A H0) {a : Nat} (ha : a < 2147483648) {off : Int} {tgt : Nat} (d : decode cc pc = .ok (.ifCond .eq off, 3)) (ht : (pc : Int) + off = (tgt : Int)) (kt : a = 0 → V p l e R s m args below meth c D A H0 nL Q ws lv cells slots tgt rest) (kf : 0 < a → V p l e R s m args below meth c D A H0 nL Q ws lv cells slots (pc + 3) rest) : V p l e R s m args below meth c D A H0 nL Q ws lv cells slots pc (.int (nI a) :: rest) := fun H locs ls hP hD hS hl => lv_if_eq C.1.1 C.1.2.1 d ht (fun h => kt ((nI_eq ha (by decide : (0 : Nat) < 2147483648)).mp (h.trans nI_0.symm)) H locs ls hP hD hS hl) (fun h => kf (Nat.pos_of_ne_zero fun z => h (((nI_eq ha (by decide : (0 : Nat) < 2147483648)).mpr z).trans nI_0)) H locs ls hP hD hS hl)
theorem V_icmp_ne_T (C : Cx p s m args c cc nL own D tys A H0) {x y : Int32} {off : Int} {tgt : Nat} (d : decode cc pc = .ok (.if_icmp .ne off, 3)) (ht : (pc : Int) + off = (tgt : Int)) (h : ¬ x = y) (K : V p l e R s m args below meth c D A H0 nL Q ws lv cells slots tgt rest) : V p l e R s m args below meth c D A H0 nL Q ws lv cells slots pc (.int y :: .int x :: rest) := fun H locs ls hP hD hS hl => lv_icmp_ne C.1.1 C.1.2.1 d ht (fun _ => K H locs ls hP hD hS hl) (fun z => absurd z h)
theorem V_icmp_ne_F (C : Cx p s m args c cc nL own D tys A H0) {x y : Int32} {off : Int} {tgt : Nat} (d : decode cc pc = .ok (.if_icmp .ne off, 3)) (ht : (pc : Int) + off = (tgt : Int)) (h : x = y) (K : V p l e R s m args below meth c D A H0 nL Q ws lv cells slots (pc + 3) rest) : V p l e R s m args below meth c D A H0 nL Q ws lv cells slots pc (.int y :: .int x :: rest) := fun H locs ls hP hD hS hl => lv_icmp_ne C.1.1 C.1.2.1 d ht (fun z => absurd h z) (fun _ => K H locs ls hP hD hS hl)
theorem V_icmp_ne (C : Cx p s m args c cc nL own D tys A H0) {a b : Nat} (ha : a < 2147483648) (hb : b < 2147483648) {off : Int} {tgt : Nat} (d : decode cc pc = .ok (.if_icmp .ne off, 3)) (ht : (pc : Int) + off = (tgt : Int)) (kt : a ≠ b → V p l e R s m args below meth c D A H0 nL Q ws lv cells slots tgt rest) (kf : a = b → V p l e R s m args below meth c D A H0 nL Q ws lv cells slots (pc + 3) rest) : V p l e R s m args below meth c D A H0 nL Q ws lv cells slots pc (.int (nI b) :: .int (nI a) :: rest) := fun H locs ls hP hD hS hl => lv_icmp_ne C.1.1 C.1.2.1 d ht (fun h => kt (fun z => h ((nI_eq ha hb).mpr z)) H locs ls hP hD hS hl) (fun h => kf ((nI_eq ha hb).mp h) H locs ls hP hD hS hl)
theorem V_if_ne_T (C : Cx p s m args c cc nL own D tys A H0) {x : Int32} {off : Int} {tgt : Nat} (d : decode cc pc = .ok (.ifCond .ne off, 3)) (ht : (pc : Int) + off = (tgt : Int)) (h : ¬ x = 0) (K : V p l e R s m args below meth c D A H0 nL Q ws lv cells slots tgt rest) : V p l e R s m args below meth c D A H0 nL Q ws lv cells slots pc (.int x :: rest) := fun H locs ls hP hD hS hl => lv_if_ne C.1.1 C.1.2.1 d ht (fun _ => K H locs ls hP hD hS hl) (fun z => absurd z h)
theorem V_if_ne_F (C : Cx p s m args c cc nL own D tys A H0) {x : Int32} {off : Int} {tgt : Nat} (d : decode cc pc = .ok (.ifCond .ne off, 3)) (ht : (pc : Int) + off = (tgt : Int)) (h : x = 0) (K : V p l e R s m args below meth c D A H0 nL Q ws lv cells slots (pc + 3) rest) : V p l e R s m args below meth c D A H0 nL Q ws lv cells slots pc (.int x :: rest) := fun H locs ls hP hD hS hl => lv_if_ne C.1.1 C.1.2.1 d ht (fun z => absurd h z) (fun _ => K H locs ls hP hD hS hl)
theorem V_if_ne (C : Cx p s m args c cc nL own D tys A H0) {a : Nat} (ha : a < 2147483648) {off : Int} {tgt : Nat} (d : decode cc pc = .ok (.ifCond .ne off, 3)) (ht : (pc : Int) + off = (tgt : Int)) (kt : 0 < a → V p l e R s m args below meth c D A H0 nL Q ws lv cells slots tgt rest) (kf : a = 0 → V p l e R s m args below meth c D A H0 nL Q ws lv cells slots (pc + 3) rest) : V p l e R s m args below meth c D A H0 nL Q ws lv cells slots pc (.int (nI a) :: rest) := fun H locs ls hP hD hS hl => lv_if_ne C.1.1 C.1.2.1 d ht (fun h => kt (Nat.pos_of_ne_zero fun z => h (((nI_eq ha (by decide : (0 : Nat) < 2147483648)).mpr z).trans nI_0)) H locs ls hP hD hS hl) (fun h => kf ((nI_eq ha (by decide : (0 : Nat) < 2147483648)).mp (h.trans nI_0.symm)) H locs ls hP hD hS hl)
theorem V_icmp_lt_T (C : Cx p s m args c cc nL own D tys A H0) {x y : Int32} {off : Int} {tgt : Nat} (d : decode cc pc = .ok (.if_icmp .lt off, 3)) (ht : (pc : Int) + off = (tgt : Int)) (h : x < y) (K : V p l e R s m args below meth c D A H0 nL Q ws lv cells slots tgt rest) : V p l e R s m args below meth c D A H0 nL Q ws lv cells slots pc (.int y :: .int x :: rest) := fun H locs ls hP hD hS hl => lv_icmp_lt C.1.1 C.1.2.1 d ht (fun _ => K H locs ls hP hD hS hl) (fun z => absurd h z)
theorem V_icmp_lt_F (C : Cx p s m args c cc nL own D tys A H0) {x y : Int32} {off : Int} {tgt : Nat} (d : decode cc pc = .ok (.if_icmp .lt off, 3)) (ht : (pc : Int) + off = (tgt : Int)) (h : ¬ x < y) (K : V p l e R s m args below meth c D A H0 nL Q ws lv cells slots (pc + 3) rest) : V p l e R s m args below meth c D A H0 nL Q ws lv cells slots pc (.int y :: .int x :: rest) := fun H locs ls hP hD hS hl => lv_icmp_lt C.1.1 C.1.2.1 d ht (fun z => absurd z h) (fun _ => K H locs ls hP hD hS hl)
theorem V_icmp_lt (C : Cx p s m args c cc nL own D tys A H0) {a b : Nat} (ha : a < 2147483648) (hb : b < 2147483648) {off : Int} {tgt : Nat} (d : decode cc pc = .ok (.if_icmp .lt off, 3)) (ht : (pc : Int) + off = (tgt : Int)) (kt : a < b → V p l e R s m args below meth c D A H0 nL Q ws lv cells slots tgt rest) (kf : b ≤ a → V p l e R s m args below meth c D A H0 nL Q ws lv cells slots (pc + 3) rest) : V p l e R s m args below meth c D A H0 nL Q ws lv cells slots pc (.int (nI b) :: .int (nI a) :: rest) := fun H locs ls hP hD hS hl => lv_icmp_lt C.1.1 C.1.2.1 d ht (fun h => kt ((nI_ltI ha hb).mp h) H locs ls hP hD hS hl) (fun h => kf (Nat.not_lt.mp fun z => h ((nI_ltI ha hb).mpr z)) H locs ls hP hD hS hl)
theorem V_if_lt_T (C : Cx p s m args c cc nL own D tys A H0) {x : Int32} {off : Int} {tgt : Nat} (d : decode cc pc = .ok (.ifCond .lt off, 3)) (ht : (pc : Int) + off = (tgt : Int)) (h : x < 0) (K : V p l e R s m args below meth c D A H0 nL Q ws lv cells slots tgt rest) : V p l e R s m args below meth c D A H0 nL Q ws lv cells slots pc (.int x :: rest) := fun H locs ls hP hD hS hl => lv_if_lt C.1.1 C.1.2.1 d ht (fun _ => K H locs ls hP hD hS hl) (fun z => absurd h z)
theorem V_if_lt_F (C : Cx p s m args c cc nL own D tys A H0) {x : Int32} {off : Int} {tgt : Nat} (d : decode cc pc = .ok (.ifCond .lt off, 3)) (ht : (pc : Int) + off = (tgt : Int)) (h : ¬ x < 0) (K : V p l e R s m args below meth c D A H0 nL Q ws lv cells slots (pc + 3) rest) : V p l e R s m args below meth c D A H0 nL Q ws lv cells slots pc (.int x :: rest) := fun H locs ls hP hD hS hl => lv_if_lt C.1.1 C.1.2.1 d ht (fun z => absurd z h) (fun _ => K H locs ls hP hD hS hl)
theorem V_icmp_ge_T (C : Cx p s m args c cc nL own D tys A H0) {x y : Int32} {off : Int} {tgt : Nat} (d : decode cc pc = .ok (.if_icmp .ge off, 3)) (ht : (pc : Int) + off = (tgt : Int)) (h : y ≤ x) (K : V p l e R s m args below meth c D A H0 nL Q ws lv cells slots tgt rest) : V p l e R s m args below meth c D A H0 nL Q ws lv cells slots pc (.int y :: .int x :: rest) := fun H locs ls hP hD hS hl => lv_icmp_ge C.1.1 C.1.2.1 d ht (fun _ => K H locs ls hP hD hS hl) (fun z => absurd h z)
theorem V_icmp_ge_F (C : Cx p s m args c cc nL own D tys A H0) {x y : Int32} {off : Int} {tgt : Nat} (d : decode cc pc = .ok (.if_icmp .ge off, 3)) (ht : (pc : Int) + off = (tgt : Int)) (h : ¬ y ≤ x) (K : V p l e R s m args below meth c D A H0 nL Q ws lv cells slots (pc + 3) rest) : V p l e R s m args below meth c D A H0 nL Q ws lv cells slots pc (.int y :: .int x :: rest) := fun H locs ls hP hD hS hl => lv_icmp_ge C.1.1 C.1.2.1 d ht (fun z => absurd z h) (fun _ => K H locs ls hP hD hS hl)
theorem V_icmp_ge (C : Cx p s m args c cc nL own D tys A H0) {a b : Nat} (ha : a < 2147483648) (hb : b < 2147483648) {off : Int} {tgt : Nat} (d : decode cc pc = .ok (.if_icmp .ge off, 3)) (ht : (pc : Int) + off = (tgt : Int)) (kt : b ≤ a → V p l e R s m args below meth c D A H0 nL Q ws lv cells slots tgt rest) (kf : a < b → V p l e R s m args below meth c D A H0 nL Q ws lv cells slots (pc + 3) rest) : V p l e R s m args below meth c D A H0 nL Q ws lv cells slots pc (.int (nI b) :: .int (nI a) :: rest) := fun H locs ls hP hD hS hl => lv_icmp_ge C.1.1 C.1.2.1 d ht (fun h => kt ((nI_leI hb ha).mp h) H locs ls hP hD hS hl) (fun h => kf (Nat.not_le.mp fun z => h ((nI_leI hb ha).mpr z)) H locs ls hP hD hS hl)
theorem V_if_ge_T (C : Cx p s m args c cc nL own D tys A H0) {x : Int32} {off : Int} {tgt : Nat} (d : decode cc pc = .ok (.ifCond .ge off, 3)) (ht : (pc : Int) + off = (tgt : Int)) (h : 0 ≤ x) (K : V p l e R s m args below meth c D A H0 nL Q ws lv cells slots tgt rest) : V p l e R s m args below meth c D A H0 nL Q ws lv cells slots pc (.int x :: rest) := fun H locs ls hP hD hS hl => lv_if_ge C.1.1 C.1.2.1 d ht (fun _ => K H locs ls hP hD hS hl) (fun z => absurd h z)
theorem V_if_ge_F (C : Cx p s m args c cc nL own D tys A H0) {x : Int32} {off : Int} {tgt : Nat} (d : decode cc pc = .ok (.ifCond .ge off, 3)) (ht : (pc : Int) + off = (tgt : Int)) (h : ¬ 0 ≤ x) (K : V p l e R s m args below meth c D A H0 nL Q ws lv cells slots (pc + 3) rest) : V p l e R s m args below meth c D A H0 nL Q ws lv cells slots pc (.int x :: rest) := fun H locs ls hP hD hS hl => lv_if_ge C.1.1 C.1.2.1 d ht (fun z => absurd z h) (fun _ => K H locs ls hP hD hS hl)
theorem V_icmp_gt_T (C : Cx p s m args c cc nL own D tys A H0) {x y : Int32} {off : Int} {tgt : Nat} (d : decode cc pc = .ok (.if_icmp .gt off, 3)) (ht : (pc : Int) + off = (tgt : Int)) (h : y < x) (K : V p l e R s m args below meth c D A H0 nL Q ws lv cells slots tgt rest) : V p l e R s m args below meth c D A H0 nL Q ws lv cells slots pc (.int y :: .int x :: rest) := fun H locs ls hP hD hS hl => lv_icmp_gt C.1.1 C.1.2.1 d ht (fun _ => K H locs ls hP hD hS hl) (fun z => absurd h z)
theorem V_icmp_gt_F (C : Cx p s m args c cc nL own D tys A H0) {x y : Int32} {off : Int} {tgt : Nat} (d : decode cc pc = .ok (.if_icmp .gt off, 3)) (ht : (pc : Int) + off = (tgt : Int)) (h : ¬ y < x) (K : V p l e R s m args below meth c D A H0 nL Q ws lv cells slots (pc + 3) rest) : V p l e R s m args below meth c D A H0 nL Q ws lv cells slots pc (.int y :: .int x :: rest) := fun H locs ls hP hD hS hl => lv_icmp_gt C.1.1 C.1.2.1 d ht (fun z => absurd z h) (fun _ => K H locs ls hP hD hS hl)
theorem V_icmp_gt (C : Cx p s m args c cc nL own D tys A H0) {a b : Nat} (ha : a < 2147483648) (hb : b < 2147483648) {off : Int} {tgt : Nat} (d : decode cc pc = .ok (.if_icmp .gt off, 3)) (ht : (pc : Int) + off = (tgt : Int)) (kt : b < a → V p l e R s m args below meth c D A H0 nL Q ws lv cells slots tgt rest) (kf : a ≤ b → V p l e R s m args below meth c D A H0 nL Q ws lv cells slots (pc + 3) rest) : V p l e R s m args below meth c D A H0 nL Q ws lv cells slots pc (.int (nI b) :: .int (nI a) :: rest) := fun H locs ls hP hD hS hl => lv_icmp_gt C.1.1 C.1.2.1 d ht (fun h => kt ((nI_ltI hb ha).mp h) H locs ls hP hD hS hl) (fun h => kf (Nat.not_lt.mp fun z => h ((nI_ltI hb ha).mpr z)) H locs ls hP hD hS hl)
theorem V_if_gt_T (C : Cx p s m args c cc nL own D tys A H0) {x : Int32} {off : Int} {tgt : Nat} (d : decode cc pc = .ok (.ifCond .gt off, 3)) (ht : (pc : Int) + off = (tgt : Int)) (h : 0 < x) (K : V p l e R s m args below meth c D A H0 nL Q ws lv cells slots tgt rest) : V p l e R s m args below meth c D A H0 nL Q ws lv cells slots pc (.int x :: rest) := fun H locs ls hP hD hS hl => lv_if_gt C.1.1 C.1.2.1 d ht (fun _ => K H locs ls hP hD hS hl) (fun z => absurd h z)
theorem V_if_gt_F (C : Cx p s m args c cc nL own D tys A H0) {x : Int32} {off : Int} {tgt : Nat} (d : decode cc pc = .ok (.ifCond .gt off, 3)) (ht : (pc : Int) + off = (tgt : Int)) (h : ¬ 0 < x) (K : V p l e R s m args below meth c D A H0 nL Q ws lv cells slots (pc + 3) rest) : V p l e R s m args below meth c D A H0 nL Q ws lv cells slots pc (.int x :: rest) := fun H locs ls hP hD hS hl => lv_if_gt C.1.1 C.1.2.1 d ht (fun z => absurd z h) (fun _ => K H locs ls hP hD hS hl)
theorem V_if_gt (C : Cx p s m args c cc nL own D tys A H0) {a : Nat} (ha : a < 2147483648) {off : Int} {tgt : Nat} (d : decode cc pc = .ok (.ifCond .gt off, 3)) (ht : (pc : Int) + off = (tgt : Int)) (kt : 0 < a → V p l e R s m args below meth c D A H0 nL Q ws lv cells slots tgt rest) (kf : a = 0 → V p l e R s m args below meth c D A H0 nL Q ws lv cells slots (pc + 3) rest) : V p l e R s m args below meth c D A H0 nL Q ws lv cells slots pc (.int (nI a) :: rest) := fun H locs ls hP hD hS hl => lv_if_gt C.1.1 C.1.2.1 d ht (fun h => kt ((nI_ltI (by decide : (0 : Nat) < 2147483648) ha).mp (by rw [nI_0]; exact h)) H locs ls hP hD hS hl) (fun h => kf (Nat.le_zero.mp (Nat.not_lt.mp fun z => h (by have := (nI_ltI (by decide : (0 : Nat) < 2147483648) ha).mpr z; rwa [nI_0] at this))) H locs ls hP hD hS hl)
theorem V_icmp_le_T (C : Cx p s m args c cc nL own D tys A H0) {x y : Int32} {off : Int} {tgt : Nat} (d : decode cc pc = .ok (.if_icmp .le off, 3)) (ht : (pc : Int) + off = (tgt : Int)) (h : x ≤ y) (K : V p l e R s m args below meth c D A H0 nL Q ws lv cells slots tgt rest) : V p l e R s m args below meth c D A H0 nL Q ws lv cells slots pc (.int y :: .int x :: rest) := fun H locs ls hP hD hS hl => lv_icmp_le C.1.1 C.1.2.1 d ht (fun _ => K H locs ls hP hD hS hl) (fun z => absurd h z)
theorem V_icmp_le_F (C : Cx p s m args c cc nL own D tys A H0) {x y : Int32} {off : Int} {tgt : Nat} (d : decode cc pc = .ok (.if_icmp .le off, 3)) (ht : (pc : Int) + off = (tgt : Int)) (h : ¬ x ≤ y) (K : V p l e R s m args below meth c D A H0 nL Q ws lv cells slots (pc + 3) rest) : V p l e R s m args below meth c D A H0 nL Q ws lv cells slots pc (.int y :: .int x :: rest) := fun H locs ls hP hD hS hl => lv_icmp_le C.1.1 C.1.2.1 d ht (fun z => absurd z h) (fun _ => K H locs ls hP hD hS hl)
theorem V_icmp_le (C : Cx p s m args c cc nL own D tys A H0) {a b : Nat} (ha : a < 2147483648) (hb : b < 2147483648) {off : Int} {tgt : Nat} (d : decode cc pc = .ok (.if_icmp .le off, 3)) (ht : (pc : Int) + off = (tgt : Int)) (kt : a ≤ b → V p l e R s m args below meth c D A H0 nL Q ws lv cells slots tgt rest) (kf : b < a → V p l e R s m args below meth c D A H0 nL Q ws lv cells slots (pc + 3) rest) : V p l e R s m args below meth c D A H0 nL Q ws lv cells slots pc (.int (nI b) :: .int (nI a) :: rest) := fun H locs ls hP hD hS hl => lv_icmp_le C.1.1 C.1.2.1 d ht (fun h => kt ((nI_leI ha hb).mp h) H locs ls hP hD hS hl) (fun h => kf (Nat.not_le.mp fun z => h ((nI_leI ha hb).mpr z)) H locs ls hP hD hS hl)
theorem V_if_le_T (C : Cx p s m args c cc nL own D tys A H0) {x : Int32} {off : Int} {tgt : Nat} (d : decode cc pc = .ok (.ifCond .le off, 3)) (ht : (pc : Int) + off = (tgt : Int)) (h : x ≤ 0) (K : V p l e R s m args below meth c D A H0 nL Q ws lv cells slots tgt rest) : V p l e R s m args below meth c D A H0 nL Q ws lv cells slots pc (.int x :: rest) := fun H locs ls hP hD hS hl => lv_if_le C.1.1 C.1.2.1 d ht (fun _ => K H locs ls hP hD hS hl) (fun z => absurd h z)
theorem V_if_le_F (C : Cx p s m args c cc nL own D tys A H0) {x : Int32} {off : Int} {tgt : Nat} (d : decode cc pc = .ok (.ifCond .le off, 3)) (ht : (pc : Int) + off = (tgt : Int)) (h : ¬ x ≤ 0) (K : V p l e R s m args below meth c D A H0 nL Q ws lv cells slots (pc + 3) rest) : V p l e R s m args below meth c D A H0 nL Q ws lv cells slots pc (.int x :: rest) := fun H locs ls hP hD hS hl => lv_if_le C.1.1 C.1.2.1 d ht (fun z => absurd z h) (fun _ => K H locs ls hP hD hS hl)
theorem V_if_le (C : Cx p s m args c cc nL own D tys A H0) {a : Nat} (ha : a < 2147483648) {off : Int} {tgt : Nat} (d : decode cc pc = .ok (.ifCond .le off, 3)) (ht : (pc : Int) + off = (tgt : Int)) (kt : a = 0 → V p l e R s m args below meth c D A H0 nL Q ws lv cells slots tgt rest) (kf : 0 < a → V p l e R s m args below meth c D A H0 nL Q ws lv cells slots (pc + 3) rest) : V p l e R s m args below meth c D A H0 nL Q ws lv cells slots pc (.int (nI a) :: rest) := fun H locs ls hP hD hS hl => lv_if_le C.1.1 C.1.2.1 d ht (fun h => kt (Nat.le_zero.mp ((nI_leI ha (by decide : (0 : Nat) < 2147483648)).mp (by rw [nI_0]; exact h))) H locs ls hP hD hS hl) (fun h => kf (Nat.not_le.mp fun z => h (by have := (nI_leI ha (by decide : (0 : Nat) < 2147483648)).mpr z; rwa [nI_0] at this)) H locs ls hP hD hS hl)
theorem V_get (C : Cx p s m args c cc nL own D tys A H0) {Cn : String} {T : u_T} {N ci index : Nat} {a : Nat} {fs : List Value} {v : Value} (hin : ∀ w ∈ u_ws Cn T N, w ∈ AW) (q0 : Nat) (he : ws[q0]? = some (a, .inr (ci, fs))) (hc : vwCl[ci]? = some (Cn, T, N)) (k : Nat) (hk : k < N) (hm : Cond.fieldLink own index (T k).1 (T k).2.1 (T k).2.2.1 ∈ AW) (hv : fs[k]? = some v) (d : decode cc pc = .ok (.getfield index, 3)) (K : V p l e R s m args below meth c D A H0 nL Q ws lv cells slots (pc + 3) (v :: rest)) : V p l e R s m args below meth c D A H0 nL Q ws lv cells slots pc (.ref a :: rest) := fun H locs ls hP hD hS hl => va_get C.1.1 C.1.2.1 C.1.2.2.2.2 hin C.1.2.2.2.1 C.2.1 hP q0 he hc k hk (C.1.2.2.2.2 _ hm) (fun _ h9 => h9) hv d (K H locs ls hP hD hS hl)
theorem V_getN (C : Cx p s m args c cc nL own D tys A H0) {Cn : String} {T : u_T} {N ci index : Nat} {a : Nat} {fs : List Value} {v : Value} {host : String} {i9 : Nat} (hin : ∀ w ∈ u_ws Cn T N, w ∈ AW) (q0 : Nat) (he : ws[q0]? = some (a, .inr (ci, fs))) (hc : vwCl[ci]? = some (Cn, T, N)) (k : Nat) (hk : k < N) (hm : tables_1[i9]? = some (Cond.fieldLinkNest own index (T k).1 (T k).2.1 (T k).2.2.1 host)) (hv : fs[k]? = some v) (d : decode cc pc = .ok (.getfield index, 3)) (K : V p l e R s m args below meth c D A H0 nL Q ws lv cells slots (pc + 3) (v :: rest)) : V p l e R s m args below meth c D A H0 nL Q ws lv cells slots pc (.ref a :: rest) := fun H locs ls hP hD hS hl => va_getN C.1.1 C.1.2.1 C.1.2.2.2.2 hin C.1.2.2.2.1 C.2.1 hP q0 he hc k hk (va_Nw.use rfl (C.2.2.2.at hm rfl)) (fun _ h9 => h9) hv d (K H locs ls hP hD hS hl)
theorem V_put (C : Cx p s m args c cc nL own D tys A H0) {Cn : String} {T : u_T} {N ci index : Nat} {a : Nat} {fs : List Value} {v : Value} (ty0 : Nat → FieldType) (hty : ∀ k, k < N → parseFieldDescriptor (T k).2.2.1 = some (ty0 k)) (hnm : ∀ a, a < N → ∀ b, b < N → a ≠ b → (T a).2.1 ≠ (T b).2.1) (hin : ∀ w ∈ u_ws Cn T N, w ∈ AW) (q0 : Nat) (he : ws[q0]? = some (a, .inr (ci, fs))) (hc : vwCl[ci]? = some (Cn, T, N)) (k : Nat) (hk : k < N) (hm : Cond.fieldLink own index (T k).1 (T k).2.1 (T k).2.2.1 ∈ AW) (hfin : (T k).2.2.2 = false) (hn : narrow (ty0 k) v = v) (hfit : fits (ty0 k) v = true) (hlen : k < fs.length) (d : decode cc pc = .ok (.putfield index, 3)) {ws2 : va_W} (hw : ws.set q0 (a, .inr (ci, fs.set k v)) = ws2) (K : V p l e R s m args below meth c D A H0 nL Q ws2 lv cells slots (pc + 3) rest) : V p l e R s m args below meth c D A H0 nL Q ws lv cells slots pc (v :: .ref a :: rest) := fun H locs ls hP hD hS hl => va_put C.1.1 C.1.2.1 C.1.2.2.2.2 hin ty0 hty hnm C.1.2.2.2.1 C.2.1 hP hD hS q0 he hc k hk (C.1.2.2.2.2 _ hm) (fun _ h9 => h9) hfin (hty k hk) hn hfit hlen d (fun H1 locs1 hP1 hD1 hS1 => K H1 locs1 ls (hw ▸ hP1) (hw ▸ hD1) hS1 hl)
theorem V_putN (C : Cx p s m args c cc nL own D tys A H0) {Cn : String} {T : u_T} {N ci index : Nat} {a : Nat} {fs : List Value} {v : Value} {host : String} {i9 : Nat} (ty0 : Nat → FieldType) (hty : ∀ k, k < N → parseFieldDescriptor (T k).2.2.1 = some (ty0 k)) (hnm : ∀ a, a < N → ∀ b, b < N → a ≠ b → (T a).2.1 ≠ (T b).2.1) (hin : ∀ w ∈ u_ws Cn T N, w ∈ AW) (q0 : Nat) (he : ws[q0]? = some (a, .inr (ci, fs))) (hc : vwCl[ci]? = some (Cn, T, N)) (k : Nat) (hk : k < N) (hm : tables_1[i9]? = some (Cond.fieldLinkNest own index (T k).1 (T k).2.1 (T k).2.2.1 host)) (hfin : (T k).2.2.2 = false) (hn : narrow (ty0 k) v = v) (hfit : fits (ty0 k) v = true) (hlen : k < fs.length) (d : decode cc pc = .ok (.putfield index, 3)) {ws2 : va_W} (hw : ws.set q0 (a, .inr (ci, fs.set k v)) = ws2) (K : V p l e R s m args below meth c D A H0 nL Q ws2 lv cells slots (pc + 3) rest) : V p l e R s m args below meth c D A H0 nL Q ws lv cells slots pc (v :: .ref a :: rest) := fun H locs ls hP hD hS hl => va_putN C.1.1 C.1.2.1 C.1.2.2.2.2 hin ty0 hty hnm C.1.2.2.2.1 C.2.1 hP hD hS q0 he hc k hk (va_Nw.use rfl (C.2.2.2.at hm rfl)) (fun _ h9 => h9) hfin (hty k hk) hn hfit hlen d (fun H1 locs1 hP1 hD1 hS1 => K H1 locs1 ls (hw ▸ hP1) (hw ▸ hD1) hS1 hl)
theorem V_putF (C : Cx p s m args c cc nL own D tys A H0) {Cn : String} {T : u_T} {N ci index : Nat} {a : Nat} {fs : List Value} {v : Value} (ty0 : Nat → FieldType) (hty : ∀ k, k < N → parseFieldDescriptor (T k).2.2.1 = some (ty0 k)) (hnm : ∀ a, a < N → ∀ b, b < N → a ≠ b → (T a).2.1 ≠ (T b).2.1) (hin : ∀ w ∈ u_ws Cn T N, w ∈ AW) (q0 : Nat) (he : ws[q0]? = some (a, .inr (ci, fs))) (hc : vwCl[ci]? = some (Cn, T, N)) (k : Nat) (hk : k < N) (hm : Cond.fieldLink own index (T k).1 (T k).2.1 (T k).2.2.1 ∈ AW) (hfin : (T k).2.2.2 = true) (hini : meth.name = "<init>") (hdecl : (T k).1 = own) (hn : narrow (ty0 k) v = v) (hfit : fits (ty0 k) v = true) (hlen : k < fs.length) (d : decode cc pc = .ok (.putfield index, 3)) {ws2 : va_W} (hw : ws.set q0 (a, .inr (ci, fs.set k v)) = ws2) (K : V p l e R s m args below meth c D A H0 nL Q ws2 lv cells slots (pc + 3) rest) : V p l e R s m args below meth c D A H0 nL Q ws lv cells slots pc (v :: .ref a :: rest) := fun H locs ls hP hD hS hl => va_putF C.1.1 C.1.2.1 C.1.2.2.2.2 hin ty0 hty hnm C.1.2.2.2.1 C.2.1 hP hD hS q0 he hc k hk (C.1.2.2.2.2 _ hm) (fun _ h9 => h9) hfin hini hdecl (hty k hk) hn hfit hlen d (fun H1 locs1 hP1 hD1 hS1 => K H1 locs1 ls (hw ▸ hP1) (hw ▸ hD1) hS1 hl)
theorem upd_nI {g : Nat → Nat} {k x : Nat} : upd (fun j => nI (g j)) k (nI x) = fun j => nI (va_up g k x j) := by
  funext j
  by_cases h : j = k
  · simp [upd, va_up, h]
  · simp [upd, va_up, h]
theorem V_iald (C : Cx p s m args c cc nL own D tys A H0) {a n : Nat} {cA : ClassId} {g : Nat → Nat} {i : Nat} (q0 t0 : Nat) (ha : ws[q0]? = some (a, .inl (cA, n, .inl (fun j => nI (g j))))) (ht : tys[t0]? = some (cA, .int)) (hi : i < n) (hn : n < 2147483648) (d : decode cc pc = .ok (.iaload, 1)) (K : V p l e R s m args below meth c D A H0 nL Q ws lv cells slots (pc + 1) (.int (nI (g i)) :: rest)) : V p l e R s m args below meth c D A H0 nL Q ws lv cells slots pc (.int (nI i) :: .ref a :: rest) := fun H locs ls hP hD hS hl => va_iald C.1.1 C.1.2.1 C.2.1 hP q0 t0 ha ht (vp_in_nI hi hn) d (by rw [nI_clamp (Nat.lt_trans hi hn)]; exact K H locs ls hP hD hS hl)
theorem V_iast (C : Cx p s m args c cc nL own D tys A H0) {a n : Nat} {cA : ClassId} {g : Nat → Nat} {i x : Nat} (q0 t0 : Nat) (ha : ws[q0]? = some (a, .inl (cA, n, .inl (fun j => nI (g j))))) (ht : tys[t0]? = some (cA, .int)) (hi : i < n) (hn : n < 2147483648) (d : decode cc pc = .ok (.iastore, 1)) {ws2 : va_W} (hw : ws.set q0 (a, .inl (cA, n, .inl (fun j => nI (va_up g i x j)))) = ws2) (K : V p l e R s m args below meth c D A H0 nL Q ws2 lv cells slots (pc + 1) rest) : V p l e R s m args below meth c D A H0 nL Q ws lv cells slots pc (.int (nI x) :: .int (nI i) :: .ref a :: rest) := by
  subst hw
  exact fun H locs ls hP hD hS hl => va_iast C.1.1 C.1.2.1 C.2.1 hP hD hS q0 t0 ha ht (vp_in_nI hi hn) d (fun H1 locs1 hP1 hD1 hS1 => by
    rw [nI_clamp (Nat.lt_trans hi hn), upd_nI] at hP1 hD1
    exact K H1 locs1 ls hP1 hD1 hS1 hl)
theorem V_alen (C : Cx p s m args c cc nL own D tys A H0) {a : Nat} {cA : ClassId} {x : vp_A} {ty : FieldType} {v : Int32} (q0 t0 : Nat) (ha : ws[q0]? = some (a, .inl (cA, x))) (ht : tys[t0]? = some (cA, ty)) (hv : nI x.1 = v) (d : decode cc pc = .ok (.arraylength, 1)) (K : V p l e R s m args below meth c D A H0 nL Q ws lv cells slots (pc + 1) (.int v :: rest)) : V p l e R s m args below meth c D A H0 nL Q ws lv cells slots pc (.ref a :: rest) := fun H locs ls hP hD hS hl => va_alen C.1.1 C.1.2.1 C.2.1 hP q0 t0 ha ht hv d (K H locs ls hP hD hS hl)
theorem V_aldq (C : Cx p s m args c cc nL own D tys A H0) {a n : Nat} {cA : ClassId} {Cn : String} {f : Nat → Option Nat} {i : Nat} {v : Value} (q0 t0 : Nat) (ha : ws[q0]? = some (a, .inl (cA, n, .inr (.inr (.inr (.inr f)))))) (ht : tys[t0]? = some (cA, .object Cn)) (hi : i < n) (hn : n < 2147483648) (hv : va_rf (f i) = v) (d : decode cc pc = .ok (.aaload, 1)) (K : V p l e R s m args below meth c D A H0 nL Q ws lv cells slots (pc + 1) (v :: rest)) : V p l e R s m args below meth c D A H0 nL Q ws lv cells slots pc (.int (nI i) :: .ref a :: rest) := fun H locs ls hP hD hS hl => va_aldq C.1.1 C.1.2.1 C.2.1 hP q0 t0 ha ht (vp_in_nI hi hn) d (by rw [nI_clamp (Nat.lt_trans hi hn), hv]; exact K H locs ls hP hD hS hl)
theorem V_astq (C : Cx p s m args c cc nL own D tys A H0) {a n v ci : Nat} {cA : ClassId} {r : vw_C} {f : Nat → Option Nat} {i : Nat} {vs : List Value} (q0 t0 qk : Nat) (ha : ws[q0]? = some (a, .inl (cA, n, .inr (.inr (.inr (.inr f)))))) (ht : tys[t0]? = some (cA, .object r.1)) (hv : ws[qk]? = some (v, .inr (ci, vs))) (hc : vwCl[ci]? = some r) (hi : i < n) (hn : n < 2147483648) (d : decode cc pc = .ok (.aastore, 1)) {ws2 : va_W} (hw : ws.set q0 (a, .inl (cA, n, .inr (.inr (.inr (.inr (va_up f i (some v))))))) = ws2) (K : V p l e R s m args below meth c D A H0 nL Q ws2 lv cells slots (pc + 1) rest) : V p l e R s m args below meth c D A H0 nL Q ws lv cells slots pc (.ref v :: .int (nI i) :: .ref a :: rest) := by
  subst hw
  exact fun H locs ls hP hD hS hl => va_astq C.1.1 C.1.2.1 C.2.1 hP hD hS q0 t0 qk ci ha ht hv hc (vp_in_nI hi hn) d (fun H1 locs1 hP1 hD1 hS1 => by
    rw [nI_clamp (Nat.lt_trans hi hn)] at hP1 hD1
    exact K H1 locs1 ls hP1 hD1 hS1 hl)
theorem V_ifnull (C : Cx p s m args c cc nL own D tys A H0) {x : Nat} {off : Int} (d : decode cc pc = .ok (.ifnull off, 3)) (K : V p l e R s m args below meth c D A H0 nL Q ws lv cells slots (pc + 3) rest) : V p l e R s m args below meth c D A H0 nL Q ws lv cells slots pc (.ref x :: rest) := fun H locs ls hP hD hS hl => lv_ifnull C.1.1 C.1.2.1 d (K H locs ls hP hD hS hl)
theorem V_mmax (C : Cx p s m args c cc nL own D tys A H0) {a b index : Nat} (hlink : Cond.methodLink own index Lib.Math.max.name ∈ AW) (hstat : Cond.static Lib.Math.max.name ∈ AW) (hini : Cond.initialized "java/lang/Math" ∈ AW) (hcode : Cond.code Lib.Math.max.name Lib.Math.max.code 2 (some .int) ∈ AW) (ha : a < 2147483648) (hb : b < 2147483648) (hf : 1 ≤ R.frames) (hlo : (rest.map fun v => v.category).sum + 13 ≤ R.locals) (hcs : cells ≤ R.cells) (hss : slots ≤ R.slots) (d : decode cc pc = .ok (.invokestatic index, 3)) (K : V p l e R s m args below meth c D A H0 nL Q ws lv cells slots (pc + 3) (.int (nI (max a b)) :: rest)) : V p l e R s m args below meth c D A H0 nL Q ws lv cells slots pc (.int (nI b) :: .int (nI a) :: rest) := by
  intro H locs ls hP hD hS hl
  have hT := C.1.2.2.2.2
  refine va_mmax C.1.1 C.1.2.1 (C.1.2.2.1.trans hl.1.symm) C.1.2.2.2.1 (hT _ hlink) (hT _ hstat) (hT _ hini) (hT _ hcode) hf hlo hcs hss d ?_
  have e : (if nI a < nI b then nI b else nI a) = nI (max a b) := by
    by_cases q : a < b
    · rw [if_pos (nI_lt q hb), show (max a b) = b by omega]
    · rw [if_neg (nI_nlt (Nat.not_lt.mp q) ha), show (max a b) = a by omega]
  rw [e]
  exact K H locs ls hP hD hS hl
theorem V_mmin (C : Cx p s m args c cc nL own D tys A H0) {a b index : Nat} (hlink : Cond.methodLink own index Lib.Math.min.name ∈ AW) (hstat : Cond.static Lib.Math.min.name ∈ AW) (hini : Cond.initialized "java/lang/Math" ∈ AW) (hcode : Cond.code Lib.Math.min.name Lib.Math.min.code 2 (some .int) ∈ AW) (ha : a < 2147483648) (hb : b < 2147483648) (hf : 1 ≤ R.frames) (hlo : (rest.map fun v => v.category).sum + 13 ≤ R.locals) (hcs : cells ≤ R.cells) (hss : slots ≤ R.slots) (d : decode cc pc = .ok (.invokestatic index, 3)) (K : V p l e R s m args below meth c D A H0 nL Q ws lv cells slots (pc + 3) (.int (nI (min a b)) :: rest)) : V p l e R s m args below meth c D A H0 nL Q ws lv cells slots pc (.int (nI b) :: .int (nI a) :: rest) := by
  intro H locs ls hP hD hS hl
  have hT := C.1.2.2.2.2
  refine va_mmin C.1.1 C.1.2.1 (C.1.2.2.1.trans hl.1.symm) C.1.2.2.2.1 (hT _ hlink) (hT _ hstat) (hT _ hini) (hT _ hcode) hf hlo hcs hss d ?_
  have e : (if nI b < nI a then nI b else nI a) = nI (min a b) := by
    by_cases q : b < a
    · rw [if_pos (nI_lt q ha), show (min a b) = b by omega]
    · rw [if_neg (nI_nlt (Nat.not_lt.mp q) hb), show (min a b) = a by omega]
  rw [e]
  exact K H locs ls hP hD hS hl
theorem V_iret {S : Type} {ret : FieldType} {post : Int32 → S → Prop} {wo : S → va_W} {mc ms : Nat} {x : Int32} (C : Cx p s m args c cc nL own D tys A s.heap) (hr : meth.sig.returnType = some ret) (hlk : meth.locks = false) (hnr : narrow ret (.int x) = .int x) (hmc : cells ≤ mc) (hms : slots ≤ ms) (d : decode cc pc = .ok (.ireturn, 1)) (u : S) (is : List Nat) (hs : is.map (fun i => ws[i]?) = (wo u).map some) (hn : va_nd is = true) (hp : post x u) : V p l e R s m args below meth c D A s.heap nL (MQ below (va_Qi post (Bo D tys A wo) A) args s mc ms A) ws lv cells slots pc [.int x] := fun H locs ls hP hD hS hl =>
  W.widen hmc hms (W.zret C.1.1 C.1.2.1 hr hnr (fun t ht hW => ⟨⟨x, u, rfl, hp, by rw [ht]; exact va_subM hP is hs, va_K.moved hW.alike C.2.1, hD.sub is hn hs⟩, hS.F ht⟩) hS.2.2 d hlk)
theorem V_vret {S : Type} {post : S → Prop} {wo : S → va_W} {mc ms : Nat} (C : Cx p s m args c cc nL own D tys A s.heap) (hr : meth.sig.returnType = none) (hlk : meth.locks = false) (hmc : cells ≤ mc) (hms : slots ≤ ms) (d : decode cc pc = .ok (.return_, 1)) (u : S) (is : List Nat) (hs : is.map (fun i => ws[i]?) = (wo u).map some) (hn : va_nd is = true) (hp : post u) : V p l e R s m args below meth c D A s.heap nL (MQ below (va_Qv post (Bo D tys A wo) A) args s mc ms A) ws lv cells slots pc [] := fun H locs ls hP hD hS hl =>
  W.widen hmc hms (W.vret C.1.1 C.1.2.1 hr (fun t ht hW => ⟨⟨u, rfl, hp, by rw [ht]; exact va_subM hP is hs, va_K.moved hW.alike C.2.1, hD.sub is hn hs⟩, hS.F ht⟩) hS.2.2 d hlk)
theorem V_calliV {S : Type} {y : MethodName} {bytes : ByteArray} {maxL n index mc ms : Nat} {ret : Option FieldType} {rm : Room} {Cn : String} {b : Nat} {As : List Value} {wi wr : va_W} {post : Int32 → S → Prop} {wo : S → va_W} (C : Cx p s m args c cc nL own D tys A H0) (hM : MI l y bytes maxL ret rm D tys (.ref b :: As) wi post wo mc ms) (ok : MOK Cn y bytes maxL ret n) (hlink : Cond.methodLink own index y ∈ AW) {q1 ci : Nat} {T : u_T} {N : Nat} {fs : List Value} (hq1 : wi[q1]? = some (b, .inr (ci, fs))) (hci : vwCl[ci]? = some (Cn, T, N)) (hAs : As.length = n) (hrc : rm.cells = mc) (hrs : rm.slots = ms) (hfr : rm.frames + 1 ≤ R.frames) (hlo : 8 + (maxL + 11) + rm.locals ≤ R.locals) (hcs : cells + mc ≤ R.cells ∧ slots + ms ≤ R.slots) (hroom : (rest.map fun v => v.category).sum ≤ 8) (isC isR : List Nat) (hC : isC.map (fun i => ws[i]?) = wi.map some) (hCn : va_nd isC = true) (hR : isR.map (fun i => ws[i]?) = wr.map some) (hRn : va_nd isR = true) (hdis : ∀ i ∈ isR, i ∉ isC) (d : decode cc pc = .ok (.invokevirtual index, 3)) (hst : st = (As.reverse ++ .ref b :: rest))
    (K : ∀ (r : Int32) (u : S), post r u → V p l e R s m args below meth c D A H0 nL Q (wr ++ wo u) lv (cells + mc) (slots + ms) (pc + 3) (.int r :: rest)) : V p l e R s m args below meth c D A H0 nL Q ws lv cells slots pc st := by
  subst hst
  intro H locs ls hP hD hS hl
  have hts := C.1.2.2.2.2
  have hPc : va_P D vwCl wi H := va_subM hP isC hC
  have hDc : va_D A wi := hD.sub isC hCn hC
  have hFc : ∀ q, va_A wi H.size q → A q := va_free hD hS C.2.2.1 isC hC
  refine va_calli (va_runV (As := As) (rest := rest) C.1 (hM H.size) (cwV n hts (goodV hlink ok) rfl hrc hrs ok.2.2.2.2 ⟨hfr, hlo⟩) ⟨Pin.blind, va_recv C.2.1 hPc hci hq1, fun U hU hW => ⟨rfl, by rw [hU], by rw [hU]; exact hPc, va_K.moved hW.alike C.2.1, hDc.weaken (fun _ _ _ _ => trivial), NW.warm hW C.2.2.2⟩⟩ rfl hAs hl.1 rfl (lv_room hroom) d hcs) hS (fun q _ h => hFc q h) hFc (fun r u t H1 locs1 ht hvm hw hB hz1 hk1 hS1 => ?_)
  obtain ⟨hP1, hK1, hD1⟩ := hB
  rw [ht] at hP1
  obtain ⟨hP2, hD2⟩ := va_join hP hD isC isR hC hR hRn hdis hk1 hFc hP1 hD1
  exact K r u hw H1 locs1 ls hP2 hD2 hS1 hl
theorem V_callvV {S : Type} {y : MethodName} {bytes : ByteArray} {maxL n index mc ms : Nat} {ret : Option FieldType} {rm : Room} {Cn : String} {b : Nat} {As : List Value} {wi wr : va_W} {post : S → Prop} {wo : S → va_W} (C : Cx p s m args c cc nL own D tys A H0) (hM : MV l y bytes maxL ret rm D tys (.ref b :: As) wi post wo mc ms) (ok : MOK Cn y bytes maxL ret n) (hlink : Cond.methodLink own index y ∈ AW) {q1 ci : Nat} {T : u_T} {N : Nat} {fs : List Value} (hq1 : wi[q1]? = some (b, .inr (ci, fs))) (hci : vwCl[ci]? = some (Cn, T, N)) (hAs : As.length = n) (hrc : rm.cells = mc) (hrs : rm.slots = ms) (hfr : rm.frames + 1 ≤ R.frames) (hlo : 8 + (maxL + 11) + rm.locals ≤ R.locals) (hcs : cells + mc ≤ R.cells ∧ slots + ms ≤ R.slots) (hroom : (rest.map fun v => v.category).sum ≤ 8) (isC isR : List Nat) (hC : isC.map (fun i => ws[i]?) = wi.map some) (hCn : va_nd isC = true) (hR : isR.map (fun i => ws[i]?) = wr.map some) (hRn : va_nd isR = true) (hdis : ∀ i ∈ isR, i ∉ isC) (d : decode cc pc = .ok (.invokevirtual index, 3)) (hst : st = (As.reverse ++ .ref b :: rest))
    (K : ∀ (u : S), post u → V p l e R s m args below meth c D A H0 nL Q (wr ++ wo u) lv (cells + mc) (slots + ms) (pc + 3) rest) : V p l e R s m args below meth c D A H0 nL Q ws lv cells slots pc st := by
  subst hst
  intro H locs ls hP hD hS hl
  have hts := C.1.2.2.2.2
  have hPc : va_P D vwCl wi H := va_subM hP isC hC
  have hDc : va_D A wi := hD.sub isC hCn hC
  have hFc : ∀ q, va_A wi H.size q → A q := va_free hD hS C.2.2.1 isC hC
  refine va_callv (va_runV (As := As) (rest := rest) C.1 (hM H.size) (cwV n hts (goodV hlink ok) rfl hrc hrs ok.2.2.2.2 ⟨hfr, hlo⟩) ⟨Pin.blind, va_recv C.2.1 hPc hci hq1, fun U hU hW => ⟨rfl, by rw [hU], by rw [hU]; exact hPc, va_K.moved hW.alike C.2.1, hDc.weaken (fun _ _ _ _ => trivial), NW.warm hW C.2.2.2⟩⟩ rfl hAs hl.1 rfl (lv_room hroom) d hcs) hS (fun q _ h => hFc q h) hFc (fun u t H1 locs1 ht hvm hw hB hz1 hk1 hS1 => ?_)
  obtain ⟨hP1, hK1, hD1⟩ := hB
  rw [ht] at hP1
  obtain ⟨hP2, hD2⟩ := va_join hP hD isC isR hC hR hRn hdis hk1 hFc hP1 hD1
  exact K u hw H1 locs1 ls hP2 hD2 hS1 hl
theorem V_calliS {S : Type} {y : MethodName} {bytes : ByteArray} {maxL n index mc ms : Nat} {ret : Option FieldType} {rm : Room} {As : List Value} {wi wr : va_W} {post : Int32 → S → Prop} {wo : S → va_W} (C : Cx p s m args c cc nL own D tys A H0) (hM : MI l y bytes maxL ret rm D tys As wi post wo mc ms) (ok : MOKs y bytes maxL ret n) (hlink : Cond.methodLink own index y ∈ AW) (hAs : As.length = n) (hrc : rm.cells = mc) (hrs : rm.slots = ms) (hfr : rm.frames + 1 ≤ R.frames) (hlo : 8 + (maxL + 11) + rm.locals ≤ R.locals) (hcs : cells + mc ≤ R.cells ∧ slots + ms ≤ R.slots) (hroom : (rest.map fun v => v.category).sum ≤ 8) (isC isR : List Nat) (hC : isC.map (fun i => ws[i]?) = wi.map some) (hCn : va_nd isC = true) (hR : isR.map (fun i => ws[i]?) = wr.map some) (hRn : va_nd isR = true) (hdis : ∀ i ∈ isR, i ∉ isC) (d : decode cc pc = .ok (.invokestatic index, 3)) (hst : st = (As.reverse ++ rest))
    (K : ∀ (r : Int32) (u : S), post r u → V p l e R s m args below meth c D A H0 nL Q (wr ++ wo u) lv (cells + mc) (slots + ms) (pc + 3) (.int r :: rest)) : V p l e R s m args below meth c D A H0 nL Q ws lv cells slots pc st := by
  subst hst
  intro H locs ls hP hD hS hl
  have hts := C.1.2.2.2.2
  have hPc : va_P D vwCl wi H := va_subM hP isC hC
  have hDc : va_D A wi := hD.sub isC hCn hC
  have hFc : ∀ q, va_A wi H.size q → A q := va_free hD hS C.2.2.1 isC hC
  refine va_calli (va_runS (As := As) (rest := rest) C.1 (hM H.size) (va_cwS n hts (goodS hlink ok) rfl hrc hrs ok.2.2.2 ⟨hfr, hlo⟩) ⟨Pin.blind, fun U hU hW => ⟨rfl, by rw [hU], by rw [hU]; exact hPc, va_K.moved hW.alike C.2.1, hDc.weaken (fun _ _ _ _ => trivial), NW.warm hW C.2.2.2⟩⟩ rfl hAs hl.1 rfl (lv_room hroom) d hcs) hS (fun q _ h => hFc q h) hFc (fun r u t H1 locs1 ht hvm hw hB hz1 hk1 hS1 => ?_)
  obtain ⟨hP1, hK1, hD1⟩ := hB
  rw [ht] at hP1
  obtain ⟨hP2, hD2⟩ := va_join hP hD isC isR hC hR hRn hdis hk1 hFc hP1 hD1
  exact K r u hw H1 locs1 ls hP2 hD2 hS1 hl
theorem V_callvS {S : Type} {y : MethodName} {bytes : ByteArray} {maxL n index mc ms : Nat} {ret : Option FieldType} {rm : Room} {As : List Value} {wi wr : va_W} {post : S → Prop} {wo : S → va_W} (C : Cx p s m args c cc nL own D tys A H0) (hM : MV l y bytes maxL ret rm D tys As wi post wo mc ms) (ok : MOKs y bytes maxL ret n) (hlink : Cond.methodLink own index y ∈ AW) (hAs : As.length = n) (hrc : rm.cells = mc) (hrs : rm.slots = ms) (hfr : rm.frames + 1 ≤ R.frames) (hlo : 8 + (maxL + 11) + rm.locals ≤ R.locals) (hcs : cells + mc ≤ R.cells ∧ slots + ms ≤ R.slots) (hroom : (rest.map fun v => v.category).sum ≤ 8) (isC isR : List Nat) (hC : isC.map (fun i => ws[i]?) = wi.map some) (hCn : va_nd isC = true) (hR : isR.map (fun i => ws[i]?) = wr.map some) (hRn : va_nd isR = true) (hdis : ∀ i ∈ isR, i ∉ isC) (d : decode cc pc = .ok (.invokestatic index, 3)) (hst : st = (As.reverse ++ rest))
    (K : ∀ (u : S), post u → V p l e R s m args below meth c D A H0 nL Q (wr ++ wo u) lv (cells + mc) (slots + ms) (pc + 3) rest) : V p l e R s m args below meth c D A H0 nL Q ws lv cells slots pc st := by
  subst hst
  intro H locs ls hP hD hS hl
  have hts := C.1.2.2.2.2
  have hPc : va_P D vwCl wi H := va_subM hP isC hC
  have hDc : va_D A wi := hD.sub isC hCn hC
  have hFc : ∀ q, va_A wi H.size q → A q := va_free hD hS C.2.2.1 isC hC
  refine va_callv (va_runS (As := As) (rest := rest) C.1 (hM H.size) (va_cwS n hts (goodS hlink ok) rfl hrc hrs ok.2.2.2 ⟨hfr, hlo⟩) ⟨Pin.blind, fun U hU hW => ⟨rfl, by rw [hU], by rw [hU]; exact hPc, va_K.moved hW.alike C.2.1, hDc.weaken (fun _ _ _ _ => trivial), NW.warm hW C.2.2.2⟩⟩ rfl hAs hl.1 rfl (lv_room hroom) d hcs) hS (fun q _ h => hFc q h) hFc (fun u t H1 locs1 ht hvm hw hB hz1 hk1 hS1 => ?_)
  obtain ⟨hP1, hK1, hD1⟩ := hB
  rw [ht] at hP1
  obtain ⟨hP2, hD2⟩ := va_join hP hD isC isR hC hR hRn hdis hk1 hFc hP1 hD1
  exact K u hw H1 locs1 ls hP2 hD2 hS1 hl
theorem V_callvI {S : Type} {y : MethodName} {bytes : ByteArray} {maxL n index mc ms : Nat} {ret : Option FieldType} {rm : Room} {b : Nat} {As : List Value} {wi wr : va_W} {post : S → Prop} {wo : S → va_W} (C : Cx p s m args c cc nL own D tys A H0) (hM : MV l y bytes maxL none rm D tys (.ref b :: As) wi post wo mc ms) (ok : MOKi y bytes maxL n) (hlink : Cond.methodLink own index y ∈ AW) (hAs : As.length = n) (hrc : rm.cells = mc) (hrs : rm.slots = ms) (hfr : rm.frames + 1 ≤ R.frames) (hlo : 8 + (maxL + 11) + rm.locals ≤ R.locals) (hcs : cells + mc ≤ R.cells ∧ slots + ms ≤ R.slots) (hroom : (rest.map fun v => v.category).sum ≤ 8) (isC isR : List Nat) (hC : isC.map (fun i => ws[i]?) = wi.map some) (hCn : va_nd isC = true) (hR : isR.map (fun i => ws[i]?) = wr.map some) (hRn : va_nd isR = true) (hdis : ∀ i ∈ isR, i ∉ isC) (d : decode cc pc = .ok (.invokespecial index, 3)) (hst : st = (As.reverse ++ .ref b :: rest))
    (K : ∀ (u : S), post u → V p l e R s m args below meth c D A H0 nL Q (wr ++ wo u) lv (cells + mc) (slots + ms) (pc + 3) rest) : V p l e R s m args below meth c D A H0 nL Q ws lv cells slots pc st := by
  subst hst
  intro H locs ls hP hD hS hl
  have hts := C.1.2.2.2.2
  have hPc : va_P D vwCl wi H := va_subM hP isC hC
  have hDc : va_D A wi := hD.sub isC hCn hC
  have hFc : ∀ q, va_A wi H.size q → A q := va_free hD hS C.2.2.1 isC hC
  refine va_callv (va_runI (As := As) (rest := rest) C.1 (hM H.size) (cwI n hts (goodTS ok.2.2.1) rfl hrc hrs (hts _ ok.2.1) (hts _ hlink) (hts _ ok.1) ok.2.2.2.1 ok.2.2.2.2 ⟨hfr, hlo⟩) ⟨Pin.blind, fun U hU hW => ⟨rfl, by rw [hU], by rw [hU]; exact hPc, va_K.moved hW.alike C.2.1, hDc.weaken (fun _ _ _ _ => trivial), NW.warm hW C.2.2.2⟩⟩ rfl hAs hl.1 rfl (lv_room hroom) d hcs) hS (fun q _ h => hFc q h) hFc (fun u t H1 locs1 ht hvm hw hB hz1 hk1 hS1 => ?_)
  obtain ⟨hP1, hK1, hD1⟩ := hB
  rw [ht] at hP1
  obtain ⟨hP2, hD2⟩ := va_join hP hD isC isR hC hR hRn hdis hk1 hFc hP1 hD1
  exact K u hw H1 locs1 ls hP2 hD2 hS1 hl
theorem V_callvIN {S : Type} {y : MethodName} {bytes : ByteArray} {maxL n index mc ms : Nat} {ret : Option FieldType} {rm : Room} {b : Nat} {As : List Value} {wi wr : va_W} {post : S → Prop} {wo : S → va_W} (C : Cx p s m args c cc nL own D tys A H0) (hM : MV l y bytes maxL none rm D tys (.ref b :: As) wi post wo mc ms) {host : String} {i9 : Nat} (ok : MOKi y bytes maxL n) (hlink : tables_1[i9]? = some (Cond.methodLinkNest own index y host)) (hAs : As.length = n) (hrc : rm.cells = mc) (hrs : rm.slots = ms) (hfr : rm.frames + 1 ≤ R.frames) (hlo : 8 + (maxL + 11) + rm.locals ≤ R.locals) (hcs : cells + mc ≤ R.cells ∧ slots + ms ≤ R.slots) (hroom : (rest.map fun v => v.category).sum ≤ 8) (isC isR : List Nat) (hC : isC.map (fun i => ws[i]?) = wi.map some) (hCn : va_nd isC = true) (hR : isR.map (fun i => ws[i]?) = wr.map some) (hRn : va_nd isR = true) (hdis : ∀ i ∈ isR, i ∉ isC) (d : decode cc pc = .ok (.invokespecial index, 3)) (hst : st = (As.reverse ++ .ref b :: rest))
    (K : ∀ (u : S), post u → V p l e R s m args below meth c D A H0 nL Q (wr ++ wo u) lv (cells + mc) (slots + ms) (pc + 3) rest) : V p l e R s m args below meth c D A H0 nL Q ws lv cells slots pc st := by
  subst hst
  intro H locs ls hP hD hS hl
  have hts := C.1.2.2.2.2
  have hPc : va_P D vwCl wi H := va_subM hP isC hC
  have hDc : va_D A wi := hD.sub isC hCn hC
  have hFc : ∀ q, va_A wi H.size q → A q := va_free hD hS C.2.2.1 isC hC
  refine va_callv (va_runIN (As := As) (rest := rest) C.1 (hM H.size) (⟨va_cnB n hts (goodTS ok.2.2.1) rfl hrc hrs (C.2.2.2.at hlink rfl) (hts _ ok.2.1) ok.2.2.2.2 ⟨hfr, hlo⟩, ok.2.2.2.1, hts _ ok.1⟩) ⟨Pin.blind, fun U hU hW => ⟨rfl, by rw [hU], by rw [hU]; exact hPc, va_K.moved hW.alike C.2.1, hDc.weaken (fun _ _ _ _ => trivial), NW.warm hW C.2.2.2⟩⟩ rfl hAs hl.1 rfl (lv_room hroom) d hcs) hS (fun q _ h => hFc q h) hFc (fun u t H1 locs1 ht hvm hw hB hz1 hk1 hS1 => ?_)
  obtain ⟨hP1, hK1, hD1⟩ := hB
  rw [ht] at hP1
  obtain ⟨hP2, hD2⟩ := va_join hP hD isC isR hC hR hRn hdis hk1 hFc hP1 hD1
  exact K u hw H1 locs1 ls hP2 hD2 hS1 hl
theorem V_new (C : Cx p s m args c cc nL own D tys A H0) {Cn : String} {T : u_T} {N ci index : Nat} {fs : List Value} (ty : Nat → FieldType) (hty : ∀ k, k < N → parseFieldDescriptor (T k).2.2.1 = some (ty k)) (hin : ∀ w ∈ u_ws Cn T N, w ∈ AW) (hcl : Cond.classLink own index Cn ∈ AW) (hinst : Cond.instantiable Cn N ∈ AW) (hini : Cond.initialized Cn ∈ AW) (hc : vwCl[ci]? = some (Cn, T, N)) (hfs : ∀ j, j < N → defaultValue (ty j) = vp_V fs j) (hcells : cells + 1 ≤ R.cells) (hslots : slots + N ≤ R.slots) (d : decode cc pc = .ok (.new index, 3)) (K : ∀ q : Nat, V p l e R s m args below meth c D A H0 nL Q (ws ++ [(q, .inr (ci, fs))]) lv (cells + 1) (slots + N) (pc + 3) (.ref q :: rest)) : V p l e R s m args below meth c D A H0 nL Q ws lv cells slots pc rest := fun H locs ls hP hD hS hl => va_new C.1.1 C.1.2.1 C.1.2.2.2.2 hin ty hty C.1.2.2.2.1 (C.1.2.2.2.2 _ hcl) (C.1.2.2.2.2 _ hinst) (C.1.2.2.2.2 _ hini) C.2.1 hP hD hS C.2.2.1 hc hfs hcells hslots d (fun q H1 hP1 hD1 hS1 => K q H1 locs ls hP1 hD1 hS1 hl)
theorem va_K_int {cl : List vw_C} {cI cA : ClassId} {tys : List (ClassId × FieldType)} {t0 : Nat} (ht : tys[t0]? = some (cI, .int)) (h : va_K D cl (tys ++ [(cA, .int)]) s) : cA = cI := by
  have h1 : va_RA s cA .int := (h.2 tys.length (cA, .int) (by simp)).2
  have h2 : va_RA s cI .int := (h.2 t0 (cI, .int) (by rw [List.getElem?_append_left (List.getElem?_eq_some_iff.mp ht).1]; exact ht)).2
  exact Option.some.inj (h1.symm.trans h2)
theorem va_K_obj {cl : List vw_C} {cI cA : ClassId} {Cn : String} {tys : List (ClassId × FieldType)} {t0 : Nat} (ht : tys[t0]? = some (cI, .object Cn)) (h : va_K D cl (tys ++ [(cA, .object Cn)]) s) : cA = cI := by
  obtain ⟨_, _, _, _, _, h1⟩ := (h.2 tys.length (cA, .object Cn) (by simp)).2
  obtain ⟨_, _, _, _, _, h2⟩ := (h.2 t0 (cI, .object Cn) (by rw [List.getElem?_append_left (List.getElem?_eq_some_iff.mp ht).1]; exact ht)).2
  exact Option.some.inj (h1.symm.trans h2)
theorem V_newa (C : Cx p s m args c cc nL own D tys A H0) {N t0 : Nat} {cI : ClassId} (ht : tys[t0]? = some (cI, .int)) (harr : Cond.arrayClass .int ∈ AW) (hN : N < 100000) (hcells : cells + 1 ≤ R.cells) (hslots : slots + N ≤ R.slots) (d : decode cc pc = .ok (.newarray .int, 2)) (K : ∀ q : Nat, V p l e R s m args below meth c D A H0 nL Q (ws ++ [(q, .inl (cI, N, .inl (fun _ => nI 0)))]) lv (cells + 1) (slots + N) (pc + 2) (.ref q :: rest)) : V p l e R s m args below meth c D A H0 nL Q ws lv cells slots pc (.int (nI N) :: rest) := fun H locs ls hP hD hS hl => va_newa (atype := .int) (a0 := (N, .inl (fun _ => nI 0))) C.1.1 C.1.2.1 (C.1.2.2.2.2 _ harr) rfl C.2.1 hP hD hS C.2.2.1 (fun cA => by rw [vp_cell_i]; rfl) (nI_pos (by omega)) (nI_clamp (by omega)) (by show N * 4 ≤ 536870912; omega) hcells hslots d (fun q cA H1 hK1 hP1 hD1 hS1 => by
    have e := va_K_int ht hK1
    subst e
    exact K q H1 locs ls hP1 hD1 hS1 hl)
theorem V_newq (C : Cx p s m args c cc nL own D tys A H0) {Cn : String} {index N t0 : Nat} {cI : ClassId} (ht : tys[t0]? = some (cI, .object Cn)) (hcl : Cond.classLink own index Cn ∈ AW) (hov : va_AO Cn s) (hN : N < 100000) (hcells : cells + 1 ≤ R.cells) (hslots : slots + N ≤ R.slots) (d : decode cc pc = .ok (.anewarray index, 3)) (K : ∀ q : Nat, V p l e R s m args below meth c D A H0 nL Q (ws ++ [(q, .inl (cI, N, .inr (.inr (.inr (.inr (fun _ => none))))))]) lv (cells + 1) (slots + N) (pc + 3) (.ref q :: rest)) : V p l e R s m args below meth c D A H0 nL Q ws lv cells slots pc (.int (nI N) :: rest) := fun H locs ls hP hD hS hl => va_newq C.1.1 C.1.2.1 C.1.2.2.2.1 (C.1.2.2.2.2 _ hcl) hov C.2.1 hP hD hS C.2.2.1 (nI_pos (by omega)) (nI_clamp (by omega)) (by omega) hcells hslots d (fun q cA H1 hK1 hP1 hD1 hS1 => by
    have e := va_K_obj ht hK1
    subst e
    exact K q H1 locs ls hP1 hD1 hS1 hl)
theorem V_objInit (C : Cx p s m args c cc nL own D tys A H0) {idx a : Nat} (hlink : Cond.methodLink own idx objectInit ∈ AW) (hinst : Cond.instanceMethod objectInit ∈ AW) (hcode : Cond.code objectInit ⟨#[0xb1]⟩ 1 none ∈ AW) (hf : 1 ≤ R.frames) (hlo : (rest.map fun v => v.category).sum + 12 ≤ R.locals) (d : decode cc pc = .ok (.invokespecial idx, 3)) (K : V p l e R s m args below meth c D A H0 nL Q ws lv cells slots (pc + 3) rest) : V p l e R s m args below meth c D A H0 nL Q ws lv cells slots pc (.ref a :: rest) := fun H locs ls hP hD hS hl => W.objInit C.1.1 C.1.2.1 C.1.2.2.2.1 (C.1.2.2.2.2 _ hlink) (C.1.2.2.2.2 _ hinst) (C.1.2.2.2.2 _ hcode) rfl (hl.1.trans C.1.2.2.1.symm) rfl d hf (by simpa using hlo) (K H locs ls hP hD hS hl)
end VV
/-! numbers below 0 -/
theorem neg_lt {x : Int32} {b : Nat} (h : x.toInt < 0) (hb : b < 2147483648) : x < nI b := Int32.lt_iff_toInt_lt.mpr (by rw [nI_toInt hb]; omega)
theorem neg_le {x : Int32} {b : Nat} (h : x.toInt < 0) (hb : b < 2147483648) : x ≤ nI b := Int32.le_iff_toInt_le.mpr (by rw [nI_toInt hb]; omega)
theorem neg_nle {x : Int32} {b : Nat} (h : x.toInt < 0) (hb : b < 2147483648) : ¬ nI b ≤ x := fun z => by have := Int32.le_iff_toInt_le.mp z; rw [nI_toInt hb] at this; omega
theorem neg_nlt {x : Int32} {b : Nat} (h : x.toInt < 0) (hb : b < 2147483648) : ¬ nI b < x := fun z => by have := Int32.lt_iff_toInt_lt.mp z; rw [nI_toInt hb] at this; omega
theorem neg_ne {x : Int32} {b : Nat} (h : x.toInt < 0) (hb : b < 2147483648) : ¬ x = nI b := fun z => by rw [z, nI_toInt hb] at h; omega
theorem neg_ne' {x : Int32} {b : Nat} (h : x.toInt < 0) (hb : b < 2147483648) : ¬ nI b = x := fun z => neg_ne h hb z.symm
theorem arg_cases (x : Int32) : x.toInt < 0 ∨ ∃ j : Nat, j < 2147483648 ∧ x = nI j := by
  by_cases h : x < 0
  · exact Or.inl (by have := Int32.lt_iff_toInt_lt.mp h; simpa using this)
  · exact Or.inr (nI_of h)
end
section
theorem cl_L_7 : Cond.classLink RL 7 RX8 ∈ AW := AWm (i := 12) (by decide +kernel) (by decide +kernel)
theorem ml_L_9 : Cond.methodLink RL 9 yX8_init ∈ AW := AWm (i := 14) (by decide +kernel) (by decide +kernel)
theorem ml_X8_3 : Cond.methodLink RX8 3 objectInit ∈ AW := AWm (i := 17) (by decide +kernel) (by decide +kernel)
theorem cl_X8_9 : Cond.classLink RX8 9 RX4 ∈ AW := AWm (i := 20) (by decide +kernel) (by decide +kernel)
theorem ml_X4_3 : Cond.methodLink RX4 3 objectInit ∈ AW := AWm (i := 25) (by decide +kernel) (by decide +kernel)
theorem fl_X4_9 : Cond.fieldLink RX4 9 "LearningSpans$Message" "letters" "[I" ∈ AW := AWm (i := 26) (by decide +kernel) (by decide +kernel)
theorem fl_X4_15 : Cond.fieldLink RX4 15 "LearningSpans$Message" "size" "I" ∈ AW := AWm (i := 27) (by decide +kernel) (by decide +kernel)
theorem fl_X4_19 : Cond.fieldLink RX4 19 "LearningSpans$Message" "ended" "Z" ∈ AW := AWm (i := 30) (by decide +kernel) (by decide +kernel)
theorem fl_X4_23 : Cond.fieldLink RX4 23 "LearningSpans$Message" "pace" "I" ∈ AW := AWm (i := 32) (by decide +kernel) (by decide +kernel)
theorem fl_X4_26 : Cond.fieldLink RX4 26 "LearningSpans$Message" "bound" "I" ∈ AW := AWm (i := 34) (by decide +kernel) (by decide +kernel)
theorem arrI : Cond.arrayClass .int ∈ AW := AWm (i := 47) (by decide +kernel) (by decide +kernel)
theorem cl_X8_16 : Cond.classLink RX8 16 RX1 ∈ AW := AWm (i := 48) (by decide +kernel) (by decide +kernel)
theorem ml_X8_18 : Cond.methodLink RX8 18 yX1_init ∈ AW := AWm (i := 50) (by decide +kernel) (by decide +kernel)
theorem ml_X1_3 : Cond.methodLink RX1 3 objectInit ∈ AW := AWm (i := 53) (by decide +kernel) (by decide +kernel)
theorem cl_X1_9 : Cond.classLink RX1 9 RX2 ∈ AW := AWm (i := 54) (by decide +kernel) (by decide +kernel)
theorem ml_X2_3 : Cond.methodLink RX2 3 objectInit ∈ AW := AWm (i := 59) (by decide +kernel) (by decide +kernel)
theorem fl_X2_9 : Cond.fieldLink RX2 9 "LearningSpans$Counts" "row" "[I" ∈ AW := AWm (i := 60) (by decide +kernel) (by decide +kernel)
theorem fl_X2_15 : Cond.fieldLink RX2 15 "LearningSpans$Counts" "total" "I" ∈ AW := AWm (i := 61) (by decide +kernel) (by decide +kernel)
theorem fl_X2_19 : Cond.fieldLink RX2 19 "LearningSpans$Counts" "halvings" "I" ∈ AW := AWm (i := 64) (by decide +kernel) (by decide +kernel)
theorem fl_X2_22 : Cond.fieldLink RX2 22 "LearningSpans$Counts" "pace" "I" ∈ AW := AWm (i := 66) (by decide +kernel) (by decide +kernel)
theorem fl_X2_25 : Cond.fieldLink RX2 25 "LearningSpans$Counts" "bound" "I" ∈ AW := AWm (i := 67) (by decide +kernel) (by decide +kernel)
theorem cl_X1_18 : Cond.classLink RX1 18 RX6 ∈ AW := AWm (i := 79) (by decide +kernel) (by decide +kernel)
theorem ml_X6_3 : Cond.methodLink RX6 3 objectInit ∈ AW := AWm (i := 84) (by decide +kernel) (by decide +kernel)
theorem cst_X6_15 : Cond.constant RX6 15 (65535) ∈ AW := AWm (i := 85) (by decide +kernel) (by decide +kernel)
theorem fl_X6_9 : Cond.fieldLink RX6 9 "LearningSpans$Span" "low" "I" ∈ AW := AWm (i := 86) (by decide +kernel) (by decide +kernel)
theorem fl_X6_16 : Cond.fieldLink RX6 16 "LearningSpans$Span" "high" "I" ∈ AW := AWm (i := 89) (by decide +kernel) (by decide +kernel)
theorem cl_X1_25 : Cond.classLink RX1 25 RX0 ∈ AW := AWm (i := 96) (by decide +kernel) (by decide +kernel)
theorem ml_X0_3 : Cond.methodLink RX0 3 objectInit ∈ AW := AWm (i := 101) (by decide +kernel) (by decide +kernel)
theorem fl_X0_9 : Cond.fieldLink RX0 9 "LearningSpans$BitRow" "row" "[I" ∈ AW := AWm (i := 102) (by decide +kernel) (by decide +kernel)
theorem fl_X0_15 : Cond.fieldLink RX0 15 "LearningSpans$BitRow" "size" "I" ∈ AW := AWm (i := 103) (by decide +kernel) (by decide +kernel)
theorem ml_X1_43 : Cond.methodLink RX1 43 yX1_start ∈ AW := AWm (i := 112) (by decide +kernel) (by decide +kernel)
theorem ml_X1_47 : Cond.methodLink RX1 47 yX2_start ∈ AW := AWm (i := 116) (by decide +kernel) (by decide +kernel)
theorem ml_X1_48 : Cond.methodLink RX1 48 yX6_start ∈ AW := AWm (i := 120) (by decide +kernel) (by decide +kernel)
theorem ml_X1_50 : Cond.methodLink RX1 50 yX0_empty ∈ AW := AWm (i := 124) (by decide +kernel) (by decide +kernel)
theorem fl_X1_12 : Cond.fieldLink RX1 12 "LearningSpans$Coder" "counts" "LLearningSpans$Counts;" ∈ AW := AWm (i := 128) (by decide +kernel) (by decide +kernel)
theorem fl_X1_21 : Cond.fieldLink RX1 21 "LearningSpans$Coder" "span" "LLearningSpans$Span;" ∈ AW := AWm (i := 130) (by decide +kernel) (by decide +kernel)
theorem fl_X1_28 : Cond.fieldLink RX1 28 "LearningSpans$Coder" "bits" "LLearningSpans$BitRow;" ∈ AW := AWm (i := 132) (by decide +kernel) (by decide +kernel)
theorem fl_X1_32 : Cond.fieldLink RX1 32 "LearningSpans$Coder" "costs" "[I" ∈ AW := AWm (i := 134) (by decide +kernel) (by decide +kernel)
theorem fl_X1_36 : Cond.fieldLink RX1 36 "LearningSpans$Coder" "size" "I" ∈ AW := AWm (i := 135) (by decide +kernel) (by decide +kernel)
theorem fl_X1_40 : Cond.fieldLink RX1 40 "LearningSpans$Coder" "waiting" "I" ∈ AW := AWm (i := 136) (by decide +kernel) (by decide +kernel)
theorem cl_X8_26 : Cond.classLink RX8 26 RX5 ∈ AW := AWm (i := 151) (by decide +kernel) (by decide +kernel)
theorem ml_X5_3 : Cond.methodLink RX5 3 objectInit ∈ AW := AWm (i := 156) (by decide +kernel) (by decide +kernel)
theorem cl_X5_9 : Cond.classLink RX5 9 RX2 ∈ AW := AWm (i := 157) (by decide +kernel) (by decide +kernel)
theorem cl_X5_18 : Cond.classLink RX5 18 RX6 ∈ AW := AWm (i := 159) (by decide +kernel) (by decide +kernel)
theorem fl_X5_12 : Cond.fieldLink RX5 12 "LearningSpans$Reader" "counts" "LLearningSpans$Counts;" ∈ AW := AWm (i := 161) (by decide +kernel) (by decide +kernel)
theorem fl_X5_21 : Cond.fieldLink RX5 21 "LearningSpans$Reader" "span" "LLearningSpans$Span;" ∈ AW := AWm (i := 162) (by decide +kernel) (by decide +kernel)
theorem fl_X5_25 : Cond.fieldLink RX5 25 "LearningSpans$Reader" "letters" "[I" ∈ AW := AWm (i := 163) (by decide +kernel) (by decide +kernel)
theorem fl_X5_29 : Cond.fieldLink RX5 29 "LearningSpans$Reader" "size" "I" ∈ AW := AWm (i := 164) (by decide +kernel) (by decide +kernel)
theorem fl_X5_33 : Cond.fieldLink RX5 33 "LearningSpans$Reader" "number" "I" ∈ AW := AWm (i := 166) (by decide +kernel) (by decide +kernel)
theorem fl_X5_36 : Cond.fieldLink RX5 36 "LearningSpans$Reader" "taken" "I" ∈ AW := AWm (i := 167) (by decide +kernel) (by decide +kernel)
theorem fl_X5_39 : Cond.fieldLink RX5 39 "LearningSpans$Reader" "over" "Z" ∈ AW := AWm (i := 169) (by decide +kernel) (by decide +kernel)
theorem cl_X8_33 : Cond.classLink RX8 33 RX7 ∈ AW := AWm (i := 186) (by decide +kernel) (by decide +kernel)
theorem ml_X7_3 : Cond.methodLink RX7 3 objectInit ∈ AW := AWm (i := 191) (by decide +kernel) (by decide +kernel)
theorem fl_X7_9 : Cond.fieldLink RX7 9 "LearningSpans$Text" "characters" "[I" ∈ AW := AWm (i := 192) (by decide +kernel) (by decide +kernel)
theorem fl_X7_15 : Cond.fieldLink RX7 15 "LearningSpans$Text" "size" "I" ∈ AW := AWm (i := 193) (by decide +kernel) (by decide +kernel)
theorem cl_X8_40 : Cond.classLink RX8 40 RX0 ∈ AW := AWm (i := 200) (by decide +kernel) (by decide +kernel)
theorem cl_X8_47 : Cond.classLink RX8 47 RX3 ∈ AW := AWm (i := 202) (by decide +kernel) (by decide +kernel)
theorem ml_X8_49 : Cond.methodLink RX8 49 yX3_init ∈ AW := AWm (i := 204) (by decide +kernel) (by decide +kernel)
theorem ml_X3_3 : Cond.methodLink RX3 3 objectInit ∈ AW := AWm (i := 207) (by decide +kernel) (by decide +kernel)
theorem cl_X3_9 : Cond.classLink RX3 9 RX4 ∈ AW := AWm (i := 208) (by decide +kernel) (by decide +kernel)
theorem ovM_row : tables_1[209]? = some (Cond.arrayOver (.object "LearningSpans$Message")) := by decide +kernel
theorem fl_X3_11 : Cond.fieldLink RX3 11 "LearningSpans$History" "states" "[LLearningSpans$Message;" ∈ AW := AWm (i := 211) (by decide +kernel) (by decide +kernel)
theorem fl_X3_17 : Cond.fieldLink RX3 17 "LearningSpans$History" "size" "I" ∈ AW := AWm (i := 212) (by decide +kernel) (by decide +kernel)
theorem fl_X8_12 : Cond.fieldLink RX8 12 "LearningSpans" "message" "LLearningSpans$Message;" ∈ AW := AWm (i := 219) (by decide +kernel) (by decide +kernel)
theorem fl_X8_19 : Cond.fieldLink RX8 19 "LearningSpans" "coder" "LLearningSpans$Coder;" ∈ AW := AWm (i := 220) (by decide +kernel) (by decide +kernel)
theorem fl_X8_23 : Cond.fieldLink RX8 23 "LearningSpans" "trial" "LLearningSpans$Coder;" ∈ AW := AWm (i := 221) (by decide +kernel) (by decide +kernel)
theorem fl_X8_29 : Cond.fieldLink RX8 29 "LearningSpans" "reader" "LLearningSpans$Reader;" ∈ AW := AWm (i := 222) (by decide +kernel) (by decide +kernel)
theorem fl_X8_36 : Cond.fieldLink RX8 36 "LearningSpans" "text" "LLearningSpans$Text;" ∈ AW := AWm (i := 223) (by decide +kernel) (by decide +kernel)
theorem fl_X8_43 : Cond.fieldLink RX8 43 "LearningSpans" "textBits" "LLearningSpans$BitRow;" ∈ AW := AWm (i := 224) (by decide +kernel) (by decide +kernel)
theorem fl_X8_50 : Cond.fieldLink RX8 50 "LearningSpans" "history" "LLearningSpans$History;" ∈ AW := AWm (i := 225) (by decide +kernel) (by decide +kernel)
theorem ml_L_13 : Cond.methodLink RL 13 yX8_put ∈ AW := AWm (i := 241) (by decide +kernel) (by decide +kernel)
theorem ml_X8_54 : Cond.methodLink RX8 54 yX8_isLetter ∈ AW := AWm (i := 245) (by decide +kernel) (by decide +kernel)
theorem ml_X8_66 : Cond.methodLink RX8 66 yX3_keep ∈ AW := AWm (i := 248) (by decide +kernel) (by decide +kernel)
theorem ml_X3_22 : Cond.methodLink RX3 22 yX3_dropOldest ∈ AW := AWm (i := 252) (by decide +kernel) (by decide +kernel)
theorem ml_X3_25 : Cond.methodLink RX3 25 yX3_copy ∈ AW := AWm (i := 256) (by decide +kernel) (by decide +kernel)
theorem ml_X3_29 : Cond.methodLink RX3 29 yX4_copyFrom ∈ AW := AWm (i := 259) (by decide +kernel) (by decide +kernel)
theorem ml_X4_35 : Cond.methodLink RX4 35 yX4_letterAt ∈ AW := AWm (i := 263) (by decide +kernel) (by decide +kernel)
theorem ml_X8_70 : Cond.methodLink RX8 70 yX4_append ∈ AW := AWm (i := 267) (by decide +kernel) (by decide +kernel)
theorem ml_X8_74 : Cond.methodLink RX8 74 yX1_add ∈ AW := AWm (i := 271) (by decide +kernel) (by decide +kernel)
theorem ml_X1_54 : Cond.methodLink RX1 54 yX1_narrow ∈ AW := AWm (i := 275) (by decide +kernel) (by decide +kernel)
theorem ml_X1_86 : Cond.methodLink RX1 86 yX6_shrink ∈ AW := AWm (i := 279) (by decide +kernel) (by decide +kernel)
theorem ml_X6_24 : Cond.methodLink RX6 24 yX2_below ∈ AW := AWm (i := 283) (by decide +kernel) (by decide +kernel)
theorem ml_X6_28 : Cond.methodLink RX6 28 yX2_countAt ∈ AW := AWm (i := 287) (by decide +kernel) (by decide +kernel)
theorem ml_X1_90 : Cond.methodLink RX1 90 yX6_widen ∈ AW := AWm (i := 291) (by decide +kernel) (by decide +kernel)
theorem cst_X6_31 : Cond.constant RX6 31 (32768) ∈ AW := AWm (i := 295) (by decide +kernel) (by decide +kernel)
theorem cst_X6_32 : Cond.constant RX6 32 (49152) ∈ AW := AWm (i := 296) (by decide +kernel) (by decide +kernel)
theorem cst_X1_94 : Cond.constant RX1 94 (32768) ∈ AW := AWm (i := 297) (by decide +kernel) (by decide +kernel)
theorem ml_X1_74 : Cond.methodLink RX1 74 yX1_writeBit ∈ AW := AWm (i := 298) (by decide +kernel) (by decide +kernel)
theorem ml_X1_95 : Cond.methodLink RX1 95 yX0_append ∈ AW := AWm (i := 302) (by decide +kernel) (by decide +kernel)
theorem ml_X1_58 : Cond.methodLink RX1 58 yX2_learn ∈ AW := AWm (i := 306) (by decide +kernel) (by decide +kernel)
theorem ml_X2_28 : Cond.methodLink RX2 28 yX2_halve ∈ AW := AWm (i := 310) (by decide +kernel) (by decide +kernel)
theorem ml_L_18 : Cond.methodLink RL 18 yX8_end ∈ AW := AWm (i := 314) (by decide +kernel) (by decide +kernel)
theorem ml_X8_78 : Cond.methodLink RX8 78 yX1_close ∈ AW := AWm (i := 318) (by decide +kernel) (by decide +kernel)
theorem ml_L_23 : Cond.methodLink RL 23 yX8_begin ∈ AW := AWm (i := 322) (by decide +kernel) (by decide +kernel)
theorem ml_X8_85 : Cond.methodLink RX8 85 yX4_empty ∈ AW := AWm (i := 326) (by decide +kernel) (by decide +kernel)
theorem ml_X8_88 : Cond.methodLink RX8 88 yX8_writeAnew ∈ AW := AWm (i := 330) (by decide +kernel) (by decide +kernel)
theorem ml_X8_195 : Cond.methodLink RX8 195 yX1_start ∈ AW := AWm (i := 334) (by decide +kernel) (by decide +kernel)
theorem ml_X8_198 : Cond.methodLink RX8 198 yX1_addAll ∈ AW := AWm (i := 335) (by decide +kernel) (by decide +kernel)
theorem ml_X1_64 : Cond.methodLink RX1 64 yX4_letterAt ∈ AW := AWm (i := 339) (by decide +kernel) (by decide +kernel)
theorem ml_X1_68 : Cond.methodLink RX1 68 yX1_add ∈ AW := AWm (i := 340) (by decide +kernel) (by decide +kernel)
theorem ml_L_27 : Cond.methodLink RL 27 yX8_drop ∈ AW := AWm (i := 341) (by decide +kernel) (by decide +kernel)
theorem ml_X8_91 : Cond.methodLink RX8 91 yX4_shorten ∈ AW := AWm (i := 345) (by decide +kernel) (by decide +kernel)
theorem ml_X4_29 : Cond.methodLink RX4 29 Lib.Math.max.name ∈ AW := AWm (i := 349) (by decide +kernel) (by decide +kernel)
theorem ml_L_31 : Cond.methodLink RL 31 yX8_mend ∈ AW := AWm (i := 352) (by decide +kernel) (by decide +kernel)
theorem ml_X8_94 : Cond.methodLink RX8 94 yX4_replace ∈ AW := AWm (i := 356) (by decide +kernel) (by decide +kernel)
theorem ml_L_36 : Cond.methodLink RL 36 yX8_set ∈ AW := AWm (i := 360) (by decide +kernel) (by decide +kernel)
theorem ml_X8_98 : Cond.methodLink RX8 98 yX8_isSetting ∈ AW := AWm (i := 364) (by decide +kernel) (by decide +kernel)
theorem ml_X8_162 : Cond.methodLink RX8 162 yX8_isPace ∈ AW := AWm (i := 367) (by decide +kernel) (by decide +kernel)
theorem ml_L_40 : Cond.methodLink RL 40 yX8_letter ∈ AW := AWm (i := 370) (by decide +kernel) (by decide +kernel)
theorem ml_X8_108 : Cond.methodLink RX8 108 yX4_letterAt ∈ AW := AWm (i := 374) (by decide +kernel) (by decide +kernel)
theorem ml_L_44 : Cond.methodLink RL 44 yX8_bit ∈ AW := AWm (i := 375) (by decide +kernel) (by decide +kernel)
theorem ml_X8_111 : Cond.methodLink RX8 111 yX0_bitAt ∈ AW := AWm (i := 379) (by decide +kernel) (by decide +kernel)
theorem ml_L_48 : Cond.methodLink RL 48 yX8_letterOf ∈ AW := AWm (i := 383) (by decide +kernel) (by decide +kernel)
theorem ml_X8_118 : Cond.methodLink RX8 118 yX2_countAt ∈ AW := AWm (i := 387) (by decide +kernel) (by decide +kernel)
theorem ml_X8_123 : Cond.methodLink RX8 123 yX2_below ∈ AW := AWm (i := 388) (by decide +kernel) (by decide +kernel)
theorem ml_X8_126 : Cond.methodLink RX8 126 yX4_howOften ∈ AW := AWm (i := 389) (by decide +kernel) (by decide +kernel)
theorem ml_X8_129 : Cond.methodLink RX8 129 yX8_bitsMoreWith ∈ AW := AWm (i := 393) (by decide +kernel) (by decide +kernel)
theorem ml_L_52 : Cond.methodLink RL 52 yX8_count ∈ AW := AWm (i := 397) (by decide +kernel) (by decide +kernel)
theorem ml_X8_155 : Cond.methodLink RX8 155 yX1_dearest ∈ AW := AWm (i := 401) (by decide +kernel) (by decide +kernel)
theorem ml_X1_77 : Cond.methodLink RX1 77 yX1_costAt ∈ AW := AWm (i := 405) (by decide +kernel) (by decide +kernel)
theorem ml_X1_80 : Cond.methodLink RX1 80 Lib.Math.max.name ∈ AW := AWm (i := 409) (by decide +kernel) (by decide +kernel)
theorem ml_L_56 : Cond.methodLink RL 56 yX8_cost ∈ AW := AWm (i := 410) (by decide +kernel) (by decide +kernel)
theorem ml_X8_159 : Cond.methodLink RX8 159 yX1_costAt ∈ AW := AWm (i := 414) (by decide +kernel) (by decide +kernel)
theorem ml_L_60 : Cond.methodLink RL 60 yX8_bitsBy ∈ AW := AWm (i := 415) (by decide +kernel) (by decide +kernel)
theorem ml_X8_165 : Cond.methodLink RX8 165 yX8_bitsEnded ∈ AW := AWm (i := 419) (by decide +kernel) (by decide +kernel)
theorem ml_L_64 : Cond.methodLink RL 64 yX8_bestPace ∈ AW := AWm (i := 423) (by decide +kernel) (by decide +kernel)
theorem ml_L_68 : Cond.methodLink RL 68 yX8_readBack ∈ AW := AWm (i := 427) (by decide +kernel) (by decide +kernel)
theorem ml_X8_168 : Cond.methodLink RX8 168 yX5_read ∈ AW := AWm (i := 431) (by decide +kernel) (by decide +kernel)
theorem ml_X5_43 : Cond.methodLink RX5 43 yX2_start ∈ AW := AWm (i := 435) (by decide +kernel) (by decide +kernel)
theorem ml_X5_47 : Cond.methodLink RX5 47 yX6_start ∈ AW := AWm (i := 436) (by decide +kernel) (by decide +kernel)
theorem ml_X5_49 : Cond.methodLink RX5 49 yX5_takeBit ∈ AW := AWm (i := 437) (by decide +kernel) (by decide +kernel)
theorem ml_X5_76 : Cond.methodLink RX5 76 yX0_bitAt ∈ AW := AWm (i := 441) (by decide +kernel) (by decide +kernel)
theorem ml_X5_53 : Cond.methodLink RX5 53 yX5_readLetter ∈ AW := AWm (i := 442) (by decide +kernel) (by decide +kernel)
theorem ml_X5_56 : Cond.methodLink RX5 56 yX6_letterAround ∈ AW := AWm (i := 446) (by decide +kernel) (by decide +kernel)
theorem ml_X6_33 : Cond.methodLink RX6 33 yX2_letterWith ∈ AW := AWm (i := 450) (by decide +kernel) (by decide +kernel)
theorem ml_X5_60 : Cond.methodLink RX5 60 yX5_narrow ∈ AW := AWm (i := 454) (by decide +kernel) (by decide +kernel)
theorem ml_X5_68 : Cond.methodLink RX5 68 yX6_shrink ∈ AW := AWm (i := 458) (by decide +kernel) (by decide +kernel)
theorem ml_X5_72 : Cond.methodLink RX5 72 yX6_widen ∈ AW := AWm (i := 459) (by decide +kernel) (by decide +kernel)
theorem ml_X5_64 : Cond.methodLink RX5 64 yX2_learn ∈ AW := AWm (i := 460) (by decide +kernel) (by decide +kernel)
theorem ml_X8_176 : Cond.methodLink RX8 176 yX8_alikeFromFirst ∈ AW := AWm (i := 461) (by decide +kernel) (by decide +kernel)
theorem ml_X8_201 : Cond.methodLink RX8 201 Lib.Math.min.name ∈ AW := AWm (i := 465) (by decide +kernel) (by decide +kernel)
theorem ml_X8_194 : Cond.methodLink RX8 194 yX5_letterAt ∈ AW := AWm (i := 468) (by decide +kernel) (by decide +kernel)
theorem ml_L_72 : Cond.methodLink RL 72 yX8_undo ∈ AW := AWm (i := 472) (by decide +kernel) (by decide +kernel)
theorem ml_X8_179 : Cond.methodLink RX8 179 yX3_restore ∈ AW := AWm (i := 476) (by decide +kernel) (by decide +kernel)
theorem ml_L_76 : Cond.methodLink RL 76 yX8_type ∈ AW := AWm (i := 480) (by decide +kernel) (by decide +kernel)
theorem ml_X8_182 : Cond.methodLink RX8 182 yX7_append ∈ AW := AWm (i := 484) (by decide +kernel) (by decide +kernel)
theorem ml_L_80 : Cond.methodLink RL 80 yX8_clearText ∈ AW := AWm (i := 488) (by decide +kernel) (by decide +kernel)
theorem ml_X8_183 : Cond.methodLink RX8 183 yX7_empty ∈ AW := AWm (i := 492) (by decide +kernel) (by decide +kernel)
theorem ml_L_84 : Cond.methodLink RL 84 yX8_write ∈ AW := AWm (i := 496) (by decide +kernel) (by decide +kernel)
theorem ml_X8_184 : Cond.methodLink RX8 184 yX7_copyFrom ∈ AW := AWm (i := 500) (by decide +kernel) (by decide +kernel)
theorem ml_X7_19 : Cond.methodLink RX7 19 yX7_empty ∈ AW := AWm (i := 504) (by decide +kernel) (by decide +kernel)
theorem ml_X7_25 : Cond.methodLink RX7 25 yX0_bitAt ∈ AW := AWm (i := 505) (by decide +kernel) (by decide +kernel)
theorem ml_X7_29 : Cond.methodLink RX7 29 yX7_append ∈ AW := AWm (i := 506) (by decide +kernel) (by decide +kernel)
theorem ml_L_88 : Cond.methodLink RL 88 yX8_fault ∈ AW := AWm (i := 507) (by decide +kernel) (by decide +kernel)
theorem ml_X8_188 : Cond.methodLink RX8 188 yX8_faultReason ∈ AW := AWm (i := 511) (by decide +kernel) (by decide +kernel)
theorem ml_X8_207 : Cond.methodLink RX8 207 yX7_firstStrange ∈ AW := AWm (i := 515) (by decide +kernel) (by decide +kernel)
theorem ml_X8_210 : Cond.methodLink RX8 210 yX7_copyTo ∈ AW := AWm (i := 519) (by decide +kernel) (by decide +kernel)
theorem ml_X7_33 : Cond.methodLink RX7 33 yX0_empty ∈ AW := AWm (i := 523) (by decide +kernel) (by decide +kernel)
theorem ml_X7_34 : Cond.methodLink RX7 34 yX0_append ∈ AW := AWm (i := 524) (by decide +kernel) (by decide +kernel)
theorem ml_X8_216 : Cond.methodLink RX8 216 yX0_firstOne ∈ AW := AWm (i := 525) (by decide +kernel) (by decide +kernel)
theorem ml_X0_19 : Cond.methodLink RX0 19 Lib.Math.max.name ∈ AW := AWm (i := 529) (by decide +kernel) (by decide +kernel)
theorem ml_X0_25 : Cond.methodLink RX0 25 yX0_bitAt ∈ AW := AWm (i := 530) (by decide +kernel) (by decide +kernel)
theorem ml_X8_191 : Cond.methodLink RX8 191 yX8_faultPlace ∈ AW := AWm (i := 531) (by decide +kernel) (by decide +kernel)
theorem ml_L_92 : Cond.methodLink RL 92 yX8_told ∈ AW := AWm (i := 535) (by decide +kernel) (by decide +kernel)
theorem cl_L_10 : Cond.classLink RL 10 RX9 ∈ AW := AWm (i := 539) (by decide +kernel) (by decide +kernel)
theorem ml_L_12 : Cond.methodLink RL 12 yX9_init ∈ AW := AWm (i := 541) (by decide +kernel) (by decide +kernel)
theorem ml_X9_1 : Cond.methodLink RX9 1 objectInit ∈ AW := AWm (i := 544) (by decide +kernel) (by decide +kernel)
theorem fl_X9_7 : Cond.fieldLink RX9 7 "LearningSpansModel" "all" "[I" ∈ AW := AWm (i := 545) (by decide +kernel) (by decide +kernel)
theorem fl_X9_13 : Cond.fieldLink RX9 13 "LearningSpansModel" "history" "[I" ∈ AW := AWm (i := 546) (by decide +kernel) (by decide +kernel)
theorem fl_X9_34 : Cond.fieldLink RX9 34 "LearningSpansModel" "historyLong" "I" ∈ AW := AWm (i := 547) (by decide +kernel) (by decide +kernel)
theorem fl_X9_16 : Cond.fieldLink RX9 16 "LearningSpansModel" "counts" "[I" ∈ AW := AWm (i := 548) (by decide +kernel) (by decide +kernel)
theorem fl_X9_38 : Cond.fieldLink RX9 38 "LearningSpansModel" "total" "I" ∈ AW := AWm (i := 549) (by decide +kernel) (by decide +kernel)
theorem fl_X9_41 : Cond.fieldLink RX9 41 "LearningSpansModel" "halvings" "I" ∈ AW := AWm (i := 550) (by decide +kernel) (by decide +kernel)
theorem fl_X9_53 : Cond.fieldLink RX9 53 "LearningSpansModel" "low" "I" ∈ AW := AWm (i := 551) (by decide +kernel) (by decide +kernel)
theorem fl_X9_50 : Cond.fieldLink RX9 50 "LearningSpansModel" "high" "I" ∈ AW := AWm (i := 552) (by decide +kernel) (by decide +kernel)
theorem fl_X9_47 : Cond.fieldLink RX9 47 "LearningSpansModel" "wait" "I" ∈ AW := AWm (i := 553) (by decide +kernel) (by decide +kernel)
theorem fl_X9_19 : Cond.fieldLink RX9 19 "LearningSpansModel" "bits" "[I" ∈ AW := AWm (i := 554) (by decide +kernel) (by decide +kernel)
theorem fl_X9_44 : Cond.fieldLink RX9 44 "LearningSpansModel" "bitsLong" "I" ∈ AW := AWm (i := 555) (by decide +kernel) (by decide +kernel)
theorem fl_X9_22 : Cond.fieldLink RX9 22 "LearningSpansModel" "costs" "[I" ∈ AW := AWm (i := 556) (by decide +kernel) (by decide +kernel)
theorem fl_X9_25 : Cond.fieldLink RX9 25 "LearningSpansModel" "given" "[I" ∈ AW := AWm (i := 557) (by decide +kernel) (by decide +kernel)
theorem fl_X9_148 : Cond.fieldLink RX9 148 "LearningSpansModel" "givenLong" "I" ∈ AW := AWm (i := 558) (by decide +kernel) (by decide +kernel)
theorem fl_X9_145 : Cond.fieldLink RX9 145 "LearningSpansModel" "taken" "I" ∈ AW := AWm (i := 559) (by decide +kernel) (by decide +kernel)
theorem fl_X9_142 : Cond.fieldLink RX9 142 "LearningSpansModel" "v" "I" ∈ AW := AWm (i := 560) (by decide +kernel) (by decide +kernel)
theorem fl_X9_28 : Cond.fieldLink RX9 28 "LearningSpansModel" "read" "[I" ∈ AW := AWm (i := 561) (by decide +kernel) (by decide +kernel)
theorem fl_X9_151 : Cond.fieldLink RX9 151 "LearningSpansModel" "readMany" "I" ∈ AW := AWm (i := 562) (by decide +kernel) (by decide +kernel)
theorem fl_X9_31 : Cond.fieldLink RX9 31 "LearningSpansModel" "text" "[I" ∈ AW := AWm (i := 563) (by decide +kernel) (by decide +kernel)
theorem fl_X9_133 : Cond.fieldLink RX9 133 "LearningSpansModel" "textLong" "I" ∈ AW := AWm (i := 564) (by decide +kernel) (by decide +kernel)
theorem fl_X9_168 : Cond.fieldLink RX9 168 "LearningSpansModel" "place" "I" ∈ AW := AWm (i := 565) (by decide +kernel) (by decide +kernel)
theorem ml_L_17 : Cond.methodLink RL 17 yX9_put ∈ AW := AWm (i := 609) (by decide +kernel) (by decide +kernel)
theorem cstl_X9_100 : Cond.constantLong RX9 100 (7) ∈ AW := AWm (i := 613) (by decide +kernel) (by decide +kernel)
theorem ml_X9_102 : Cond.methodLink RX9 102 yX9_in ∈ AW := AWm (i := 614) (by decide +kernel) (by decide +kernel)
theorem ml_X9_106 : Cond.methodLink RX9 106 yX9_record ∈ AW := AWm (i := 617) (by decide +kernel) (by decide +kernel)
theorem ml_X9_97 : Cond.methodLink RX9 97 yX9_putsNow ∈ AW := AWm (i := 621) (by decide +kernel) (by decide +kernel)
theorem ml_X9_93 : Cond.methodLink RX9 93 yX9_putsAll ∈ AW := AWm (i := 625) (by decide +kernel) (by decide +kernel)
theorem ml_X9_83 : Cond.methodLink RX9 83 yX9_beginsSpan ∈ AW := AWm (i := 629) (by decide +kernel) (by decide +kernel)
theorem ml_X9_76 : Cond.methodLink RX9 76 yX9_beginsCounts ∈ AW := AWm (i := 633) (by decide +kernel) (by decide +kernel)
theorem cst_X9_79 : Cond.constant RX9 79 (65535) ∈ AW := AWm (i := 637) (by decide +kernel) (by decide +kernel)
theorem ml_X9_80 : Cond.methodLink RX9 80 yX9_narrows ∈ AW := AWm (i := 638) (by decide +kernel) (by decide +kernel)
theorem ml_X9_62 : Cond.methodLink RX9 62 yX9_cuts ∈ AW := AWm (i := 642) (by decide +kernel) (by decide +kernel)
theorem ml_X9_56 : Cond.methodLink RX9 56 yX9_below ∈ AW := AWm (i := 646) (by decide +kernel) (by decide +kernel)
theorem ml_X9_66 : Cond.methodLink RX9 66 yX9_takenOff ∈ AW := AWm (i := 650) (by decide +kernel) (by decide +kernel)
theorem cst_X9_60 : Cond.constant RX9 60 (32768) ∈ AW := AWm (i := 654) (by decide +kernel) (by decide +kernel)
theorem cst_X9_61 : Cond.constant RX9 61 (49152) ∈ AW := AWm (i := 655) (by decide +kernel) (by decide +kernel)
theorem ml_X9_70 : Cond.methodLink RX9 70 yX9_writes ∈ AW := AWm (i := 656) (by decide +kernel) (by decide +kernel)
theorem ml_X9_73 : Cond.methodLink RX9 73 yX9_doubles ∈ AW := AWm (i := 660) (by decide +kernel) (by decide +kernel)
theorem ml_X9_86 : Cond.methodLink RX9 86 yX9_learns ∈ AW := AWm (i := 664) (by decide +kernel) (by decide +kernel)
theorem ml_X9_90 : Cond.methodLink RX9 90 yX9_ends ∈ AW := AWm (i := 668) (by decide +kernel) (by decide +kernel)
theorem ml_L_22 : Cond.methodLink RL 22 yX9_end ∈ AW := AWm (i := 672) (by decide +kernel) (by decide +kernel)
theorem ml_X9_109 : Cond.methodLink RX9 109 yX9_bitsNow ∈ AW := AWm (i := 676) (by decide +kernel) (by decide +kernel)
theorem ml_L_26 : Cond.methodLink RL 26 yX9_begin ∈ AW := AWm (i := 680) (by decide +kernel) (by decide +kernel)
theorem ml_X9_112 : Cond.methodLink RX9 112 yX9_begins ∈ AW := AWm (i := 684) (by decide +kernel) (by decide +kernel)
theorem ml_L_30 : Cond.methodLink RL 30 yX9_drop ∈ AW := AWm (i := 688) (by decide +kernel) (by decide +kernel)
theorem cstl_X9_115 : Cond.constantLong RX9 115 (40) ∈ AW := AWm (i := 692) (by decide +kernel) (by decide +kernel)
theorem ml_L_35 : Cond.methodLink RL 35 yX9_mend ∈ AW := AWm (i := 693) (by decide +kernel) (by decide +kernel)
theorem ml_L_39 : Cond.methodLink RL 39 yX9_set ∈ AW := AWm (i := 697) (by decide +kernel) (by decide +kernel)
theorem cstl_X9_117 : Cond.constantLong RX9 117 (64) ∈ AW := AWm (i := 701) (by decide +kernel) (by decide +kernel)
theorem cstl_X9_119 : Cond.constantLong RX9 119 (32) ∈ AW := AWm (i := 702) (by decide +kernel) (by decide +kernel)
theorem cstl_X9_121 : Cond.constantLong RX9 121 (2000) ∈ AW := AWm (i := 703) (by decide +kernel) (by decide +kernel)
theorem ml_L_43 : Cond.methodLink RL 43 yX9_letter ∈ AW := AWm (i := 704) (by decide +kernel) (by decide +kernel)
theorem ml_L_47 : Cond.methodLink RL 47 yX9_bit ∈ AW := AWm (i := 708) (by decide +kernel) (by decide +kernel)
theorem ml_L_51 : Cond.methodLink RL 51 yX9_letterOf ∈ AW := AWm (i := 712) (by decide +kernel) (by decide +kernel)
theorem cstl_X9_123 : Cond.constantLong RX9 123 (8) ∈ AW := AWm (i := 716) (by decide +kernel) (by decide +kernel)
theorem cstl_X9_125 : Cond.constantLong RX9 125 (3) ∈ AW := AWm (i := 717) (by decide +kernel) (by decide +kernel)
theorem ml_X9_127 : Cond.methodLink RX9 127 yX9_stands ∈ AW := AWm (i := 718) (by decide +kernel) (by decide +kernel)
theorem ml_X9_130 : Cond.methodLink RX9 130 yX9_wouldWrite ∈ AW := AWm (i := 722) (by decide +kernel) (by decide +kernel)
theorem ml_L_55 : Cond.methodLink RL 55 yX9_count ∈ AW := AWm (i := 726) (by decide +kernel) (by decide +kernel)
theorem ml_X9_136 : Cond.methodLink RX9 136 yX9_mostWritten ∈ AW := AWm (i := 730) (by decide +kernel) (by decide +kernel)
theorem ml_L_59 : Cond.methodLink RL 59 yX9_cost ∈ AW := AWm (i := 734) (by decide +kernel) (by decide +kernel)
theorem ml_L_63 : Cond.methodLink RL 63 yX9_bitsBy ∈ AW := AWm (i := 738) (by decide +kernel) (by decide +kernel)
theorem ml_X9_139 : Cond.methodLink RX9 139 yX9_bitsOf ∈ AW := AWm (i := 742) (by decide +kernel) (by decide +kernel)
theorem ml_L_67 : Cond.methodLink RL 67 yX9_bestPace ∈ AW := AWm (i := 746) (by decide +kernel) (by decide +kernel)
theorem ml_L_71 : Cond.methodLink RL 71 yX9_readBack ∈ AW := AWm (i := 750) (by decide +kernel) (by decide +kernel)
theorem cstl_X9_160 : Cond.constantLong RX9 160 (2) ∈ AW := AWm (i := 754) (by decide +kernel) (by decide +kernel)
theorem ml_X9_162 : Cond.methodLink RX9 162 yX9_reads ∈ AW := AWm (i := 755) (by decide +kernel) (by decide +kernel)
theorem ml_X9_154 : Cond.methodLink RX9 154 yX9_takes ∈ AW := AWm (i := 759) (by decide +kernel) (by decide +kernel)
theorem ml_X9_157 : Cond.methodLink RX9 157 yX9_letterAt ∈ AW := AWm (i := 763) (by decide +kernel) (by decide +kernel)
theorem ml_L_75 : Cond.methodLink RL 75 yX9_undo ∈ AW := AWm (i := 767) (by decide +kernel) (by decide +kernel)
theorem ml_L_79 : Cond.methodLink RL 79 yX9_type ∈ AW := AWm (i := 771) (by decide +kernel) (by decide +kernel)
theorem cstl_X9_166 : Cond.constantLong RX9 166 (126) ∈ AW := AWm (i := 775) (by decide +kernel) (by decide +kernel)
theorem ml_L_83 : Cond.methodLink RL 83 yX9_clearText ∈ AW := AWm (i := 776) (by decide +kernel) (by decide +kernel)
theorem ml_L_87 : Cond.methodLink RL 87 yX9_write ∈ AW := AWm (i := 780) (by decide +kernel) (by decide +kernel)
theorem ml_L_91 : Cond.methodLink RL 91 yX9_fault ∈ AW := AWm (i := 784) (by decide +kernel) (by decide +kernel)
theorem ml_X9_175 : Cond.methodLink RX9 175 yX9_reason ∈ AW := AWm (i := 788) (by decide +kernel) (by decide +kernel)
theorem cstl_X9_171 : Cond.constantLong RX9 171 (48) ∈ AW := AWm (i := 792) (by decide +kernel) (by decide +kernel)
theorem cstl_X9_173 : Cond.constantLong RX9 173 (49) ∈ AW := AWm (i := 793) (by decide +kernel) (by decide +kernel)
theorem ml_L_95 : Cond.methodLink RL 95 yX9_told ∈ AW := AWm (i := 794) (by decide +kernel) (by decide +kernel)
theorem ini_L : Cond.initialized RL ∈ AW := AWm (i := 0) (by decide +kernel) (by decide +kernel)
theorem ini_X8 : Cond.initialized RX8 ∈ AW := AWm (i := 1) (by decide +kernel) (by decide +kernel)
theorem ini_X4 : Cond.initialized RX4 ∈ AW := AWm (i := 2) (by decide +kernel) (by decide +kernel)
theorem ini_X1 : Cond.initialized RX1 ∈ AW := AWm (i := 3) (by decide +kernel) (by decide +kernel)
theorem ini_X2 : Cond.initialized RX2 ∈ AW := AWm (i := 4) (by decide +kernel) (by decide +kernel)
theorem ini_X6 : Cond.initialized RX6 ∈ AW := AWm (i := 5) (by decide +kernel) (by decide +kernel)
theorem ini_X0 : Cond.initialized RX0 ∈ AW := AWm (i := 6) (by decide +kernel) (by decide +kernel)
theorem ini_X5 : Cond.initialized RX5 ∈ AW := AWm (i := 7) (by decide +kernel) (by decide +kernel)
theorem ini_X7 : Cond.initialized RX7 ∈ AW := AWm (i := 8) (by decide +kernel) (by decide +kernel)
theorem ini_X3 : Cond.initialized RX3 ∈ AW := AWm (i := 9) (by decide +kernel) (by decide +kernel)
theorem ini_X9 : Cond.initialized RX9 ∈ AW := AWm (i := 10) (by decide +kernel) (by decide +kernel)
theorem ini_J9 : Cond.initialized RJ9 ∈ AW := AWm (i := 11) (by decide +kernel) (by decide +kernel)
theorem ini_Math : Cond.initialized "java/lang/Math" ∈ AW := AWm (i := 11) (by decide +kernel) (by decide +kernel)
theorem inst_X8 : Cond.instantiable RX8 7 ∈ AW := AWm (i := 13) (by decide +kernel) (by decide +kernel)
theorem inst_X4 : Cond.instantiable RX4 5 ∈ AW := AWm (i := 21) (by decide +kernel) (by decide +kernel)
theorem inst_X1 : Cond.instantiable RX1 6 ∈ AW := AWm (i := 49) (by decide +kernel) (by decide +kernel)
theorem inst_X2 : Cond.instantiable RX2 5 ∈ AW := AWm (i := 55) (by decide +kernel) (by decide +kernel)
theorem inst_X6 : Cond.instantiable RX6 2 ∈ AW := AWm (i := 80) (by decide +kernel) (by decide +kernel)
theorem inst_X0 : Cond.instantiable RX0 2 ∈ AW := AWm (i := 97) (by decide +kernel) (by decide +kernel)
theorem inst_X5 : Cond.instantiable RX5 7 ∈ AW := AWm (i := 152) (by decide +kernel) (by decide +kernel)
theorem inst_X7 : Cond.instantiable RX7 2 ∈ AW := AWm (i := 187) (by decide +kernel) (by decide +kernel)
theorem inst_X3 : Cond.instantiable RX3 2 ∈ AW := AWm (i := 203) (by decide +kernel) (by decide +kernel)
theorem inst_X9 : Cond.instantiable RX9 21 ∈ AW := AWm (i := 540) (by decide +kernel) (by decide +kernel)
theorem cd_X0_init : Cond.code yX0_init cX0_init 1 none ∈ AW := AWm (i := 100) (by decide +kernel) (by decide +kernel)
theorem im_X0_init : Cond.instanceMethod yX0_init ∈ AW := AWm (i := 99) (by decide +kernel) (by decide +kernel)
theorem mok_X0_init : MOKi yX0_init cX0_init 1 0 := ⟨im_X0_init, ini_X0, cd_X0_init, rfl, by decide +kernel, by decide +kernel, by decide +kernel⟩
theorem cd_X0_empty : Cond.code yX0_empty cX0_empty 1 none ∈ AW := AWm (i := 127) (by decide +kernel) (by decide +kernel)
theorem im_X0_empty : Cond.instanceMethod yX0_empty ∈ AW := AWm (i := 125) (by decide +kernel) (by decide +kernel)
theorem sel_X0_empty : Cond.selects RX0 yX0_empty yX0_empty ∈ AW := AWm (i := 126) (by decide +kernel) (by decide +kernel)
theorem mok_X0_empty : MOK RX0 yX0_empty cX0_empty 1 none 0 := ⟨im_X0_empty, sel_X0_empty, ini_X0, cd_X0_empty, rfl, by decide +kernel, by decide +kernel, by decide +kernel⟩
theorem cd_X0_append : Cond.code yX0_append cX0_append 2 none ∈ AW := AWm (i := 305) (by decide +kernel) (by decide +kernel)
theorem im_X0_append : Cond.instanceMethod yX0_append ∈ AW := AWm (i := 303) (by decide +kernel) (by decide +kernel)
theorem sel_X0_append : Cond.selects RX0 yX0_append yX0_append ∈ AW := AWm (i := 304) (by decide +kernel) (by decide +kernel)
theorem mok_X0_append : MOK RX0 yX0_append cX0_append 2 none 1 := ⟨im_X0_append, sel_X0_append, ini_X0, cd_X0_append, rfl, by decide +kernel, by decide +kernel, by decide +kernel⟩
theorem cd_X0_bitAt : Cond.code yX0_bitAt cX0_bitAt 2 (some .int) ∈ AW := AWm (i := 382) (by decide +kernel) (by decide +kernel)
theorem im_X0_bitAt : Cond.instanceMethod yX0_bitAt ∈ AW := AWm (i := 380) (by decide +kernel) (by decide +kernel)
theorem sel_X0_bitAt : Cond.selects RX0 yX0_bitAt yX0_bitAt ∈ AW := AWm (i := 381) (by decide +kernel) (by decide +kernel)
theorem mok_X0_bitAt : MOK RX0 yX0_bitAt cX0_bitAt 2 (some .int) 1 := ⟨im_X0_bitAt, sel_X0_bitAt, ini_X0, cd_X0_bitAt, rfl, by decide +kernel, by decide +kernel, by decide +kernel⟩
theorem cd_X0_firstOne : Cond.code yX0_firstOne cX0_firstOne 3 (some .int) ∈ AW := AWm (i := 528) (by decide +kernel) (by decide +kernel)
theorem im_X0_firstOne : Cond.instanceMethod yX0_firstOne ∈ AW := AWm (i := 526) (by decide +kernel) (by decide +kernel)
theorem sel_X0_firstOne : Cond.selects RX0 yX0_firstOne yX0_firstOne ∈ AW := AWm (i := 527) (by decide +kernel) (by decide +kernel)
theorem mok_X0_firstOne : MOK RX0 yX0_firstOne cX0_firstOne 3 (some .int) 1 := ⟨im_X0_firstOne, sel_X0_firstOne, ini_X0, cd_X0_firstOne, rfl, by decide +kernel, by decide +kernel, by decide +kernel⟩
theorem cd_X1_init : Cond.code yX1_init cX1_init 1 none ∈ AW := AWm (i := 52) (by decide +kernel) (by decide +kernel)
theorem im_X1_init : Cond.instanceMethod yX1_init ∈ AW := AWm (i := 51) (by decide +kernel) (by decide +kernel)
theorem mok_X1_init : MOKi yX1_init cX1_init 1 0 := ⟨im_X1_init, ini_X1, cd_X1_init, rfl, by decide +kernel, by decide +kernel, by decide +kernel⟩
theorem cd_X1_start : Cond.code yX1_start cX1_start 3 none ∈ AW := AWm (i := 115) (by decide +kernel) (by decide +kernel)
theorem im_X1_start : Cond.instanceMethod yX1_start ∈ AW := AWm (i := 113) (by decide +kernel) (by decide +kernel)
theorem sel_X1_start : Cond.selects RX1 yX1_start yX1_start ∈ AW := AWm (i := 114) (by decide +kernel) (by decide +kernel)
theorem mok_X1_start : MOK RX1 yX1_start cX1_start 3 none 2 := ⟨im_X1_start, sel_X1_start, ini_X1, cd_X1_start, rfl, by decide +kernel, by decide +kernel, by decide +kernel⟩
theorem cd_X1_add : Cond.code yX1_add cX1_add 4 (some .int) ∈ AW := AWm (i := 274) (by decide +kernel) (by decide +kernel)
theorem im_X1_add : Cond.instanceMethod yX1_add ∈ AW := AWm (i := 272) (by decide +kernel) (by decide +kernel)
theorem sel_X1_add : Cond.selects RX1 yX1_add yX1_add ∈ AW := AWm (i := 273) (by decide +kernel) (by decide +kernel)
theorem mok_X1_add : MOK RX1 yX1_add cX1_add 4 (some .int) 1 := ⟨im_X1_add, sel_X1_add, ini_X1, cd_X1_add, rfl, by decide +kernel, by decide +kernel, by decide +kernel⟩
theorem cd_X1_addAll : Cond.code yX1_addAll cX1_addAll 3 none ∈ AW := AWm (i := 338) (by decide +kernel) (by decide +kernel)
theorem im_X1_addAll : Cond.instanceMethod yX1_addAll ∈ AW := AWm (i := 336) (by decide +kernel) (by decide +kernel)
theorem sel_X1_addAll : Cond.selects RX1 yX1_addAll yX1_addAll ∈ AW := AWm (i := 337) (by decide +kernel) (by decide +kernel)
theorem mok_X1_addAll : MOK RX1 yX1_addAll cX1_addAll 3 none 1 := ⟨im_X1_addAll, sel_X1_addAll, ini_X1, cd_X1_addAll, rfl, by decide +kernel, by decide +kernel, by decide +kernel⟩
theorem cd_X1_close : Cond.code yX1_close cX1_close 1 none ∈ AW := AWm (i := 321) (by decide +kernel) (by decide +kernel)
theorem im_X1_close : Cond.instanceMethod yX1_close ∈ AW := AWm (i := 319) (by decide +kernel) (by decide +kernel)
theorem sel_X1_close : Cond.selects RX1 yX1_close yX1_close ∈ AW := AWm (i := 320) (by decide +kernel) (by decide +kernel)
theorem mok_X1_close : MOK RX1 yX1_close cX1_close 1 none 0 := ⟨im_X1_close, sel_X1_close, ini_X1, cd_X1_close, rfl, by decide +kernel, by decide +kernel, by decide +kernel⟩
theorem cd_X1_costAt : Cond.code yX1_costAt cX1_costAt 2 (some .int) ∈ AW := AWm (i := 408) (by decide +kernel) (by decide +kernel)
theorem im_X1_costAt : Cond.instanceMethod yX1_costAt ∈ AW := AWm (i := 406) (by decide +kernel) (by decide +kernel)
theorem sel_X1_costAt : Cond.selects RX1 yX1_costAt yX1_costAt ∈ AW := AWm (i := 407) (by decide +kernel) (by decide +kernel)
theorem mok_X1_costAt : MOK RX1 yX1_costAt cX1_costAt 2 (some .int) 1 := ⟨im_X1_costAt, sel_X1_costAt, ini_X1, cd_X1_costAt, rfl, by decide +kernel, by decide +kernel, by decide +kernel⟩
theorem cd_X1_dearest : Cond.code yX1_dearest cX1_dearest 3 (some .int) ∈ AW := AWm (i := 404) (by decide +kernel) (by decide +kernel)
theorem im_X1_dearest : Cond.instanceMethod yX1_dearest ∈ AW := AWm (i := 402) (by decide +kernel) (by decide +kernel)
theorem sel_X1_dearest : Cond.selects RX1 yX1_dearest yX1_dearest ∈ AW := AWm (i := 403) (by decide +kernel) (by decide +kernel)
theorem mok_X1_dearest : MOK RX1 yX1_dearest cX1_dearest 3 (some .int) 0 := ⟨im_X1_dearest, sel_X1_dearest, ini_X1, cd_X1_dearest, rfl, by decide +kernel, by decide +kernel, by decide +kernel⟩
theorem cd_X1_narrow : Cond.code yX1_narrow cX1_narrow 4 none ∈ AW := AWm (i := 278) (by decide +kernel) (by decide +kernel)
theorem im_X1_narrow : Cond.instanceMethod yX1_narrow ∈ AW := AWm (i := 277) (by decide +kernel) (by decide +kernel)
theorem sel_X1_narrow : Cond.selects RX1 yX1_narrow yX1_narrow ∈ AW := AWs (i := 1) (q := (yX1_narrow, 6)) (by decide +kernel)
theorem mok_X1_narrow : MOK RX1 yX1_narrow cX1_narrow 4 none 1 := ⟨im_X1_narrow, sel_X1_narrow, ini_X1, cd_X1_narrow, rfl, by decide +kernel, by decide +kernel, by decide +kernel⟩
theorem cd_X1_writeBit : Cond.code yX1_writeBit cX1_writeBit 3 none ∈ AW := AWm (i := 301) (by decide +kernel) (by decide +kernel)
theorem im_X1_writeBit : Cond.instanceMethod yX1_writeBit ∈ AW := AWm (i := 300) (by decide +kernel) (by decide +kernel)
theorem sel_X1_writeBit : Cond.selects RX1 yX1_writeBit yX1_writeBit ∈ AW := AWs (i := 2) (q := (yX1_writeBit, 6)) (by decide +kernel)
theorem mok_X1_writeBit : MOK RX1 yX1_writeBit cX1_writeBit 3 none 1 := ⟨im_X1_writeBit, sel_X1_writeBit, ini_X1, cd_X1_writeBit, rfl, by decide +kernel, by decide +kernel, by decide +kernel⟩
theorem cd_X2_init : Cond.code yX2_init cX2_init 1 none ∈ AW := AWm (i := 58) (by decide +kernel) (by decide +kernel)
theorem im_X2_init : Cond.instanceMethod yX2_init ∈ AW := AWm (i := 57) (by decide +kernel) (by decide +kernel)
theorem mok_X2_init : MOKi yX2_init cX2_init 1 0 := ⟨im_X2_init, ini_X2, cd_X2_init, rfl, by decide +kernel, by decide +kernel, by decide +kernel⟩
theorem cd_X2_start : Cond.code yX2_start cX2_start 4 none ∈ AW := AWm (i := 119) (by decide +kernel) (by decide +kernel)
theorem im_X2_start : Cond.instanceMethod yX2_start ∈ AW := AWm (i := 117) (by decide +kernel) (by decide +kernel)
theorem sel_X2_start : Cond.selects RX2 yX2_start yX2_start ∈ AW := AWm (i := 118) (by decide +kernel) (by decide +kernel)
theorem mok_X2_start : MOK RX2 yX2_start cX2_start 4 none 2 := ⟨im_X2_start, sel_X2_start, ini_X2, cd_X2_start, rfl, by decide +kernel, by decide +kernel, by decide +kernel⟩
theorem cd_X2_countAt : Cond.code yX2_countAt cX2_countAt 2 (some .int) ∈ AW := AWm (i := 290) (by decide +kernel) (by decide +kernel)
theorem im_X2_countAt : Cond.instanceMethod yX2_countAt ∈ AW := AWm (i := 288) (by decide +kernel) (by decide +kernel)
theorem sel_X2_countAt : Cond.selects RX2 yX2_countAt yX2_countAt ∈ AW := AWm (i := 289) (by decide +kernel) (by decide +kernel)
theorem mok_X2_countAt : MOK RX2 yX2_countAt cX2_countAt 2 (some .int) 1 := ⟨im_X2_countAt, sel_X2_countAt, ini_X2, cd_X2_countAt, rfl, by decide +kernel, by decide +kernel, by decide +kernel⟩
theorem cd_X2_below : Cond.code yX2_below cX2_below 4 (some .int) ∈ AW := AWm (i := 286) (by decide +kernel) (by decide +kernel)
theorem im_X2_below : Cond.instanceMethod yX2_below ∈ AW := AWm (i := 284) (by decide +kernel) (by decide +kernel)
theorem sel_X2_below : Cond.selects RX2 yX2_below yX2_below ∈ AW := AWm (i := 285) (by decide +kernel) (by decide +kernel)
theorem mok_X2_below : MOK RX2 yX2_below cX2_below 4 (some .int) 1 := ⟨im_X2_below, sel_X2_below, ini_X2, cd_X2_below, rfl, by decide +kernel, by decide +kernel, by decide +kernel⟩
theorem cd_X2_letterWith : Cond.code yX2_letterWith cX2_letterWith 4 (some .int) ∈ AW := AWm (i := 453) (by decide +kernel) (by decide +kernel)
theorem im_X2_letterWith : Cond.instanceMethod yX2_letterWith ∈ AW := AWm (i := 451) (by decide +kernel) (by decide +kernel)
theorem sel_X2_letterWith : Cond.selects RX2 yX2_letterWith yX2_letterWith ∈ AW := AWm (i := 452) (by decide +kernel) (by decide +kernel)
theorem mok_X2_letterWith : MOK RX2 yX2_letterWith cX2_letterWith 4 (some .int) 1 := ⟨im_X2_letterWith, sel_X2_letterWith, ini_X2, cd_X2_letterWith, rfl, by decide +kernel, by decide +kernel, by decide +kernel⟩
theorem cd_X2_learn : Cond.code yX2_learn cX2_learn 2 none ∈ AW := AWm (i := 309) (by decide +kernel) (by decide +kernel)
theorem im_X2_learn : Cond.instanceMethod yX2_learn ∈ AW := AWm (i := 307) (by decide +kernel) (by decide +kernel)
theorem sel_X2_learn : Cond.selects RX2 yX2_learn yX2_learn ∈ AW := AWm (i := 308) (by decide +kernel) (by decide +kernel)
theorem mok_X2_learn : MOK RX2 yX2_learn cX2_learn 2 none 1 := ⟨im_X2_learn, sel_X2_learn, ini_X2, cd_X2_learn, rfl, by decide +kernel, by decide +kernel, by decide +kernel⟩
theorem cd_X2_halve : Cond.code yX2_halve cX2_halve 2 none ∈ AW := AWm (i := 313) (by decide +kernel) (by decide +kernel)
theorem im_X2_halve : Cond.instanceMethod yX2_halve ∈ AW := AWm (i := 312) (by decide +kernel) (by decide +kernel)
theorem sel_X2_halve : Cond.selects RX2 yX2_halve yX2_halve ∈ AW := AWs (i := 3) (q := (yX2_halve, 5)) (by decide +kernel)
theorem mok_X2_halve : MOK RX2 yX2_halve cX2_halve 2 none 0 := ⟨im_X2_halve, sel_X2_halve, ini_X2, cd_X2_halve, rfl, by decide +kernel, by decide +kernel, by decide +kernel⟩
theorem cd_X3_init : Cond.code yX3_init cX3_init 2 none ∈ AW := AWm (i := 206) (by decide +kernel) (by decide +kernel)
theorem im_X3_init : Cond.instanceMethod yX3_init ∈ AW := AWm (i := 205) (by decide +kernel) (by decide +kernel)
theorem mok_X3_init : MOKi yX3_init cX3_init 2 0 := ⟨im_X3_init, ini_X3, cd_X3_init, rfl, by decide +kernel, by decide +kernel, by decide +kernel⟩
theorem cd_X3_keep : Cond.code yX3_keep cX3_keep 2 none ∈ AW := AWm (i := 251) (by decide +kernel) (by decide +kernel)
theorem im_X3_keep : Cond.instanceMethod yX3_keep ∈ AW := AWm (i := 249) (by decide +kernel) (by decide +kernel)
theorem sel_X3_keep : Cond.selects RX3 yX3_keep yX3_keep ∈ AW := AWm (i := 250) (by decide +kernel) (by decide +kernel)
theorem mok_X3_keep : MOK RX3 yX3_keep cX3_keep 2 none 1 := ⟨im_X3_keep, sel_X3_keep, ini_X3, cd_X3_keep, rfl, by decide +kernel, by decide +kernel, by decide +kernel⟩
theorem cd_X3_restore : Cond.code yX3_restore cX3_restore 2 none ∈ AW := AWm (i := 479) (by decide +kernel) (by decide +kernel)
theorem im_X3_restore : Cond.instanceMethod yX3_restore ∈ AW := AWm (i := 477) (by decide +kernel) (by decide +kernel)
theorem sel_X3_restore : Cond.selects RX3 yX3_restore yX3_restore ∈ AW := AWm (i := 478) (by decide +kernel) (by decide +kernel)
theorem mok_X3_restore : MOK RX3 yX3_restore cX3_restore 2 none 1 := ⟨im_X3_restore, sel_X3_restore, ini_X3, cd_X3_restore, rfl, by decide +kernel, by decide +kernel, by decide +kernel⟩
theorem cd_X3_dropOldest : Cond.code yX3_dropOldest cX3_dropOldest 2 none ∈ AW := AWm (i := 255) (by decide +kernel) (by decide +kernel)
theorem im_X3_dropOldest : Cond.instanceMethod yX3_dropOldest ∈ AW := AWm (i := 254) (by decide +kernel) (by decide +kernel)
theorem sel_X3_dropOldest : Cond.selects RX3 yX3_dropOldest yX3_dropOldest ∈ AW := AWs (i := 0) (q := (yX3_dropOldest, 2)) (by decide +kernel)
theorem mok_X3_dropOldest : MOK RX3 yX3_dropOldest cX3_dropOldest 2 none 0 := ⟨im_X3_dropOldest, sel_X3_dropOldest, ini_X3, cd_X3_dropOldest, rfl, by decide +kernel, by decide +kernel, by decide +kernel⟩
theorem cd_X3_copy : Cond.code yX3_copy cX3_copy 2 none ∈ AW := AWm (i := 258) (by decide +kernel) (by decide +kernel)
theorem stt_X3_copy : Cond.static yX3_copy ∈ AW := AWm (i := 257) (by decide +kernel) (by decide +kernel)
theorem mok_X3_copy : MOKs yX3_copy cX3_copy 2 none 2 := ⟨stt_X3_copy, ini_X3, cd_X3_copy, by decide +kernel, by decide +kernel, by decide +kernel⟩
theorem cd_X4_init : Cond.code yX4_init cX4_init 1 none ∈ AW := AWm (i := 24) (by decide +kernel) (by decide +kernel)
theorem im_X4_init : Cond.instanceMethod yX4_init ∈ AW := AWm (i := 23) (by decide +kernel) (by decide +kernel)
theorem mok_X4_init : MOKi yX4_init cX4_init 1 0 := ⟨im_X4_init, ini_X4, cd_X4_init, rfl, by decide +kernel, by decide +kernel, by decide +kernel⟩
theorem cd_X4_letterAt : Cond.code yX4_letterAt cX4_letterAt 2 (some .int) ∈ AW := AWm (i := 266) (by decide +kernel) (by decide +kernel)
theorem im_X4_letterAt : Cond.instanceMethod yX4_letterAt ∈ AW := AWm (i := 264) (by decide +kernel) (by decide +kernel)
theorem sel_X4_letterAt : Cond.selects RX4 yX4_letterAt yX4_letterAt ∈ AW := AWm (i := 265) (by decide +kernel) (by decide +kernel)
theorem mok_X4_letterAt : MOK RX4 yX4_letterAt cX4_letterAt 2 (some .int) 1 := ⟨im_X4_letterAt, sel_X4_letterAt, ini_X4, cd_X4_letterAt, rfl, by decide +kernel, by decide +kernel, by decide +kernel⟩
theorem cd_X4_append : Cond.code yX4_append cX4_append 2 none ∈ AW := AWm (i := 270) (by decide +kernel) (by decide +kernel)
theorem im_X4_append : Cond.instanceMethod yX4_append ∈ AW := AWm (i := 268) (by decide +kernel) (by decide +kernel)
theorem sel_X4_append : Cond.selects RX4 yX4_append yX4_append ∈ AW := AWm (i := 269) (by decide +kernel) (by decide +kernel)
theorem mok_X4_append : MOK RX4 yX4_append cX4_append 2 none 1 := ⟨im_X4_append, sel_X4_append, ini_X4, cd_X4_append, rfl, by decide +kernel, by decide +kernel, by decide +kernel⟩
theorem cd_X4_replace : Cond.code yX4_replace cX4_replace 3 none ∈ AW := AWm (i := 359) (by decide +kernel) (by decide +kernel)
theorem im_X4_replace : Cond.instanceMethod yX4_replace ∈ AW := AWm (i := 357) (by decide +kernel) (by decide +kernel)
theorem sel_X4_replace : Cond.selects RX4 yX4_replace yX4_replace ∈ AW := AWm (i := 358) (by decide +kernel) (by decide +kernel)
theorem mok_X4_replace : MOK RX4 yX4_replace cX4_replace 3 none 2 := ⟨im_X4_replace, sel_X4_replace, ini_X4, cd_X4_replace, rfl, by decide +kernel, by decide +kernel, by decide +kernel⟩
theorem cd_X4_shorten : Cond.code yX4_shorten cX4_shorten 2 none ∈ AW := AWm (i := 348) (by decide +kernel) (by decide +kernel)
theorem im_X4_shorten : Cond.instanceMethod yX4_shorten ∈ AW := AWm (i := 346) (by decide +kernel) (by decide +kernel)
theorem sel_X4_shorten : Cond.selects RX4 yX4_shorten yX4_shorten ∈ AW := AWm (i := 347) (by decide +kernel) (by decide +kernel)
theorem mok_X4_shorten : MOK RX4 yX4_shorten cX4_shorten 2 none 1 := ⟨im_X4_shorten, sel_X4_shorten, ini_X4, cd_X4_shorten, rfl, by decide +kernel, by decide +kernel, by decide +kernel⟩
theorem cd_X4_empty : Cond.code yX4_empty cX4_empty 1 none ∈ AW := AWm (i := 329) (by decide +kernel) (by decide +kernel)
theorem im_X4_empty : Cond.instanceMethod yX4_empty ∈ AW := AWm (i := 327) (by decide +kernel) (by decide +kernel)
theorem sel_X4_empty : Cond.selects RX4 yX4_empty yX4_empty ∈ AW := AWm (i := 328) (by decide +kernel) (by decide +kernel)
theorem mok_X4_empty : MOK RX4 yX4_empty cX4_empty 1 none 0 := ⟨im_X4_empty, sel_X4_empty, ini_X4, cd_X4_empty, rfl, by decide +kernel, by decide +kernel, by decide +kernel⟩
theorem cd_X4_howOften : Cond.code yX4_howOften cX4_howOften 4 (some .int) ∈ AW := AWm (i := 392) (by decide +kernel) (by decide +kernel)
theorem im_X4_howOften : Cond.instanceMethod yX4_howOften ∈ AW := AWm (i := 390) (by decide +kernel) (by decide +kernel)
theorem sel_X4_howOften : Cond.selects RX4 yX4_howOften yX4_howOften ∈ AW := AWm (i := 391) (by decide +kernel) (by decide +kernel)
theorem mok_X4_howOften : MOK RX4 yX4_howOften cX4_howOften 4 (some .int) 1 := ⟨im_X4_howOften, sel_X4_howOften, ini_X4, cd_X4_howOften, rfl, by decide +kernel, by decide +kernel, by decide +kernel⟩
theorem cd_X4_copyFrom : Cond.code yX4_copyFrom cX4_copyFrom 3 none ∈ AW := AWm (i := 262) (by decide +kernel) (by decide +kernel)
theorem im_X4_copyFrom : Cond.instanceMethod yX4_copyFrom ∈ AW := AWm (i := 260) (by decide +kernel) (by decide +kernel)
theorem sel_X4_copyFrom : Cond.selects RX4 yX4_copyFrom yX4_copyFrom ∈ AW := AWm (i := 261) (by decide +kernel) (by decide +kernel)
theorem mok_X4_copyFrom : MOK RX4 yX4_copyFrom cX4_copyFrom 3 none 1 := ⟨im_X4_copyFrom, sel_X4_copyFrom, ini_X4, cd_X4_copyFrom, rfl, by decide +kernel, by decide +kernel, by decide +kernel⟩
theorem cd_X5_init : Cond.code yX5_init cX5_init 1 none ∈ AW := AWm (i := 155) (by decide +kernel) (by decide +kernel)
theorem im_X5_init : Cond.instanceMethod yX5_init ∈ AW := AWm (i := 154) (by decide +kernel) (by decide +kernel)
theorem mok_X5_init : MOKi yX5_init cX5_init 1 0 := ⟨im_X5_init, ini_X5, cd_X5_init, rfl, by decide +kernel, by decide +kernel, by decide +kernel⟩
theorem cd_X5_letterAt : Cond.code yX5_letterAt cX5_letterAt 2 (some .int) ∈ AW := AWm (i := 471) (by decide +kernel) (by decide +kernel)
theorem im_X5_letterAt : Cond.instanceMethod yX5_letterAt ∈ AW := AWm (i := 469) (by decide +kernel) (by decide +kernel)
theorem sel_X5_letterAt : Cond.selects RX5 yX5_letterAt yX5_letterAt ∈ AW := AWm (i := 470) (by decide +kernel) (by decide +kernel)
theorem mok_X5_letterAt : MOK RX5 yX5_letterAt cX5_letterAt 2 (some .int) 1 := ⟨im_X5_letterAt, sel_X5_letterAt, ini_X5, cd_X5_letterAt, rfl, by decide +kernel, by decide +kernel, by decide +kernel⟩
theorem cd_X5_read : Cond.code yX5_read cX5_read 5 none ∈ AW := AWm (i := 434) (by decide +kernel) (by decide +kernel)
theorem im_X5_read : Cond.instanceMethod yX5_read ∈ AW := AWm (i := 432) (by decide +kernel) (by decide +kernel)
theorem sel_X5_read : Cond.selects RX5 yX5_read yX5_read ∈ AW := AWm (i := 433) (by decide +kernel) (by decide +kernel)
theorem mok_X5_read : MOK RX5 yX5_read cX5_read 5 none 3 := ⟨im_X5_read, sel_X5_read, ini_X5, cd_X5_read, rfl, by decide +kernel, by decide +kernel, by decide +kernel⟩
theorem cd_X5_readLetter : Cond.code yX5_readLetter cX5_readLetter 3 none ∈ AW := AWm (i := 445) (by decide +kernel) (by decide +kernel)
theorem im_X5_readLetter : Cond.instanceMethod yX5_readLetter ∈ AW := AWm (i := 444) (by decide +kernel) (by decide +kernel)
theorem sel_X5_readLetter : Cond.selects RX5 yX5_readLetter yX5_readLetter ∈ AW := AWs (i := 8) (q := (yX5_readLetter, 7)) (by decide +kernel)
theorem mok_X5_readLetter : MOK RX5 yX5_readLetter cX5_readLetter 3 none 1 := ⟨im_X5_readLetter, sel_X5_readLetter, ini_X5, cd_X5_readLetter, rfl, by decide +kernel, by decide +kernel, by decide +kernel⟩
theorem cd_X5_narrow : Cond.code yX5_narrow cX5_narrow 5 none ∈ AW := AWm (i := 457) (by decide +kernel) (by decide +kernel)
theorem im_X5_narrow : Cond.instanceMethod yX5_narrow ∈ AW := AWm (i := 456) (by decide +kernel) (by decide +kernel)
theorem sel_X5_narrow : Cond.selects RX5 yX5_narrow yX5_narrow ∈ AW := AWs (i := 9) (q := (yX5_narrow, 7)) (by decide +kernel)
theorem mok_X5_narrow : MOK RX5 yX5_narrow cX5_narrow 5 none 2 := ⟨im_X5_narrow, sel_X5_narrow, ini_X5, cd_X5_narrow, rfl, by decide +kernel, by decide +kernel, by decide +kernel⟩
theorem cd_X5_takeBit : Cond.code yX5_takeBit cX5_takeBit 2 none ∈ AW := AWm (i := 440) (by decide +kernel) (by decide +kernel)
theorem im_X5_takeBit : Cond.instanceMethod yX5_takeBit ∈ AW := AWm (i := 439) (by decide +kernel) (by decide +kernel)
theorem sel_X5_takeBit : Cond.selects RX5 yX5_takeBit yX5_takeBit ∈ AW := AWs (i := 7) (q := (yX5_takeBit, 7)) (by decide +kernel)
theorem mok_X5_takeBit : MOK RX5 yX5_takeBit cX5_takeBit 2 none 1 := ⟨im_X5_takeBit, sel_X5_takeBit, ini_X5, cd_X5_takeBit, rfl, by decide +kernel, by decide +kernel, by decide +kernel⟩
theorem cd_X6_init : Cond.code yX6_init cX6_init 1 none ∈ AW := AWm (i := 83) (by decide +kernel) (by decide +kernel)
theorem im_X6_init : Cond.instanceMethod yX6_init ∈ AW := AWm (i := 82) (by decide +kernel) (by decide +kernel)
theorem mok_X6_init : MOKi yX6_init cX6_init 1 0 := ⟨im_X6_init, ini_X6, cd_X6_init, rfl, by decide +kernel, by decide +kernel, by decide +kernel⟩
theorem cd_X6_start : Cond.code yX6_start cX6_start 1 none ∈ AW := AWm (i := 123) (by decide +kernel) (by decide +kernel)
theorem im_X6_start : Cond.instanceMethod yX6_start ∈ AW := AWm (i := 121) (by decide +kernel) (by decide +kernel)
theorem sel_X6_start : Cond.selects RX6 yX6_start yX6_start ∈ AW := AWm (i := 122) (by decide +kernel) (by decide +kernel)
theorem mok_X6_start : MOK RX6 yX6_start cX6_start 1 none 0 := ⟨im_X6_start, sel_X6_start, ini_X6, cd_X6_start, rfl, by decide +kernel, by decide +kernel, by decide +kernel⟩
theorem cd_X6_shrink : Cond.code yX6_shrink cX6_shrink 7 none ∈ AW := AWm (i := 282) (by decide +kernel) (by decide +kernel)
theorem im_X6_shrink : Cond.instanceMethod yX6_shrink ∈ AW := AWm (i := 280) (by decide +kernel) (by decide +kernel)
theorem sel_X6_shrink : Cond.selects RX6 yX6_shrink yX6_shrink ∈ AW := AWm (i := 281) (by decide +kernel) (by decide +kernel)
theorem mok_X6_shrink : MOK RX6 yX6_shrink cX6_shrink 7 none 2 := ⟨im_X6_shrink, sel_X6_shrink, ini_X6, cd_X6_shrink, rfl, by decide +kernel, by decide +kernel, by decide +kernel⟩
theorem cd_X6_widen : Cond.code yX6_widen cX6_widen 2 (some .int) ∈ AW := AWm (i := 294) (by decide +kernel) (by decide +kernel)
theorem im_X6_widen : Cond.instanceMethod yX6_widen ∈ AW := AWm (i := 292) (by decide +kernel) (by decide +kernel)
theorem sel_X6_widen : Cond.selects RX6 yX6_widen yX6_widen ∈ AW := AWm (i := 293) (by decide +kernel) (by decide +kernel)
theorem mok_X6_widen : MOK RX6 yX6_widen cX6_widen 2 (some .int) 0 := ⟨im_X6_widen, sel_X6_widen, ini_X6, cd_X6_widen, rfl, by decide +kernel, by decide +kernel, by decide +kernel⟩
theorem cd_X6_letterAround : Cond.code yX6_letterAround cX6_letterAround 4 (some .int) ∈ AW := AWm (i := 449) (by decide +kernel) (by decide +kernel)
theorem im_X6_letterAround : Cond.instanceMethod yX6_letterAround ∈ AW := AWm (i := 447) (by decide +kernel) (by decide +kernel)
theorem sel_X6_letterAround : Cond.selects RX6 yX6_letterAround yX6_letterAround ∈ AW := AWm (i := 448) (by decide +kernel) (by decide +kernel)
theorem mok_X6_letterAround : MOK RX6 yX6_letterAround cX6_letterAround 4 (some .int) 2 := ⟨im_X6_letterAround, sel_X6_letterAround, ini_X6, cd_X6_letterAround, rfl, by decide +kernel, by decide +kernel, by decide +kernel⟩
theorem cd_X7_init : Cond.code yX7_init cX7_init 1 none ∈ AW := AWm (i := 190) (by decide +kernel) (by decide +kernel)
theorem im_X7_init : Cond.instanceMethod yX7_init ∈ AW := AWm (i := 189) (by decide +kernel) (by decide +kernel)
theorem mok_X7_init : MOKi yX7_init cX7_init 1 0 := ⟨im_X7_init, ini_X7, cd_X7_init, rfl, by decide +kernel, by decide +kernel, by decide +kernel⟩
theorem cd_X7_empty : Cond.code yX7_empty cX7_empty 1 none ∈ AW := AWm (i := 495) (by decide +kernel) (by decide +kernel)
theorem im_X7_empty : Cond.instanceMethod yX7_empty ∈ AW := AWm (i := 493) (by decide +kernel) (by decide +kernel)
theorem sel_X7_empty : Cond.selects RX7 yX7_empty yX7_empty ∈ AW := AWm (i := 494) (by decide +kernel) (by decide +kernel)
theorem mok_X7_empty : MOK RX7 yX7_empty cX7_empty 1 none 0 := ⟨im_X7_empty, sel_X7_empty, ini_X7, cd_X7_empty, rfl, by decide +kernel, by decide +kernel, by decide +kernel⟩
theorem cd_X7_append : Cond.code yX7_append cX7_append 2 none ∈ AW := AWm (i := 487) (by decide +kernel) (by decide +kernel)
theorem im_X7_append : Cond.instanceMethod yX7_append ∈ AW := AWm (i := 485) (by decide +kernel) (by decide +kernel)
theorem sel_X7_append : Cond.selects RX7 yX7_append yX7_append ∈ AW := AWm (i := 486) (by decide +kernel) (by decide +kernel)
theorem mok_X7_append : MOK RX7 yX7_append cX7_append 2 none 1 := ⟨im_X7_append, sel_X7_append, ini_X7, cd_X7_append, rfl, by decide +kernel, by decide +kernel, by decide +kernel⟩
theorem cd_X7_copyFrom : Cond.code yX7_copyFrom cX7_copyFrom 3 none ∈ AW := AWm (i := 503) (by decide +kernel) (by decide +kernel)
theorem im_X7_copyFrom : Cond.instanceMethod yX7_copyFrom ∈ AW := AWm (i := 501) (by decide +kernel) (by decide +kernel)
theorem sel_X7_copyFrom : Cond.selects RX7 yX7_copyFrom yX7_copyFrom ∈ AW := AWm (i := 502) (by decide +kernel) (by decide +kernel)
theorem mok_X7_copyFrom : MOK RX7 yX7_copyFrom cX7_copyFrom 3 none 1 := ⟨im_X7_copyFrom, sel_X7_copyFrom, ini_X7, cd_X7_copyFrom, rfl, by decide +kernel, by decide +kernel, by decide +kernel⟩
theorem cd_X7_copyTo : Cond.code yX7_copyTo cX7_copyTo 3 none ∈ AW := AWm (i := 522) (by decide +kernel) (by decide +kernel)
theorem im_X7_copyTo : Cond.instanceMethod yX7_copyTo ∈ AW := AWm (i := 520) (by decide +kernel) (by decide +kernel)
theorem sel_X7_copyTo : Cond.selects RX7 yX7_copyTo yX7_copyTo ∈ AW := AWm (i := 521) (by decide +kernel) (by decide +kernel)
theorem mok_X7_copyTo : MOK RX7 yX7_copyTo cX7_copyTo 3 none 1 := ⟨im_X7_copyTo, sel_X7_copyTo, ini_X7, cd_X7_copyTo, rfl, by decide +kernel, by decide +kernel, by decide +kernel⟩
theorem cd_X7_firstStrange : Cond.code yX7_firstStrange cX7_firstStrange 2 (some .int) ∈ AW := AWm (i := 518) (by decide +kernel) (by decide +kernel)
theorem im_X7_firstStrange : Cond.instanceMethod yX7_firstStrange ∈ AW := AWm (i := 516) (by decide +kernel) (by decide +kernel)
theorem sel_X7_firstStrange : Cond.selects RX7 yX7_firstStrange yX7_firstStrange ∈ AW := AWm (i := 517) (by decide +kernel) (by decide +kernel)
theorem mok_X7_firstStrange : MOK RX7 yX7_firstStrange cX7_firstStrange 2 (some .int) 0 := ⟨im_X7_firstStrange, sel_X7_firstStrange, ini_X7, cd_X7_firstStrange, rfl, by decide +kernel, by decide +kernel, by decide +kernel⟩
theorem cd_X8_init : Cond.code yX8_init cX8_init 1 none ∈ AW := AWm (i := 16) (by decide +kernel) (by decide +kernel)
theorem im_X8_init : Cond.instanceMethod yX8_init ∈ AW := AWm (i := 15) (by decide +kernel) (by decide +kernel)
theorem mok_X8_init : MOKi yX8_init cX8_init 1 0 := ⟨im_X8_init, ini_X8, cd_X8_init, rfl, by decide +kernel, by decide +kernel, by decide +kernel⟩
theorem cd_X8_put : Cond.code yX8_put cX8_put 2 (some .int) ∈ AW := AWm (i := 244) (by decide +kernel) (by decide +kernel)
theorem im_X8_put : Cond.instanceMethod yX8_put ∈ AW := AWm (i := 242) (by decide +kernel) (by decide +kernel)
theorem sel_X8_put : Cond.selects RX8 yX8_put yX8_put ∈ AW := AWm (i := 243) (by decide +kernel) (by decide +kernel)
theorem mok_X8_put : MOK RX8 yX8_put cX8_put 2 (some .int) 1 := ⟨im_X8_put, sel_X8_put, ini_X8, cd_X8_put, rfl, by decide +kernel, by decide +kernel, by decide +kernel⟩
theorem cd_X8_end : Cond.code yX8_end cX8_end 1 (some .int) ∈ AW := AWm (i := 317) (by decide +kernel) (by decide +kernel)
theorem im_X8_end : Cond.instanceMethod yX8_end ∈ AW := AWm (i := 315) (by decide +kernel) (by decide +kernel)
theorem sel_X8_end : Cond.selects RX8 yX8_end yX8_end ∈ AW := AWm (i := 316) (by decide +kernel) (by decide +kernel)
theorem mok_X8_end : MOK RX8 yX8_end cX8_end 1 (some .int) 0 := ⟨im_X8_end, sel_X8_end, ini_X8, cd_X8_end, rfl, by decide +kernel, by decide +kernel, by decide +kernel⟩
theorem cd_X8_begin : Cond.code yX8_begin cX8_begin 2 (some .int) ∈ AW := AWm (i := 325) (by decide +kernel) (by decide +kernel)
theorem im_X8_begin : Cond.instanceMethod yX8_begin ∈ AW := AWm (i := 323) (by decide +kernel) (by decide +kernel)
theorem sel_X8_begin : Cond.selects RX8 yX8_begin yX8_begin ∈ AW := AWm (i := 324) (by decide +kernel) (by decide +kernel)
theorem mok_X8_begin : MOK RX8 yX8_begin cX8_begin 2 (some .int) 0 := ⟨im_X8_begin, sel_X8_begin, ini_X8, cd_X8_begin, rfl, by decide +kernel, by decide +kernel, by decide +kernel⟩
theorem cd_X8_drop : Cond.code yX8_drop cX8_drop 2 (some .int) ∈ AW := AWm (i := 344) (by decide +kernel) (by decide +kernel)
theorem im_X8_drop : Cond.instanceMethod yX8_drop ∈ AW := AWm (i := 342) (by decide +kernel) (by decide +kernel)
theorem sel_X8_drop : Cond.selects RX8 yX8_drop yX8_drop ∈ AW := AWm (i := 343) (by decide +kernel) (by decide +kernel)
theorem mok_X8_drop : MOK RX8 yX8_drop cX8_drop 2 (some .int) 1 := ⟨im_X8_drop, sel_X8_drop, ini_X8, cd_X8_drop, rfl, by decide +kernel, by decide +kernel, by decide +kernel⟩
theorem cd_X8_mend : Cond.code yX8_mend cX8_mend 3 (some .int) ∈ AW := AWm (i := 355) (by decide +kernel) (by decide +kernel)
theorem im_X8_mend : Cond.instanceMethod yX8_mend ∈ AW := AWm (i := 353) (by decide +kernel) (by decide +kernel)
theorem sel_X8_mend : Cond.selects RX8 yX8_mend yX8_mend ∈ AW := AWm (i := 354) (by decide +kernel) (by decide +kernel)
theorem mok_X8_mend : MOK RX8 yX8_mend cX8_mend 3 (some .int) 2 := ⟨im_X8_mend, sel_X8_mend, ini_X8, cd_X8_mend, rfl, by decide +kernel, by decide +kernel, by decide +kernel⟩
theorem cd_X8_set : Cond.code yX8_set cX8_set 4 (some .int) ∈ AW := AWm (i := 363) (by decide +kernel) (by decide +kernel)
theorem im_X8_set : Cond.instanceMethod yX8_set ∈ AW := AWm (i := 361) (by decide +kernel) (by decide +kernel)
theorem sel_X8_set : Cond.selects RX8 yX8_set yX8_set ∈ AW := AWm (i := 362) (by decide +kernel) (by decide +kernel)
theorem mok_X8_set : MOK RX8 yX8_set cX8_set 4 (some .int) 2 := ⟨im_X8_set, sel_X8_set, ini_X8, cd_X8_set, rfl, by decide +kernel, by decide +kernel, by decide +kernel⟩
theorem cd_X8_letter : Cond.code yX8_letter cX8_letter 2 (some .int) ∈ AW := AWm (i := 373) (by decide +kernel) (by decide +kernel)
theorem im_X8_letter : Cond.instanceMethod yX8_letter ∈ AW := AWm (i := 371) (by decide +kernel) (by decide +kernel)
theorem sel_X8_letter : Cond.selects RX8 yX8_letter yX8_letter ∈ AW := AWm (i := 372) (by decide +kernel) (by decide +kernel)
theorem mok_X8_letter : MOK RX8 yX8_letter cX8_letter 2 (some .int) 1 := ⟨im_X8_letter, sel_X8_letter, ini_X8, cd_X8_letter, rfl, by decide +kernel, by decide +kernel, by decide +kernel⟩
theorem cd_X8_bit : Cond.code yX8_bit cX8_bit 2 (some .int) ∈ AW := AWm (i := 378) (by decide +kernel) (by decide +kernel)
theorem im_X8_bit : Cond.instanceMethod yX8_bit ∈ AW := AWm (i := 376) (by decide +kernel) (by decide +kernel)
theorem sel_X8_bit : Cond.selects RX8 yX8_bit yX8_bit ∈ AW := AWm (i := 377) (by decide +kernel) (by decide +kernel)
theorem mok_X8_bit : MOK RX8 yX8_bit cX8_bit 2 (some .int) 1 := ⟨im_X8_bit, sel_X8_bit, ini_X8, cd_X8_bit, rfl, by decide +kernel, by decide +kernel, by decide +kernel⟩
theorem cd_X8_letterOf : Cond.code yX8_letterOf cX8_letterOf 3 (some .int) ∈ AW := AWm (i := 386) (by decide +kernel) (by decide +kernel)
theorem im_X8_letterOf : Cond.instanceMethod yX8_letterOf ∈ AW := AWm (i := 384) (by decide +kernel) (by decide +kernel)
theorem sel_X8_letterOf : Cond.selects RX8 yX8_letterOf yX8_letterOf ∈ AW := AWm (i := 385) (by decide +kernel) (by decide +kernel)
theorem mok_X8_letterOf : MOK RX8 yX8_letterOf cX8_letterOf 3 (some .int) 2 := ⟨im_X8_letterOf, sel_X8_letterOf, ini_X8, cd_X8_letterOf, rfl, by decide +kernel, by decide +kernel, by decide +kernel⟩
theorem cd_X8_count : Cond.code yX8_count cX8_count 2 (some .int) ∈ AW := AWm (i := 400) (by decide +kernel) (by decide +kernel)
theorem im_X8_count : Cond.instanceMethod yX8_count ∈ AW := AWm (i := 398) (by decide +kernel) (by decide +kernel)
theorem sel_X8_count : Cond.selects RX8 yX8_count yX8_count ∈ AW := AWm (i := 399) (by decide +kernel) (by decide +kernel)
theorem mok_X8_count : MOK RX8 yX8_count cX8_count 2 (some .int) 1 := ⟨im_X8_count, sel_X8_count, ini_X8, cd_X8_count, rfl, by decide +kernel, by decide +kernel, by decide +kernel⟩
theorem cd_X8_cost : Cond.code yX8_cost cX8_cost 2 (some .int) ∈ AW := AWm (i := 413) (by decide +kernel) (by decide +kernel)
theorem im_X8_cost : Cond.instanceMethod yX8_cost ∈ AW := AWm (i := 411) (by decide +kernel) (by decide +kernel)
theorem sel_X8_cost : Cond.selects RX8 yX8_cost yX8_cost ∈ AW := AWm (i := 412) (by decide +kernel) (by decide +kernel)
theorem mok_X8_cost : MOK RX8 yX8_cost cX8_cost 2 (some .int) 1 := ⟨im_X8_cost, sel_X8_cost, ini_X8, cd_X8_cost, rfl, by decide +kernel, by decide +kernel, by decide +kernel⟩
theorem cd_X8_bitsBy : Cond.code yX8_bitsBy cX8_bitsBy 2 (some .int) ∈ AW := AWm (i := 418) (by decide +kernel) (by decide +kernel)
theorem im_X8_bitsBy : Cond.instanceMethod yX8_bitsBy ∈ AW := AWm (i := 416) (by decide +kernel) (by decide +kernel)
theorem sel_X8_bitsBy : Cond.selects RX8 yX8_bitsBy yX8_bitsBy ∈ AW := AWm (i := 417) (by decide +kernel) (by decide +kernel)
theorem mok_X8_bitsBy : MOK RX8 yX8_bitsBy cX8_bitsBy 2 (some .int) 1 := ⟨im_X8_bitsBy, sel_X8_bitsBy, ini_X8, cd_X8_bitsBy, rfl, by decide +kernel, by decide +kernel, by decide +kernel⟩
theorem cd_X8_bestPace : Cond.code yX8_bestPace cX8_bestPace 5 (some .int) ∈ AW := AWm (i := 426) (by decide +kernel) (by decide +kernel)
theorem im_X8_bestPace : Cond.instanceMethod yX8_bestPace ∈ AW := AWm (i := 424) (by decide +kernel) (by decide +kernel)
theorem sel_X8_bestPace : Cond.selects RX8 yX8_bestPace yX8_bestPace ∈ AW := AWm (i := 425) (by decide +kernel) (by decide +kernel)
theorem mok_X8_bestPace : MOK RX8 yX8_bestPace cX8_bestPace 5 (some .int) 0 := ⟨im_X8_bestPace, sel_X8_bestPace, ini_X8, cd_X8_bestPace, rfl, by decide +kernel, by decide +kernel, by decide +kernel⟩
theorem cd_X8_readBack : Cond.code yX8_readBack cX8_readBack 2 (some .int) ∈ AW := AWm (i := 430) (by decide +kernel) (by decide +kernel)
theorem im_X8_readBack : Cond.instanceMethod yX8_readBack ∈ AW := AWm (i := 428) (by decide +kernel) (by decide +kernel)
theorem sel_X8_readBack : Cond.selects RX8 yX8_readBack yX8_readBack ∈ AW := AWm (i := 429) (by decide +kernel) (by decide +kernel)
theorem mok_X8_readBack : MOK RX8 yX8_readBack cX8_readBack 2 (some .int) 1 := ⟨im_X8_readBack, sel_X8_readBack, ini_X8, cd_X8_readBack, rfl, by decide +kernel, by decide +kernel, by decide +kernel⟩
theorem cd_X8_undo : Cond.code yX8_undo cX8_undo 1 (some .int) ∈ AW := AWm (i := 475) (by decide +kernel) (by decide +kernel)
theorem im_X8_undo : Cond.instanceMethod yX8_undo ∈ AW := AWm (i := 473) (by decide +kernel) (by decide +kernel)
theorem sel_X8_undo : Cond.selects RX8 yX8_undo yX8_undo ∈ AW := AWm (i := 474) (by decide +kernel) (by decide +kernel)
theorem mok_X8_undo : MOK RX8 yX8_undo cX8_undo 1 (some .int) 0 := ⟨im_X8_undo, sel_X8_undo, ini_X8, cd_X8_undo, rfl, by decide +kernel, by decide +kernel, by decide +kernel⟩
theorem cd_X8_type : Cond.code yX8_type cX8_type 2 (some .int) ∈ AW := AWm (i := 483) (by decide +kernel) (by decide +kernel)
theorem im_X8_type : Cond.instanceMethod yX8_type ∈ AW := AWm (i := 481) (by decide +kernel) (by decide +kernel)
theorem sel_X8_type : Cond.selects RX8 yX8_type yX8_type ∈ AW := AWm (i := 482) (by decide +kernel) (by decide +kernel)
theorem mok_X8_type : MOK RX8 yX8_type cX8_type 2 (some .int) 1 := ⟨im_X8_type, sel_X8_type, ini_X8, cd_X8_type, rfl, by decide +kernel, by decide +kernel, by decide +kernel⟩
theorem cd_X8_clearText : Cond.code yX8_clearText cX8_clearText 2 (some .int) ∈ AW := AWm (i := 491) (by decide +kernel) (by decide +kernel)
theorem im_X8_clearText : Cond.instanceMethod yX8_clearText ∈ AW := AWm (i := 489) (by decide +kernel) (by decide +kernel)
theorem sel_X8_clearText : Cond.selects RX8 yX8_clearText yX8_clearText ∈ AW := AWm (i := 490) (by decide +kernel) (by decide +kernel)
theorem mok_X8_clearText : MOK RX8 yX8_clearText cX8_clearText 2 (some .int) 0 := ⟨im_X8_clearText, sel_X8_clearText, ini_X8, cd_X8_clearText, rfl, by decide +kernel, by decide +kernel, by decide +kernel⟩
theorem cd_X8_write : Cond.code yX8_write cX8_write 1 (some .int) ∈ AW := AWm (i := 499) (by decide +kernel) (by decide +kernel)
theorem im_X8_write : Cond.instanceMethod yX8_write ∈ AW := AWm (i := 497) (by decide +kernel) (by decide +kernel)
theorem sel_X8_write : Cond.selects RX8 yX8_write yX8_write ∈ AW := AWm (i := 498) (by decide +kernel) (by decide +kernel)
theorem mok_X8_write : MOK RX8 yX8_write cX8_write 1 (some .int) 0 := ⟨im_X8_write, sel_X8_write, ini_X8, cd_X8_write, rfl, by decide +kernel, by decide +kernel, by decide +kernel⟩
theorem cd_X8_fault : Cond.code yX8_fault cX8_fault 3 (some .int) ∈ AW := AWm (i := 510) (by decide +kernel) (by decide +kernel)
theorem im_X8_fault : Cond.instanceMethod yX8_fault ∈ AW := AWm (i := 508) (by decide +kernel) (by decide +kernel)
theorem sel_X8_fault : Cond.selects RX8 yX8_fault yX8_fault ∈ AW := AWm (i := 509) (by decide +kernel) (by decide +kernel)
theorem mok_X8_fault : MOK RX8 yX8_fault cX8_fault 3 (some .int) 1 := ⟨im_X8_fault, sel_X8_fault, ini_X8, cd_X8_fault, rfl, by decide +kernel, by decide +kernel, by decide +kernel⟩
theorem cd_X8_told : Cond.code yX8_told cX8_told 2 (some .int) ∈ AW := AWm (i := 538) (by decide +kernel) (by decide +kernel)
theorem im_X8_told : Cond.instanceMethod yX8_told ∈ AW := AWm (i := 536) (by decide +kernel) (by decide +kernel)
theorem sel_X8_told : Cond.selects RX8 yX8_told yX8_told ∈ AW := AWm (i := 537) (by decide +kernel) (by decide +kernel)
theorem mok_X8_told : MOK RX8 yX8_told cX8_told 2 (some .int) 1 := ⟨im_X8_told, sel_X8_told, ini_X8, cd_X8_told, rfl, by decide +kernel, by decide +kernel, by decide +kernel⟩
theorem cd_X8_isLetter : Cond.code yX8_isLetter cX8_isLetter 1 (some .boolean) ∈ AW := AWm (i := 247) (by decide +kernel) (by decide +kernel)
theorem stt_X8_isLetter : Cond.static yX8_isLetter ∈ AW := AWm (i := 246) (by decide +kernel) (by decide +kernel)
theorem mok_X8_isLetter : MOKs yX8_isLetter cX8_isLetter 1 (some .boolean) 1 := ⟨stt_X8_isLetter, ini_X8, cd_X8_isLetter, by decide +kernel, by decide +kernel, by decide +kernel⟩
theorem cd_X8_isPace : Cond.code yX8_isPace cX8_isPace 1 (some .boolean) ∈ AW := AWm (i := 369) (by decide +kernel) (by decide +kernel)
theorem stt_X8_isPace : Cond.static yX8_isPace ∈ AW := AWm (i := 368) (by decide +kernel) (by decide +kernel)
theorem mok_X8_isPace : MOKs yX8_isPace cX8_isPace 1 (some .boolean) 1 := ⟨stt_X8_isPace, ini_X8, cd_X8_isPace, by decide +kernel, by decide +kernel, by decide +kernel⟩
theorem cd_X8_isSetting : Cond.code yX8_isSetting cX8_isSetting 2 (some .boolean) ∈ AW := AWm (i := 366) (by decide +kernel) (by decide +kernel)
theorem stt_X8_isSetting : Cond.static yX8_isSetting ∈ AW := AWm (i := 365) (by decide +kernel) (by decide +kernel)
theorem mok_X8_isSetting : MOKs yX8_isSetting cX8_isSetting 2 (some .boolean) 2 := ⟨stt_X8_isSetting, ini_X8, cd_X8_isSetting, by decide +kernel, by decide +kernel, by decide +kernel⟩
theorem cd_X8_writeAnew : Cond.code yX8_writeAnew cX8_writeAnew 1 none ∈ AW := AWm (i := 333) (by decide +kernel) (by decide +kernel)
theorem im_X8_writeAnew : Cond.instanceMethod yX8_writeAnew ∈ AW := AWm (i := 332) (by decide +kernel) (by decide +kernel)
theorem sel_X8_writeAnew : Cond.selects RX8 yX8_writeAnew yX8_writeAnew ∈ AW := AWs (i := 4) (q := (yX8_writeAnew, 7)) (by decide +kernel)
theorem mok_X8_writeAnew : MOK RX8 yX8_writeAnew cX8_writeAnew 1 none 0 := ⟨im_X8_writeAnew, sel_X8_writeAnew, ini_X8, cd_X8_writeAnew, rfl, by decide +kernel, by decide +kernel, by decide +kernel⟩
theorem cd_X8_bitsMoreWith : Cond.code yX8_bitsMoreWith cX8_bitsMoreWith 3 (some .int) ∈ AW := AWm (i := 396) (by decide +kernel) (by decide +kernel)
theorem im_X8_bitsMoreWith : Cond.instanceMethod yX8_bitsMoreWith ∈ AW := AWm (i := 395) (by decide +kernel) (by decide +kernel)
theorem sel_X8_bitsMoreWith : Cond.selects RX8 yX8_bitsMoreWith yX8_bitsMoreWith ∈ AW := AWs (i := 5) (q := (yX8_bitsMoreWith, 7)) (by decide +kernel)
theorem mok_X8_bitsMoreWith : MOK RX8 yX8_bitsMoreWith cX8_bitsMoreWith 3 (some .int) 1 := ⟨im_X8_bitsMoreWith, sel_X8_bitsMoreWith, ini_X8, cd_X8_bitsMoreWith, rfl, by decide +kernel, by decide +kernel, by decide +kernel⟩
theorem cd_X8_bitsEnded : Cond.code yX8_bitsEnded cX8_bitsEnded 2 (some .int) ∈ AW := AWm (i := 422) (by decide +kernel) (by decide +kernel)
theorem im_X8_bitsEnded : Cond.instanceMethod yX8_bitsEnded ∈ AW := AWm (i := 421) (by decide +kernel) (by decide +kernel)
theorem sel_X8_bitsEnded : Cond.selects RX8 yX8_bitsEnded yX8_bitsEnded ∈ AW := AWs (i := 6) (q := (yX8_bitsEnded, 7)) (by decide +kernel)
theorem mok_X8_bitsEnded : MOK RX8 yX8_bitsEnded cX8_bitsEnded 2 (some .int) 1 := ⟨im_X8_bitsEnded, sel_X8_bitsEnded, ini_X8, cd_X8_bitsEnded, rfl, by decide +kernel, by decide +kernel, by decide +kernel⟩
theorem cd_X8_alikeFromFirst : Cond.code yX8_alikeFromFirst cX8_alikeFromFirst 3 (some .int) ∈ AW := AWm (i := 464) (by decide +kernel) (by decide +kernel)
theorem im_X8_alikeFromFirst : Cond.instanceMethod yX8_alikeFromFirst ∈ AW := AWm (i := 463) (by decide +kernel) (by decide +kernel)
theorem sel_X8_alikeFromFirst : Cond.selects RX8 yX8_alikeFromFirst yX8_alikeFromFirst ∈ AW := AWs (i := 10) (q := (yX8_alikeFromFirst, 7)) (by decide +kernel)
theorem mok_X8_alikeFromFirst : MOK RX8 yX8_alikeFromFirst cX8_alikeFromFirst 3 (some .int) 0 := ⟨im_X8_alikeFromFirst, sel_X8_alikeFromFirst, ini_X8, cd_X8_alikeFromFirst, rfl, by decide +kernel, by decide +kernel, by decide +kernel⟩
theorem cd_X8_faultReason : Cond.code yX8_faultReason cX8_faultReason 1 (some .int) ∈ AW := AWm (i := 514) (by decide +kernel) (by decide +kernel)
theorem im_X8_faultReason : Cond.instanceMethod yX8_faultReason ∈ AW := AWm (i := 513) (by decide +kernel) (by decide +kernel)
theorem sel_X8_faultReason : Cond.selects RX8 yX8_faultReason yX8_faultReason ∈ AW := AWs (i := 11) (q := (yX8_faultReason, 7)) (by decide +kernel)
theorem mok_X8_faultReason : MOK RX8 yX8_faultReason cX8_faultReason 1 (some .int) 0 := ⟨im_X8_faultReason, sel_X8_faultReason, ini_X8, cd_X8_faultReason, rfl, by decide +kernel, by decide +kernel, by decide +kernel⟩
theorem cd_X8_faultPlace : Cond.code yX8_faultPlace cX8_faultPlace 2 (some .int) ∈ AW := AWm (i := 534) (by decide +kernel) (by decide +kernel)
theorem im_X8_faultPlace : Cond.instanceMethod yX8_faultPlace ∈ AW := AWm (i := 533) (by decide +kernel) (by decide +kernel)
theorem sel_X8_faultPlace : Cond.selects RX8 yX8_faultPlace yX8_faultPlace ∈ AW := AWs (i := 12) (q := (yX8_faultPlace, 7)) (by decide +kernel)
theorem mok_X8_faultPlace : MOK RX8 yX8_faultPlace cX8_faultPlace 2 (some .int) 1 := ⟨im_X8_faultPlace, sel_X8_faultPlace, ini_X8, cd_X8_faultPlace, rfl, by decide +kernel, by decide +kernel, by decide +kernel⟩
theorem cd_X9_init : Cond.code yX9_init cX9_init 1 none ∈ AW := AWm (i := 543) (by decide +kernel) (by decide +kernel)
theorem im_X9_init : Cond.instanceMethod yX9_init ∈ AW := AWm (i := 542) (by decide +kernel) (by decide +kernel)
theorem mok_X9_init : MOKi yX9_init cX9_init 1 0 := ⟨im_X9_init, ini_X9, cd_X9_init, rfl, by decide +kernel, by decide +kernel, by decide +kernel⟩
theorem cd_X9_in : Cond.code yX9_in cX9_in 6 (some .boolean) ∈ AW := AWm (i := 616) (by decide +kernel) (by decide +kernel)
theorem stt_X9_in : Cond.static yX9_in ∈ AW := AWm (i := 615) (by decide +kernel) (by decide +kernel)
theorem mok_X9_in : MOKs yX9_in cX9_in 6 (some .boolean) 3 := ⟨stt_X9_in, ini_X9, cd_X9_in, by decide +kernel, by decide +kernel, by decide +kernel⟩
theorem cd_X9_record : Cond.code yX9_record cX9_record 2 none ∈ AW := AWm (i := 620) (by decide +kernel) (by decide +kernel)
theorem im_X9_record : Cond.instanceMethod yX9_record ∈ AW := AWm (i := 619) (by decide +kernel) (by decide +kernel)
theorem sel_X9_record : Cond.selects RX9 yX9_record yX9_record ∈ AW := AWs (i := 13) (q := (yX9_record, 21)) (by decide +kernel)
theorem mok_X9_record : MOK RX9 yX9_record cX9_record 2 none 0 := ⟨im_X9_record, sel_X9_record, ini_X9, cd_X9_record, rfl, by decide +kernel, by decide +kernel, by decide +kernel⟩
theorem cd_X9_beginsCounts : Cond.code yX9_beginsCounts cX9_beginsCounts 2 none ∈ AW := AWm (i := 636) (by decide +kernel) (by decide +kernel)
theorem im_X9_beginsCounts : Cond.instanceMethod yX9_beginsCounts ∈ AW := AWm (i := 635) (by decide +kernel) (by decide +kernel)
theorem sel_X9_beginsCounts : Cond.selects RX9 yX9_beginsCounts yX9_beginsCounts ∈ AW := AWs (i := 17) (q := (yX9_beginsCounts, 21)) (by decide +kernel)
theorem mok_X9_beginsCounts : MOK RX9 yX9_beginsCounts cX9_beginsCounts 2 none 0 := ⟨im_X9_beginsCounts, sel_X9_beginsCounts, ini_X9, cd_X9_beginsCounts, rfl, by decide +kernel, by decide +kernel, by decide +kernel⟩
theorem cd_X9_learns : Cond.code yX9_learns cX9_learns 4 none ∈ AW := AWm (i := 667) (by decide +kernel) (by decide +kernel)
theorem im_X9_learns : Cond.instanceMethod yX9_learns ∈ AW := AWm (i := 666) (by decide +kernel) (by decide +kernel)
theorem sel_X9_learns : Cond.selects RX9 yX9_learns yX9_learns ∈ AW := AWs (i := 24) (q := (yX9_learns, 21)) (by decide +kernel)
theorem mok_X9_learns : MOK RX9 yX9_learns cX9_learns 4 none 2 := ⟨im_X9_learns, sel_X9_learns, ini_X9, cd_X9_learns, rfl, by decide +kernel, by decide +kernel, by decide +kernel⟩
theorem cd_X9_below : Cond.code yX9_below cX9_below 4 (some .int) ∈ AW := AWm (i := 649) (by decide +kernel) (by decide +kernel)
theorem im_X9_below : Cond.instanceMethod yX9_below ∈ AW := AWm (i := 648) (by decide +kernel) (by decide +kernel)
theorem sel_X9_below : Cond.selects RX9 yX9_below yX9_below ∈ AW := AWs (i := 20) (q := (yX9_below, 21)) (by decide +kernel)
theorem mok_X9_below : MOK RX9 yX9_below cX9_below 4 (some .int) 1 := ⟨im_X9_below, sel_X9_below, ini_X9, cd_X9_below, rfl, by decide +kernel, by decide +kernel, by decide +kernel⟩
theorem cd_X9_writes : Cond.code yX9_writes cX9_writes 2 none ∈ AW := AWm (i := 659) (by decide +kernel) (by decide +kernel)
theorem im_X9_writes : Cond.instanceMethod yX9_writes ∈ AW := AWm (i := 658) (by decide +kernel) (by decide +kernel)
theorem sel_X9_writes : Cond.selects RX9 yX9_writes yX9_writes ∈ AW := AWs (i := 22) (q := (yX9_writes, 21)) (by decide +kernel)
theorem mok_X9_writes : MOK RX9 yX9_writes cX9_writes 2 none 1 := ⟨im_X9_writes, sel_X9_writes, ini_X9, cd_X9_writes, rfl, by decide +kernel, by decide +kernel, by decide +kernel⟩
theorem cd_X9_cuts : Cond.code yX9_cuts cX9_cuts 4 none ∈ AW := AWm (i := 645) (by decide +kernel) (by decide +kernel)
theorem im_X9_cuts : Cond.instanceMethod yX9_cuts ∈ AW := AWm (i := 644) (by decide +kernel) (by decide +kernel)
theorem sel_X9_cuts : Cond.selects RX9 yX9_cuts yX9_cuts ∈ AW := AWs (i := 19) (q := (yX9_cuts, 21)) (by decide +kernel)
theorem mok_X9_cuts : MOK RX9 yX9_cuts cX9_cuts 4 none 1 := ⟨im_X9_cuts, sel_X9_cuts, ini_X9, cd_X9_cuts, rfl, by decide +kernel, by decide +kernel, by decide +kernel⟩
theorem cd_X9_takenOff : Cond.code yX9_takenOff cX9_takenOff 1 (some .int) ∈ AW := AWm (i := 653) (by decide +kernel) (by decide +kernel)
theorem im_X9_takenOff : Cond.instanceMethod yX9_takenOff ∈ AW := AWm (i := 652) (by decide +kernel) (by decide +kernel)
theorem sel_X9_takenOff : Cond.selects RX9 yX9_takenOff yX9_takenOff ∈ AW := AWs (i := 21) (q := (yX9_takenOff, 21)) (by decide +kernel)
theorem mok_X9_takenOff : MOK RX9 yX9_takenOff cX9_takenOff 1 (some .int) 0 := ⟨im_X9_takenOff, sel_X9_takenOff, ini_X9, cd_X9_takenOff, rfl, by decide +kernel, by decide +kernel, by decide +kernel⟩
theorem cd_X9_doubles : Cond.code yX9_doubles cX9_doubles 2 none ∈ AW := AWm (i := 663) (by decide +kernel) (by decide +kernel)
theorem im_X9_doubles : Cond.instanceMethod yX9_doubles ∈ AW := AWm (i := 662) (by decide +kernel) (by decide +kernel)
theorem sel_X9_doubles : Cond.selects RX9 yX9_doubles yX9_doubles ∈ AW := AWs (i := 23) (q := (yX9_doubles, 21)) (by decide +kernel)
theorem mok_X9_doubles : MOK RX9 yX9_doubles cX9_doubles 2 none 1 := ⟨im_X9_doubles, sel_X9_doubles, ini_X9, cd_X9_doubles, rfl, by decide +kernel, by decide +kernel, by decide +kernel⟩
theorem cd_X9_narrows : Cond.code yX9_narrows cX9_narrows 3 none ∈ AW := AWm (i := 641) (by decide +kernel) (by decide +kernel)
theorem im_X9_narrows : Cond.instanceMethod yX9_narrows ∈ AW := AWm (i := 640) (by decide +kernel) (by decide +kernel)
theorem sel_X9_narrows : Cond.selects RX9 yX9_narrows yX9_narrows ∈ AW := AWs (i := 18) (q := (yX9_narrows, 21)) (by decide +kernel)
theorem mok_X9_narrows : MOK RX9 yX9_narrows cX9_narrows 3 none 1 := ⟨im_X9_narrows, sel_X9_narrows, ini_X9, cd_X9_narrows, rfl, by decide +kernel, by decide +kernel, by decide +kernel⟩
theorem cd_X9_beginsSpan : Cond.code yX9_beginsSpan cX9_beginsSpan 1 none ∈ AW := AWm (i := 632) (by decide +kernel) (by decide +kernel)
theorem im_X9_beginsSpan : Cond.instanceMethod yX9_beginsSpan ∈ AW := AWm (i := 631) (by decide +kernel) (by decide +kernel)
theorem sel_X9_beginsSpan : Cond.selects RX9 yX9_beginsSpan yX9_beginsSpan ∈ AW := AWs (i := 16) (q := (yX9_beginsSpan, 21)) (by decide +kernel)
theorem mok_X9_beginsSpan : MOK RX9 yX9_beginsSpan cX9_beginsSpan 1 none 0 := ⟨im_X9_beginsSpan, sel_X9_beginsSpan, ini_X9, cd_X9_beginsSpan, rfl, by decide +kernel, by decide +kernel, by decide +kernel⟩
theorem cd_X9_ends : Cond.code yX9_ends cX9_ends 1 none ∈ AW := AWm (i := 671) (by decide +kernel) (by decide +kernel)
theorem im_X9_ends : Cond.instanceMethod yX9_ends ∈ AW := AWm (i := 670) (by decide +kernel) (by decide +kernel)
theorem sel_X9_ends : Cond.selects RX9 yX9_ends yX9_ends ∈ AW := AWs (i := 25) (q := (yX9_ends, 21)) (by decide +kernel)
theorem mok_X9_ends : MOK RX9 yX9_ends cX9_ends 1 none 0 := ⟨im_X9_ends, sel_X9_ends, ini_X9, cd_X9_ends, rfl, by decide +kernel, by decide +kernel, by decide +kernel⟩
theorem cd_X9_putsAll : Cond.code yX9_putsAll cX9_putsAll 5 none ∈ AW := AWm (i := 628) (by decide +kernel) (by decide +kernel)
theorem im_X9_putsAll : Cond.instanceMethod yX9_putsAll ∈ AW := AWm (i := 627) (by decide +kernel) (by decide +kernel)
theorem sel_X9_putsAll : Cond.selects RX9 yX9_putsAll yX9_putsAll ∈ AW := AWs (i := 15) (q := (yX9_putsAll, 21)) (by decide +kernel)
theorem mok_X9_putsAll : MOK RX9 yX9_putsAll cX9_putsAll 5 none 2 := ⟨im_X9_putsAll, sel_X9_putsAll, ini_X9, cd_X9_putsAll, rfl, by decide +kernel, by decide +kernel, by decide +kernel⟩
theorem cd_X9_putsNow : Cond.code yX9_putsNow cX9_putsNow 1 none ∈ AW := AWm (i := 624) (by decide +kernel) (by decide +kernel)
theorem im_X9_putsNow : Cond.instanceMethod yX9_putsNow ∈ AW := AWm (i := 623) (by decide +kernel) (by decide +kernel)
theorem sel_X9_putsNow : Cond.selects RX9 yX9_putsNow yX9_putsNow ∈ AW := AWs (i := 14) (q := (yX9_putsNow, 21)) (by decide +kernel)
theorem mok_X9_putsNow : MOK RX9 yX9_putsNow cX9_putsNow 1 none 0 := ⟨im_X9_putsNow, sel_X9_putsNow, ini_X9, cd_X9_putsNow, rfl, by decide +kernel, by decide +kernel, by decide +kernel⟩
theorem cd_X9_bitsNow : Cond.code yX9_bitsNow cX9_bitsNow 1 (some .int) ∈ AW := AWm (i := 679) (by decide +kernel) (by decide +kernel)
theorem im_X9_bitsNow : Cond.instanceMethod yX9_bitsNow ∈ AW := AWm (i := 678) (by decide +kernel) (by decide +kernel)
theorem sel_X9_bitsNow : Cond.selects RX9 yX9_bitsNow yX9_bitsNow ∈ AW := AWs (i := 26) (q := (yX9_bitsNow, 21)) (by decide +kernel)
theorem mok_X9_bitsNow : MOK RX9 yX9_bitsNow cX9_bitsNow 1 (some .int) 0 := ⟨im_X9_bitsNow, sel_X9_bitsNow, ini_X9, cd_X9_bitsNow, rfl, by decide +kernel, by decide +kernel, by decide +kernel⟩
theorem cd_X9_put : Cond.code yX9_put cX9_put 2 (some .int) ∈ AW := AWm (i := 612) (by decide +kernel) (by decide +kernel)
theorem im_X9_put : Cond.instanceMethod yX9_put ∈ AW := AWm (i := 610) (by decide +kernel) (by decide +kernel)
theorem sel_X9_put : Cond.selects RX9 yX9_put yX9_put ∈ AW := AWm (i := 611) (by decide +kernel) (by decide +kernel)
theorem mok_X9_put : MOK RX9 yX9_put cX9_put 2 (some .int) 1 := ⟨im_X9_put, sel_X9_put, ini_X9, cd_X9_put, rfl, by decide +kernel, by decide +kernel, by decide +kernel⟩
theorem cd_X9_end : Cond.code yX9_end cX9_end 1 (some .int) ∈ AW := AWm (i := 675) (by decide +kernel) (by decide +kernel)
theorem im_X9_end : Cond.instanceMethod yX9_end ∈ AW := AWm (i := 673) (by decide +kernel) (by decide +kernel)
theorem sel_X9_end : Cond.selects RX9 yX9_end yX9_end ∈ AW := AWm (i := 674) (by decide +kernel) (by decide +kernel)
theorem mok_X9_end : MOK RX9 yX9_end cX9_end 1 (some .int) 0 := ⟨im_X9_end, sel_X9_end, ini_X9, cd_X9_end, rfl, by decide +kernel, by decide +kernel, by decide +kernel⟩
theorem cd_X9_begins : Cond.code yX9_begins cX9_begins 2 (some .int) ∈ AW := AWm (i := 687) (by decide +kernel) (by decide +kernel)
theorem im_X9_begins : Cond.instanceMethod yX9_begins ∈ AW := AWm (i := 686) (by decide +kernel) (by decide +kernel)
theorem sel_X9_begins : Cond.selects RX9 yX9_begins yX9_begins ∈ AW := AWs (i := 27) (q := (yX9_begins, 21)) (by decide +kernel)
theorem mok_X9_begins : MOK RX9 yX9_begins cX9_begins 2 (some .int) 0 := ⟨im_X9_begins, sel_X9_begins, ini_X9, cd_X9_begins, rfl, by decide +kernel, by decide +kernel, by decide +kernel⟩
theorem cd_X9_begin : Cond.code yX9_begin cX9_begin 1 (some .int) ∈ AW := AWm (i := 683) (by decide +kernel) (by decide +kernel)
theorem im_X9_begin : Cond.instanceMethod yX9_begin ∈ AW := AWm (i := 681) (by decide +kernel) (by decide +kernel)
theorem sel_X9_begin : Cond.selects RX9 yX9_begin yX9_begin ∈ AW := AWm (i := 682) (by decide +kernel) (by decide +kernel)
theorem mok_X9_begin : MOK RX9 yX9_begin cX9_begin 1 (some .int) 0 := ⟨im_X9_begin, sel_X9_begin, ini_X9, cd_X9_begin, rfl, by decide +kernel, by decide +kernel, by decide +kernel⟩
theorem cd_X9_drop : Cond.code yX9_drop cX9_drop 2 (some .int) ∈ AW := AWm (i := 691) (by decide +kernel) (by decide +kernel)
theorem im_X9_drop : Cond.instanceMethod yX9_drop ∈ AW := AWm (i := 689) (by decide +kernel) (by decide +kernel)
theorem sel_X9_drop : Cond.selects RX9 yX9_drop yX9_drop ∈ AW := AWm (i := 690) (by decide +kernel) (by decide +kernel)
theorem mok_X9_drop : MOK RX9 yX9_drop cX9_drop 2 (some .int) 1 := ⟨im_X9_drop, sel_X9_drop, ini_X9, cd_X9_drop, rfl, by decide +kernel, by decide +kernel, by decide +kernel⟩
theorem cd_X9_mend : Cond.code yX9_mend cX9_mend 3 (some .int) ∈ AW := AWm (i := 696) (by decide +kernel) (by decide +kernel)
theorem im_X9_mend : Cond.instanceMethod yX9_mend ∈ AW := AWm (i := 694) (by decide +kernel) (by decide +kernel)
theorem sel_X9_mend : Cond.selects RX9 yX9_mend yX9_mend ∈ AW := AWm (i := 695) (by decide +kernel) (by decide +kernel)
theorem mok_X9_mend : MOK RX9 yX9_mend cX9_mend 3 (some .int) 2 := ⟨im_X9_mend, sel_X9_mend, ini_X9, cd_X9_mend, rfl, by decide +kernel, by decide +kernel, by decide +kernel⟩
theorem cd_X9_set : Cond.code yX9_set cX9_set 6 (some .int) ∈ AW := AWm (i := 700) (by decide +kernel) (by decide +kernel)
theorem im_X9_set : Cond.instanceMethod yX9_set ∈ AW := AWm (i := 698) (by decide +kernel) (by decide +kernel)
theorem sel_X9_set : Cond.selects RX9 yX9_set yX9_set ∈ AW := AWm (i := 699) (by decide +kernel) (by decide +kernel)
theorem mok_X9_set : MOK RX9 yX9_set cX9_set 6 (some .int) 2 := ⟨im_X9_set, sel_X9_set, ini_X9, cd_X9_set, rfl, by decide +kernel, by decide +kernel, by decide +kernel⟩
theorem cd_X9_letter : Cond.code yX9_letter cX9_letter 2 (some .int) ∈ AW := AWm (i := 707) (by decide +kernel) (by decide +kernel)
theorem im_X9_letter : Cond.instanceMethod yX9_letter ∈ AW := AWm (i := 705) (by decide +kernel) (by decide +kernel)
theorem sel_X9_letter : Cond.selects RX9 yX9_letter yX9_letter ∈ AW := AWm (i := 706) (by decide +kernel) (by decide +kernel)
theorem mok_X9_letter : MOK RX9 yX9_letter cX9_letter 2 (some .int) 1 := ⟨im_X9_letter, sel_X9_letter, ini_X9, cd_X9_letter, rfl, by decide +kernel, by decide +kernel, by decide +kernel⟩
theorem cd_X9_bit : Cond.code yX9_bit cX9_bit 2 (some .int) ∈ AW := AWm (i := 711) (by decide +kernel) (by decide +kernel)
theorem im_X9_bit : Cond.instanceMethod yX9_bit ∈ AW := AWm (i := 709) (by decide +kernel) (by decide +kernel)
theorem sel_X9_bit : Cond.selects RX9 yX9_bit yX9_bit ∈ AW := AWm (i := 710) (by decide +kernel) (by decide +kernel)
theorem mok_X9_bit : MOK RX9 yX9_bit cX9_bit 2 (some .int) 1 := ⟨im_X9_bit, sel_X9_bit, ini_X9, cd_X9_bit, rfl, by decide +kernel, by decide +kernel, by decide +kernel⟩
theorem cd_X9_stands : Cond.code yX9_stands cX9_stands 4 (some .int) ∈ AW := AWm (i := 721) (by decide +kernel) (by decide +kernel)
theorem im_X9_stands : Cond.instanceMethod yX9_stands ∈ AW := AWm (i := 720) (by decide +kernel) (by decide +kernel)
theorem sel_X9_stands : Cond.selects RX9 yX9_stands yX9_stands ∈ AW := AWs (i := 28) (q := (yX9_stands, 21)) (by decide +kernel)
theorem mok_X9_stands : MOK RX9 yX9_stands cX9_stands 4 (some .int) 1 := ⟨im_X9_stands, sel_X9_stands, ini_X9, cd_X9_stands, rfl, by decide +kernel, by decide +kernel, by decide +kernel⟩
theorem cd_X9_wouldWrite : Cond.code yX9_wouldWrite cX9_wouldWrite 3 (some .int) ∈ AW := AWm (i := 725) (by decide +kernel) (by decide +kernel)
theorem im_X9_wouldWrite : Cond.instanceMethod yX9_wouldWrite ∈ AW := AWm (i := 724) (by decide +kernel) (by decide +kernel)
theorem sel_X9_wouldWrite : Cond.selects RX9 yX9_wouldWrite yX9_wouldWrite ∈ AW := AWs (i := 29) (q := (yX9_wouldWrite, 21)) (by decide +kernel)
theorem mok_X9_wouldWrite : MOK RX9 yX9_wouldWrite cX9_wouldWrite 3 (some .int) 1 := ⟨im_X9_wouldWrite, sel_X9_wouldWrite, ini_X9, cd_X9_wouldWrite, rfl, by decide +kernel, by decide +kernel, by decide +kernel⟩
theorem cd_X9_letterOf : Cond.code yX9_letterOf cX9_letterOf 3 (some .int) ∈ AW := AWm (i := 715) (by decide +kernel) (by decide +kernel)
theorem im_X9_letterOf : Cond.instanceMethod yX9_letterOf ∈ AW := AWm (i := 713) (by decide +kernel) (by decide +kernel)
theorem sel_X9_letterOf : Cond.selects RX9 yX9_letterOf yX9_letterOf ∈ AW := AWm (i := 714) (by decide +kernel) (by decide +kernel)
theorem mok_X9_letterOf : MOK RX9 yX9_letterOf cX9_letterOf 3 (some .int) 2 := ⟨im_X9_letterOf, sel_X9_letterOf, ini_X9, cd_X9_letterOf, rfl, by decide +kernel, by decide +kernel, by decide +kernel⟩
theorem cd_X9_mostWritten : Cond.code yX9_mostWritten cX9_mostWritten 3 (some .int) ∈ AW := AWm (i := 733) (by decide +kernel) (by decide +kernel)
theorem im_X9_mostWritten : Cond.instanceMethod yX9_mostWritten ∈ AW := AWm (i := 732) (by decide +kernel) (by decide +kernel)
theorem sel_X9_mostWritten : Cond.selects RX9 yX9_mostWritten yX9_mostWritten ∈ AW := AWs (i := 30) (q := (yX9_mostWritten, 21)) (by decide +kernel)
theorem mok_X9_mostWritten : MOK RX9 yX9_mostWritten cX9_mostWritten 3 (some .int) 0 := ⟨im_X9_mostWritten, sel_X9_mostWritten, ini_X9, cd_X9_mostWritten, rfl, by decide +kernel, by decide +kernel, by decide +kernel⟩
theorem cd_X9_count : Cond.code yX9_count cX9_count 2 (some .int) ∈ AW := AWm (i := 729) (by decide +kernel) (by decide +kernel)
theorem im_X9_count : Cond.instanceMethod yX9_count ∈ AW := AWm (i := 727) (by decide +kernel) (by decide +kernel)
theorem sel_X9_count : Cond.selects RX9 yX9_count yX9_count ∈ AW := AWm (i := 728) (by decide +kernel) (by decide +kernel)
theorem mok_X9_count : MOK RX9 yX9_count cX9_count 2 (some .int) 1 := ⟨im_X9_count, sel_X9_count, ini_X9, cd_X9_count, rfl, by decide +kernel, by decide +kernel, by decide +kernel⟩
theorem cd_X9_cost : Cond.code yX9_cost cX9_cost 2 (some .int) ∈ AW := AWm (i := 737) (by decide +kernel) (by decide +kernel)
theorem im_X9_cost : Cond.instanceMethod yX9_cost ∈ AW := AWm (i := 735) (by decide +kernel) (by decide +kernel)
theorem sel_X9_cost : Cond.selects RX9 yX9_cost yX9_cost ∈ AW := AWm (i := 736) (by decide +kernel) (by decide +kernel)
theorem mok_X9_cost : MOK RX9 yX9_cost cX9_cost 2 (some .int) 1 := ⟨im_X9_cost, sel_X9_cost, ini_X9, cd_X9_cost, rfl, by decide +kernel, by decide +kernel, by decide +kernel⟩
theorem cd_X9_bitsOf : Cond.code yX9_bitsOf cX9_bitsOf 2 (some .int) ∈ AW := AWm (i := 745) (by decide +kernel) (by decide +kernel)
theorem im_X9_bitsOf : Cond.instanceMethod yX9_bitsOf ∈ AW := AWm (i := 744) (by decide +kernel) (by decide +kernel)
theorem sel_X9_bitsOf : Cond.selects RX9 yX9_bitsOf yX9_bitsOf ∈ AW := AWs (i := 31) (q := (yX9_bitsOf, 21)) (by decide +kernel)
theorem mok_X9_bitsOf : MOK RX9 yX9_bitsOf cX9_bitsOf 2 (some .int) 1 := ⟨im_X9_bitsOf, sel_X9_bitsOf, ini_X9, cd_X9_bitsOf, rfl, by decide +kernel, by decide +kernel, by decide +kernel⟩
theorem cd_X9_bitsBy : Cond.code yX9_bitsBy cX9_bitsBy 2 (some .int) ∈ AW := AWm (i := 741) (by decide +kernel) (by decide +kernel)
theorem im_X9_bitsBy : Cond.instanceMethod yX9_bitsBy ∈ AW := AWm (i := 739) (by decide +kernel) (by decide +kernel)
theorem sel_X9_bitsBy : Cond.selects RX9 yX9_bitsBy yX9_bitsBy ∈ AW := AWm (i := 740) (by decide +kernel) (by decide +kernel)
theorem mok_X9_bitsBy : MOK RX9 yX9_bitsBy cX9_bitsBy 2 (some .int) 1 := ⟨im_X9_bitsBy, sel_X9_bitsBy, ini_X9, cd_X9_bitsBy, rfl, by decide +kernel, by decide +kernel, by decide +kernel⟩
theorem cd_X9_bestPace : Cond.code yX9_bestPace cX9_bestPace 5 (some .int) ∈ AW := AWm (i := 749) (by decide +kernel) (by decide +kernel)
theorem im_X9_bestPace : Cond.instanceMethod yX9_bestPace ∈ AW := AWm (i := 747) (by decide +kernel) (by decide +kernel)
theorem sel_X9_bestPace : Cond.selects RX9 yX9_bestPace yX9_bestPace ∈ AW := AWm (i := 748) (by decide +kernel) (by decide +kernel)
theorem mok_X9_bestPace : MOK RX9 yX9_bestPace cX9_bestPace 5 (some .int) 0 := ⟨im_X9_bestPace, sel_X9_bestPace, ini_X9, cd_X9_bestPace, rfl, by decide +kernel, by decide +kernel, by decide +kernel⟩
theorem cd_X9_takes : Cond.code yX9_takes cX9_takes 1 none ∈ AW := AWm (i := 762) (by decide +kernel) (by decide +kernel)
theorem im_X9_takes : Cond.instanceMethod yX9_takes ∈ AW := AWm (i := 761) (by decide +kernel) (by decide +kernel)
theorem sel_X9_takes : Cond.selects RX9 yX9_takes yX9_takes ∈ AW := AWs (i := 33) (q := (yX9_takes, 21)) (by decide +kernel)
theorem mok_X9_takes : MOK RX9 yX9_takes cX9_takes 1 none 0 := ⟨im_X9_takes, sel_X9_takes, ini_X9, cd_X9_takes, rfl, by decide +kernel, by decide +kernel, by decide +kernel⟩
theorem cd_X9_letterAt : Cond.code yX9_letterAt cX9_letterAt 5 (some .int) ∈ AW := AWm (i := 766) (by decide +kernel) (by decide +kernel)
theorem im_X9_letterAt : Cond.instanceMethod yX9_letterAt ∈ AW := AWm (i := 765) (by decide +kernel) (by decide +kernel)
theorem sel_X9_letterAt : Cond.selects RX9 yX9_letterAt yX9_letterAt ∈ AW := AWs (i := 34) (q := (yX9_letterAt, 21)) (by decide +kernel)
theorem mok_X9_letterAt : MOK RX9 yX9_letterAt cX9_letterAt 5 (some .int) 0 := ⟨im_X9_letterAt, sel_X9_letterAt, ini_X9, cd_X9_letterAt, rfl, by decide +kernel, by decide +kernel, by decide +kernel⟩
theorem cd_X9_reads : Cond.code yX9_reads cX9_reads 3 (some .boolean) ∈ AW := AWm (i := 758) (by decide +kernel) (by decide +kernel)
theorem im_X9_reads : Cond.instanceMethod yX9_reads ∈ AW := AWm (i := 757) (by decide +kernel) (by decide +kernel)
theorem sel_X9_reads : Cond.selects RX9 yX9_reads yX9_reads ∈ AW := AWs (i := 32) (q := (yX9_reads, 21)) (by decide +kernel)
theorem mok_X9_reads : MOK RX9 yX9_reads cX9_reads 3 (some .boolean) 0 := ⟨im_X9_reads, sel_X9_reads, ini_X9, cd_X9_reads, rfl, by decide +kernel, by decide +kernel, by decide +kernel⟩
theorem cd_X9_readBack : Cond.code yX9_readBack cX9_readBack 4 (some .int) ∈ AW := AWm (i := 753) (by decide +kernel) (by decide +kernel)
theorem im_X9_readBack : Cond.instanceMethod yX9_readBack ∈ AW := AWm (i := 751) (by decide +kernel) (by decide +kernel)
theorem sel_X9_readBack : Cond.selects RX9 yX9_readBack yX9_readBack ∈ AW := AWm (i := 752) (by decide +kernel) (by decide +kernel)
theorem mok_X9_readBack : MOK RX9 yX9_readBack cX9_readBack 4 (some .int) 1 := ⟨im_X9_readBack, sel_X9_readBack, ini_X9, cd_X9_readBack, rfl, by decide +kernel, by decide +kernel, by decide +kernel⟩
theorem cd_X9_undo : Cond.code yX9_undo cX9_undo 2 (some .int) ∈ AW := AWm (i := 770) (by decide +kernel) (by decide +kernel)
theorem im_X9_undo : Cond.instanceMethod yX9_undo ∈ AW := AWm (i := 768) (by decide +kernel) (by decide +kernel)
theorem sel_X9_undo : Cond.selects RX9 yX9_undo yX9_undo ∈ AW := AWm (i := 769) (by decide +kernel) (by decide +kernel)
theorem mok_X9_undo : MOK RX9 yX9_undo cX9_undo 2 (some .int) 0 := ⟨im_X9_undo, sel_X9_undo, ini_X9, cd_X9_undo, rfl, by decide +kernel, by decide +kernel, by decide +kernel⟩
theorem cd_X9_type : Cond.code yX9_type cX9_type 2 (some .int) ∈ AW := AWm (i := 774) (by decide +kernel) (by decide +kernel)
theorem im_X9_type : Cond.instanceMethod yX9_type ∈ AW := AWm (i := 772) (by decide +kernel) (by decide +kernel)
theorem sel_X9_type : Cond.selects RX9 yX9_type yX9_type ∈ AW := AWm (i := 773) (by decide +kernel) (by decide +kernel)
theorem mok_X9_type : MOK RX9 yX9_type cX9_type 2 (some .int) 1 := ⟨im_X9_type, sel_X9_type, ini_X9, cd_X9_type, rfl, by decide +kernel, by decide +kernel, by decide +kernel⟩
theorem cd_X9_clearText : Cond.code yX9_clearText cX9_clearText 2 (some .int) ∈ AW := AWm (i := 779) (by decide +kernel) (by decide +kernel)
theorem im_X9_clearText : Cond.instanceMethod yX9_clearText ∈ AW := AWm (i := 777) (by decide +kernel) (by decide +kernel)
theorem sel_X9_clearText : Cond.selects RX9 yX9_clearText yX9_clearText ∈ AW := AWm (i := 778) (by decide +kernel) (by decide +kernel)
theorem mok_X9_clearText : MOK RX9 yX9_clearText cX9_clearText 2 (some .int) 0 := ⟨im_X9_clearText, sel_X9_clearText, ini_X9, cd_X9_clearText, rfl, by decide +kernel, by decide +kernel, by decide +kernel⟩
theorem cd_X9_write : Cond.code yX9_write cX9_write 2 (some .int) ∈ AW := AWm (i := 783) (by decide +kernel) (by decide +kernel)
theorem im_X9_write : Cond.instanceMethod yX9_write ∈ AW := AWm (i := 781) (by decide +kernel) (by decide +kernel)
theorem sel_X9_write : Cond.selects RX9 yX9_write yX9_write ∈ AW := AWm (i := 782) (by decide +kernel) (by decide +kernel)
theorem mok_X9_write : MOK RX9 yX9_write cX9_write 2 (some .int) 0 := ⟨im_X9_write, sel_X9_write, ini_X9, cd_X9_write, rfl, by decide +kernel, by decide +kernel, by decide +kernel⟩
theorem cd_X9_reason : Cond.code yX9_reason cX9_reason 1 (some .int) ∈ AW := AWm (i := 791) (by decide +kernel) (by decide +kernel)
theorem im_X9_reason : Cond.instanceMethod yX9_reason ∈ AW := AWm (i := 790) (by decide +kernel) (by decide +kernel)
theorem sel_X9_reason : Cond.selects RX9 yX9_reason yX9_reason ∈ AW := AWs (i := 35) (q := (yX9_reason, 21)) (by decide +kernel)
theorem mok_X9_reason : MOK RX9 yX9_reason cX9_reason 1 (some .int) 0 := ⟨im_X9_reason, sel_X9_reason, ini_X9, cd_X9_reason, rfl, by decide +kernel, by decide +kernel, by decide +kernel⟩
theorem cd_X9_fault : Cond.code yX9_fault cX9_fault 3 (some .int) ∈ AW := AWm (i := 787) (by decide +kernel) (by decide +kernel)
theorem im_X9_fault : Cond.instanceMethod yX9_fault ∈ AW := AWm (i := 785) (by decide +kernel) (by decide +kernel)
theorem sel_X9_fault : Cond.selects RX9 yX9_fault yX9_fault ∈ AW := AWm (i := 786) (by decide +kernel) (by decide +kernel)
theorem mok_X9_fault : MOK RX9 yX9_fault cX9_fault 3 (some .int) 1 := ⟨im_X9_fault, sel_X9_fault, ini_X9, cd_X9_fault, rfl, by decide +kernel, by decide +kernel, by decide +kernel⟩
theorem cd_X9_told : Cond.code yX9_told cX9_told 2 (some .int) ∈ AW := AWm (i := 797) (by decide +kernel) (by decide +kernel)
theorem im_X9_told : Cond.instanceMethod yX9_told ∈ AW := AWm (i := 795) (by decide +kernel) (by decide +kernel)
theorem sel_X9_told : Cond.selects RX9 yX9_told yX9_told ∈ AW := AWm (i := 796) (by decide +kernel) (by decide +kernel)
theorem mok_X9_told : MOK RX9 yX9_told cX9_told 2 (some .int) 1 := ⟨im_X9_told, sel_X9_told, ini_X9, cd_X9_told, rfl, by decide +kernel, by decide +kernel, by decide +kernel⟩
theorem cd_J9_max_7cf53 : Cond.code yJ9_max_7cf53 cJ9_max_7cf53 2 (some .int) ∈ AW := AWm (i := 351) (by decide +kernel) (by decide +kernel)
theorem stt_J9_max_7cf53 : Cond.static yJ9_max_7cf53 ∈ AW := AWm (i := 350) (by decide +kernel) (by decide +kernel)
theorem mok_J9_max_7cf53 : MOKs yJ9_max_7cf53 cJ9_max_7cf53 2 (some .int) 2 := ⟨stt_J9_max_7cf53, ini_J9, cd_J9_max_7cf53, by decide +kernel, by decide +kernel, by decide +kernel⟩
theorem cd_J9_min_7cf53 : Cond.code yJ9_min_7cf53 cJ9_min_7cf53 2 (some .int) ∈ AW := AWm (i := 467) (by decide +kernel) (by decide +kernel)
theorem stt_J9_min_7cf53 : Cond.static yJ9_min_7cf53 ∈ AW := AWm (i := 466) (by decide +kernel) (by decide +kernel)
theorem mok_J9_min_7cf53 : MOKs yJ9_min_7cf53 cJ9_min_7cf53 2 (some .int) 2 := ⟨stt_J9_min_7cf53, ini_J9, cd_J9_min_7cf53, by decide +kernel, by decide +kernel, by decide +kernel⟩
theorem im_obj : Cond.instanceMethod objectInit ∈ AW := AWm (i := 18) (by decide +kernel) (by decide +kernel)
theorem cd_obj : Cond.code objectInit ⟨#[0xb1]⟩ 1 none ∈ AW := AWm (i := 19) (by decide +kernel) (by decide +kernel)
theorem stt_max : Cond.static Lib.Math.max.name ∈ AW := AWm (i := 350) (by decide +kernel) (by decide +kernel)
theorem cd_max : Cond.code Lib.Math.max.name Lib.Math.max.code 2 (some .int) ∈ AW := AWm (i := 351) (by decide +kernel) (by decide +kernel)
theorem stt_min : Cond.static Lib.Math.min.name ∈ AW := AWm (i := 466) (by decide +kernel) (by decide +kernel)
theorem cd_min : Cond.code Lib.Math.min.name Lib.Math.min.code 2 (some .int) ∈ AW := AWm (i := 467) (by decide +kernel) (by decide +kernel)
theorem in_X0 : ∀ w ∈ u_ws RX0 TX0 2, w ∈ AW := by
  intro w hw
  obtain ⟨k, hk, rfl⟩ := List.mem_map.mp hw
  have hk := List.mem_range.mp hk
  match k, hk with
  | 0, _ => exact AWm (i := 107) (by decide +kernel) (by decide +kernel)
  | 1, _ => exact AWm (i := 109) (by decide +kernel) (by decide +kernel)
  | k + 2, hk => exact absurd hk (by omega)
theorem cls_X0 : vwCl[0]? = some (RX0, TX0, 2) := rfl
theorem in_X1 : ∀ w ∈ u_ws RX1 TX1 6, w ∈ AW := by
  intro w hw
  obtain ⟨k, hk, rfl⟩ := List.mem_map.mp hw
  have hk := List.mem_range.mp hk
  match k, hk with
  | 0, _ => exact AWm (i := 138) (by decide +kernel) (by decide +kernel)
  | 1, _ => exact AWm (i := 140) (by decide +kernel) (by decide +kernel)
  | 2, _ => exact AWm (i := 142) (by decide +kernel) (by decide +kernel)
  | 3, _ => exact AWm (i := 144) (by decide +kernel) (by decide +kernel)
  | 4, _ => exact AWm (i := 146) (by decide +kernel) (by decide +kernel)
  | 5, _ => exact AWm (i := 148) (by decide +kernel) (by decide +kernel)
  | k + 6, hk => exact absurd hk (by omega)
theorem cls_X1 : vwCl[1]? = some (RX1, TX1, 6) := rfl
theorem in_X2 : ∀ w ∈ u_ws RX2 TX2 5, w ∈ AW := by
  intro w hw
  obtain ⟨k, hk, rfl⟩ := List.mem_map.mp hw
  have hk := List.mem_range.mp hk
  match k, hk with
  | 0, _ => exact AWm (i := 68) (by decide +kernel) (by decide +kernel)
  | 1, _ => exact AWm (i := 70) (by decide +kernel) (by decide +kernel)
  | 2, _ => exact AWm (i := 72) (by decide +kernel) (by decide +kernel)
  | 3, _ => exact AWm (i := 74) (by decide +kernel) (by decide +kernel)
  | 4, _ => exact AWm (i := 76) (by decide +kernel) (by decide +kernel)
  | k + 5, hk => exact absurd hk (by omega)
theorem cls_X2 : vwCl[2]? = some (RX2, TX2, 5) := rfl
theorem in_X3 : ∀ w ∈ u_ws RX3 TX3 2, w ∈ AW := by
  intro w hw
  obtain ⟨k, hk, rfl⟩ := List.mem_map.mp hw
  have hk := List.mem_range.mp hk
  match k, hk with
  | 0, _ => exact AWm (i := 214) (by decide +kernel) (by decide +kernel)
  | 1, _ => exact AWm (i := 216) (by decide +kernel) (by decide +kernel)
  | k + 2, hk => exact absurd hk (by omega)
theorem cls_X3 : vwCl[3]? = some (RX3, TX3, 2) := rfl
theorem in_X4 : ∀ w ∈ u_ws RX4 TX4 5, w ∈ AW := by
  intro w hw
  obtain ⟨k, hk, rfl⟩ := List.mem_map.mp hw
  have hk := List.mem_range.mp hk
  match k, hk with
  | 0, _ => exact AWm (i := 36) (by decide +kernel) (by decide +kernel)
  | 1, _ => exact AWm (i := 38) (by decide +kernel) (by decide +kernel)
  | 2, _ => exact AWm (i := 40) (by decide +kernel) (by decide +kernel)
  | 3, _ => exact AWm (i := 42) (by decide +kernel) (by decide +kernel)
  | 4, _ => exact AWm (i := 44) (by decide +kernel) (by decide +kernel)
  | k + 5, hk => exact absurd hk (by omega)
theorem cls_X4 : vwCl[4]? = some (RX4, TX4, 5) := rfl
theorem in_X5 : ∀ w ∈ u_ws RX5 TX5 7, w ∈ AW := by
  intro w hw
  obtain ⟨k, hk, rfl⟩ := List.mem_map.mp hw
  have hk := List.mem_range.mp hk
  match k, hk with
  | 0, _ => exact AWm (i := 171) (by decide +kernel) (by decide +kernel)
  | 1, _ => exact AWm (i := 173) (by decide +kernel) (by decide +kernel)
  | 2, _ => exact AWm (i := 175) (by decide +kernel) (by decide +kernel)
  | 3, _ => exact AWm (i := 177) (by decide +kernel) (by decide +kernel)
  | 4, _ => exact AWm (i := 179) (by decide +kernel) (by decide +kernel)
  | 5, _ => exact AWm (i := 181) (by decide +kernel) (by decide +kernel)
  | 6, _ => exact AWm (i := 183) (by decide +kernel) (by decide +kernel)
  | k + 7, hk => exact absurd hk (by omega)
theorem cls_X5 : vwCl[5]? = some (RX5, TX5, 7) := rfl
theorem in_X6 : ∀ w ∈ u_ws RX6 TX6 2, w ∈ AW := by
  intro w hw
  obtain ⟨k, hk, rfl⟩ := List.mem_map.mp hw
  have hk := List.mem_range.mp hk
  match k, hk with
  | 0, _ => exact AWm (i := 91) (by decide +kernel) (by decide +kernel)
  | 1, _ => exact AWm (i := 93) (by decide +kernel) (by decide +kernel)
  | k + 2, hk => exact absurd hk (by omega)
theorem cls_X6 : vwCl[6]? = some (RX6, TX6, 2) := rfl
theorem in_X7 : ∀ w ∈ u_ws RX7 TX7 2, w ∈ AW := by
  intro w hw
  obtain ⟨k, hk, rfl⟩ := List.mem_map.mp hw
  have hk := List.mem_range.mp hk
  match k, hk with
  | 0, _ => exact AWm (i := 195) (by decide +kernel) (by decide +kernel)
  | 1, _ => exact AWm (i := 197) (by decide +kernel) (by decide +kernel)
  | k + 2, hk => exact absurd hk (by omega)
theorem cls_X7 : vwCl[7]? = some (RX7, TX7, 2) := rfl
theorem in_X8 : ∀ w ∈ u_ws RX8 TX8 7, w ∈ AW := by
  intro w hw
  obtain ⟨k, hk, rfl⟩ := List.mem_map.mp hw
  have hk := List.mem_range.mp hk
  match k, hk with
  | 0, _ => exact AWm (i := 226) (by decide +kernel) (by decide +kernel)
  | 1, _ => exact AWm (i := 228) (by decide +kernel) (by decide +kernel)
  | 2, _ => exact AWm (i := 230) (by decide +kernel) (by decide +kernel)
  | 3, _ => exact AWm (i := 232) (by decide +kernel) (by decide +kernel)
  | 4, _ => exact AWm (i := 234) (by decide +kernel) (by decide +kernel)
  | 5, _ => exact AWm (i := 236) (by decide +kernel) (by decide +kernel)
  | 6, _ => exact AWm (i := 238) (by decide +kernel) (by decide +kernel)
  | k + 7, hk => exact absurd hk (by omega)
theorem cls_X8 : vwCl[8]? = some (RX8, TX8, 7) := rfl
theorem in_X9 : ∀ w ∈ u_ws RX9 TX9 21, w ∈ AW := by
  intro w hw
  obtain ⟨k, hk, rfl⟩ := List.mem_map.mp hw
  have hk := List.mem_range.mp hk
  match k, hk with
  | 0, _ => exact AWm (i := 566) (by decide +kernel) (by decide +kernel)
  | 1, _ => exact AWm (i := 568) (by decide +kernel) (by decide +kernel)
  | 2, _ => exact AWm (i := 570) (by decide +kernel) (by decide +kernel)
  | 3, _ => exact AWm (i := 572) (by decide +kernel) (by decide +kernel)
  | 4, _ => exact AWm (i := 574) (by decide +kernel) (by decide +kernel)
  | 5, _ => exact AWm (i := 576) (by decide +kernel) (by decide +kernel)
  | 6, _ => exact AWm (i := 578) (by decide +kernel) (by decide +kernel)
  | 7, _ => exact AWm (i := 580) (by decide +kernel) (by decide +kernel)
  | 8, _ => exact AWm (i := 582) (by decide +kernel) (by decide +kernel)
  | 9, _ => exact AWm (i := 584) (by decide +kernel) (by decide +kernel)
  | 10, _ => exact AWm (i := 586) (by decide +kernel) (by decide +kernel)
  | 11, _ => exact AWm (i := 588) (by decide +kernel) (by decide +kernel)
  | 12, _ => exact AWm (i := 590) (by decide +kernel) (by decide +kernel)
  | 13, _ => exact AWm (i := 592) (by decide +kernel) (by decide +kernel)
  | 14, _ => exact AWm (i := 594) (by decide +kernel) (by decide +kernel)
  | 15, _ => exact AWm (i := 596) (by decide +kernel) (by decide +kernel)
  | 16, _ => exact AWm (i := 598) (by decide +kernel) (by decide +kernel)
  | 17, _ => exact AWm (i := 600) (by decide +kernel) (by decide +kernel)
  | 18, _ => exact AWm (i := 602) (by decide +kernel) (by decide +kernel)
  | 19, _ => exact AWm (i := 604) (by decide +kernel) (by decide +kernel)
  | 20, _ => exact AWm (i := 606) (by decide +kernel) (by decide +kernel)
  | k + 21, hk => exact absurd hk (by omega)
theorem cls_X9 : vwCl[9]? = some (RX9, TX9, 21) := rfl
theorem mn_X8_11 : tables_1[22]? = some (Cond.methodLinkNest RX8 11 yX4_init "LearningSpans") := by decide +kernel
theorem fn_X8_62 : tables_1[28]? = some (Cond.fieldLinkNest RX8 62 "LearningSpans$Message" "size" "I" "LearningSpans") := by decide +kernel
theorem fn_X1_61 : tables_1[29]? = some (Cond.fieldLinkNest RX1 61 "LearningSpans$Message" "size" "I" "LearningSpans") := by decide +kernel
theorem fn_X8_58 : tables_1[31]? = some (Cond.fieldLinkNest RX8 58 "LearningSpans$Message" "ended" "Z" "LearningSpans") := by decide +kernel
theorem fn_X8_102 : tables_1[33]? = some (Cond.fieldLinkNest RX8 102 "LearningSpans$Message" "pace" "I" "LearningSpans") := by decide +kernel
theorem fn_X8_105 : tables_1[35]? = some (Cond.fieldLinkNest RX8 105 "LearningSpans$Message" "bound" "I" "LearningSpans") := by decide +kernel
theorem mn_X1_11 : tables_1[56]? = some (Cond.methodLinkNest RX1 11 yX2_init "LearningSpans") := by decide +kernel
theorem fn_X6_19 : tables_1[62]? = some (Cond.fieldLinkNest RX6 19 "LearningSpans$Counts" "total" "I" "LearningSpans") := by decide +kernel
theorem fn_X8_147 : tables_1[63]? = some (Cond.fieldLinkNest RX8 147 "LearningSpans$Counts" "total" "I" "LearningSpans") := by decide +kernel
theorem fn_X8_150 : tables_1[65]? = some (Cond.fieldLinkNest RX8 150 "LearningSpans$Counts" "halvings" "I" "LearningSpans") := by decide +kernel
theorem mn_X1_20 : tables_1[81]? = some (Cond.methodLinkNest RX1 20 yX6_init "LearningSpans") := by decide +kernel
theorem fn_X1_71 : tables_1[87]? = some (Cond.fieldLinkNest RX1 71 "LearningSpans$Span" "low" "I" "LearningSpans") := by decide +kernel
theorem fn_X8_139 : tables_1[88]? = some (Cond.fieldLinkNest RX8 139 "LearningSpans$Span" "low" "I" "LearningSpans") := by decide +kernel
theorem fn_X8_144 : tables_1[90]? = some (Cond.fieldLinkNest RX8 144 "LearningSpans$Span" "high" "I" "LearningSpans") := by decide +kernel
theorem mn_X1_27 : tables_1[98]? = some (Cond.methodLinkNest RX1 27 yX0_init "LearningSpans") := by decide +kernel
theorem fn_X1_53 : tables_1[104]? = some (Cond.fieldLinkNest RX1 53 "LearningSpans$BitRow" "size" "I" "LearningSpans") := by decide +kernel
theorem fn_X8_84 : tables_1[105]? = some (Cond.fieldLinkNest RX8 84 "LearningSpans$BitRow" "size" "I" "LearningSpans") := by decide +kernel
theorem fn_X7_22 : tables_1[106]? = some (Cond.fieldLinkNest RX7 22 "LearningSpans$BitRow" "size" "I" "LearningSpans") := by decide +kernel
theorem fn_X8_114 : tables_1[129]? = some (Cond.fieldLinkNest RX8 114 "LearningSpans$Coder" "counts" "LLearningSpans$Counts;" "LearningSpans") := by decide +kernel
theorem fn_X8_135 : tables_1[131]? = some (Cond.fieldLinkNest RX8 135 "LearningSpans$Coder" "span" "LLearningSpans$Span;" "LearningSpans") := by decide +kernel
theorem fn_X8_81 : tables_1[133]? = some (Cond.fieldLinkNest RX8 81 "LearningSpans$Coder" "bits" "LLearningSpans$BitRow;" "LearningSpans") := by decide +kernel
theorem fn_X8_132 : tables_1[137]? = some (Cond.fieldLinkNest RX8 132 "LearningSpans$Coder" "waiting" "I" "LearningSpans") := by decide +kernel
theorem mn_X8_28 : tables_1[153]? = some (Cond.methodLinkNest RX8 28 yX5_init "LearningSpans") := by decide +kernel
theorem mn_X5_11 : tables_1[158]? = some (Cond.methodLinkNest RX5 11 yX2_init "LearningSpans") := by decide +kernel
theorem mn_X5_20 : tables_1[160]? = some (Cond.methodLinkNest RX5 20 yX6_init "LearningSpans") := by decide +kernel
theorem fn_X8_172 : tables_1[165]? = some (Cond.fieldLinkNest RX8 172 "LearningSpans$Reader" "size" "I" "LearningSpans") := by decide +kernel
theorem fn_X8_213 : tables_1[168]? = some (Cond.fieldLinkNest RX8 213 "LearningSpans$Reader" "taken" "I" "LearningSpans") := by decide +kernel
theorem fn_X8_173 : tables_1[170]? = some (Cond.fieldLinkNest RX8 173 "LearningSpans$Reader" "over" "Z" "LearningSpans") := by decide +kernel
theorem mn_X8_35 : tables_1[188]? = some (Cond.methodLinkNest RX8 35 yX7_init "LearningSpans") := by decide +kernel
theorem fn_X8_154 : tables_1[194]? = some (Cond.fieldLinkNest RX8 154 "LearningSpans$Text" "size" "I" "LearningSpans") := by decide +kernel
theorem mn_X8_42 : tables_1[201]? = some (Cond.methodLinkNest RX8 42 yX0_init "LearningSpans") := by decide +kernel
theorem mn_X3_21 : tables_1[210]? = some (Cond.methodLinkNest RX3 21 yX4_init "LearningSpans") := by decide +kernel
theorem fn_X8_153 : tables_1[213]? = some (Cond.fieldLinkNest RX8 153 "LearningSpans$History" "size" "I" "LearningSpans") := by decide +kernel
end
